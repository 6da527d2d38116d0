theorem dX12_leads_0 : decode cX12_leads 0 = .ok (.aload_n 0, 1) := by decide +kernel
theorem dX12_leads_1 : decode cX12_leads 1 = .ok (.iload_n 1, 1) := by decide +kernel
theorem dX12_leads_2 : decode cX12_leads 2 = .ok (.invokevirtual 330, 3) := by decide +kernel
theorem dX12_leads_5 : decode cX12_leads 5 = .ok (.iload_n 2, 1) := by decide +kernel
theorem dX12_leads_6 : decode cX12_leads 6 = .ok (.ishr, 1) := by decide +kernel
theorem dX12_leads_7 : decode cX12_leads 7 = .ok (.iconst 1, 1) := by decide +kernel
theorem dX12_leads_8 : decode cX12_leads 8 = .ok (.iand, 1) := by decide +kernel
theorem dX12_leads_9 : decode cX12_leads 9 = .ok (.iconst 1, 1) := by decide +kernel
theorem dX12_leads_10 : decode cX12_leads 10 = .ok (.if_icmp .ne 7, 3) := by decide +kernel
theorem dX12_leads_13 : decode cX12_leads 13 = .ok (.iconst 1, 1) := by decide +kernel
theorem dX12_leads_14 : decode cX12_leads 14 = .ok (.goto 4, 3) := by decide +kernel
theorem dX12_leads_17 : decode cX12_leads 17 = .ok (.iconst 0, 1) := by decide +kernel
theorem dX12_leads_18 : decode cX12_leads 18 = .ok (.ireturn, 1) := by decide +kernel
abbrev o_X12_leads : Type := Int32
def f_X12_leads (S : wd_W) (p1 : Int32) (p2 : Int32) : Option o_X12_leads :=
bd (f_X12_ledTo (wd_o S [] [] [] [] []) p1) fun o1 =>
if ((o1 >>> (p2 &&& 31)) &&& (1 : Int32)) = (1 : Int32) then (
some (1 : Int32)) else (
some (0 : Int32))
set_option maxRecDepth 100000 in
set_option maxHeartbeats 4000000 in
theorem c_X12_leads (l : Launch) (D : va_G) (q g : Nat → Nat) (cy : Nat → ClassId) (z : (Nat → Nat) × (Nat → Nat) × Nat) (S : wd_W) (p1 : Int32) (p2 : Int32) (o : o_X12_leads) (hf : f_X12_leads S p1 p2 = some o) : MX layM l yX12_leads cX12_leads 3 (some .boolean) ({ frames := 2, cells := 0, slots := 0, locals := 45 } : Room) D q g cy z [.ref (q 0), .int p1, .int p2] S false (some (.int o)) (wd_o S [] [] [] [] []) 0 0 := by
  refine mx_of (own := RX12) (lc := [(0, .ref (q 0)), (1, .int p1), (2, .int p2)]) (by decide +kernel) rfl layM_ok (Nat.le_of_ble_eq_true rfl) rfl ?_
  intro X hXl hXq hXz hC hQ
  subst hXl; subst hXq; subst hXz
  unfold f_X12_leads at hf
  refine go_aload_n (pc' := 1) hC dX12_leads_0 rfl rfl ?_
  refine go_iload_n (pc' := 2) hC dX12_leads_1 rfl rfl ?_
  obtain ⟨o1, ho1, hf⟩ := bd_e hf
  refine go_callV0 (pc' := 5) (As := [.int p1]) (st := []) (st' := [.int o1])    (b := 0) hC dX12_leads_2 ⟨mw_882, mw_885, mw_5, yd_yX12_ledTo, yp_yX12_ledTo, Nat.le_of_ble_eq_true rfl, Nat.le_of_ble_eq_true rfl, (Nat.le_of_ble_eq_true rfl), (Nat.le_of_ble_eq_true rfl)⟩ mw_883 mw_884 layM_0 rfl rfl rfl (Nat.le_of_ble_eq_true rfl) (c_X12_ledTo (x_l X) (x_D X) (x_q X) g (x_cy X) (x_z X) _ p1 o1 ho1) rfl rfl ?_
  refine go_iload_n (pc' := 6) hC dX12_leads_5 rfl rfl ?_
  refine go_ishr (pc' := 7) hC dX12_leads_6 rfl ?_
  refine go_iconst (pc' := 8) hC dX12_leads_7 ki_1 rfl ?_
  refine go_iand (pc' := 9) hC dX12_leads_8 rfl ?_
  refine go_iconst (pc' := 10) hC dX12_leads_9 ki_1 rfl ?_
  refine go_icmp_ne (tgt := 17) (pc' := 13) hC dX12_leads_10 (by decide) rfl (fun h2 => ?_) (fun h2 => ?_)
  · have hf := ite_f h2 hf
    refine go_iconst (pc' := 18) hC dX12_leads_17 ki_0 rfl ?_
    obtain rfl := Option.some.inj hf
    exact go_iret hC hQ dX12_leads_18 rfl rfl rfl rfl (fun _ => rfl) rfl rfl
  · have hf := ite_t h2 hf
    refine go_iconst (pc' := 14) hC dX12_leads_13 ki_1 rfl ?_
    refine go_goto (tgt := 18) hC dX12_leads_14 (by decide) ?_
    obtain rfl := Option.some.inj hf
    exact go_iret hC hQ dX12_leads_18 rfl rfl rfl rfl (fun _ => rfl) rfl rfl
theorem dX12_daysTo_0 : decode cX12_daysTo 0 = .ok (.iconst 0, 1) := by decide +kernel
theorem dX12_daysTo_1 : decode cX12_daysTo 1 = .ok (.istore_n 3, 1) := by decide +kernel
theorem dX12_daysTo_2 : decode cX12_daysTo 2 = .ok (.iload_n 3, 1) := by decide +kernel
theorem dX12_daysTo_3 : decode cX12_daysTo 3 = .ok (.aload_n 0, 1) := by decide +kernel
theorem dX12_daysTo_4 : decode cX12_daysTo 4 = .ok (.getfield 276, 3) := by decide +kernel
theorem dX12_daysTo_7 : decode cX12_daysTo 7 = .ok (.if_icmp .ge 39, 3) := by decide +kernel
theorem dX12_daysTo_10 : decode cX12_daysTo 10 = .ok (.aload_n 0, 1) := by decide +kernel
theorem dX12_daysTo_11 : decode cX12_daysTo 11 = .ok (.getfield 60, 3) := by decide +kernel
theorem dX12_daysTo_14 : decode cX12_daysTo 14 = .ok (.iload_n 3, 1) := by decide +kernel
theorem dX12_daysTo_15 : decode cX12_daysTo 15 = .ok (.iload_n 3, 1) := by decide +kernel
theorem dX12_daysTo_16 : decode cX12_daysTo 16 = .ok (.iload_n 1, 1) := by decide +kernel
theorem dX12_daysTo_17 : decode cX12_daysTo 17 = .ok (.if_icmp .ne 19, 3) := by decide +kernel
theorem dX12_daysTo_20 : decode cX12_daysTo 20 = .ok (.aload_n 0, 1) := by decide +kernel
theorem dX12_daysTo_21 : decode cX12_daysTo 21 = .ok (.getfield 318, 3) := by decide +kernel
theorem dX12_daysTo_24 : decode cX12_daysTo 24 = .ok (.iload_n 1, 1) := by decide +kernel
theorem dX12_daysTo_25 : decode cX12_daysTo 25 = .ok (.ishr, 1) := by decide +kernel
theorem dX12_daysTo_26 : decode cX12_daysTo 26 = .ok (.iconst 1, 1) := by decide +kernel
theorem dX12_daysTo_27 : decode cX12_daysTo 27 = .ok (.iand, 1) := by decide +kernel
theorem dX12_daysTo_28 : decode cX12_daysTo 28 = .ok (.iconst 1, 1) := by decide +kernel
theorem dX12_daysTo_29 : decode cX12_daysTo 29 = .ok (.if_icmp .ne 7, 3) := by decide +kernel
theorem dX12_daysTo_32 : decode cX12_daysTo 32 = .ok (.iconst 0, 1) := by decide +kernel
theorem dX12_daysTo_33 : decode cX12_daysTo 33 = .ok (.goto 6, 3) := by decide +kernel
theorem dX12_daysTo_36 : decode cX12_daysTo 36 = .ok (.sipush 1000, 3) := by decide +kernel
theorem dX12_daysTo_39 : decode cX12_daysTo 39 = .ok (.iastore, 1) := by decide +kernel
theorem dX12_daysTo_40 : decode cX12_daysTo 40 = .ok (.iinc 3 1, 3) := by decide +kernel
theorem dX12_daysTo_43 : decode cX12_daysTo 43 = .ok (.goto (-41), 3) := by decide +kernel
theorem dX12_daysTo_46 : decode cX12_daysTo 46 = .ok (.iconst 1, 1) := by decide +kernel
theorem dX12_daysTo_47 : decode cX12_daysTo 47 = .ok (.istore_n 3, 1) := by decide +kernel
theorem dX12_daysTo_48 : decode cX12_daysTo 48 = .ok (.iload_n 3, 1) := by decide +kernel
theorem dX12_daysTo_49 : decode cX12_daysTo 49 = .ok (.ifCond .eq 186, 3) := by decide +kernel
theorem dX12_daysTo_52 : decode cX12_daysTo 52 = .ok (.iconst 0, 1) := by decide +kernel
theorem dX12_daysTo_53 : decode cX12_daysTo 53 = .ok (.istore_n 3, 1) := by decide +kernel
theorem dX12_daysTo_54 : decode cX12_daysTo 54 = .ok (.iconst 0, 1) := by decide +kernel
theorem dX12_daysTo_55 : decode cX12_daysTo 55 = .ok (.istore 4, 2) := by decide +kernel
theorem dX12_daysTo_57 : decode cX12_daysTo 57 = .ok (.iload 4, 2) := by decide +kernel
theorem dX12_daysTo_59 : decode cX12_daysTo 59 = .ok (.aload_n 0, 1) := by decide +kernel
theorem dX12_daysTo_60 : decode cX12_daysTo 60 = .ok (.getfield 279, 3) := by decide +kernel
theorem dX12_daysTo_63 : decode cX12_daysTo 63 = .ok (.if_icmp .gt 169, 3) := by decide +kernel
theorem dX12_daysTo_66 : decode cX12_daysTo 66 = .ok (.aload_n 0, 1) := by decide +kernel
theorem dX12_daysTo_67 : decode cX12_daysTo 67 = .ok (.iload 4, 2) := by decide +kernel
theorem dX12_daysTo_69 : decode cX12_daysTo 69 = .ok (.invokevirtual 327, 3) := by decide +kernel
theorem dX12_daysTo_72 : decode cX12_daysTo 72 = .ok (.ifCond .ne 6, 3) := by decide +kernel
theorem dX12_daysTo_75 : decode cX12_daysTo 75 = .ok (.goto 151, 3) := by decide +kernel
theorem dX12_daysTo_78 : decode cX12_daysTo 78 = .ok (.aload_n 0, 1) := by decide +kernel
theorem dX12_daysTo_79 : decode cX12_daysTo 79 = .ok (.getfield 60, 3) := by decide +kernel
theorem dX12_daysTo_82 : decode cX12_daysTo 82 = .ok (.aload_n 0, 1) := by decide +kernel
theorem dX12_daysTo_83 : decode cX12_daysTo 83 = .ok (.getfield 32, 3) := by decide +kernel
theorem dX12_daysTo_86 : decode cX12_daysTo 86 = .ok (.iload 4, 2) := by decide +kernel
theorem dX12_daysTo_88 : decode cX12_daysTo 88 = .ok (.iaload, 1) := by decide +kernel
theorem dX12_daysTo_89 : decode cX12_daysTo 89 = .ok (.iaload, 1) := by decide +kernel
theorem dX12_daysTo_90 : decode cX12_daysTo 90 = .ok (.aload_n 0, 1) := by decide +kernel
theorem dX12_daysTo_91 : decode cX12_daysTo 91 = .ok (.getfield 45, 3) := by decide +kernel
theorem dX12_daysTo_94 : decode cX12_daysTo 94 = .ok (.iload 4, 2) := by decide +kernel
theorem dX12_daysTo_96 : decode cX12_daysTo 96 = .ok (.iaload, 1) := by decide +kernel
theorem dX12_daysTo_97 : decode cX12_daysTo 97 = .ok (.iadd, 1) := by decide +kernel
theorem dX12_daysTo_98 : decode cX12_daysTo 98 = .ok (.aload_n 0, 1) := by decide +kernel
theorem dX12_daysTo_99 : decode cX12_daysTo 99 = .ok (.getfield 60, 3) := by decide +kernel
theorem dX12_daysTo_102 : decode cX12_daysTo 102 = .ok (.aload_n 0, 1) := by decide +kernel
theorem dX12_daysTo_103 : decode cX12_daysTo 103 = .ok (.getfield 35, 3) := by decide +kernel
theorem dX12_daysTo_106 : decode cX12_daysTo 106 = .ok (.iload 4, 2) := by decide +kernel
theorem dX12_daysTo_108 : decode cX12_daysTo 108 = .ok (.iaload, 1) := by decide +kernel
theorem dX12_daysTo_109 : decode cX12_daysTo 109 = .ok (.iaload, 1) := by decide +kernel
theorem dX12_daysTo_110 : decode cX12_daysTo 110 = .ok (.if_icmp .ge 37, 3) := by decide +kernel
theorem dX12_daysTo_113 : decode cX12_daysTo 113 = .ok (.aload_n 0, 1) := by decide +kernel
theorem dX12_daysTo_114 : decode cX12_daysTo 114 = .ok (.getfield 60, 3) := by decide +kernel
theorem dX12_daysTo_117 : decode cX12_daysTo 117 = .ok (.aload_n 0, 1) := by decide +kernel
theorem dX12_daysTo_118 : decode cX12_daysTo 118 = .ok (.getfield 35, 3) := by decide +kernel
theorem dX12_daysTo_121 : decode cX12_daysTo 121 = .ok (.iload 4, 2) := by decide +kernel
theorem dX12_daysTo_123 : decode cX12_daysTo 123 = .ok (.iaload, 1) := by decide +kernel
theorem dX12_daysTo_124 : decode cX12_daysTo 124 = .ok (.aload_n 0, 1) := by decide +kernel
theorem dX12_daysTo_125 : decode cX12_daysTo 125 = .ok (.getfield 60, 3) := by decide +kernel
theorem dX12_daysTo_128 : decode cX12_daysTo 128 = .ok (.aload_n 0, 1) := by decide +kernel
theorem dX12_daysTo_129 : decode cX12_daysTo 129 = .ok (.getfield 32, 3) := by decide +kernel
theorem dX12_daysTo_132 : decode cX12_daysTo 132 = .ok (.iload 4, 2) := by decide +kernel
theorem dX12_daysTo_134 : decode cX12_daysTo 134 = .ok (.iaload, 1) := by decide +kernel
theorem dX12_daysTo_135 : decode cX12_daysTo 135 = .ok (.iaload, 1) := by decide +kernel
theorem dX12_daysTo_136 : decode cX12_daysTo 136 = .ok (.aload_n 0, 1) := by decide +kernel
theorem dX12_daysTo_137 : decode cX12_daysTo 137 = .ok (.getfield 45, 3) := by decide +kernel
theorem dX12_daysTo_140 : decode cX12_daysTo 140 = .ok (.iload 4, 2) := by decide +kernel
theorem dX12_daysTo_142 : decode cX12_daysTo 142 = .ok (.iaload, 1) := by decide +kernel
theorem dX12_daysTo_143 : decode cX12_daysTo 143 = .ok (.iadd, 1) := by decide +kernel
theorem dX12_daysTo_144 : decode cX12_daysTo 144 = .ok (.iastore, 1) := by decide +kernel
theorem dX12_daysTo_145 : decode cX12_daysTo 145 = .ok (.iconst 1, 1) := by decide +kernel
theorem dX12_daysTo_146 : decode cX12_daysTo 146 = .ok (.istore_n 3, 1) := by decide +kernel
theorem dX12_daysTo_147 : decode cX12_daysTo 147 = .ok (.aload_n 0, 1) := by decide +kernel
theorem dX12_daysTo_148 : decode cX12_daysTo 148 = .ok (.getfield 41, 3) := by decide +kernel
theorem dX12_daysTo_151 : decode cX12_daysTo 151 = .ok (.iload 4, 2) := by decide +kernel
theorem dX12_daysTo_153 : decode cX12_daysTo 153 = .ok (.baload, 1) := by decide +kernel
theorem dX12_daysTo_154 : decode cX12_daysTo 154 = .ok (.ifCond .eq 72, 3) := by decide +kernel
theorem dX12_daysTo_157 : decode cX12_daysTo 157 = .ok (.aload_n 0, 1) := by decide +kernel
theorem dX12_daysTo_158 : decode cX12_daysTo 158 = .ok (.getfield 60, 3) := by decide +kernel
theorem dX12_daysTo_161 : decode cX12_daysTo 161 = .ok (.aload_n 0, 1) := by decide +kernel
theorem dX12_daysTo_162 : decode cX12_daysTo 162 = .ok (.getfield 35, 3) := by decide +kernel
theorem dX12_daysTo_165 : decode cX12_daysTo 165 = .ok (.iload 4, 2) := by decide +kernel
theorem dX12_daysTo_167 : decode cX12_daysTo 167 = .ok (.iaload, 1) := by decide +kernel
theorem dX12_daysTo_168 : decode cX12_daysTo 168 = .ok (.iaload, 1) := by decide +kernel
theorem dX12_daysTo_169 : decode cX12_daysTo 169 = .ok (.aload_n 0, 1) := by decide +kernel
theorem dX12_daysTo_170 : decode cX12_daysTo 170 = .ok (.getfield 45, 3) := by decide +kernel
theorem dX12_daysTo_173 : decode cX12_daysTo 173 = .ok (.iload 4, 2) := by decide +kernel
theorem dX12_daysTo_175 : decode cX12_daysTo 175 = .ok (.iaload, 1) := by decide +kernel
theorem dX12_daysTo_176 : decode cX12_daysTo 176 = .ok (.iadd, 1) := by decide +kernel
theorem dX12_daysTo_177 : decode cX12_daysTo 177 = .ok (.aload_n 0, 1) := by decide +kernel
theorem dX12_daysTo_178 : decode cX12_daysTo 178 = .ok (.getfield 60, 3) := by decide +kernel
theorem dX12_daysTo_181 : decode cX12_daysTo 181 = .ok (.aload_n 0, 1) := by decide +kernel
theorem dX12_daysTo_182 : decode cX12_daysTo 182 = .ok (.getfield 32, 3) := by decide +kernel
theorem dX12_daysTo_185 : decode cX12_daysTo 185 = .ok (.iload 4, 2) := by decide +kernel
theorem dX12_daysTo_187 : decode cX12_daysTo 187 = .ok (.iaload, 1) := by decide +kernel
theorem dX12_daysTo_188 : decode cX12_daysTo 188 = .ok (.iaload, 1) := by decide +kernel
theorem dX12_daysTo_189 : decode cX12_daysTo 189 = .ok (.if_icmp .ge 37, 3) := by decide +kernel
theorem dX12_daysTo_192 : decode cX12_daysTo 192 = .ok (.aload_n 0, 1) := by decide +kernel
theorem dX12_daysTo_193 : decode cX12_daysTo 193 = .ok (.getfield 60, 3) := by decide +kernel
theorem dX12_daysTo_196 : decode cX12_daysTo 196 = .ok (.aload_n 0, 1) := by decide +kernel
theorem dX12_daysTo_197 : decode cX12_daysTo 197 = .ok (.getfield 32, 3) := by decide +kernel
theorem dX12_daysTo_200 : decode cX12_daysTo 200 = .ok (.iload 4, 2) := by decide +kernel
theorem dX12_daysTo_202 : decode cX12_daysTo 202 = .ok (.iaload, 1) := by decide +kernel
theorem dX12_daysTo_203 : decode cX12_daysTo 203 = .ok (.aload_n 0, 1) := by decide +kernel
theorem dX12_daysTo_204 : decode cX12_daysTo 204 = .ok (.getfield 60, 3) := by decide +kernel
theorem dX12_daysTo_207 : decode cX12_daysTo 207 = .ok (.aload_n 0, 1) := by decide +kernel
theorem dX12_daysTo_208 : decode cX12_daysTo 208 = .ok (.getfield 35, 3) := by decide +kernel
theorem dX12_daysTo_211 : decode cX12_daysTo 211 = .ok (.iload 4, 2) := by decide +kernel
theorem dX12_daysTo_213 : decode cX12_daysTo 213 = .ok (.iaload, 1) := by decide +kernel
theorem dX12_daysTo_214 : decode cX12_daysTo 214 = .ok (.iaload, 1) := by decide +kernel
theorem dX12_daysTo_215 : decode cX12_daysTo 215 = .ok (.aload_n 0, 1) := by decide +kernel
theorem dX12_daysTo_216 : decode cX12_daysTo 216 = .ok (.getfield 45, 3) := by decide +kernel
theorem dX12_daysTo_219 : decode cX12_daysTo 219 = .ok (.iload 4, 2) := by decide +kernel
theorem dX12_daysTo_221 : decode cX12_daysTo 221 = .ok (.iaload, 1) := by decide +kernel
theorem dX12_daysTo_222 : decode cX12_daysTo 222 = .ok (.iadd, 1) := by decide +kernel
theorem dX12_daysTo_223 : decode cX12_daysTo 223 = .ok (.iastore, 1) := by decide +kernel
theorem dX12_daysTo_224 : decode cX12_daysTo 224 = .ok (.iconst 1, 1) := by decide +kernel
theorem dX12_daysTo_225 : decode cX12_daysTo 225 = .ok (.istore_n 3, 1) := by decide +kernel
theorem dX12_daysTo_226 : decode cX12_daysTo 226 = .ok (.iinc 4 1, 3) := by decide +kernel
theorem dX12_daysTo_229 : decode cX12_daysTo 229 = .ok (.goto (-172), 3) := by decide +kernel
theorem dX12_daysTo_232 : decode cX12_daysTo 232 = .ok (.goto (-184), 3) := by decide +kernel
theorem dX12_daysTo_235 : decode cX12_daysTo 235 = .ok (.aload_n 0, 1) := by decide +kernel
theorem dX12_daysTo_236 : decode cX12_daysTo 236 = .ok (.getfield 60, 3) := by decide +kernel
theorem dX12_daysTo_239 : decode cX12_daysTo 239 = .ok (.iload_n 2, 1) := by decide +kernel
theorem dX12_daysTo_240 : decode cX12_daysTo 240 = .ok (.iaload, 1) := by decide +kernel
theorem dX12_daysTo_241 : decode cX12_daysTo 241 = .ok (.ireturn, 1) := by decide +kernel
abbrev o_X12_daysTo : Type := Int32 × (Nat → Int32)
def f_X12_daysTo_L57 (S : wd_W) (k232_11 : (Int32) → (Nat → Int32) → (Option o_X12_daysTo)) (r15 : (Int32) → (Int32) → (Nat → Int32) → (Option o_X12_daysTo)) (x12 : Int32) (x13 : Int32) (a14 : Nat → Int32) : Option o_X12_daysTo :=
if (S.1 21) < x13 then (
k232_11 x12 a14) else (
bd (f_X12_isOpen (wd_o S [] [] [(17, a14)] [] []) x13) fun o16 =>
lk (fun x17 a18 =>
r15 x17 (x13 + (1 : Int32)) a18) fun k226_19 =>
if o16 = 0 then (
k226_19 x12 a14) else (
gd (okx x13 13) <|
gd (okx ((S.2.2.1 8) x13.toNatClampNeg) 10) <|
gd (okx x13 13) <|
gd (okx x13 13) <|
gd (okx ((S.2.2.1 9) x13.toNatClampNeg) 10) <|
lk (fun x25 a26 =>
gd (okx x13 13) <|
if ((S.2.2.1 11) x13.toNatClampNeg) = 0 then (
k226_19 x25 a26) else (
gd (okx x13 13) <|
gd (okx ((S.2.2.1 9) x13.toNatClampNeg) 10) <|
gd (okx x13 13) <|
gd (okx x13 13) <|
gd (okx ((S.2.2.1 8) x13.toNatClampNeg) 10) <|
if (a26 ((S.2.2.1 8) x13.toNatClampNeg).toNatClampNeg) ≤ ((a26 ((S.2.2.1 9) x13.toNatClampNeg).toNatClampNeg) + ((S.2.2.1 12) x13.toNatClampNeg)) then (
k226_19 x25 a26) else (
gd (okx x13 13) <|
gd (okx x13 13) <|
gd (okx ((S.2.2.1 9) x13.toNatClampNeg) 10) <|
gd (okx x13 13) <|
lz ((a26 ((S.2.2.1 9) x13.toNatClampNeg).toNatClampNeg) + ((S.2.2.1 12) x13.toNatClampNeg)) fun x38 =>
gd (okx ((S.2.2.1 8) x13.toNatClampNeg) 10) <|
lz (upd a26 ((S.2.2.1 8) x13.toNatClampNeg).toNatClampNeg x38) fun a40 =>
k226_19 (1 : Int32) a40))) fun k147_27 =>
if (a14 ((S.2.2.1 9) x13.toNatClampNeg).toNatClampNeg) ≤ ((a14 ((S.2.2.1 8) x13.toNatClampNeg).toNatClampNeg) + ((S.2.2.1 12) x13.toNatClampNeg)) then (
k147_27 x12 a14) else (
gd (okx x13 13) <|
gd (okx x13 13) <|
gd (okx ((S.2.2.1 8) x13.toNatClampNeg) 10) <|
gd (okx x13 13) <|
lz ((a14 ((S.2.2.1 8) x13.toNatClampNeg).toNatClampNeg) + ((S.2.2.1 12) x13.toNatClampNeg)) fun x47 =>
gd (okx ((S.2.2.1 9) x13.toNatClampNeg) 10) <|
lz (upd a14 ((S.2.2.1 9) x13.toNatClampNeg).toNatClampNeg x47) fun a49 =>
k147_27 (1 : Int32) a49)))
def f_X12_daysTo_L48 (S : wd_W) (k235_4 : (Nat → Int32) → (Option o_X12_daysTo)) (r8 : (Int32) → (Nat → Int32) → (Option o_X12_daysTo)) (x6 : Int32) (a7 : Nat → Int32) : Option o_X12_daysTo :=
if x6 = 0 then (
k235_4 a7) else (
lk (fun x9 a10 =>
r8 x9 a10) fun k232_11 =>
it3 (f_X12_daysTo_L57 S k232_11) fuel (0 : Int32) (0 : Int32) a7)
def f_X12_daysTo_L2 (S : wd_W) (p1 : Int32) (k46_2 : (Nat → Int32) → (Option o_X12_daysTo)) (r58 : (Int32) → (Nat → Int32) → (Option o_X12_daysTo)) (x56 : Int32) (a57 : Nat → Int32) : Option o_X12_daysTo :=
if (S.1 20) ≤ x56 then (
k46_2 a57) else (
lk (fun x59 x60 =>
gd (okx x60 10) <|
lz (upd a57 x60.toNatClampNeg x59) fun a63 =>
r58 (x56 + (1 : Int32)) a63) fun k39_61 =>
lk (fun x64 =>
k39_61 (1000 : Int32) x64) fun k36_65 =>
if x56 = p1 then (
if (((S.1 38) >>> (p1 &&& 31)) &&& (1 : Int32)) = (1 : Int32) then (
k39_61 (0 : Int32) x56) else (
k36_65 x56)) else (
k36_65 x56))
def f_X12_daysTo (S : wd_W) (p1 : Int32) (p2 : Int32) : Option o_X12_daysTo :=
lk (fun a1 =>
lk (fun a3 =>
gd (okx p2 10) <|
some (a3 p2.toNatClampNeg, a3)) fun k235_4 =>
it2 (f_X12_daysTo_L48 S k235_4) fuel (1 : Int32) a1) fun k46_2 =>
it2 (f_X12_daysTo_L2 S p1 k46_2) fuel (0 : Int32) (S.2.2.1 17)
set_option maxRecDepth 100000 in
set_option maxHeartbeats 4000000 in
theorem c_X12_daysTo (l : Launch) (D : va_G) (q g : Nat → Nat) (cy : Nat → ClassId) (z : (Nat → Nat) × (Nat → Nat) × Nat) (S : wd_W) (p1 : Int32) (p2 : Int32) (o : o_X12_daysTo) (hf : f_X12_daysTo S p1 p2 = some o) : MX layM l yX12_daysTo cX12_daysTo 5 (some .int) ({ frames := 1, cells := 0, slots := 0, locals := 21 } : Room) D q g cy z [.ref (q 0), .int p1, .int p2] S false (some (.int o.1)) (wd_o S [] [] [(17, o.2)] [] []) 0 0 := by
  refine mx_of (own := RX12) (lc := [(0, .ref (q 0)), (1, .int p1), (2, .int p2)]) (by decide +kernel) rfl layM_ok (Nat.le_of_ble_eq_true rfl) rfl ?_
  intro X hXl hXq hXz hC hQ
  subst hXl; subst hXq; subst hXz
  unfold f_X12_daysTo at hf
  refine go_keys (L1 := []) (L2 := []) (L3 := [(17, (S.2.2.1 17))]) (L4 := []) (L5 := []) [] [] [17] [] [] rfl rfl rfl rfl rfl ?_
  refine go_iconst (pc' := 1) hC dX12_daysTo_0 ki_0 rfl ?_
  refine go_istore_n (lc' := [(0, .ref (x_q X 0)), (1, .int p1), (2, .int p2), (3, .int (0 : Int32))]) (pc' := 2) hC dX12_daysTo_1 (Nat.le_of_ble_eq_true rfl) rfl rfl ?_
  obtain ⟨k46_2, hk46_2, hf⟩ := lk_e1 hf
  have jk46_2 : ∀ (a1 : Nat → Int32), k46_2 a1 = some o → Go X layM S 46 [(0, .ref (x_q X 0)), (2, .int p2)] [] g [] [] [(17, a1)] [] [] 0 0 := by
    intro a1 hf
    have hf := hk46_2 a1 hf
    clear hk46_2
    refine go_iconst (pc' := 47) hC dX12_daysTo_46 ki_1 rfl ?_
    refine go_istore_n (lc' := [(0, .ref (x_q X 0)), (2, .int p2), (3, .int (1 : Int32))]) (pc' := 48) hC dX12_daysTo_47 (Nat.le_of_ble_eq_true rfl) rfl rfl ?_
    obtain ⟨k235_4, hk235_4, hf⟩ := lk_e1 hf
    have jk235_4 : ∀ (a3 : Nat → Int32), k235_4 a3 = some o → Go X layM S 235 [(0, .ref (x_q X 0)), (2, .int p2)] [] g [] [] [(17, a3)] [] [] 0 0 := by
      intro a3 hf
      have hf := hk235_4 a3 hf
      clear hk235_4
      refine go_aload_n (pc' := 236) hC dX12_daysTo_235 rfl rfl ?_
      refine go_getq (pc' := 239) hC 0 40 layM_0 rfl rfl inlX12 (Nat.le_of_ble_eq_true rfl) mw_197 rfl dX12_daysTo_236 rfl ?_
      refine go_iload_n (pc' := 240) hC dX12_daysTo_239 rfl rfl ?_
      obtain ⟨h5, hf⟩ := gd_e hf
      refine go_iald (f := a3) (pc' := 241) hC 17 layM_17 rfl rfl dX12_daysTo_240 (okx_in h5) rfl ?_
      obtain rfl := Option.some.inj hf
      exact go_iret hC hQ dX12_daysTo_241 rfl rfl rfl rfl (fun _ => rfl) rfl rfl
    clear hk235_4
    have l48_55 : ∀ (nn : Nat) (x6 : Int32) (a7 : Nat → Int32), it2 (f_X12_daysTo_L48 S k235_4) nn x6 a7 = some o → Go X layM S 48 [(0, .ref (x_q X 0)), (2, .int p2), (3, .int x6)] [] g [] [] [(17, a7)] [] [] 0 0 := by
      intro nn
      induction nn with
      | zero =>
        intro x6 a7 hf
        exact none_no hf
      | succ nn ih =>
        intro x6 a7 hf
        have hf : f_X12_daysTo_L48 S k235_4 (it2 (f_X12_daysTo_L48 S k235_4) nn) x6 a7 = some o := hf
        generalize it2 (f_X12_daysTo_L48 S k235_4) nn = r8 at ih hf
        unfold f_X12_daysTo_L48 at hf
        refine go_iload_n (pc' := 49) hC dX12_daysTo_48 rfl rfl ?_
        refine go_if_eq (tgt := 235) (pc' := 52) hC dX12_daysTo_49 (by decide) rfl (fun h54 => ?_) (fun h54 => ?_)
        · have hf := ite_t h54 hf
          refine go_sub [0, 2] rfl ?_
          exact jk235_4 a7 hf
        · have hf := ite_f h54 hf
          refine go_iconst (pc' := 53) hC dX12_daysTo_52 ki_0 rfl ?_
          refine go_istore_n (lc' := [(0, .ref (x_q X 0)), (2, .int p2), (3, .int (0 : Int32))]) (pc' := 54) hC dX12_daysTo_53 (Nat.le_of_ble_eq_true rfl) rfl rfl ?_
          refine go_iconst (pc' := 55) hC dX12_daysTo_54 ki_0 rfl ?_
          refine go_istore (lc' := [(0, .ref (x_q X 0)), (2, .int p2), (3, .int (0 : Int32)), (4, .int (0 : Int32))]) (pc' := 57) hC dX12_daysTo_55 (Nat.le_of_ble_eq_true rfl) rfl rfl ?_
          obtain ⟨k232_11, hk232_11, hf⟩ := lk_e2 hf
          have jk232_11 : ∀ (x9 : Int32) (a10 : Nat → Int32), k232_11 x9 a10 = some o → Go X layM S 232 [(0, .ref (x_q X 0)), (2, .int p2), (3, .int x9)] [] g [] [] [(17, a10)] [] [] 0 0 := by
            intro x9 a10 hf
            have hf := hk232_11 x9 a10 hf
            clear hk232_11
            refine go_goto (tgt := 48) hC dX12_daysTo_232 (by decide) ?_
            exact ih x9 a10 hf
          clear hk232_11
          have l57_53 : ∀ (nn : Nat) (x12 : Int32) (x13 : Int32) (a14 : Nat → Int32), it3 (f_X12_daysTo_L57 S k232_11) nn x12 x13 a14 = some o → Go X layM S 57 [(0, .ref (x_q X 0)), (2, .int p2), (3, .int x12), (4, .int x13)] [] g [] [] [(17, a14)] [] [] 0 0 := by
            intro nn
            induction nn with
            | zero =>
              intro x12 x13 a14 hf
              exact none_no hf
            | succ nn ih =>
              intro x12 x13 a14 hf
              have hf : f_X12_daysTo_L57 S k232_11 (it3 (f_X12_daysTo_L57 S k232_11) nn) x12 x13 a14 = some o := hf
              generalize it3 (f_X12_daysTo_L57 S k232_11) nn = r15 at ih hf
              unfold f_X12_daysTo_L57 at hf
              refine go_iload (pc' := 59) hC dX12_daysTo_57 rfl rfl ?_
              refine go_aload_n (pc' := 60) hC dX12_daysTo_59 rfl rfl ?_
              refine go_geti (v := (S.1 21)) (pc' := 63) hC 0 21 layM_0 rfl rfl inlX12 (Nat.le_of_ble_eq_true rfl) mw_247 rfl dX12_daysTo_60 rfl rfl ?_
              refine go_icmp_gt (tgt := 232) (pc' := 66) hC dX12_daysTo_63 (by decide) rfl (fun h52 => ?_) (fun h52 => ?_)
              · have hf := ite_t h52 hf
                refine go_sub [0, 2, 3] rfl ?_
                exact jk232_11 x12 a14 hf
              · have hf := ite_f h52 hf
                refine go_aload_n (pc' := 67) hC dX12_daysTo_66 rfl rfl ?_
                refine go_iload (pc' := 69) hC dX12_daysTo_67 rfl rfl ?_
                obtain ⟨o16, ho16, hf⟩ := bd_e hf
                refine go_callV0 (pc' := 72) (As := [.int x13]) (st := []) (st' := [.int o16])    (b := 0) hC dX12_daysTo_69 ⟨mw_886, mw_889, mw_5, yd_yX12_isOpen, yp_yX12_isOpen, Nat.le_of_ble_eq_true rfl, Nat.le_of_ble_eq_true rfl, (Nat.le_of_ble_eq_true rfl), (Nat.le_of_ble_eq_true rfl)⟩ mw_887 mw_888 layM_0 rfl rfl rfl (Nat.le_of_ble_eq_true rfl) (c_X12_isOpen (x_l X) (x_D X) (x_q X) g (x_cy X) (x_z X) _ x13 o16 ho16) rfl rfl ?_
                obtain ⟨k226_19, hk226_19, hf⟩ := lk_e2 hf
                have jk226_19 : ∀ (x17 : Int32) (a18 : Nat → Int32), k226_19 x17 a18 = some o → Go X layM S 226 [(0, .ref (x_q X 0)), (2, .int p2), (3, .int x17), (4, .int x13)] [] g [] [] [(17, a18)] [] [] 0 0 := by
                  intro x17 a18 hf
                  have hf := hk226_19 x17 a18 hf
                  clear hk226_19
                  refine go_iinc (lc' := [(0, .ref (x_q X 0)), (2, .int p2), (3, .int x17), (4, .int (x13 + (1 : Int32)))]) (pc' := 229) hC dX12_daysTo_226 rfl ki_1 (Nat.le_of_ble_eq_true rfl) rfl rfl ?_
                  refine go_goto (tgt := 57) hC dX12_daysTo_229 (by decide) ?_
                  exact ih x17 (x13 + (1 : Int32)) a18 hf
                clear hk226_19
                refine go_if_ne (tgt := 78) (pc' := 75) hC dX12_daysTo_72 (by decide) rfl (fun h51 => ?_) (fun h51 => ?_)
                · have hf := ite_f h51 hf
                  refine go_aload_n (pc' := 79) hC dX12_daysTo_78 rfl rfl ?_
                  refine go_getq (pc' := 82) hC 0 40 layM_0 rfl rfl inlX12 (Nat.le_of_ble_eq_true rfl) mw_197 rfl dX12_daysTo_79 rfl ?_
                  refine go_aload_n (pc' := 83) hC dX12_daysTo_82 rfl rfl ?_
                  refine go_getq (pc' := 86) hC 0 22 layM_0 rfl rfl inlX12 (Nat.le_of_ble_eq_true rfl) mw_187 rfl dX12_daysTo_83 rfl ?_
                  refine go_iload (pc' := 88) hC dX12_daysTo_86 rfl rfl ?_
                  obtain ⟨h20, hf⟩ := gd_e hf
                  refine go_iald (f := (S.2.2.1 8)) (pc' := 89) hC 8 layM_8 rfl rfl dX12_daysTo_88 (okx_in h20) rfl ?_
                  obtain ⟨h21, hf⟩ := gd_e hf
                  refine go_iald (f := a14) (pc' := 90) hC 17 layM_17 rfl rfl dX12_daysTo_89 (okx_in h21) rfl ?_
                  refine go_aload_n (pc' := 91) hC dX12_daysTo_90 rfl rfl ?_
                  refine go_getq (pc' := 94) hC 0 26 layM_0 rfl rfl inlX12 (Nat.le_of_ble_eq_true rfl) mw_192 rfl dX12_daysTo_91 rfl ?_
                  refine go_iload (pc' := 96) hC dX12_daysTo_94 rfl rfl ?_
                  obtain ⟨h22, hf⟩ := gd_e hf
                  refine go_iald (f := (S.2.2.1 12)) (pc' := 97) hC 12 layM_12 rfl rfl dX12_daysTo_96 (okx_in h22) rfl ?_
                  refine go_iadd (pc' := 98) hC dX12_daysTo_97 rfl ?_
                  refine go_aload_n (pc' := 99) hC dX12_daysTo_98 rfl rfl ?_
                  refine go_getq (pc' := 102) hC 0 40 layM_0 rfl rfl inlX12 (Nat.le_of_ble_eq_true rfl) mw_197 rfl dX12_daysTo_99 rfl ?_
                  refine go_aload_n (pc' := 103) hC dX12_daysTo_102 rfl rfl ?_
                  refine go_getq (pc' := 106) hC 0 23 layM_0 rfl rfl inlX12 (Nat.le_of_ble_eq_true rfl) mw_188 rfl dX12_daysTo_103 rfl ?_
                  refine go_iload (pc' := 108) hC dX12_daysTo_106 rfl rfl ?_
                  obtain ⟨h23, hf⟩ := gd_e hf
                  refine go_iald (f := (S.2.2.1 9)) (pc' := 109) hC 9 layM_9 rfl rfl dX12_daysTo_108 (okx_in h23) rfl ?_
                  obtain ⟨h24, hf⟩ := gd_e hf
                  refine go_iald (f := a14) (pc' := 110) hC 17 layM_17 rfl rfl dX12_daysTo_109 (okx_in h24) rfl ?_
                  obtain ⟨k147_27, hk147_27, hf⟩ := lk_e2 hf
                  have jk147_27 : ∀ (x25 : Int32) (a26 : Nat → Int32), k147_27 x25 a26 = some o → Go X layM S 147 [(0, .ref (x_q X 0)), (2, .int p2), (3, .int x25), (4, .int x13)] [] g [] [] [(17, a26)] [] [] 0 0 := by
                    intro x25 a26 hf
                    have hf := hk147_27 x25 a26 hf
                    clear hk147_27
                    refine go_aload_n (pc' := 148) hC dX12_daysTo_147 rfl rfl ?_
                    refine go_getq (pc' := 151) hC 0 25 layM_0 rfl rfl inlX12 (Nat.le_of_ble_eq_true rfl) mw_191 rfl dX12_daysTo_148 rfl ?_
                    refine go_iload (pc' := 153) hC dX12_daysTo_151 rfl rfl ?_
                    obtain ⟨h28, hf⟩ := gd_e hf
                    refine go_zald (f := (S.2.2.1 11)) (pc' := 154) hC 11 layM_11 rfl rfl dX12_daysTo_153 (okx_in h28) rfl ?_
                    refine go_if_eq (tgt := 226) (pc' := 157) hC dX12_daysTo_154 (by decide) rfl (fun h42 => ?_) (fun h42 => ?_)
                    · have hf := ite_t h42 hf
                      exact jk226_19 x25 a26 hf
                    · have hf := ite_f h42 hf
                      refine go_aload_n (pc' := 158) hC dX12_daysTo_157 rfl rfl ?_
                      refine go_getq (pc' := 161) hC 0 40 layM_0 rfl rfl inlX12 (Nat.le_of_ble_eq_true rfl) mw_197 rfl dX12_daysTo_158 rfl ?_
                      refine go_aload_n (pc' := 162) hC dX12_daysTo_161 rfl rfl ?_
                      refine go_getq (pc' := 165) hC 0 23 layM_0 rfl rfl inlX12 (Nat.le_of_ble_eq_true rfl) mw_188 rfl dX12_daysTo_162 rfl ?_
                      refine go_iload (pc' := 167) hC dX12_daysTo_165 rfl rfl ?_
                      obtain ⟨h29, hf⟩ := gd_e hf
                      refine go_iald (f := (S.2.2.1 9)) (pc' := 168) hC 9 layM_9 rfl rfl dX12_daysTo_167 (okx_in h29) rfl ?_
                      obtain ⟨h30, hf⟩ := gd_e hf
                      refine go_iald (f := a26) (pc' := 169) hC 17 layM_17 rfl rfl dX12_daysTo_168 (okx_in h30) rfl ?_
                      refine go_aload_n (pc' := 170) hC dX12_daysTo_169 rfl rfl ?_
                      refine go_getq (pc' := 173) hC 0 26 layM_0 rfl rfl inlX12 (Nat.le_of_ble_eq_true rfl) mw_192 rfl dX12_daysTo_170 rfl ?_
                      refine go_iload (pc' := 175) hC dX12_daysTo_173 rfl rfl ?_
                      obtain ⟨h31, hf⟩ := gd_e hf
                      refine go_iald (f := (S.2.2.1 12)) (pc' := 176) hC 12 layM_12 rfl rfl dX12_daysTo_175 (okx_in h31) rfl ?_
                      refine go_iadd (pc' := 177) hC dX12_daysTo_176 rfl ?_
                      refine go_aload_n (pc' := 178) hC dX12_daysTo_177 rfl rfl ?_
                      refine go_getq (pc' := 181) hC 0 40 layM_0 rfl rfl inlX12 (Nat.le_of_ble_eq_true rfl) mw_197 rfl dX12_daysTo_178 rfl ?_
                      refine go_aload_n (pc' := 182) hC dX12_daysTo_181 rfl rfl ?_
                      refine go_getq (pc' := 185) hC 0 22 layM_0 rfl rfl inlX12 (Nat.le_of_ble_eq_true rfl) mw_187 rfl dX12_daysTo_182 rfl ?_
                      refine go_iload (pc' := 187) hC dX12_daysTo_185 rfl rfl ?_
                      obtain ⟨h32, hf⟩ := gd_e hf
                      refine go_iald (f := (S.2.2.1 8)) (pc' := 188) hC 8 layM_8 rfl rfl dX12_daysTo_187 (okx_in h32) rfl ?_
                      obtain ⟨h33, hf⟩ := gd_e hf
                      refine go_iald (f := a26) (pc' := 189) hC 17 layM_17 rfl rfl dX12_daysTo_188 (okx_in h33) rfl ?_
                      refine go_icmp_ge (tgt := 226) (pc' := 192) hC dX12_daysTo_189 (by decide) rfl (fun h41 => ?_) (fun h41 => ?_)
                      · have hf := ite_t h41 hf
                        exact jk226_19 x25 a26 hf
                      · have hf := ite_f h41 hf
                        refine go_aload_n (pc' := 193) hC dX12_daysTo_192 rfl rfl ?_
                        refine go_getq (pc' := 196) hC 0 40 layM_0 rfl rfl inlX12 (Nat.le_of_ble_eq_true rfl) mw_197 rfl dX12_daysTo_193 rfl ?_
                        refine go_aload_n (pc' := 197) hC dX12_daysTo_196 rfl rfl ?_
                        refine go_getq (pc' := 200) hC 0 22 layM_0 rfl rfl inlX12 (Nat.le_of_ble_eq_true rfl) mw_187 rfl dX12_daysTo_197 rfl ?_
                        refine go_iload (pc' := 202) hC dX12_daysTo_200 rfl rfl ?_
                        obtain ⟨h34, hf⟩ := gd_e hf
                        refine go_iald (f := (S.2.2.1 8)) (pc' := 203) hC 8 layM_8 rfl rfl dX12_daysTo_202 (okx_in h34) rfl ?_
                        refine go_aload_n (pc' := 204) hC dX12_daysTo_203 rfl rfl ?_
                        refine go_getq (pc' := 207) hC 0 40 layM_0 rfl rfl inlX12 (Nat.le_of_ble_eq_true rfl) mw_197 rfl dX12_daysTo_204 rfl ?_
                        refine go_aload_n (pc' := 208) hC dX12_daysTo_207 rfl rfl ?_
                        refine go_getq (pc' := 211) hC 0 23 layM_0 rfl rfl inlX12 (Nat.le_of_ble_eq_true rfl) mw_188 rfl dX12_daysTo_208 rfl ?_
                        refine go_iload (pc' := 213) hC dX12_daysTo_211 rfl rfl ?_
                        obtain ⟨h35, hf⟩ := gd_e hf
                        refine go_iald (f := (S.2.2.1 9)) (pc' := 214) hC 9 layM_9 rfl rfl dX12_daysTo_213 (okx_in h35) rfl ?_
                        obtain ⟨h36, hf⟩ := gd_e hf
                        refine go_iald (f := a26) (pc' := 215) hC 17 layM_17 rfl rfl dX12_daysTo_214 (okx_in h36) rfl ?_
                        refine go_aload_n (pc' := 216) hC dX12_daysTo_215 rfl rfl ?_
                        refine go_getq (pc' := 219) hC 0 26 layM_0 rfl rfl inlX12 (Nat.le_of_ble_eq_true rfl) mw_192 rfl dX12_daysTo_216 rfl ?_
                        refine go_iload (pc' := 221) hC dX12_daysTo_219 rfl rfl ?_
                        obtain ⟨h37, hf⟩ := gd_e hf
                        refine go_iald (f := (S.2.2.1 12)) (pc' := 222) hC 12 layM_12 rfl rfl dX12_daysTo_221 (okx_in h37) rfl ?_
                        refine go_iadd (pc' := 223) hC dX12_daysTo_222 rfl ?_
                        refine go_namei (fun x38 hx => ?_)
                        have hf := lz_r hx hf
                        clear hx
                        obtain ⟨h39, hf⟩ := gd_e hf
                        refine go_iast (f := a26) (pc' := 224) hC 17 layM_17 rfl rfl dX12_daysTo_223 (okx_in h39) rfl rfl (fun a40 ha L3' hL => ?_)
                        have hf := lz_r ha hf
                        clear ha
                        obtain rfl : L3' = [(17, a40)] := hL.symm
                        refine go_iconst (pc' := 225) hC dX12_daysTo_224 ki_1 rfl ?_
                        refine go_istore_n (lc' := [(0, .ref (x_q X 0)), (2, .int p2), (3, .int (1 : Int32)), (4, .int x13)]) (pc' := 226) hC dX12_daysTo_225 (Nat.le_of_ble_eq_true rfl) rfl rfl ?_
                        exact jk226_19 (1 : Int32) a40 hf
                  clear hk147_27
                  refine go_icmp_ge (tgt := 147) (pc' := 113) hC dX12_daysTo_110 (by decide) rfl (fun h50 => ?_) (fun h50 => ?_)
                  · have hf := ite_t h50 hf
                    exact jk147_27 x12 a14 hf
                  · have hf := ite_f h50 hf
                    refine go_aload_n (pc' := 114) hC dX12_daysTo_113 rfl rfl ?_
                    refine go_getq (pc' := 117) hC 0 40 layM_0 rfl rfl inlX12 (Nat.le_of_ble_eq_true rfl) mw_197 rfl dX12_daysTo_114 rfl ?_
                    refine go_aload_n (pc' := 118) hC dX12_daysTo_117 rfl rfl ?_
                    refine go_getq (pc' := 121) hC 0 23 layM_0 rfl rfl inlX12 (Nat.le_of_ble_eq_true rfl) mw_188 rfl dX12_daysTo_118 rfl ?_
                    refine go_iload (pc' := 123) hC dX12_daysTo_121 rfl rfl ?_
                    obtain ⟨h43, hf⟩ := gd_e hf
                    refine go_iald (f := (S.2.2.1 9)) (pc' := 124) hC 9 layM_9 rfl rfl dX12_daysTo_123 (okx_in h43) rfl ?_
                    refine go_aload_n (pc' := 125) hC dX12_daysTo_124 rfl rfl ?_
                    refine go_getq (pc' := 128) hC 0 40 layM_0 rfl rfl inlX12 (Nat.le_of_ble_eq_true rfl) mw_197 rfl dX12_daysTo_125 rfl ?_
                    refine go_aload_n (pc' := 129) hC dX12_daysTo_128 rfl rfl ?_
                    refine go_getq (pc' := 132) hC 0 22 layM_0 rfl rfl inlX12 (Nat.le_of_ble_eq_true rfl) mw_187 rfl dX12_daysTo_129 rfl ?_
                    refine go_iload (pc' := 134) hC dX12_daysTo_132 rfl rfl ?_
                    obtain ⟨h44, hf⟩ := gd_e hf
                    refine go_iald (f := (S.2.2.1 8)) (pc' := 135) hC 8 layM_8 rfl rfl dX12_daysTo_134 (okx_in h44) rfl ?_
                    obtain ⟨h45, hf⟩ := gd_e hf
                    refine go_iald (f := a14) (pc' := 136) hC 17 layM_17 rfl rfl dX12_daysTo_135 (okx_in h45) rfl ?_
                    refine go_aload_n (pc' := 137) hC dX12_daysTo_136 rfl rfl ?_
                    refine go_getq (pc' := 140) hC 0 26 layM_0 rfl rfl inlX12 (Nat.le_of_ble_eq_true rfl) mw_192 rfl dX12_daysTo_137 rfl ?_
                    refine go_iload (pc' := 142) hC dX12_daysTo_140 rfl rfl ?_
                    obtain ⟨h46, hf⟩ := gd_e hf
                    refine go_iald (f := (S.2.2.1 12)) (pc' := 143) hC 12 layM_12 rfl rfl dX12_daysTo_142 (okx_in h46) rfl ?_
                    refine go_iadd (pc' := 144) hC dX12_daysTo_143 rfl ?_
                    refine go_namei (fun x47 hx => ?_)
                    have hf := lz_r hx hf
                    clear hx
                    obtain ⟨h48, hf⟩ := gd_e hf
                    refine go_iast (f := a14) (pc' := 145) hC 17 layM_17 rfl rfl dX12_daysTo_144 (okx_in h48) rfl rfl (fun a49 ha L3' hL => ?_)
                    have hf := lz_r ha hf
                    clear ha
                    obtain rfl : L3' = [(17, a49)] := hL.symm
                    refine go_iconst (pc' := 146) hC dX12_daysTo_145 ki_1 rfl ?_
                    refine go_istore_n (lc' := [(0, .ref (x_q X 0)), (2, .int p2), (3, .int (1 : Int32)), (4, .int x13)]) (pc' := 147) hC dX12_daysTo_146 (Nat.le_of_ble_eq_true rfl) rfl rfl ?_
                    exact jk147_27 (1 : Int32) a49 hf
                · have hf := ite_t h51 hf
                  refine go_goto (tgt := 226) hC dX12_daysTo_75 (by decide) ?_
                  exact jk226_19 x12 a14 hf
          exact l57_53 fuel (0 : Int32) (0 : Int32) a7 hf
    exact l48_55 fuel (1 : Int32) a1 hf
  clear hk46_2
  have l2_69 : ∀ (nn : Nat) (x56 : Int32) (a57 : Nat → Int32), it2 (f_X12_daysTo_L2 S p1 k46_2) nn x56 a57 = some o → Go X layM S 2 [(0, .ref (x_q X 0)), (1, .int p1), (2, .int p2), (3, .int x56)] [] g [] [] [(17, a57)] [] [] 0 0 := by
    intro nn
    induction nn with
    | zero =>
      intro x56 a57 hf
      exact none_no hf
    | succ nn ih =>
      intro x56 a57 hf
      have hf : f_X12_daysTo_L2 S p1 k46_2 (it2 (f_X12_daysTo_L2 S p1 k46_2) nn) x56 a57 = some o := hf
      generalize it2 (f_X12_daysTo_L2 S p1 k46_2) nn = r58 at ih hf
      unfold f_X12_daysTo_L2 at hf
      refine go_iload_n (pc' := 3) hC dX12_daysTo_2 rfl rfl ?_
      refine go_aload_n (pc' := 4) hC dX12_daysTo_3 rfl rfl ?_
      refine go_geti (v := (S.1 20)) (pc' := 7) hC 0 20 layM_0 rfl rfl inlX12 (Nat.le_of_ble_eq_true rfl) mw_246 rfl dX12_daysTo_4 rfl rfl ?_
      refine go_icmp_ge (tgt := 46) (pc' := 10) hC dX12_daysTo_7 (by decide) rfl (fun h68 => ?_) (fun h68 => ?_)
      · have hf := ite_t h68 hf
        refine go_sub [0, 2] rfl ?_
        exact jk46_2 a57 hf
      · have hf := ite_f h68 hf
        refine go_aload_n (pc' := 11) hC dX12_daysTo_10 rfl rfl ?_
        refine go_getq (pc' := 14) hC 0 40 layM_0 rfl rfl inlX12 (Nat.le_of_ble_eq_true rfl) mw_197 rfl dX12_daysTo_11 rfl ?_
        refine go_iload_n (pc' := 15) hC dX12_daysTo_14 rfl rfl ?_
        refine go_iload_n (pc' := 16) hC dX12_daysTo_15 rfl rfl ?_
        refine go_iload_n (pc' := 17) hC dX12_daysTo_16 rfl rfl ?_
        obtain ⟨k39_61, hk39_61, hf⟩ := lk_e2 hf
        have jk39_61 : ∀ (x59 : Int32) (x60 : Int32), k39_61 x59 x60 = some o → Go X layM S 39 [(0, .ref (x_q X 0)), (1, .int p1), (2, .int p2), (3, .int x56)] [.int x59, .int x60, .ref (x_q X 17)] g [] [] [(17, a57)] [] [] 0 0 := by
          intro x59 x60 hf
          have hf := hk39_61 x59 x60 hf
          clear hk39_61
          obtain ⟨h62, hf⟩ := gd_e hf
          refine go_iast (f := a57) (pc' := 40) hC 17 layM_17 rfl rfl dX12_daysTo_39 (okx_in h62) rfl rfl (fun a63 ha L3' hL => ?_)
          have hf := lz_r ha hf
          clear ha
          obtain rfl : L3' = [(17, a63)] := hL.symm
          refine go_iinc (lc' := [(0, .ref (x_q X 0)), (1, .int p1), (2, .int p2), (3, .int (x56 + (1 : Int32)))]) (pc' := 43) hC dX12_daysTo_40 rfl ki_1 (Nat.le_of_ble_eq_true rfl) rfl rfl ?_
          refine go_goto (tgt := 2) hC dX12_daysTo_43 (by decide) ?_
          exact ih (x56 + (1 : Int32)) a63 hf
        clear hk39_61
        obtain ⟨k36_65, hk36_65, hf⟩ := lk_e1 hf
        have jk36_65 : ∀ (x64 : Int32), k36_65 x64 = some o → Go X layM S 36 [(0, .ref (x_q X 0)), (1, .int p1), (2, .int p2), (3, .int x56)] [.int x64, .ref (x_q X 17)] g [] [] [(17, a57)] [] [] 0 0 := by
          intro x64 hf
          have hf := hk36_65 x64 hf
          clear hk36_65
          refine go_sipush (pc' := 39) hC dX12_daysTo_36 ks_1000 rfl ?_
          exact jk39_61 (1000 : Int32) x64 hf
        clear hk36_65
        refine go_icmp_ne (tgt := 36) (pc' := 20) hC dX12_daysTo_17 (by decide) rfl (fun h67 => ?_) (fun h67 => ?_)
        · have hf := ite_f h67 hf
          exact jk36_65 x56 hf
        · have hf := ite_t h67 hf
          refine go_aload_n (pc' := 21) hC dX12_daysTo_20 rfl rfl ?_
          refine go_geti (v := (S.1 38)) (pc' := 24) hC 0 38 layM_0 rfl rfl inlX12 (Nat.le_of_ble_eq_true rfl) mw_872 rfl dX12_daysTo_21 rfl rfl ?_
          refine go_iload_n (pc' := 25) hC dX12_daysTo_24 rfl rfl ?_
          refine go_ishr (pc' := 26) hC dX12_daysTo_25 rfl ?_
          refine go_iconst (pc' := 27) hC dX12_daysTo_26 ki_1 rfl ?_
          refine go_iand (pc' := 28) hC dX12_daysTo_27 rfl ?_
          refine go_iconst (pc' := 29) hC dX12_daysTo_28 ki_1 rfl ?_
          refine go_icmp_ne (tgt := 36) (pc' := 32) hC dX12_daysTo_29 (by decide) rfl (fun h66 => ?_) (fun h66 => ?_)
          · have hf := ite_f h66 hf
            exact jk36_65 x56 hf
          · have hf := ite_t h66 hf
            refine go_iconst (pc' := 33) hC dX12_daysTo_32 ki_0 rfl ?_
            refine go_goto (tgt := 39) hC dX12_daysTo_33 (by decide) ?_
            exact jk39_61 (0 : Int32) x56 hf
  exact l2_69 fuel (0 : Int32) (S.2.2.1 17) hf
theorem dX12_oneMore_0 : decode cX12_oneMore 0 = .ok (.iconst 0, 1) := by decide +kernel
theorem dX12_oneMore_1 : decode cX12_oneMore 1 = .ok (.istore_n 3, 1) := by decide +kernel
theorem dX12_oneMore_2 : decode cX12_oneMore 2 = .ok (.iload_n 3, 1) := by decide +kernel
theorem dX12_oneMore_3 : decode cX12_oneMore 3 = .ok (.aload_n 0, 1) := by decide +kernel
theorem dX12_oneMore_4 : decode cX12_oneMore 4 = .ok (.getfield 276, 3) := by decide +kernel
theorem dX12_oneMore_7 : decode cX12_oneMore 7 = .ok (.if_icmp .ge 16, 3) := by decide +kernel
theorem dX12_oneMore_10 : decode cX12_oneMore 10 = .ok (.aload_n 0, 1) := by decide +kernel
theorem dX12_oneMore_11 : decode cX12_oneMore 11 = .ok (.getfield 63, 3) := by decide +kernel
theorem dX12_oneMore_14 : decode cX12_oneMore 14 = .ok (.iload_n 3, 1) := by decide +kernel
theorem dX12_oneMore_15 : decode cX12_oneMore 15 = .ok (.iconst (-1), 1) := by decide +kernel
theorem dX12_oneMore_16 : decode cX12_oneMore 16 = .ok (.iastore, 1) := by decide +kernel
theorem dX12_oneMore_17 : decode cX12_oneMore 17 = .ok (.iinc 3 1, 3) := by decide +kernel
theorem dX12_oneMore_20 : decode cX12_oneMore 20 = .ok (.goto (-18), 3) := by decide +kernel
theorem dX12_oneMore_23 : decode cX12_oneMore 23 = .ok (.iconst 1, 1) := by decide +kernel
theorem dX12_oneMore_24 : decode cX12_oneMore 24 = .ok (.iload_n 1, 1) := by decide +kernel
theorem dX12_oneMore_25 : decode cX12_oneMore 25 = .ok (.ishl, 1) := by decide +kernel
theorem dX12_oneMore_26 : decode cX12_oneMore 26 = .ok (.istore_n 3, 1) := by decide +kernel
theorem dX12_oneMore_27 : decode cX12_oneMore 27 = .ok (.iconst 0, 1) := by decide +kernel
theorem dX12_oneMore_28 : decode cX12_oneMore 28 = .ok (.istore 4, 2) := by decide +kernel
theorem dX12_oneMore_30 : decode cX12_oneMore 30 = .ok (.iload_n 3, 1) := by decide +kernel
theorem dX12_oneMore_31 : decode cX12_oneMore 31 = .ok (.iload 4, 2) := by decide +kernel
theorem dX12_oneMore_33 : decode cX12_oneMore 33 = .ok (.if_icmp .eq 228, 3) := by decide +kernel
theorem dX12_oneMore_36 : decode cX12_oneMore 36 = .ok (.iload_n 3, 1) := by decide +kernel
theorem dX12_oneMore_37 : decode cX12_oneMore 37 = .ok (.istore 4, 2) := by decide +kernel
theorem dX12_oneMore_39 : decode cX12_oneMore 39 = .ok (.iconst 0, 1) := by decide +kernel
theorem dX12_oneMore_40 : decode cX12_oneMore 40 = .ok (.istore 5, 2) := by decide +kernel
theorem dX12_oneMore_42 : decode cX12_oneMore 42 = .ok (.iload 5, 2) := by decide +kernel
theorem dX12_oneMore_44 : decode cX12_oneMore 44 = .ok (.aload_n 0, 1) := by decide +kernel
theorem dX12_oneMore_45 : decode cX12_oneMore 45 = .ok (.getfield 279, 3) := by decide +kernel
theorem dX12_oneMore_48 : decode cX12_oneMore 48 = .ok (.if_icmp .gt 210, 3) := by decide +kernel
theorem dX12_oneMore_51 : decode cX12_oneMore 51 = .ok (.aload_n 0, 1) := by decide +kernel
theorem dX12_oneMore_52 : decode cX12_oneMore 52 = .ok (.iload 5, 2) := by decide +kernel
theorem dX12_oneMore_54 : decode cX12_oneMore 54 = .ok (.invokevirtual 327, 3) := by decide +kernel
theorem dX12_oneMore_57 : decode cX12_oneMore 57 = .ok (.ifCond .ne 6, 3) := by decide +kernel
theorem dX12_oneMore_60 : decode cX12_oneMore 60 = .ok (.goto 192, 3) := by decide +kernel
theorem dX12_oneMore_63 : decode cX12_oneMore 63 = .ok (.aload_n 0, 1) := by decide +kernel
theorem dX12_oneMore_64 : decode cX12_oneMore 64 = .ok (.getfield 66, 3) := by decide +kernel
theorem dX12_oneMore_67 : decode cX12_oneMore 67 = .ok (.iload 5, 2) := by decide +kernel
theorem dX12_oneMore_69 : decode cX12_oneMore 69 = .ok (.iaload, 1) := by decide +kernel
theorem dX12_oneMore_70 : decode cX12_oneMore 70 = .ok (.iconst 2, 1) := by decide +kernel
theorem dX12_oneMore_71 : decode cX12_oneMore 71 = .ok (.if_icmp .eq 13, 3) := by decide +kernel
theorem dX12_oneMore_74 : decode cX12_oneMore 74 = .ok (.aload_n 0, 1) := by decide +kernel
theorem dX12_oneMore_75 : decode cX12_oneMore 75 = .ok (.getfield 66, 3) := by decide +kernel
theorem dX12_oneMore_78 : decode cX12_oneMore 78 = .ok (.iload 5, 2) := by decide +kernel
theorem dX12_oneMore_80 : decode cX12_oneMore 80 = .ok (.iaload, 1) := by decide +kernel
theorem dX12_oneMore_81 : decode cX12_oneMore 81 = .ok (.ifCond .ne 7, 3) := by decide +kernel
theorem dX12_oneMore_84 : decode cX12_oneMore 84 = .ok (.iconst 1, 1) := by decide +kernel
theorem dX12_oneMore_85 : decode cX12_oneMore 85 = .ok (.goto 4, 3) := by decide +kernel
theorem dX12_oneMore_88 : decode cX12_oneMore 88 = .ok (.iconst 0, 1) := by decide +kernel
theorem dX12_oneMore_89 : decode cX12_oneMore 89 = .ok (.istore 6, 2) := by decide +kernel
theorem dX12_oneMore_91 : decode cX12_oneMore 91 = .ok (.aload_n 0, 1) := by decide +kernel
theorem dX12_oneMore_92 : decode cX12_oneMore 92 = .ok (.getfield 66, 3) := by decide +kernel
theorem dX12_oneMore_95 : decode cX12_oneMore 95 = .ok (.iload 5, 2) := by decide +kernel
theorem dX12_oneMore_97 : decode cX12_oneMore 97 = .ok (.iaload, 1) := by decide +kernel
theorem dX12_oneMore_98 : decode cX12_oneMore 98 = .ok (.iconst 1, 1) := by decide +kernel
theorem dX12_oneMore_99 : decode cX12_oneMore 99 = .ok (.if_icmp .eq 23, 3) := by decide +kernel
theorem dX12_oneMore_102 : decode cX12_oneMore 102 = .ok (.aload_n 0, 1) := by decide +kernel
theorem dX12_oneMore_103 : decode cX12_oneMore 103 = .ok (.getfield 66, 3) := by decide +kernel
theorem dX12_oneMore_106 : decode cX12_oneMore 106 = .ok (.iload 5, 2) := by decide +kernel
theorem dX12_oneMore_108 : decode cX12_oneMore 108 = .ok (.iaload, 1) := by decide +kernel
theorem dX12_oneMore_109 : decode cX12_oneMore 109 = .ok (.ifCond .ne 17, 3) := by decide +kernel
theorem dX12_oneMore_112 : decode cX12_oneMore 112 = .ok (.aload_n 0, 1) := by decide +kernel
theorem dX12_oneMore_113 : decode cX12_oneMore 113 = .ok (.getfield 41, 3) := by decide +kernel
theorem dX12_oneMore_116 : decode cX12_oneMore 116 = .ok (.iload 5, 2) := by decide +kernel
theorem dX12_oneMore_118 : decode cX12_oneMore 118 = .ok (.baload, 1) := by decide +kernel
theorem dX12_oneMore_119 : decode cX12_oneMore 119 = .ok (.ifCond .eq 7, 3) := by decide +kernel
theorem dX12_oneMore_122 : decode cX12_oneMore 122 = .ok (.iconst 1, 1) := by decide +kernel
theorem dX12_oneMore_123 : decode cX12_oneMore 123 = .ok (.goto 4, 3) := by decide +kernel
theorem dX12_oneMore_126 : decode cX12_oneMore 126 = .ok (.iconst 0, 1) := by decide +kernel
theorem dX12_oneMore_127 : decode cX12_oneMore 127 = .ok (.istore 7, 2) := by decide +kernel
theorem dX12_oneMore_129 : decode cX12_oneMore 129 = .ok (.iload 6, 2) := by decide +kernel
theorem dX12_oneMore_131 : decode cX12_oneMore 131 = .ok (.ifCond .eq 61, 3) := by decide +kernel
theorem dX12_oneMore_134 : decode cX12_oneMore 134 = .ok (.iload_n 3, 1) := by decide +kernel
theorem dX12_oneMore_135 : decode cX12_oneMore 135 = .ok (.aload_n 0, 1) := by decide +kernel
theorem dX12_oneMore_136 : decode cX12_oneMore 136 = .ok (.getfield 32, 3) := by decide +kernel
theorem dX12_oneMore_139 : decode cX12_oneMore 139 = .ok (.iload 5, 2) := by decide +kernel
theorem dX12_oneMore_141 : decode cX12_oneMore 141 = .ok (.iaload, 1) := by decide +kernel
theorem dX12_oneMore_142 : decode cX12_oneMore 142 = .ok (.ishr, 1) := by decide +kernel
theorem dX12_oneMore_143 : decode cX12_oneMore 143 = .ok (.iconst 1, 1) := by decide +kernel
theorem dX12_oneMore_144 : decode cX12_oneMore 144 = .ok (.iand, 1) := by decide +kernel
theorem dX12_oneMore_145 : decode cX12_oneMore 145 = .ok (.iconst 1, 1) := by decide +kernel
theorem dX12_oneMore_146 : decode cX12_oneMore 146 = .ok (.if_icmp .ne 46, 3) := by decide +kernel
theorem dX12_oneMore_149 : decode cX12_oneMore 149 = .ok (.iload_n 3, 1) := by decide +kernel
theorem dX12_oneMore_150 : decode cX12_oneMore 150 = .ok (.aload_n 0, 1) := by decide +kernel
theorem dX12_oneMore_151 : decode cX12_oneMore 151 = .ok (.getfield 35, 3) := by decide +kernel
theorem dX12_oneMore_154 : decode cX12_oneMore 154 = .ok (.iload 5, 2) := by decide +kernel
theorem dX12_oneMore_156 : decode cX12_oneMore 156 = .ok (.iaload, 1) := by decide +kernel
theorem dX12_oneMore_157 : decode cX12_oneMore 157 = .ok (.ishr, 1) := by decide +kernel
theorem dX12_oneMore_158 : decode cX12_oneMore 158 = .ok (.iconst 1, 1) := by decide +kernel
theorem dX12_oneMore_159 : decode cX12_oneMore 159 = .ok (.iand, 1) := by decide +kernel
theorem dX12_oneMore_160 : decode cX12_oneMore 160 = .ok (.ifCond .ne 32, 3) := by decide +kernel
theorem dX12_oneMore_163 : decode cX12_oneMore 163 = .ok (.iload_n 3, 1) := by decide +kernel
theorem dX12_oneMore_164 : decode cX12_oneMore 164 = .ok (.iconst 1, 1) := by decide +kernel
theorem dX12_oneMore_165 : decode cX12_oneMore 165 = .ok (.aload_n 0, 1) := by decide +kernel
theorem dX12_oneMore_166 : decode cX12_oneMore 166 = .ok (.getfield 35, 3) := by decide +kernel
theorem dX12_oneMore_169 : decode cX12_oneMore 169 = .ok (.iload 5, 2) := by decide +kernel
theorem dX12_oneMore_171 : decode cX12_oneMore 171 = .ok (.iaload, 1) := by decide +kernel
theorem dX12_oneMore_172 : decode cX12_oneMore 172 = .ok (.ishl, 1) := by decide +kernel
theorem dX12_oneMore_173 : decode cX12_oneMore 173 = .ok (.ior, 1) := by decide +kernel
theorem dX12_oneMore_174 : decode cX12_oneMore 174 = .ok (.istore_n 3, 1) := by decide +kernel
theorem dX12_oneMore_175 : decode cX12_oneMore 175 = .ok (.aload_n 0, 1) := by decide +kernel
theorem dX12_oneMore_176 : decode cX12_oneMore 176 = .ok (.getfield 63, 3) := by decide +kernel
theorem dX12_oneMore_179 : decode cX12_oneMore 179 = .ok (.aload_n 0, 1) := by decide +kernel
theorem dX12_oneMore_180 : decode cX12_oneMore 180 = .ok (.getfield 35, 3) := by decide +kernel
theorem dX12_oneMore_183 : decode cX12_oneMore 183 = .ok (.iload 5, 2) := by decide +kernel
theorem dX12_oneMore_185 : decode cX12_oneMore 185 = .ok (.iaload, 1) := by decide +kernel
theorem dX12_oneMore_186 : decode cX12_oneMore 186 = .ok (.iload 5, 2) := by decide +kernel
theorem dX12_oneMore_188 : decode cX12_oneMore 188 = .ok (.iastore, 1) := by decide +kernel
theorem dX12_oneMore_189 : decode cX12_oneMore 189 = .ok (.goto 63, 3) := by decide +kernel
theorem dX12_oneMore_192 : decode cX12_oneMore 192 = .ok (.iload 7, 2) := by decide +kernel
theorem dX12_oneMore_194 : decode cX12_oneMore 194 = .ok (.ifCond .eq 58, 3) := by decide +kernel
theorem dX12_oneMore_197 : decode cX12_oneMore 197 = .ok (.iload_n 3, 1) := by decide +kernel
theorem dX12_oneMore_198 : decode cX12_oneMore 198 = .ok (.aload_n 0, 1) := by decide +kernel
theorem dX12_oneMore_199 : decode cX12_oneMore 199 = .ok (.getfield 35, 3) := by decide +kernel
theorem dX12_oneMore_202 : decode cX12_oneMore 202 = .ok (.iload 5, 2) := by decide +kernel
theorem dX12_oneMore_204 : decode cX12_oneMore 204 = .ok (.iaload, 1) := by decide +kernel
theorem dX12_oneMore_205 : decode cX12_oneMore 205 = .ok (.ishr, 1) := by decide +kernel
theorem dX12_oneMore_206 : decode cX12_oneMore 206 = .ok (.iconst 1, 1) := by decide +kernel
theorem dX12_oneMore_207 : decode cX12_oneMore 207 = .ok (.iand, 1) := by decide +kernel
theorem dX12_oneMore_208 : decode cX12_oneMore 208 = .ok (.iconst 1, 1) := by decide +kernel
theorem dX12_oneMore_209 : decode cX12_oneMore 209 = .ok (.if_icmp .ne 43, 3) := by decide +kernel
theorem dX12_oneMore_212 : decode cX12_oneMore 212 = .ok (.iload_n 3, 1) := by decide +kernel
theorem dX12_oneMore_213 : decode cX12_oneMore 213 = .ok (.aload_n 0, 1) := by decide +kernel
theorem dX12_oneMore_214 : decode cX12_oneMore 214 = .ok (.getfield 32, 3) := by decide +kernel
theorem dX12_oneMore_217 : decode cX12_oneMore 217 = .ok (.iload 5, 2) := by decide +kernel
theorem dX12_oneMore_219 : decode cX12_oneMore 219 = .ok (.iaload, 1) := by decide +kernel
theorem dX12_oneMore_220 : decode cX12_oneMore 220 = .ok (.ishr, 1) := by decide +kernel
theorem dX12_oneMore_221 : decode cX12_oneMore 221 = .ok (.iconst 1, 1) := by decide +kernel
theorem dX12_oneMore_222 : decode cX12_oneMore 222 = .ok (.iand, 1) := by decide +kernel
theorem dX12_oneMore_223 : decode cX12_oneMore 223 = .ok (.ifCond .ne 29, 3) := by decide +kernel
theorem dX12_oneMore_226 : decode cX12_oneMore 226 = .ok (.iload_n 3, 1) := by decide +kernel
theorem dX12_oneMore_227 : decode cX12_oneMore 227 = .ok (.iconst 1, 1) := by decide +kernel
theorem dX12_oneMore_228 : decode cX12_oneMore 228 = .ok (.aload_n 0, 1) := by decide +kernel
theorem dX12_oneMore_229 : decode cX12_oneMore 229 = .ok (.getfield 32, 3) := by decide +kernel
theorem dX12_oneMore_232 : decode cX12_oneMore 232 = .ok (.iload 5, 2) := by decide +kernel
theorem dX12_oneMore_234 : decode cX12_oneMore 234 = .ok (.iaload, 1) := by decide +kernel
theorem dX12_oneMore_235 : decode cX12_oneMore 235 = .ok (.ishl, 1) := by decide +kernel
theorem dX12_oneMore_236 : decode cX12_oneMore 236 = .ok (.ior, 1) := by decide +kernel
theorem dX12_oneMore_237 : decode cX12_oneMore 237 = .ok (.istore_n 3, 1) := by decide +kernel
theorem dX12_oneMore_238 : decode cX12_oneMore 238 = .ok (.aload_n 0, 1) := by decide +kernel
theorem dX12_oneMore_239 : decode cX12_oneMore 239 = .ok (.getfield 63, 3) := by decide +kernel
theorem dX12_oneMore_242 : decode cX12_oneMore 242 = .ok (.aload_n 0, 1) := by decide +kernel
theorem dX12_oneMore_243 : decode cX12_oneMore 243 = .ok (.getfield 32, 3) := by decide +kernel
theorem dX12_oneMore_246 : decode cX12_oneMore 246 = .ok (.iload 5, 2) := by decide +kernel
theorem dX12_oneMore_248 : decode cX12_oneMore 248 = .ok (.iaload, 1) := by decide +kernel
theorem dX12_oneMore_249 : decode cX12_oneMore 249 = .ok (.iload 5, 2) := by decide +kernel
theorem dX12_oneMore_251 : decode cX12_oneMore 251 = .ok (.iastore, 1) := by decide +kernel
theorem dX12_oneMore_252 : decode cX12_oneMore 252 = .ok (.iinc 5 1, 3) := by decide +kernel
theorem dX12_oneMore_255 : decode cX12_oneMore 255 = .ok (.goto (-213), 3) := by decide +kernel
theorem dX12_oneMore_258 : decode cX12_oneMore 258 = .ok (.goto (-228), 3) := by decide +kernel
theorem dX12_oneMore_261 : decode cX12_oneMore 261 = .ok (.iload_n 3, 1) := by decide +kernel
theorem dX12_oneMore_262 : decode cX12_oneMore 262 = .ok (.iload_n 2, 1) := by decide +kernel
theorem dX12_oneMore_263 : decode cX12_oneMore 263 = .ok (.ishr, 1) := by decide +kernel
theorem dX12_oneMore_264 : decode cX12_oneMore 264 = .ok (.iconst 1, 1) := by decide +kernel
theorem dX12_oneMore_265 : decode cX12_oneMore 265 = .ok (.iand, 1) := by decide +kernel
theorem dX12_oneMore_266 : decode cX12_oneMore 266 = .ok (.ifCond .ne 5, 3) := by decide +kernel
theorem dX12_oneMore_269 : decode cX12_oneMore 269 = .ok (.iconst 0, 1) := by decide +kernel
theorem dX12_oneMore_270 : decode cX12_oneMore 270 = .ok (.ireturn, 1) := by decide +kernel
theorem dX12_oneMore_271 : decode cX12_oneMore 271 = .ok (.iload_n 2, 1) := by decide +kernel
theorem dX12_oneMore_272 : decode cX12_oneMore 272 = .ok (.istore 5, 2) := by decide +kernel
theorem dX12_oneMore_274 : decode cX12_oneMore 274 = .ok (.iload 5, 2) := by decide +kernel
theorem dX12_oneMore_276 : decode cX12_oneMore 276 = .ok (.iload_n 1, 1) := by decide +kernel
theorem dX12_oneMore_277 : decode cX12_oneMore 277 = .ok (.if_icmp .eq 89, 3) := by decide +kernel
theorem dX12_oneMore_280 : decode cX12_oneMore 280 = .ok (.aload_n 0, 1) := by decide +kernel
theorem dX12_oneMore_281 : decode cX12_oneMore 281 = .ok (.getfield 63, 3) := by decide +kernel
theorem dX12_oneMore_284 : decode cX12_oneMore 284 = .ok (.iload 5, 2) := by decide +kernel
theorem dX12_oneMore_286 : decode cX12_oneMore 286 = .ok (.iaload, 1) := by decide +kernel
theorem dX12_oneMore_287 : decode cX12_oneMore 287 = .ok (.istore 6, 2) := by decide +kernel
theorem dX12_oneMore_289 : decode cX12_oneMore 289 = .ok (.aload_n 0, 1) := by decide +kernel
theorem dX12_oneMore_290 : decode cX12_oneMore 290 = .ok (.getfield 35, 3) := by decide +kernel
theorem dX12_oneMore_293 : decode cX12_oneMore 293 = .ok (.iload 6, 2) := by decide +kernel
theorem dX12_oneMore_295 : decode cX12_oneMore 295 = .ok (.iaload, 1) := by decide +kernel
theorem dX12_oneMore_296 : decode cX12_oneMore 296 = .ok (.iload 5, 2) := by decide +kernel
theorem dX12_oneMore_298 : decode cX12_oneMore 298 = .ok (.if_icmp .ne 7, 3) := by decide +kernel
theorem dX12_oneMore_301 : decode cX12_oneMore 301 = .ok (.iconst 1, 1) := by decide +kernel
theorem dX12_oneMore_302 : decode cX12_oneMore 302 = .ok (.goto 4, 3) := by decide +kernel
theorem dX12_oneMore_305 : decode cX12_oneMore 305 = .ok (.iconst 0, 1) := by decide +kernel
theorem dX12_oneMore_306 : decode cX12_oneMore 306 = .ok (.istore 7, 2) := by decide +kernel
theorem dX12_oneMore_308 : decode cX12_oneMore 308 = .ok (.aload_n 0, 1) := by decide +kernel
theorem dX12_oneMore_309 : decode cX12_oneMore 309 = .ok (.getfield 66, 3) := by decide +kernel
theorem dX12_oneMore_312 : decode cX12_oneMore 312 = .ok (.iload 6, 2) := by decide +kernel
theorem dX12_oneMore_314 : decode cX12_oneMore 314 = .ok (.aload_n 0, 1) := by decide +kernel
theorem dX12_oneMore_315 : decode cX12_oneMore 315 = .ok (.getfield 66, 3) := by decide +kernel
theorem dX12_oneMore_318 : decode cX12_oneMore 318 = .ok (.iload 6, 2) := by decide +kernel
theorem dX12_oneMore_320 : decode cX12_oneMore 320 = .ok (.iaload, 1) := by decide +kernel
theorem dX12_oneMore_321 : decode cX12_oneMore 321 = .ok (.ifCond .le 7, 3) := by decide +kernel
theorem dX12_oneMore_324 : decode cX12_oneMore 324 = .ok (.iconst 0, 1) := by decide +kernel
theorem dX12_oneMore_325 : decode cX12_oneMore 325 = .ok (.goto 13, 3) := by decide +kernel
theorem dX12_oneMore_328 : decode cX12_oneMore 328 = .ok (.iload 7, 2) := by decide +kernel
theorem dX12_oneMore_330 : decode cX12_oneMore 330 = .ok (.ifCond .eq 7, 3) := by decide +kernel
theorem dX12_oneMore_333 : decode cX12_oneMore 333 = .ok (.iconst 1, 1) := by decide +kernel
theorem dX12_oneMore_334 : decode cX12_oneMore 334 = .ok (.goto 4, 3) := by decide +kernel
theorem dX12_oneMore_337 : decode cX12_oneMore 337 = .ok (.iconst 2, 1) := by decide +kernel
theorem dX12_oneMore_338 : decode cX12_oneMore 338 = .ok (.iastore, 1) := by decide +kernel
theorem dX12_oneMore_339 : decode cX12_oneMore 339 = .ok (.iload 7, 2) := by decide +kernel
theorem dX12_oneMore_341 : decode cX12_oneMore 341 = .ok (.ifCond .eq 13, 3) := by decide +kernel
theorem dX12_oneMore_344 : decode cX12_oneMore 344 = .ok (.aload_n 0, 1) := by decide +kernel
theorem dX12_oneMore_345 : decode cX12_oneMore 345 = .ok (.getfield 32, 3) := by decide +kernel
theorem dX12_oneMore_348 : decode cX12_oneMore 348 = .ok (.iload 6, 2) := by decide +kernel
theorem dX12_oneMore_350 : decode cX12_oneMore 350 = .ok (.iaload, 1) := by decide +kernel
theorem dX12_oneMore_351 : decode cX12_oneMore 351 = .ok (.goto 10, 3) := by decide +kernel
theorem dX12_oneMore_354 : decode cX12_oneMore 354 = .ok (.aload_n 0, 1) := by decide +kernel
theorem dX12_oneMore_355 : decode cX12_oneMore 355 = .ok (.getfield 35, 3) := by decide +kernel
theorem dX12_oneMore_358 : decode cX12_oneMore 358 = .ok (.iload 6, 2) := by decide +kernel
theorem dX12_oneMore_360 : decode cX12_oneMore 360 = .ok (.iaload, 1) := by decide +kernel
theorem dX12_oneMore_361 : decode cX12_oneMore 361 = .ok (.istore 5, 2) := by decide +kernel
theorem dX12_oneMore_363 : decode cX12_oneMore 363 = .ok (.goto (-89), 3) := by decide +kernel
theorem dX12_oneMore_366 : decode cX12_oneMore 366 = .ok (.iconst 1, 1) := by decide +kernel
theorem dX12_oneMore_367 : decode cX12_oneMore 367 = .ok (.ireturn, 1) := by decide +kernel
abbrev o_X12_oneMore : Type := Int32 × (Nat → Int32) × (Nat → Int32)
def f_X12_oneMore_L274 (S : wd_W) (p1 : Int32) (a5 : Nat → Int32) (r9 : (Int32) → (Nat → Int32) → (Option o_X12_oneMore)) (x7 : Int32) (a8 : Nat → Int32) : Option o_X12_oneMore :=
if x7 = p1 then (
some ((1 : Int32), a5, a8)) else (
gd (okx x7 10) <|
lz (a5 x7.toNatClampNeg) fun x11 =>
gd (okx x11 13) <|
lk (fun x13 =>
gd (okx x11 13) <|
lk (fun x16 x17 =>
gd (okx x17 13) <|
lz (upd a8 x17.toNatClampNeg x16) fun a20 =>
lk (fun x21 =>
r9 x21 a20) fun k361_22 =>
if x13 = 0 then (
gd (okx x11 13) <|
k361_22 ((S.2.2.1 9) x11.toNatClampNeg)) else (
gd (okx x11 13) <|
k361_22 ((S.2.2.1 8) x11.toNatClampNeg))) fun k338_18 =>
if (a8 x11.toNatClampNeg) ≤ 0 then (
if x13 = 0 then (
k338_18 (2 : Int32) x11) else (
k338_18 (1 : Int32) x11)) else (
k338_18 (0 : Int32) x11)) fun k306_14 =>
if ((S.2.2.1 9) x11.toNatClampNeg) = x7 then (
k306_14 (1 : Int32)) else (
k306_14 (0 : Int32)))
def f_X12_oneMore_L42 (S : wd_W) (k258_38 : (Int32) → (Nat → Int32) → (Option o_X12_oneMore)) (r42 : (Int32) → (Int32) → (Nat → Int32) → (Option o_X12_oneMore)) (x39 : Int32) (x40 : Int32) (a41 : Nat → Int32) : Option o_X12_oneMore :=
if (S.1 21) < x40 then (
k258_38 x39 a41) else (
bd (f_X12_isOpen (wd_o S [] [] [(18, a41), (19, (S.2.2.1 19))] [] []) x40) fun o43 =>
lk (fun x44 a45 =>
r42 x44 (x40 + (1 : Int32)) a45) fun k252_46 =>
if o43 = 0 then (
k252_46 x39 a41) else (
gd (okx x40 13) <|
lk (fun x48 =>
gd (okx x40 13) <|
lk (fun x51 =>
lk (if x51 = 0 then (
k252_46 x39 a41) else (
gd (okx x40 13) <|
if ((x39 >>> (((S.2.2.1 9) x40.toNatClampNeg) &&& 31)) &&& (1 : Int32)) = (1 : Int32) then (
gd (okx x40 13) <|
if ((x39 >>> (((S.2.2.1 8) x40.toNatClampNeg) &&& 31)) &&& (1 : Int32)) = 0 then (
gd (okx x40 13) <|
lz (x39 ||| ((1 : Int32) <<< (((S.2.2.1 8) x40.toNatClampNeg) &&& 31))) fun x57 =>
gd (okx x40 13) <|
gd (okx ((S.2.2.1 8) x40.toNatClampNeg) 10) <|
lz (upd a41 ((S.2.2.1 8) x40.toNatClampNeg).toNatClampNeg x40) fun a60 =>
k252_46 x57 a60) else (
k252_46 x39 a41)) else (
k252_46 x39 a41))) fun k192_53 =>
if x48 = 0 then (
k192_53) else (
gd (okx x40 13) <|
if ((x39 >>> (((S.2.2.1 8) x40.toNatClampNeg) &&& 31)) &&& (1 : Int32)) = (1 : Int32) then (
gd (okx x40 13) <|
if ((x39 >>> (((S.2.2.1 9) x40.toNatClampNeg) &&& 31)) &&& (1 : Int32)) = 0 then (
gd (okx x40 13) <|
lz (x39 ||| ((1 : Int32) <<< (((S.2.2.1 9) x40.toNatClampNeg) &&& 31))) fun x67 =>
gd (okx x40 13) <|
gd (okx ((S.2.2.1 9) x40.toNatClampNeg) 10) <|
lz (upd a41 ((S.2.2.1 9) x40.toNatClampNeg).toNatClampNeg x40) fun a70 =>
k252_46 x67 a70) else (
k192_53)) else (
k192_53))) fun k127_52 =>
lk (k127_52 (1 : Int32)) fun k122_74 =>
if ((S.2.2.1 19) x40.toNatClampNeg) = (1 : Int32) then (
k122_74) else (
gd (okx x40 13) <|
lk (k127_52 (0 : Int32)) fun k126_76 =>
if ((S.2.2.1 19) x40.toNatClampNeg) = 0 then (
gd (okx x40 13) <|
if ((S.2.2.1 11) x40.toNatClampNeg) = 0 then (
k126_76) else (
k122_74)) else (
k126_76))) fun k89_49 =>
lk (k89_49 (1 : Int32)) fun k84_81 =>
if ((S.2.2.1 19) x40.toNatClampNeg) = (2 : Int32) then (
k84_81) else (
gd (okx x40 13) <|
if ((S.2.2.1 19) x40.toNatClampNeg) = 0 then (
k84_81) else (
k89_49 (0 : Int32)))))
def f_X12_oneMore_L30 (S : wd_W) (k261_6 : (Int32) → (Nat → Int32) → (Option o_X12_oneMore)) (r35 : (Int32) → (Int32) → (Nat → Int32) → (Option o_X12_oneMore)) (x32 : Int32) (x33 : Int32) (a34 : Nat → Int32) : Option o_X12_oneMore :=
if x32 = x33 then (
k261_6 x32 a34) else (
lk (fun x36 a37 =>
r35 x36 x32 a37) fun k258_38 =>
it3 (f_X12_oneMore_L42 S k258_38) fuel x32 (0 : Int32) a34)
def f_X12_oneMore_L2 (S : wd_W) (k23_2 : (Nat → Int32) → (Option o_X12_oneMore)) (r92 : (Int32) → (Nat → Int32) → (Option o_X12_oneMore)) (x90 : Int32) (a91 : Nat → Int32) : Option o_X12_oneMore :=
if (S.1 20) ≤ x90 then (
k23_2 a91) else (
gd (okx x90 10) <|
lz (upd a91 x90.toNatClampNeg (-1 : Int32)) fun a94 =>
r92 (x90 + (1 : Int32)) a94)
def f_X12_oneMore (S : wd_W) (p1 : Int32) (p2 : Int32) : Option o_X12_oneMore :=
lk (fun a1 =>
lz ((1 : Int32) <<< (p1 &&& 31)) fun x3 =>
lk (fun x4 a5 =>
if ((x4 >>> (p2 &&& 31)) &&& (1 : Int32)) = 0 then (
some ((0 : Int32), a5, (S.2.2.1 19))) else (
it2 (f_X12_oneMore_L274 S p1 a5) fuel p2 (S.2.2.1 19))) fun k261_6 =>
it3 (f_X12_oneMore_L30 S k261_6) fuel x3 (0 : Int32) a1) fun k23_2 =>
it2 (f_X12_oneMore_L2 S k23_2) fuel (0 : Int32) (S.2.2.1 18)
set_option maxRecDepth 100000 in
set_option maxHeartbeats 4000000 in
theorem c_X12_oneMore (l : Launch) (D : va_G) (q g : Nat → Nat) (cy : Nat → ClassId) (z : (Nat → Nat) × (Nat → Nat) × Nat) (S : wd_W) (p1 : Int32) (p2 : Int32) (o : o_X12_oneMore) (hf : f_X12_oneMore S p1 p2 = some o) : MX layM l yX12_oneMore cX12_oneMore 8 (some .boolean) ({ frames := 1, cells := 0, slots := 0, locals := 21 } : Room) D q g cy z [.ref (q 0), .int p1, .int p2] S false (some (.int o.1)) (wd_o S [] [] [(18, o.2.1), (19, o.2.2)] [] []) 0 0 := by
  refine mx_of (own := RX12) (lc := [(0, .ref (q 0)), (1, .int p1), (2, .int p2)]) (by decide +kernel) rfl layM_ok (Nat.le_of_ble_eq_true rfl) rfl ?_
  intro X hXl hXq hXz hC hQ
  subst hXl; subst hXq; subst hXz
  unfold f_X12_oneMore at hf
  refine go_keys (L1 := []) (L2 := []) (L3 := [(18, (S.2.2.1 18)), (19, (S.2.2.1 19))]) (L4 := []) (L5 := []) [] [] [18, 19] [] [] rfl rfl rfl rfl rfl ?_
  refine go_iconst (pc' := 1) hC dX12_oneMore_0 ki_0 rfl ?_
  refine go_istore_n (lc' := [(0, .ref (x_q X 0)), (1, .int p1), (2, .int p2), (3, .int (0 : Int32))]) (pc' := 2) hC dX12_oneMore_1 (Nat.le_of_ble_eq_true rfl) rfl rfl ?_
  obtain ⟨k23_2, hk23_2, hf⟩ := lk_e1 hf
  have jk23_2 : ∀ (a1 : Nat → Int32), k23_2 a1 = some o → Go X layM S 23 [(0, .ref (x_q X 0)), (1, .int p1), (2, .int p2)] [] g [] [] [(18, a1), (19, (S.2.2.1 19))] [] [] 0 0 := by
    intro a1 hf
    have hf := hk23_2 a1 hf
    clear hk23_2
    refine go_iconst (pc' := 24) hC dX12_oneMore_23 ki_1 rfl ?_
    refine go_iload_n (pc' := 25) hC dX12_oneMore_24 rfl rfl ?_
    refine go_ishl (pc' := 26) hC dX12_oneMore_25 rfl ?_
    refine go_namei (fun x3 hx => ?_)
    have hf := lz_r hx hf
    clear hx
    refine go_istore_n (lc' := [(0, .ref (x_q X 0)), (1, .int p1), (2, .int p2), (3, .int x3)]) (pc' := 27) hC dX12_oneMore_26 (Nat.le_of_ble_eq_true rfl) rfl rfl ?_
    refine go_iconst (pc' := 28) hC dX12_oneMore_27 ki_0 rfl ?_
    refine go_istore (lc' := [(0, .ref (x_q X 0)), (1, .int p1), (2, .int p2), (3, .int x3), (4, .int (0 : Int32))]) (pc' := 30) hC dX12_oneMore_28 (Nat.le_of_ble_eq_true rfl) rfl rfl ?_
    obtain ⟨k261_6, hk261_6, hf⟩ := lk_e2 hf
    have jk261_6 : ∀ (x4 : Int32) (a5 : Nat → Int32), k261_6 x4 a5 = some o → Go X layM S 261 [(0, .ref (x_q X 0)), (1, .int p1), (2, .int p2), (3, .int x4)] [] g [] [] [(18, a5), (19, (S.2.2.1 19))] [] [] 0 0 := by
      intro x4 a5 hf
      have hf := hk261_6 x4 a5 hf
      clear hk261_6
      refine go_iload_n (pc' := 262) hC dX12_oneMore_261 rfl rfl ?_
      refine go_iload_n (pc' := 263) hC dX12_oneMore_262 rfl rfl ?_
      refine go_ishr (pc' := 264) hC dX12_oneMore_263 rfl ?_
      refine go_iconst (pc' := 265) hC dX12_oneMore_264 ki_1 rfl ?_
      refine go_iand (pc' := 266) hC dX12_oneMore_265 rfl ?_
      refine go_if_ne (tgt := 271) (pc' := 269) hC dX12_oneMore_266 (by decide) rfl (fun h31 => ?_) (fun h31 => ?_)
      · have hf := ite_f h31 hf
        refine go_iload_n (pc' := 272) hC dX12_oneMore_271 rfl rfl ?_
        refine go_istore (lc' := [(0, .ref (x_q X 0)), (1, .int p1), (2, .int p2), (3, .int x4), (5, .int p2)]) (pc' := 274) hC dX12_oneMore_272 (Nat.le_of_ble_eq_true rfl) rfl rfl ?_
        have l274_30 : ∀ (nn : Nat) (x7 : Int32) (a8 : Nat → Int32), it2 (f_X12_oneMore_L274 S p1 a5) nn x7 a8 = some o → Go X layM S 274 [(0, .ref (x_q X 0)), (1, .int p1), (5, .int x7)] [] g [] [] [(18, a5), (19, a8)] [] [] 0 0 := by
          intro nn
          induction nn with
          | zero =>
            intro x7 a8 hf
            exact none_no hf
          | succ nn ih =>
            intro x7 a8 hf
            have hf : f_X12_oneMore_L274 S p1 a5 (it2 (f_X12_oneMore_L274 S p1 a5) nn) x7 a8 = some o := hf
            generalize it2 (f_X12_oneMore_L274 S p1 a5) nn = r9 at ih hf
            unfold f_X12_oneMore_L274 at hf
            refine go_iload (pc' := 276) hC dX12_oneMore_274 rfl rfl ?_
            refine go_iload_n (pc' := 277) hC dX12_oneMore_276 rfl rfl ?_
            refine go_icmp_eq (tgt := 366) (pc' := 280) hC dX12_oneMore_277 (by decide) rfl (fun h29 => ?_) (fun h29 => ?_)
            · have hf := ite_t h29 hf
              refine go_iconst (pc' := 367) hC dX12_oneMore_366 ki_1 rfl ?_
              obtain rfl := Option.some.inj hf
              exact go_iret hC hQ dX12_oneMore_367 rfl rfl rfl rfl (fun _ => rfl) rfl rfl
            · have hf := ite_f h29 hf
              refine go_aload_n (pc' := 281) hC dX12_oneMore_280 rfl rfl ?_
              refine go_getq (pc' := 284) hC 0 41 layM_0 rfl rfl inlX12 (Nat.le_of_ble_eq_true rfl) mw_198 rfl dX12_oneMore_281 rfl ?_
              refine go_iload (pc' := 286) hC dX12_oneMore_284 rfl rfl ?_
              obtain ⟨h10, hf⟩ := gd_e hf
              refine go_iald (f := a5) (pc' := 287) hC 18 layM_18 rfl rfl dX12_oneMore_286 (okx_in h10) rfl ?_
              refine go_namei (fun x11 hx => ?_)
              have hf := lz_r hx hf
              clear hx
              refine go_istore (lc' := [(0, .ref (x_q X 0)), (1, .int p1), (5, .int x7), (6, .int x11)]) (pc' := 289) hC dX12_oneMore_287 (Nat.le_of_ble_eq_true rfl) rfl rfl ?_
              refine go_aload_n (pc' := 290) hC dX12_oneMore_289 rfl rfl ?_
              refine go_getq (pc' := 293) hC 0 23 layM_0 rfl rfl inlX12 (Nat.le_of_ble_eq_true rfl) mw_188 rfl dX12_oneMore_290 rfl ?_
              refine go_iload (pc' := 295) hC dX12_oneMore_293 rfl rfl ?_
              obtain ⟨h12, hf⟩ := gd_e hf
              refine go_iald (f := (S.2.2.1 9)) (pc' := 296) hC 9 layM_9 rfl rfl dX12_oneMore_295 (okx_in h12) rfl ?_
              refine go_iload (pc' := 298) hC dX12_oneMore_296 rfl rfl ?_
              obtain ⟨k306_14, hk306_14, hf⟩ := lk_e1 hf
              have jk306_14 : ∀ (x13 : Int32), k306_14 x13 = some o → Go X layM S 306 [(0, .ref (x_q X 0)), (1, .int p1), (6, .int x11)] [.int x13] g [] [] [(18, a5), (19, a8)] [] [] 0 0 := by
                intro x13 hf
                have hf := hk306_14 x13 hf
                clear hk306_14
                refine go_istore (lc' := [(0, .ref (x_q X 0)), (1, .int p1), (6, .int x11), (7, .int x13)]) (pc' := 308) hC dX12_oneMore_306 (Nat.le_of_ble_eq_true rfl) rfl rfl ?_
                refine go_aload_n (pc' := 309) hC dX12_oneMore_308 rfl rfl ?_
                refine go_getq (pc' := 312) hC 0 42 layM_0 rfl rfl inlX12 (Nat.le_of_ble_eq_true rfl) mw_199 rfl dX12_oneMore_309 rfl ?_
                refine go_iload (pc' := 314) hC dX12_oneMore_312 rfl rfl ?_
                refine go_aload_n (pc' := 315) hC dX12_oneMore_314 rfl rfl ?_
                refine go_getq (pc' := 318) hC 0 42 layM_0 rfl rfl inlX12 (Nat.le_of_ble_eq_true rfl) mw_199 rfl dX12_oneMore_315 rfl ?_
                refine go_iload (pc' := 320) hC dX12_oneMore_318 rfl rfl ?_
                obtain ⟨h15, hf⟩ := gd_e hf
                refine go_iald (f := a8) (pc' := 321) hC 19 layM_19 rfl rfl dX12_oneMore_320 (okx_in h15) rfl ?_
                obtain ⟨k338_18, hk338_18, hf⟩ := lk_e2 hf
                have jk338_18 : ∀ (x16 : Int32) (x17 : Int32), k338_18 x16 x17 = some o → Go X layM S 338 [(0, .ref (x_q X 0)), (1, .int p1), (6, .int x11), (7, .int x13)] [.int x16, .int x17, .ref (x_q X 19)] g [] [] [(18, a5), (19, a8)] [] [] 0 0 := by
                  intro x16 x17 hf
                  have hf := hk338_18 x16 x17 hf
                  clear hk338_18
                  obtain ⟨h19, hf⟩ := gd_e hf
                  refine go_iast (f := a8) (pc' := 339) hC 19 layM_19 rfl rfl dX12_oneMore_338 (okx_in h19) rfl rfl (fun a20 ha L3' hL => ?_)
                  have hf := lz_r ha hf
                  clear ha
                  obtain rfl : L3' = [(18, a5), (19, a20)] := hL.symm
                  refine go_iload (pc' := 341) hC dX12_oneMore_339 rfl rfl ?_
                  obtain ⟨k361_22, hk361_22, hf⟩ := lk_e1 hf
                  have jk361_22 : ∀ (x21 : Int32), k361_22 x21 = some o → Go X layM S 361 [(0, .ref (x_q X 0)), (1, .int p1)] [.int x21] g [] [] [(18, a5), (19, a20)] [] [] 0 0 := by
                    intro x21 hf
                    have hf := hk361_22 x21 hf
                    clear hk361_22
                    refine go_istore (lc' := [(0, .ref (x_q X 0)), (1, .int p1), (5, .int x21)]) (pc' := 363) hC dX12_oneMore_361 (Nat.le_of_ble_eq_true rfl) rfl rfl ?_
                    refine go_goto (tgt := 274) hC dX12_oneMore_363 (by decide) ?_
                    exact ih x21 a20 hf
                  clear hk361_22
                  refine go_if_eq (tgt := 354) (pc' := 344) hC dX12_oneMore_341 (by decide) rfl (fun h25 => ?_) (fun h25 => ?_)
                  · have hf := ite_t h25 hf
                    refine go_aload_n (pc' := 355) hC dX12_oneMore_354 rfl rfl ?_
                    refine go_getq (pc' := 358) hC 0 23 layM_0 rfl rfl inlX12 (Nat.le_of_ble_eq_true rfl) mw_188 rfl dX12_oneMore_355 rfl ?_
                    refine go_iload (pc' := 360) hC dX12_oneMore_358 rfl rfl ?_
                    obtain ⟨h23, hf⟩ := gd_e hf
                    refine go_iald (f := (S.2.2.1 9)) (pc' := 361) hC 9 layM_9 rfl rfl dX12_oneMore_360 (okx_in h23) rfl ?_
                    refine go_sub [0, 1] rfl ?_
                    exact jk361_22 ((S.2.2.1 9) x11.toNatClampNeg) hf
                  · have hf := ite_f h25 hf
                    refine go_aload_n (pc' := 345) hC dX12_oneMore_344 rfl rfl ?_
                    refine go_getq (pc' := 348) hC 0 22 layM_0 rfl rfl inlX12 (Nat.le_of_ble_eq_true rfl) mw_187 rfl dX12_oneMore_345 rfl ?_
                    refine go_iload (pc' := 350) hC dX12_oneMore_348 rfl rfl ?_
                    obtain ⟨h24, hf⟩ := gd_e hf
                    refine go_iald (f := (S.2.2.1 8)) (pc' := 351) hC 8 layM_8 rfl rfl dX12_oneMore_350 (okx_in h24) rfl ?_
                    refine go_goto (tgt := 361) hC dX12_oneMore_351 (by decide) ?_
                    refine go_sub [0, 1] rfl ?_
                    exact jk361_22 ((S.2.2.1 8) x11.toNatClampNeg) hf
                clear hk338_18
                refine go_if_le (tgt := 328) (pc' := 324) hC dX12_oneMore_321 (by decide) rfl (fun h27 => ?_) (fun h27 => ?_)
                · have hf := ite_t h27 hf
                  refine go_iload (pc' := 330) hC dX12_oneMore_328 rfl rfl ?_
                  refine go_if_eq (tgt := 337) (pc' := 333) hC dX12_oneMore_330 (by decide) rfl (fun h26 => ?_) (fun h26 => ?_)
                  · have hf := ite_t h26 hf
                    refine go_iconst (pc' := 338) hC dX12_oneMore_337 ki_2 rfl ?_
                    exact jk338_18 (2 : Int32) x11 hf
                  · have hf := ite_f h26 hf
                    refine go_iconst (pc' := 334) hC dX12_oneMore_333 ki_1 rfl ?_
                    refine go_goto (tgt := 338) hC dX12_oneMore_334 (by decide) ?_
                    exact jk338_18 (1 : Int32) x11 hf
                · have hf := ite_f h27 hf
                  refine go_iconst (pc' := 325) hC dX12_oneMore_324 ki_0 rfl ?_
                  refine go_goto (tgt := 338) hC dX12_oneMore_325 (by decide) ?_
                  exact jk338_18 (0 : Int32) x11 hf
              clear hk306_14
              refine go_icmp_ne (tgt := 305) (pc' := 301) hC dX12_oneMore_298 (by decide) rfl (fun h28 => ?_) (fun h28 => ?_)
              · have hf := ite_f h28 hf
                refine go_iconst (pc' := 306) hC dX12_oneMore_305 ki_0 rfl ?_
                refine go_sub [0, 1, 6] rfl ?_
                exact jk306_14 (0 : Int32) hf
              · have hf := ite_t h28 hf
                refine go_iconst (pc' := 302) hC dX12_oneMore_301 ki_1 rfl ?_
                refine go_goto (tgt := 306) hC dX12_oneMore_302 (by decide) ?_
                refine go_sub [0, 1, 6] rfl ?_
                exact jk306_14 (1 : Int32) hf
        refine go_sub [0, 1, 5] rfl ?_
        exact l274_30 fuel p2 (S.2.2.1 19) hf
      · have hf := ite_t h31 hf
        refine go_iconst (pc' := 270) hC dX12_oneMore_269 ki_0 rfl ?_
        obtain rfl := Option.some.inj hf
        exact go_iret hC hQ dX12_oneMore_270 rfl rfl rfl rfl (fun _ => rfl) rfl rfl
    clear hk261_6
    have l30_89 : ∀ (nn : Nat) (x32 : Int32) (x33 : Int32) (a34 : Nat → Int32), it3 (f_X12_oneMore_L30 S k261_6) nn x32 x33 a34 = some o → Go X layM S 30 [(0, .ref (x_q X 0)), (1, .int p1), (2, .int p2), (3, .int x32), (4, .int x33)] [] g [] [] [(18, a34), (19, (S.2.2.1 19))] [] [] 0 0 := by
      intro nn
      induction nn with
      | zero =>
        intro x32 x33 a34 hf
        exact none_no hf
      | succ nn ih =>
        intro x32 x33 a34 hf
        have hf : f_X12_oneMore_L30 S k261_6 (it3 (f_X12_oneMore_L30 S k261_6) nn) x32 x33 a34 = some o := hf
        generalize it3 (f_X12_oneMore_L30 S k261_6) nn = r35 at ih hf
        unfold f_X12_oneMore_L30 at hf
        refine go_iload_n (pc' := 31) hC dX12_oneMore_30 rfl rfl ?_
        refine go_iload (pc' := 33) hC dX12_oneMore_31 rfl rfl ?_
        refine go_icmp_eq (tgt := 261) (pc' := 36) hC dX12_oneMore_33 (by decide) rfl (fun h88 => ?_) (fun h88 => ?_)
        · have hf := ite_t h88 hf
          refine go_sub [0, 1, 2, 3] rfl ?_
          exact jk261_6 x32 a34 hf
        · have hf := ite_f h88 hf
          refine go_iload_n (pc' := 37) hC dX12_oneMore_36 rfl rfl ?_
          refine go_istore (lc' := [(0, .ref (x_q X 0)), (1, .int p1), (2, .int p2), (3, .int x32), (4, .int x32)]) (pc' := 39) hC dX12_oneMore_37 (Nat.le_of_ble_eq_true rfl) rfl rfl ?_
          refine go_iconst (pc' := 40) hC dX12_oneMore_39 ki_0 rfl ?_
          refine go_istore (lc' := [(0, .ref (x_q X 0)), (1, .int p1), (2, .int p2), (3, .int x32), (4, .int x32), (5, .int (0 : Int32))]) (pc' := 42) hC dX12_oneMore_40 (Nat.le_of_ble_eq_true rfl) rfl rfl ?_
          obtain ⟨k258_38, hk258_38, hf⟩ := lk_e2 hf
          have jk258_38 : ∀ (x36 : Int32) (a37 : Nat → Int32), k258_38 x36 a37 = some o → Go X layM S 258 [(0, .ref (x_q X 0)), (1, .int p1), (2, .int p2), (3, .int x36), (4, .int x32)] [] g [] [] [(18, a37), (19, (S.2.2.1 19))] [] [] 0 0 := by
            intro x36 a37 hf
            have hf := hk258_38 x36 a37 hf
            clear hk258_38
            refine go_goto (tgt := 30) hC dX12_oneMore_258 (by decide) ?_
            exact ih x36 x32 a37 hf
          clear hk258_38
          have l42_87 : ∀ (nn : Nat) (x39 : Int32) (x40 : Int32) (a41 : Nat → Int32), it3 (f_X12_oneMore_L42 S k258_38) nn x39 x40 a41 = some o → Go X layM S 42 [(0, .ref (x_q X 0)), (1, .int p1), (2, .int p2), (3, .int x39), (4, .int x32), (5, .int x40)] [] g [] [] [(18, a41), (19, (S.2.2.1 19))] [] [] 0 0 := by
            intro nn
            induction nn with
            | zero =>
              intro x39 x40 a41 hf
              exact none_no hf
            | succ nn ih =>
              intro x39 x40 a41 hf
              have hf : f_X12_oneMore_L42 S k258_38 (it3 (f_X12_oneMore_L42 S k258_38) nn) x39 x40 a41 = some o := hf
              generalize it3 (f_X12_oneMore_L42 S k258_38) nn = r42 at ih hf
              unfold f_X12_oneMore_L42 at hf
              refine go_iload (pc' := 44) hC dX12_oneMore_42 rfl rfl ?_
              refine go_aload_n (pc' := 45) hC dX12_oneMore_44 rfl rfl ?_
              refine go_geti (v := (S.1 21)) (pc' := 48) hC 0 21 layM_0 rfl rfl inlX12 (Nat.le_of_ble_eq_true rfl) mw_247 rfl dX12_oneMore_45 rfl rfl ?_
              refine go_icmp_gt (tgt := 258) (pc' := 51) hC dX12_oneMore_48 (by decide) rfl (fun h86 => ?_) (fun h86 => ?_)
              · have hf := ite_t h86 hf
                refine go_sub [0, 1, 2, 3, 4] rfl ?_
                exact jk258_38 x39 a41 hf
              · have hf := ite_f h86 hf
                refine go_aload_n (pc' := 52) hC dX12_oneMore_51 rfl rfl ?_
                refine go_iload (pc' := 54) hC dX12_oneMore_52 rfl rfl ?_
                obtain ⟨o43, ho43, hf⟩ := bd_e hf
                refine go_callV0 (pc' := 57) (As := [.int x40]) (st := []) (st' := [.int o43])    (b := 0) hC dX12_oneMore_54 ⟨mw_886, mw_889, mw_5, yd_yX12_isOpen, yp_yX12_isOpen, Nat.le_of_ble_eq_true rfl, Nat.le_of_ble_eq_true rfl, (Nat.le_of_ble_eq_true rfl), (Nat.le_of_ble_eq_true rfl)⟩ mw_887 mw_888 layM_0 rfl rfl rfl (Nat.le_of_ble_eq_true rfl) (c_X12_isOpen (x_l X) (x_D X) (x_q X) g (x_cy X) (x_z X) _ x40 o43 ho43) rfl rfl ?_
                obtain ⟨k252_46, hk252_46, hf⟩ := lk_e2 hf
                have jk252_46 : ∀ (x44 : Int32) (a45 : Nat → Int32), k252_46 x44 a45 = some o → Go X layM S 252 [(0, .ref (x_q X 0)), (1, .int p1), (2, .int p2), (3, .int x44), (4, .int x32), (5, .int x40)] [] g [] [] [(18, a45), (19, (S.2.2.1 19))] [] [] 0 0 := by
                  intro x44 a45 hf
                  have hf := hk252_46 x44 a45 hf
                  clear hk252_46
                  refine go_iinc (lc' := [(0, .ref (x_q X 0)), (1, .int p1), (2, .int p2), (3, .int x44), (4, .int x32), (5, .int (x40 + (1 : Int32)))]) (pc' := 255) hC dX12_oneMore_252 rfl ki_1 (Nat.le_of_ble_eq_true rfl) rfl rfl ?_
                  refine go_goto (tgt := 42) hC dX12_oneMore_255 (by decide) ?_
                  exact ih x44 (x40 + (1 : Int32)) a45 hf
                clear hk252_46
                refine go_if_ne (tgt := 63) (pc' := 60) hC dX12_oneMore_57 (by decide) rfl (fun h85 => ?_) (fun h85 => ?_)
                · have hf := ite_f h85 hf
                  refine go_aload_n (pc' := 64) hC dX12_oneMore_63 rfl rfl ?_
                  refine go_getq (pc' := 67) hC 0 42 layM_0 rfl rfl inlX12 (Nat.le_of_ble_eq_true rfl) mw_199 rfl dX12_oneMore_64 rfl ?_
                  refine go_iload (pc' := 69) hC dX12_oneMore_67 rfl rfl ?_
                  obtain ⟨h47, hf⟩ := gd_e hf
                  refine go_iald (f := (S.2.2.1 19)) (pc' := 70) hC 19 layM_19 rfl rfl dX12_oneMore_69 (okx_in h47) rfl ?_
                  refine go_iconst (pc' := 71) hC dX12_oneMore_70 ki_2 rfl ?_
                  obtain ⟨k89_49, hk89_49, hf⟩ := lk_e1 hf
                  have jk89_49 : ∀ (x48 : Int32), k89_49 x48 = some o → Go X layM S 89 [(0, .ref (x_q X 0)), (1, .int p1), (2, .int p2), (3, .int x39), (4, .int x32), (5, .int x40)] [.int x48] g [] [] [(18, a41), (19, (S.2.2.1 19))] [] [] 0 0 := by
                    intro x48 hf
                    have hf := hk89_49 x48 hf
                    clear hk89_49
                    refine go_istore (lc' := [(0, .ref (x_q X 0)), (1, .int p1), (2, .int p2), (3, .int x39), (4, .int x32), (5, .int x40), (6, .int x48)]) (pc' := 91) hC dX12_oneMore_89 (Nat.le_of_ble_eq_true rfl) rfl rfl ?_
                    refine go_aload_n (pc' := 92) hC dX12_oneMore_91 rfl rfl ?_
                    refine go_getq (pc' := 95) hC 0 42 layM_0 rfl rfl inlX12 (Nat.le_of_ble_eq_true rfl) mw_199 rfl dX12_oneMore_92 rfl ?_
                    refine go_iload (pc' := 97) hC dX12_oneMore_95 rfl rfl ?_
                    obtain ⟨h50, hf⟩ := gd_e hf
                    refine go_iald (f := (S.2.2.1 19)) (pc' := 98) hC 19 layM_19 rfl rfl dX12_oneMore_97 (okx_in h50) rfl ?_
                    refine go_iconst (pc' := 99) hC dX12_oneMore_98 ki_1 rfl ?_
                    obtain ⟨k127_52, hk127_52, hf⟩ := lk_e1 hf
                    have jk127_52 : ∀ (x51 : Int32), k127_52 x51 = some o → Go X layM S 127 [(0, .ref (x_q X 0)), (1, .int p1), (2, .int p2), (3, .int x39), (4, .int x32), (5, .int x40), (6, .int x48)] [.int x51] g [] [] [(18, a41), (19, (S.2.2.1 19))] [] [] 0 0 := by
                      intro x51 hf
                      have hf := hk127_52 x51 hf
                      clear hk127_52
                      refine go_istore (lc' := [(0, .ref (x_q X 0)), (1, .int p1), (2, .int p2), (3, .int x39), (4, .int x32), (5, .int x40), (6, .int x48), (7, .int x51)]) (pc' := 129) hC dX12_oneMore_127 (Nat.le_of_ble_eq_true rfl) rfl rfl ?_
                      refine go_iload (pc' := 131) hC dX12_oneMore_129 rfl rfl ?_
                      obtain ⟨k192_53, hk192_53, hf⟩ := lk_e0 hf
                      have jk192_53 : ∀ (_ : Unit), k192_53 = some o → Go X layM S 192 [(0, .ref (x_q X 0)), (1, .int p1), (2, .int p2), (3, .int x39), (4, .int x32), (5, .int x40), (7, .int x51)] [] g [] [] [(18, a41), (19, (S.2.2.1 19))] [] [] 0 0 := by
                        intro _ hf
                        have hf := hk192_53 hf
                        clear hk192_53
                        refine go_iload (pc' := 194) hC dX12_oneMore_192 rfl rfl ?_
                        refine go_if_eq (tgt := 252) (pc' := 197) hC dX12_oneMore_194 (by decide) rfl (fun h63 => ?_) (fun h63 => ?_)
                        · have hf := ite_t h63 hf
                          refine go_sub [0, 1, 2, 3, 4, 5] rfl ?_
                          exact jk252_46 x39 a41 hf
                        · have hf := ite_f h63 hf
                          refine go_iload_n (pc' := 198) hC dX12_oneMore_197 rfl rfl ?_
                          refine go_aload_n (pc' := 199) hC dX12_oneMore_198 rfl rfl ?_
                          refine go_getq (pc' := 202) hC 0 23 layM_0 rfl rfl inlX12 (Nat.le_of_ble_eq_true rfl) mw_188 rfl dX12_oneMore_199 rfl ?_
                          refine go_iload (pc' := 204) hC dX12_oneMore_202 rfl rfl ?_
                          obtain ⟨h54, hf⟩ := gd_e hf
                          refine go_iald (f := (S.2.2.1 9)) (pc' := 205) hC 9 layM_9 rfl rfl dX12_oneMore_204 (okx_in h54) rfl ?_
                          refine go_ishr (pc' := 206) hC dX12_oneMore_205 rfl ?_
                          refine go_iconst (pc' := 207) hC dX12_oneMore_206 ki_1 rfl ?_
                          refine go_iand (pc' := 208) hC dX12_oneMore_207 rfl ?_
                          refine go_iconst (pc' := 209) hC dX12_oneMore_208 ki_1 rfl ?_
                          refine go_icmp_ne (tgt := 252) (pc' := 212) hC dX12_oneMore_209 (by decide) rfl (fun h62 => ?_) (fun h62 => ?_)
                          · have hf := ite_f h62 hf
                            refine go_sub [0, 1, 2, 3, 4, 5] rfl ?_
                            exact jk252_46 x39 a41 hf
                          · have hf := ite_t h62 hf
                            refine go_iload_n (pc' := 213) hC dX12_oneMore_212 rfl rfl ?_
                            refine go_aload_n (pc' := 214) hC dX12_oneMore_213 rfl rfl ?_
                            refine go_getq (pc' := 217) hC 0 22 layM_0 rfl rfl inlX12 (Nat.le_of_ble_eq_true rfl) mw_187 rfl dX12_oneMore_214 rfl ?_
                            refine go_iload (pc' := 219) hC dX12_oneMore_217 rfl rfl ?_
                            obtain ⟨h55, hf⟩ := gd_e hf
                            refine go_iald (f := (S.2.2.1 8)) (pc' := 220) hC 8 layM_8 rfl rfl dX12_oneMore_219 (okx_in h55) rfl ?_
                            refine go_ishr (pc' := 221) hC dX12_oneMore_220 rfl ?_
                            refine go_iconst (pc' := 222) hC dX12_oneMore_221 ki_1 rfl ?_
                            refine go_iand (pc' := 223) hC dX12_oneMore_222 rfl ?_
                            refine go_if_ne (tgt := 252) (pc' := 226) hC dX12_oneMore_223 (by decide) rfl (fun h61 => ?_) (fun h61 => ?_)
                            · have hf := ite_f h61 hf
                              refine go_sub [0, 1, 2, 3, 4, 5] rfl ?_
                              exact jk252_46 x39 a41 hf
                            · have hf := ite_t h61 hf
                              refine go_iload_n (pc' := 227) hC dX12_oneMore_226 rfl rfl ?_
                              refine go_iconst (pc' := 228) hC dX12_oneMore_227 ki_1 rfl ?_
                              refine go_aload_n (pc' := 229) hC dX12_oneMore_228 rfl rfl ?_
                              refine go_getq (pc' := 232) hC 0 22 layM_0 rfl rfl inlX12 (Nat.le_of_ble_eq_true rfl) mw_187 rfl dX12_oneMore_229 rfl ?_
                              refine go_iload (pc' := 234) hC dX12_oneMore_232 rfl rfl ?_
                              obtain ⟨h56, hf⟩ := gd_e hf
                              refine go_iald (f := (S.2.2.1 8)) (pc' := 235) hC 8 layM_8 rfl rfl dX12_oneMore_234 (okx_in h56) rfl ?_
                              refine go_ishl (pc' := 236) hC dX12_oneMore_235 rfl ?_
                              refine go_ior (pc' := 237) hC dX12_oneMore_236 rfl ?_
                              refine go_namei (fun x57 hx => ?_)
                              have hf := lz_r hx hf
                              clear hx
                              refine go_istore_n (lc' := [(0, .ref (x_q X 0)), (1, .int p1), (2, .int p2), (3, .int x57), (4, .int x32), (5, .int x40), (7, .int x51)]) (pc' := 238) hC dX12_oneMore_237 (Nat.le_of_ble_eq_true rfl) rfl rfl ?_
                              refine go_aload_n (pc' := 239) hC dX12_oneMore_238 rfl rfl ?_
                              refine go_getq (pc' := 242) hC 0 41 layM_0 rfl rfl inlX12 (Nat.le_of_ble_eq_true rfl) mw_198 rfl dX12_oneMore_239 rfl ?_
                              refine go_aload_n (pc' := 243) hC dX12_oneMore_242 rfl rfl ?_
                              refine go_getq (pc' := 246) hC 0 22 layM_0 rfl rfl inlX12 (Nat.le_of_ble_eq_true rfl) mw_187 rfl dX12_oneMore_243 rfl ?_
                              refine go_iload (pc' := 248) hC dX12_oneMore_246 rfl rfl ?_
                              obtain ⟨h58, hf⟩ := gd_e hf
                              refine go_iald (f := (S.2.2.1 8)) (pc' := 249) hC 8 layM_8 rfl rfl dX12_oneMore_248 (okx_in h58) rfl ?_
                              refine go_iload (pc' := 251) hC dX12_oneMore_249 rfl rfl ?_
                              obtain ⟨h59, hf⟩ := gd_e hf
                              refine go_iast (f := a41) (pc' := 252) hC 18 layM_18 rfl rfl dX12_oneMore_251 (okx_in h59) rfl rfl (fun a60 ha L3' hL => ?_)
                              have hf := lz_r ha hf
                              clear ha
                              obtain rfl : L3' = [(18, a60), (19, (S.2.2.1 19))] := hL.symm
                              refine go_sub [0, 1, 2, 3, 4, 5] rfl ?_
                              exact jk252_46 x57 a60 hf
                      clear hk192_53
                      refine go_if_eq (tgt := 192) (pc' := 134) hC dX12_oneMore_131 (by decide) rfl (fun h73 => ?_) (fun h73 => ?_)
                      · have hf := ite_t h73 hf
                        refine go_sub [0, 1, 2, 3, 4, 5, 7] rfl ?_
                        exact jk192_53 () hf
                      · have hf := ite_f h73 hf
                        refine go_iload_n (pc' := 135) hC dX12_oneMore_134 rfl rfl ?_
                        refine go_aload_n (pc' := 136) hC dX12_oneMore_135 rfl rfl ?_
                        refine go_getq (pc' := 139) hC 0 22 layM_0 rfl rfl inlX12 (Nat.le_of_ble_eq_true rfl) mw_187 rfl dX12_oneMore_136 rfl ?_
                        refine go_iload (pc' := 141) hC dX12_oneMore_139 rfl rfl ?_
                        obtain ⟨h64, hf⟩ := gd_e hf
                        refine go_iald (f := (S.2.2.1 8)) (pc' := 142) hC 8 layM_8 rfl rfl dX12_oneMore_141 (okx_in h64) rfl ?_
                        refine go_ishr (pc' := 143) hC dX12_oneMore_142 rfl ?_
                        refine go_iconst (pc' := 144) hC dX12_oneMore_143 ki_1 rfl ?_
                        refine go_iand (pc' := 145) hC dX12_oneMore_144 rfl ?_
                        refine go_iconst (pc' := 146) hC dX12_oneMore_145 ki_1 rfl ?_
                        refine go_icmp_ne (tgt := 192) (pc' := 149) hC dX12_oneMore_146 (by decide) rfl (fun h72 => ?_) (fun h72 => ?_)
                        · have hf := ite_f h72 hf
                          refine go_sub [0, 1, 2, 3, 4, 5, 7] rfl ?_
                          exact jk192_53 () hf
                        · have hf := ite_t h72 hf
                          refine go_iload_n (pc' := 150) hC dX12_oneMore_149 rfl rfl ?_
                          refine go_aload_n (pc' := 151) hC dX12_oneMore_150 rfl rfl ?_
                          refine go_getq (pc' := 154) hC 0 23 layM_0 rfl rfl inlX12 (Nat.le_of_ble_eq_true rfl) mw_188 rfl dX12_oneMore_151 rfl ?_
                          refine go_iload (pc' := 156) hC dX12_oneMore_154 rfl rfl ?_
                          obtain ⟨h65, hf⟩ := gd_e hf
                          refine go_iald (f := (S.2.2.1 9)) (pc' := 157) hC 9 layM_9 rfl rfl dX12_oneMore_156 (okx_in h65) rfl ?_
                          refine go_ishr (pc' := 158) hC dX12_oneMore_157 rfl ?_
                          refine go_iconst (pc' := 159) hC dX12_oneMore_158 ki_1 rfl ?_
                          refine go_iand (pc' := 160) hC dX12_oneMore_159 rfl ?_
                          refine go_if_ne (tgt := 192) (pc' := 163) hC dX12_oneMore_160 (by decide) rfl (fun h71 => ?_) (fun h71 => ?_)
                          · have hf := ite_f h71 hf
                            refine go_sub [0, 1, 2, 3, 4, 5, 7] rfl ?_
                            exact jk192_53 () hf
                          · have hf := ite_t h71 hf
                            refine go_iload_n (pc' := 164) hC dX12_oneMore_163 rfl rfl ?_
                            refine go_iconst (pc' := 165) hC dX12_oneMore_164 ki_1 rfl ?_
                            refine go_aload_n (pc' := 166) hC dX12_oneMore_165 rfl rfl ?_
                            refine go_getq (pc' := 169) hC 0 23 layM_0 rfl rfl inlX12 (Nat.le_of_ble_eq_true rfl) mw_188 rfl dX12_oneMore_166 rfl ?_
                            refine go_iload (pc' := 171) hC dX12_oneMore_169 rfl rfl ?_
                            obtain ⟨h66, hf⟩ := gd_e hf
                            refine go_iald (f := (S.2.2.1 9)) (pc' := 172) hC 9 layM_9 rfl rfl dX12_oneMore_171 (okx_in h66) rfl ?_
                            refine go_ishl (pc' := 173) hC dX12_oneMore_172 rfl ?_
                            refine go_ior (pc' := 174) hC dX12_oneMore_173 rfl ?_
                            refine go_namei (fun x67 hx => ?_)
                            have hf := lz_r hx hf
                            clear hx
                            refine go_istore_n (lc' := [(0, .ref (x_q X 0)), (1, .int p1), (2, .int p2), (3, .int x67), (4, .int x32), (5, .int x40), (6, .int x48), (7, .int x51)]) (pc' := 175) hC dX12_oneMore_174 (Nat.le_of_ble_eq_true rfl) rfl rfl ?_
                            refine go_aload_n (pc' := 176) hC dX12_oneMore_175 rfl rfl ?_
                            refine go_getq (pc' := 179) hC 0 41 layM_0 rfl rfl inlX12 (Nat.le_of_ble_eq_true rfl) mw_198 rfl dX12_oneMore_176 rfl ?_
                            refine go_aload_n (pc' := 180) hC dX12_oneMore_179 rfl rfl ?_
                            refine go_getq (pc' := 183) hC 0 23 layM_0 rfl rfl inlX12 (Nat.le_of_ble_eq_true rfl) mw_188 rfl dX12_oneMore_180 rfl ?_
                            refine go_iload (pc' := 185) hC dX12_oneMore_183 rfl rfl ?_
                            obtain ⟨h68, hf⟩ := gd_e hf
                            refine go_iald (f := (S.2.2.1 9)) (pc' := 186) hC 9 layM_9 rfl rfl dX12_oneMore_185 (okx_in h68) rfl ?_
                            refine go_iload (pc' := 188) hC dX12_oneMore_186 rfl rfl ?_
                            obtain ⟨h69, hf⟩ := gd_e hf
                            refine go_iast (f := a41) (pc' := 189) hC 18 layM_18 rfl rfl dX12_oneMore_188 (okx_in h69) rfl rfl (fun a70 ha L3' hL => ?_)
                            have hf := lz_r ha hf
                            clear ha
                            obtain rfl : L3' = [(18, a70), (19, (S.2.2.1 19))] := hL.symm
                            refine go_goto (tgt := 252) hC dX12_oneMore_189 (by decide) ?_
                            refine go_sub [0, 1, 2, 3, 4, 5] rfl ?_
                            exact jk252_46 x67 a70 hf
                    clear hk127_52
                    obtain ⟨k122_74, hk122_74, hf⟩ := lk_e0 hf
                    have jk122_74 : ∀ (_ : Unit), k122_74 = some o → Go X layM S 122 [(0, .ref (x_q X 0)), (1, .int p1), (2, .int p2), (3, .int x39), (4, .int x32), (5, .int x40), (6, .int x48)] [] g [] [] [(18, a41), (19, (S.2.2.1 19))] [] [] 0 0 := by
                      intro _ hf
                      have hf := hk122_74 hf
                      clear hk122_74
                      refine go_iconst (pc' := 123) hC dX12_oneMore_122 ki_1 rfl ?_
                      refine go_goto (tgt := 127) hC dX12_oneMore_123 (by decide) ?_
                      exact jk127_52 (1 : Int32) hf
                    clear hk122_74
                    refine go_icmp_eq (tgt := 122) (pc' := 102) hC dX12_oneMore_99 (by decide) rfl (fun h80 => ?_) (fun h80 => ?_)
                    · have hf := ite_t h80 hf
                      exact jk122_74 () hf
                    · have hf := ite_f h80 hf
                      refine go_aload_n (pc' := 103) hC dX12_oneMore_102 rfl rfl ?_
                      refine go_getq (pc' := 106) hC 0 42 layM_0 rfl rfl inlX12 (Nat.le_of_ble_eq_true rfl) mw_199 rfl dX12_oneMore_103 rfl ?_
                      refine go_iload (pc' := 108) hC dX12_oneMore_106 rfl rfl ?_
                      obtain ⟨h75, hf⟩ := gd_e hf
                      refine go_iald (f := (S.2.2.1 19)) (pc' := 109) hC 19 layM_19 rfl rfl dX12_oneMore_108 (okx_in h75) rfl ?_
                      obtain ⟨k126_76, hk126_76, hf⟩ := lk_e0 hf
                      have jk126_76 : ∀ (_ : Unit), k126_76 = some o → Go X layM S 126 [(0, .ref (x_q X 0)), (1, .int p1), (2, .int p2), (3, .int x39), (4, .int x32), (5, .int x40), (6, .int x48)] [] g [] [] [(18, a41), (19, (S.2.2.1 19))] [] [] 0 0 := by
                        intro _ hf
                        have hf := hk126_76 hf
                        clear hk126_76
                        refine go_iconst (pc' := 127) hC dX12_oneMore_126 ki_0 rfl ?_
                        exact jk127_52 (0 : Int32) hf
                      clear hk126_76
                      refine go_if_ne (tgt := 126) (pc' := 112) hC dX12_oneMore_109 (by decide) rfl (fun h79 => ?_) (fun h79 => ?_)
                      · have hf := ite_f h79 hf
                        exact jk126_76 () hf
                      · have hf := ite_t h79 hf
                        refine go_aload_n (pc' := 113) hC dX12_oneMore_112 rfl rfl ?_
                        refine go_getq (pc' := 116) hC 0 25 layM_0 rfl rfl inlX12 (Nat.le_of_ble_eq_true rfl) mw_191 rfl dX12_oneMore_113 rfl ?_
                        refine go_iload (pc' := 118) hC dX12_oneMore_116 rfl rfl ?_
                        obtain ⟨h77, hf⟩ := gd_e hf
                        refine go_zald (f := (S.2.2.1 11)) (pc' := 119) hC 11 layM_11 rfl rfl dX12_oneMore_118 (okx_in h77) rfl ?_
                        refine go_if_eq (tgt := 126) (pc' := 122) hC dX12_oneMore_119 (by decide) rfl (fun h78 => ?_) (fun h78 => ?_)
                        · have hf := ite_t h78 hf
                          exact jk126_76 () hf
                        · have hf := ite_f h78 hf
                          exact jk122_74 () hf
                  clear hk89_49
                  obtain ⟨k84_81, hk84_81, hf⟩ := lk_e0 hf
                  have jk84_81 : ∀ (_ : Unit), k84_81 = some o → Go X layM S 84 [(0, .ref (x_q X 0)), (1, .int p1), (2, .int p2), (3, .int x39), (4, .int x32), (5, .int x40)] [] g [] [] [(18, a41), (19, (S.2.2.1 19))] [] [] 0 0 := by
                    intro _ hf
                    have hf := hk84_81 hf
                    clear hk84_81
                    refine go_iconst (pc' := 85) hC dX12_oneMore_84 ki_1 rfl ?_
                    refine go_goto (tgt := 89) hC dX12_oneMore_85 (by decide) ?_
                    exact jk89_49 (1 : Int32) hf
                  clear hk84_81
                  refine go_icmp_eq (tgt := 84) (pc' := 74) hC dX12_oneMore_71 (by decide) rfl (fun h84 => ?_) (fun h84 => ?_)
                  · have hf := ite_t h84 hf
                    exact jk84_81 () hf
                  · have hf := ite_f h84 hf
                    refine go_aload_n (pc' := 75) hC dX12_oneMore_74 rfl rfl ?_
                    refine go_getq (pc' := 78) hC 0 42 layM_0 rfl rfl inlX12 (Nat.le_of_ble_eq_true rfl) mw_199 rfl dX12_oneMore_75 rfl ?_
                    refine go_iload (pc' := 80) hC dX12_oneMore_78 rfl rfl ?_
                    obtain ⟨h82, hf⟩ := gd_e hf
                    refine go_iald (f := (S.2.2.1 19)) (pc' := 81) hC 19 layM_19 rfl rfl dX12_oneMore_80 (okx_in h82) rfl ?_
                    refine go_if_ne (tgt := 88) (pc' := 84) hC dX12_oneMore_81 (by decide) rfl (fun h83 => ?_) (fun h83 => ?_)
                    · have hf := ite_f h83 hf
                      refine go_iconst (pc' := 89) hC dX12_oneMore_88 ki_0 rfl ?_
                      exact jk89_49 (0 : Int32) hf
                    · have hf := ite_t h83 hf
                      exact jk84_81 () hf
                · have hf := ite_t h85 hf
                  refine go_goto (tgt := 252) hC dX12_oneMore_60 (by decide) ?_
                  exact jk252_46 x39 a41 hf
          exact l42_87 fuel x32 (0 : Int32) a34 hf
    exact l30_89 fuel x3 (0 : Int32) a1 hf
  clear hk23_2
  have l2_96 : ∀ (nn : Nat) (x90 : Int32) (a91 : Nat → Int32), it2 (f_X12_oneMore_L2 S k23_2) nn x90 a91 = some o → Go X layM S 2 [(0, .ref (x_q X 0)), (1, .int p1), (2, .int p2), (3, .int x90)] [] g [] [] [(18, a91), (19, (S.2.2.1 19))] [] [] 0 0 := by
    intro nn
    induction nn with
    | zero =>
      intro x90 a91 hf
      exact none_no hf
    | succ nn ih =>
      intro x90 a91 hf
      have hf : f_X12_oneMore_L2 S k23_2 (it2 (f_X12_oneMore_L2 S k23_2) nn) x90 a91 = some o := hf
      generalize it2 (f_X12_oneMore_L2 S k23_2) nn = r92 at ih hf
      unfold f_X12_oneMore_L2 at hf
      refine go_iload_n (pc' := 3) hC dX12_oneMore_2 rfl rfl ?_
      refine go_aload_n (pc' := 4) hC dX12_oneMore_3 rfl rfl ?_
      refine go_geti (v := (S.1 20)) (pc' := 7) hC 0 20 layM_0 rfl rfl inlX12 (Nat.le_of_ble_eq_true rfl) mw_246 rfl dX12_oneMore_4 rfl rfl ?_
      refine go_icmp_ge (tgt := 23) (pc' := 10) hC dX12_oneMore_7 (by decide) rfl (fun h95 => ?_) (fun h95 => ?_)
      · have hf := ite_t h95 hf
        refine go_sub [0, 1, 2] rfl ?_
        exact jk23_2 a91 hf
      · have hf := ite_f h95 hf
        refine go_aload_n (pc' := 11) hC dX12_oneMore_10 rfl rfl ?_
        refine go_getq (pc' := 14) hC 0 41 layM_0 rfl rfl inlX12 (Nat.le_of_ble_eq_true rfl) mw_198 rfl dX12_oneMore_11 rfl ?_
        refine go_iload_n (pc' := 15) hC dX12_oneMore_14 rfl rfl ?_
        refine go_iconst (pc' := 16) hC dX12_oneMore_15 ki_m1 rfl ?_
        obtain ⟨h93, hf⟩ := gd_e hf
        refine go_iast (f := a91) (pc' := 17) hC 18 layM_18 rfl rfl dX12_oneMore_16 (okx_in h93) rfl rfl (fun a94 ha L3' hL => ?_)
        have hf := lz_r ha hf
        clear ha
        obtain rfl : L3' = [(18, a94), (19, (S.2.2.1 19))] := hL.symm
        refine go_iinc (lc' := [(0, .ref (x_q X 0)), (1, .int p1), (2, .int p2), (3, .int (x90 + (1 : Int32)))]) (pc' := 20) hC dX12_oneMore_17 rfl ki_1 (Nat.le_of_ble_eq_true rfl) rfl rfl ?_
        refine go_goto (tgt := 2) hC dX12_oneMore_20 (by decide) ?_
        exact ih (x90 + (1 : Int32)) a94 hf
  exact l2_96 fuel (0 : Int32) (S.2.2.1 18) hf
theorem dX12_areTwo_0 : decode cX12_areTwo 0 = .ok (.iconst 0, 1) := by decide +kernel
theorem dX12_areTwo_1 : decode cX12_areTwo 1 = .ok (.istore_n 3, 1) := by decide +kernel
theorem dX12_areTwo_2 : decode cX12_areTwo 2 = .ok (.iload_n 3, 1) := by decide +kernel
theorem dX12_areTwo_3 : decode cX12_areTwo 3 = .ok (.aload_n 0, 1) := by decide +kernel
theorem dX12_areTwo_4 : decode cX12_areTwo 4 = .ok (.getfield 279, 3) := by decide +kernel
theorem dX12_areTwo_7 : decode cX12_areTwo 7 = .ok (.if_icmp .gt 16, 3) := by decide +kernel
theorem dX12_areTwo_10 : decode cX12_areTwo 10 = .ok (.aload_n 0, 1) := by decide +kernel
theorem dX12_areTwo_11 : decode cX12_areTwo 11 = .ok (.getfield 66, 3) := by decide +kernel
theorem dX12_areTwo_14 : decode cX12_areTwo 14 = .ok (.iload_n 3, 1) := by decide +kernel
theorem dX12_areTwo_15 : decode cX12_areTwo 15 = .ok (.iconst 0, 1) := by decide +kernel
theorem dX12_areTwo_16 : decode cX12_areTwo 16 = .ok (.iastore, 1) := by decide +kernel
theorem dX12_areTwo_17 : decode cX12_areTwo 17 = .ok (.iinc 3 1, 3) := by decide +kernel
theorem dX12_areTwo_20 : decode cX12_areTwo 20 = .ok (.goto (-18), 3) := by decide +kernel
theorem dX12_areTwo_23 : decode cX12_areTwo 23 = .ok (.aload_n 0, 1) := by decide +kernel
theorem dX12_areTwo_24 : decode cX12_areTwo 24 = .ok (.getfield 318, 3) := by decide +kernel
theorem dX12_areTwo_27 : decode cX12_areTwo 27 = .ok (.iload_n 1, 1) := by decide +kernel
theorem dX12_areTwo_28 : decode cX12_areTwo 28 = .ok (.ishr, 1) := by decide +kernel
theorem dX12_areTwo_29 : decode cX12_areTwo 29 = .ok (.iconst 1, 1) := by decide +kernel
theorem dX12_areTwo_30 : decode cX12_areTwo 30 = .ok (.iand, 1) := by decide +kernel
theorem dX12_areTwo_31 : decode cX12_areTwo 31 = .ok (.iconst 1, 1) := by decide +kernel
theorem dX12_areTwo_32 : decode cX12_areTwo 32 = .ok (.if_icmp .ne 37, 3) := by decide +kernel
theorem dX12_areTwo_35 : decode cX12_areTwo 35 = .ok (.aload_n 0, 1) := by decide +kernel
theorem dX12_areTwo_36 : decode cX12_areTwo 36 = .ok (.getfield 318, 3) := by decide +kernel
theorem dX12_areTwo_39 : decode cX12_areTwo 39 = .ok (.iload_n 2, 1) := by decide +kernel
theorem dX12_areTwo_40 : decode cX12_areTwo 40 = .ok (.ishr, 1) := by decide +kernel
theorem dX12_areTwo_41 : decode cX12_areTwo 41 = .ok (.iconst 1, 1) := by decide +kernel
theorem dX12_areTwo_42 : decode cX12_areTwo 42 = .ok (.iand, 1) := by decide +kernel
theorem dX12_areTwo_43 : decode cX12_areTwo 43 = .ok (.iconst 1, 1) := by decide +kernel
theorem dX12_areTwo_44 : decode cX12_areTwo 44 = .ok (.if_icmp .ne 25, 3) := by decide +kernel
theorem dX12_areTwo_47 : decode cX12_areTwo 47 = .ok (.aload_n 0, 1) := by decide +kernel
theorem dX12_areTwo_48 : decode cX12_areTwo 48 = .ok (.iload_n 1, 1) := by decide +kernel
theorem dX12_areTwo_49 : decode cX12_areTwo 49 = .ok (.iload_n 2, 1) := by decide +kernel
theorem dX12_areTwo_50 : decode cX12_areTwo 50 = .ok (.invokevirtual 334, 3) := by decide +kernel
theorem dX12_areTwo_53 : decode cX12_areTwo 53 = .ok (.ifCond .eq 16, 3) := by decide +kernel
theorem dX12_areTwo_56 : decode cX12_areTwo 56 = .ok (.aload_n 0, 1) := by decide +kernel
theorem dX12_areTwo_57 : decode cX12_areTwo 57 = .ok (.iload_n 1, 1) := by decide +kernel
theorem dX12_areTwo_58 : decode cX12_areTwo 58 = .ok (.iload_n 2, 1) := by decide +kernel
theorem dX12_areTwo_59 : decode cX12_areTwo 59 = .ok (.invokevirtual 334, 3) := by decide +kernel
theorem dX12_areTwo_62 : decode cX12_areTwo 62 = .ok (.ifCond .eq 7, 3) := by decide +kernel
theorem dX12_areTwo_65 : decode cX12_areTwo 65 = .ok (.iconst 1, 1) := by decide +kernel
theorem dX12_areTwo_66 : decode cX12_areTwo 66 = .ok (.goto 4, 3) := by decide +kernel
theorem dX12_areTwo_69 : decode cX12_areTwo 69 = .ok (.iconst 0, 1) := by decide +kernel
theorem dX12_areTwo_70 : decode cX12_areTwo 70 = .ok (.ireturn, 1) := by decide +kernel
abbrev o_X12_areTwo : Type := Int32 × (Nat → Int32) × (Nat → Int32)
def f_X12_areTwo_L2 (S : wd_W) (k23_2 : (Nat → Int32) → (Option o_X12_areTwo)) (r11 : (Int32) → (Nat → Int32) → (Option o_X12_areTwo)) (x9 : Int32) (a10 : Nat → Int32) : Option o_X12_areTwo :=
if (S.1 21) < x9 then (
k23_2 a10) else (
gd (okx x9 13) <|
lz (upd a10 x9.toNatClampNeg (0 : Int32)) fun a13 =>
r11 (x9 + (1 : Int32)) a13)
def f_X12_areTwo (S : wd_W) (p1 : Int32) (p2 : Int32) : Option o_X12_areTwo :=
lk (fun a1 =>
if (((S.1 38) >>> (p1 &&& 31)) &&& (1 : Int32)) = (1 : Int32) then (
if (((S.1 38) >>> (p2 &&& 31)) &&& (1 : Int32)) = (1 : Int32) then (
bd (f_X12_oneMore (wd_o S [] [] [(18, (S.2.2.1 18)), (19, a1)] [] []) p1 p2) fun o3 =>
if o3.1 = 0 then (
some ((0 : Int32), o3.2.1, o3.2.2)) else (
bd (f_X12_oneMore (wd_o S [] [] [(18, o3.2.1), (19, o3.2.2)] [] []) p1 p2) fun o4 =>
if o4.1 = 0 then (
some ((0 : Int32), o4.2.1, o4.2.2)) else (
some ((1 : Int32), o4.2.1, o4.2.2)))) else (
some ((0 : Int32), (S.2.2.1 18), a1))) else (
some ((0 : Int32), (S.2.2.1 18), a1))) fun k23_2 =>
it2 (f_X12_areTwo_L2 S k23_2) fuel (0 : Int32) (S.2.2.1 19)
set_option maxRecDepth 100000 in
set_option maxHeartbeats 4000000 in
theorem c_X12_areTwo (l : Launch) (D : va_G) (q g : Nat → Nat) (cy : Nat → ClassId) (z : (Nat → Nat) × (Nat → Nat) × Nat) (S : wd_W) (p1 : Int32) (p2 : Int32) (o : o_X12_areTwo) (hf : f_X12_areTwo S p1 p2 = some o) : MX layM l yX12_areTwo cX12_areTwo 4 (some .boolean) ({ frames := 2, cells := 0, slots := 0, locals := 48 } : Room) D q g cy z [.ref (q 0), .int p1, .int p2] S false (some (.int o.1)) (wd_o S [] [] [(18, o.2.1), (19, o.2.2)] [] []) 0 0 := by
  refine mx_of (own := RX12) (lc := [(0, .ref (q 0)), (1, .int p1), (2, .int p2)]) (by decide +kernel) rfl layM_ok (Nat.le_of_ble_eq_true rfl) rfl ?_
  intro X hXl hXq hXz hC hQ
  subst hXl; subst hXq; subst hXz
  unfold f_X12_areTwo at hf
  refine go_keys (L1 := []) (L2 := []) (L3 := [(18, (S.2.2.1 18)), (19, (S.2.2.1 19))]) (L4 := []) (L5 := []) [] [] [18, 19] [] [] rfl rfl rfl rfl rfl ?_
  refine go_iconst (pc' := 1) hC dX12_areTwo_0 ki_0 rfl ?_
  refine go_istore_n (lc' := [(0, .ref (x_q X 0)), (1, .int p1), (2, .int p2), (3, .int (0 : Int32))]) (pc' := 2) hC dX12_areTwo_1 (Nat.le_of_ble_eq_true rfl) rfl rfl ?_
  obtain ⟨k23_2, hk23_2, hf⟩ := lk_e1 hf
  have jk23_2 : ∀ (a1 : Nat → Int32), k23_2 a1 = some o → Go X layM S 23 [(0, .ref (x_q X 0)), (1, .int p1), (2, .int p2)] [] g [] [] [(18, (S.2.2.1 18)), (19, a1)] [] [] 0 0 := by
    intro a1 hf
    have hf := hk23_2 a1 hf
    clear hk23_2
    refine go_aload_n (pc' := 24) hC dX12_areTwo_23 rfl rfl ?_
    refine go_geti (v := (S.1 38)) (pc' := 27) hC 0 38 layM_0 rfl rfl inlX12 (Nat.le_of_ble_eq_true rfl) mw_872 rfl dX12_areTwo_24 rfl rfl ?_
    refine go_iload_n (pc' := 28) hC dX12_areTwo_27 rfl rfl ?_
    refine go_ishr (pc' := 29) hC dX12_areTwo_28 rfl ?_
    refine go_iconst (pc' := 30) hC dX12_areTwo_29 ki_1 rfl ?_
    refine go_iand (pc' := 31) hC dX12_areTwo_30 rfl ?_
    refine go_iconst (pc' := 32) hC dX12_areTwo_31 ki_1 rfl ?_
    refine go_icmp_ne (tgt := 69) (pc' := 35) hC dX12_areTwo_32 (by decide) rfl (fun h8 => ?_) (fun h8 => ?_)
    · have hf := ite_f h8 hf
      refine go_iconst (pc' := 70) hC dX12_areTwo_69 ki_0 rfl ?_
      obtain rfl := Option.some.inj hf
      exact go_iret hC hQ dX12_areTwo_70 rfl rfl rfl rfl (fun _ => rfl) rfl rfl
    · have hf := ite_t h8 hf
      refine go_aload_n (pc' := 36) hC dX12_areTwo_35 rfl rfl ?_
      refine go_geti (v := (S.1 38)) (pc' := 39) hC 0 38 layM_0 rfl rfl inlX12 (Nat.le_of_ble_eq_true rfl) mw_872 rfl dX12_areTwo_36 rfl rfl ?_
      refine go_iload_n (pc' := 40) hC dX12_areTwo_39 rfl rfl ?_
      refine go_ishr (pc' := 41) hC dX12_areTwo_40 rfl ?_
      refine go_iconst (pc' := 42) hC dX12_areTwo_41 ki_1 rfl ?_
      refine go_iand (pc' := 43) hC dX12_areTwo_42 rfl ?_
      refine go_iconst (pc' := 44) hC dX12_areTwo_43 ki_1 rfl ?_
      refine go_icmp_ne (tgt := 69) (pc' := 47) hC dX12_areTwo_44 (by decide) rfl (fun h7 => ?_) (fun h7 => ?_)
      · have hf := ite_f h7 hf
        refine go_iconst (pc' := 70) hC dX12_areTwo_69 ki_0 rfl ?_
        obtain rfl := Option.some.inj hf
        exact go_iret hC hQ dX12_areTwo_70 rfl rfl rfl rfl (fun _ => rfl) rfl rfl
      · have hf := ite_t h7 hf
        refine go_aload_n (pc' := 48) hC dX12_areTwo_47 rfl rfl ?_
        refine go_iload_n (pc' := 49) hC dX12_areTwo_48 rfl rfl ?_
        refine go_iload_n (pc' := 50) hC dX12_areTwo_49 rfl rfl ?_
        obtain ⟨o3, ho3, hf⟩ := bd_e hf
        refine go_callV1 (pc' := 53) (As := [.int p1, .int p2]) (st := []) (st' := [.int o3.1]) (L1' := []) (L2' := []) (L3' := [(18, o3.2.1), (19, o3.2.2)]) (L4' := []) (L5' := []) (cells' := 0) (slots' := 0)  (b := 0) hC dX12_areTwo_50 ⟨mw_901, mw_904, mw_5, yd_yX12_oneMore, yp_yX12_oneMore, Nat.le_of_ble_eq_true rfl, Nat.le_of_ble_eq_true rfl, (Nat.le_of_ble_eq_true rfl), (Nat.le_of_ble_eq_true rfl)⟩ mw_902 mw_903 layM_0 rfl rfl rfl (Nat.le_of_ble_eq_true rfl) (c_X12_oneMore (x_l X) (x_D X) (x_q X) g (x_cy X) (x_z X) _ p1 p2 o3 ho3) rfl rfl rfl rfl rfl rfl rfl rfl rfl rfl rfl rfl rfl rfl ?_
        refine go_if_eq (tgt := 69) (pc' := 56) hC dX12_areTwo_53 (by decide) rfl (fun h6 => ?_) (fun h6 => ?_)
        · have hf := ite_t h6 hf
          refine go_iconst (pc' := 70) hC dX12_areTwo_69 ki_0 rfl ?_
          obtain rfl := Option.some.inj hf
          exact go_iret hC hQ dX12_areTwo_70 rfl rfl rfl rfl (fun _ => rfl) rfl rfl
        · have hf := ite_f h6 hf
          refine go_aload_n (pc' := 57) hC dX12_areTwo_56 rfl rfl ?_
          refine go_iload_n (pc' := 58) hC dX12_areTwo_57 rfl rfl ?_
          refine go_iload_n (pc' := 59) hC dX12_areTwo_58 rfl rfl ?_
          obtain ⟨o4, ho4, hf⟩ := bd_e hf
          refine go_callV1 (pc' := 62) (As := [.int p1, .int p2]) (st := []) (st' := [.int o4.1]) (L1' := []) (L2' := []) (L3' := [(18, o4.2.1), (19, o4.2.2)]) (L4' := []) (L5' := []) (cells' := 0) (slots' := 0)  (b := 0) hC dX12_areTwo_59 ⟨mw_901, mw_904, mw_5, yd_yX12_oneMore, yp_yX12_oneMore, Nat.le_of_ble_eq_true rfl, Nat.le_of_ble_eq_true rfl, (Nat.le_of_ble_eq_true rfl), (Nat.le_of_ble_eq_true rfl)⟩ mw_902 mw_903 layM_0 rfl rfl rfl (Nat.le_of_ble_eq_true rfl) (c_X12_oneMore (x_l X) (x_D X) (x_q X) g (x_cy X) (x_z X) _ p1 p2 o4 ho4) rfl rfl rfl rfl rfl rfl rfl rfl rfl rfl rfl rfl rfl rfl ?_
          refine go_if_eq (tgt := 69) (pc' := 65) hC dX12_areTwo_62 (by decide) rfl (fun h5 => ?_) (fun h5 => ?_)
          · have hf := ite_t h5 hf
            refine go_iconst (pc' := 70) hC dX12_areTwo_69 ki_0 rfl ?_
            obtain rfl := Option.some.inj hf
            exact go_iret hC hQ dX12_areTwo_70 rfl rfl rfl rfl (fun _ => rfl) rfl rfl
          · have hf := ite_f h5 hf
            refine go_iconst (pc' := 66) hC dX12_areTwo_65 ki_1 rfl ?_
            refine go_goto (tgt := 70) hC dX12_areTwo_66 (by decide) ?_
            obtain rfl := Option.some.inj hf
            exact go_iret hC hQ dX12_areTwo_70 rfl rfl rfl rfl (fun _ => rfl) rfl rfl
  clear hk23_2
  have l2_15 : ∀ (nn : Nat) (x9 : Int32) (a10 : Nat → Int32), it2 (f_X12_areTwo_L2 S k23_2) nn x9 a10 = some o → Go X layM S 2 [(0, .ref (x_q X 0)), (1, .int p1), (2, .int p2), (3, .int x9)] [] g [] [] [(18, (S.2.2.1 18)), (19, a10)] [] [] 0 0 := by
    intro nn
    induction nn with
    | zero =>
      intro x9 a10 hf
      exact none_no hf
    | succ nn ih =>
      intro x9 a10 hf
      have hf : f_X12_areTwo_L2 S k23_2 (it2 (f_X12_areTwo_L2 S k23_2) nn) x9 a10 = some o := hf
      generalize it2 (f_X12_areTwo_L2 S k23_2) nn = r11 at ih hf
      unfold f_X12_areTwo_L2 at hf
      refine go_iload_n (pc' := 3) hC dX12_areTwo_2 rfl rfl ?_
      refine go_aload_n (pc' := 4) hC dX12_areTwo_3 rfl rfl ?_
      refine go_geti (v := (S.1 21)) (pc' := 7) hC 0 21 layM_0 rfl rfl inlX12 (Nat.le_of_ble_eq_true rfl) mw_247 rfl dX12_areTwo_4 rfl rfl ?_
      refine go_icmp_gt (tgt := 23) (pc' := 10) hC dX12_areTwo_7 (by decide) rfl (fun h14 => ?_) (fun h14 => ?_)
      · have hf := ite_t h14 hf
        refine go_sub [0, 1, 2] rfl ?_
        exact jk23_2 a10 hf
      · have hf := ite_f h14 hf
        refine go_aload_n (pc' := 11) hC dX12_areTwo_10 rfl rfl ?_
        refine go_getq (pc' := 14) hC 0 42 layM_0 rfl rfl inlX12 (Nat.le_of_ble_eq_true rfl) mw_199 rfl dX12_areTwo_11 rfl ?_
        refine go_iload_n (pc' := 15) hC dX12_areTwo_14 rfl rfl ?_
        refine go_iconst (pc' := 16) hC dX12_areTwo_15 ki_0 rfl ?_
        obtain ⟨h12, hf⟩ := gd_e hf
        refine go_iast (f := a10) (pc' := 17) hC 19 layM_19 rfl rfl dX12_areTwo_16 (okx_in h12) rfl rfl (fun a13 ha L3' hL => ?_)
        have hf := lz_r ha hf
        clear ha
        obtain rfl : L3' = [(18, (S.2.2.1 18)), (19, a13)] := hL.symm
        refine go_iinc (lc' := [(0, .ref (x_q X 0)), (1, .int p1), (2, .int p2), (3, .int (x9 + (1 : Int32)))]) (pc' := 20) hC dX12_areTwo_17 rfl ki_1 (Nat.le_of_ble_eq_true rfl) rfl rfl ?_
        refine go_goto (tgt := 2) hC dX12_areTwo_20 (by decide) ?_
        exact ih (x9 + (1 : Int32)) a13 hf
  exact l2_15 fuel (0 : Int32) (S.2.2.1 19) hf
theorem dX12_bits_0 : decode cX12_bits 0 = .ok (.iconst 0, 1) := by decide +kernel
theorem dX12_bits_1 : decode cX12_bits 1 = .ok (.istore_n 1, 1) := by decide +kernel
theorem dX12_bits_2 : decode cX12_bits 2 = .ok (.iload_n 0, 1) := by decide +kernel
theorem dX12_bits_3 : decode cX12_bits 3 = .ok (.istore_n 2, 1) := by decide +kernel
theorem dX12_bits_4 : decode cX12_bits 4 = .ok (.iload_n 2, 1) := by decide +kernel
theorem dX12_bits_5 : decode cX12_bits 5 = .ok (.ifCond .eq 15, 3) := by decide +kernel
theorem dX12_bits_8 : decode cX12_bits 8 = .ok (.iinc 1 1, 3) := by decide +kernel
theorem dX12_bits_11 : decode cX12_bits 11 = .ok (.iload_n 2, 1) := by decide +kernel
theorem dX12_bits_12 : decode cX12_bits 12 = .ok (.iload_n 2, 1) := by decide +kernel
theorem dX12_bits_13 : decode cX12_bits 13 = .ok (.iconst 1, 1) := by decide +kernel
theorem dX12_bits_14 : decode cX12_bits 14 = .ok (.isub, 1) := by decide +kernel
theorem dX12_bits_15 : decode cX12_bits 15 = .ok (.iand, 1) := by decide +kernel
theorem dX12_bits_16 : decode cX12_bits 16 = .ok (.istore_n 2, 1) := by decide +kernel
theorem dX12_bits_17 : decode cX12_bits 17 = .ok (.goto (-13), 3) := by decide +kernel
theorem dX12_bits_20 : decode cX12_bits 20 = .ok (.iload_n 1, 1) := by decide +kernel
theorem dX12_bits_21 : decode cX12_bits 21 = .ok (.ireturn, 1) := by decide +kernel
abbrev o_X12_bits : Type := Int32
def f_X12_bits_L4 (r3 : (Int32) → (Int32) → (Option o_X12_bits)) (x1 : Int32) (x2 : Int32) : Option o_X12_bits :=
if x2 = 0 then (
some x1) else (
lz (x2 &&& (x2 - (1 : Int32))) fun x4 =>
r3 (x1 + (1 : Int32)) x4)
def f_X12_bits (p1 : Int32) : Option o_X12_bits :=
it2 (f_X12_bits_L4) fuel (0 : Int32) p1
set_option maxRecDepth 100000 in
set_option maxHeartbeats 4000000 in
theorem c_X12_bits (l : Launch) (D : va_G) (q g : Nat → Nat) (cy : Nat → ClassId) (z : (Nat → Nat) × (Nat → Nat) × Nat) (S : wd_W) (p1 : Int32) (o : o_X12_bits) (hf : f_X12_bits p1 = some o) : MX layM l yX12_bits cX12_bits 3 (some .int) ({ frames := 0, cells := 0, slots := 0, locals := 0 } : Room) D q g cy z [.int p1] S false (some (.int o)) (wd_o S [] [] [] [] []) 0 0 := by
  refine mx_of (own := RX12) (lc := [(0, .int p1)]) (by decide +kernel) rfl layM_ok (Nat.le_of_ble_eq_true rfl) rfl ?_
  intro X hXl hXq hXz hC hQ
  subst hXl; subst hXq; subst hXz
  unfold f_X12_bits at hf
  refine go_iconst (pc' := 1) hC dX12_bits_0 ki_0 rfl ?_
  refine go_istore_n (lc' := [(0, .int p1), (1, .int (0 : Int32))]) (pc' := 2) hC dX12_bits_1 (Nat.le_of_ble_eq_true rfl) rfl rfl ?_
  refine go_iload_n (pc' := 3) hC dX12_bits_2 rfl rfl ?_
  refine go_istore_n (lc' := [(0, .int p1), (1, .int (0 : Int32)), (2, .int p1)]) (pc' := 4) hC dX12_bits_3 (Nat.le_of_ble_eq_true rfl) rfl rfl ?_
  have l4_6 : ∀ (nn : Nat) (x1 : Int32) (x2 : Int32), it2 (f_X12_bits_L4) nn x1 x2 = some o → Go X layM S 4 [(1, .int x1), (2, .int x2)] [] g [] [] [] [] [] 0 0 := by
    intro nn
    induction nn with
    | zero =>
      intro x1 x2 hf
      exact none_no hf
    | succ nn ih =>
      intro x1 x2 hf
      have hf : f_X12_bits_L4 (it2 (f_X12_bits_L4) nn) x1 x2 = some o := hf
      generalize it2 (f_X12_bits_L4) nn = r3 at ih hf
      unfold f_X12_bits_L4 at hf
      refine go_iload_n (pc' := 5) hC dX12_bits_4 rfl rfl ?_
      refine go_if_eq (tgt := 20) (pc' := 8) hC dX12_bits_5 (by decide) rfl (fun h5 => ?_) (fun h5 => ?_)
      · have hf := ite_t h5 hf
        refine go_iload_n (pc' := 21) hC dX12_bits_20 rfl rfl ?_
        obtain rfl := Option.some.inj hf
        exact go_iret hC hQ dX12_bits_21 rfl rfl rfl rfl (fun _ => rfl) rfl rfl
      · have hf := ite_f h5 hf
        refine go_iinc (lc' := [(1, .int (x1 + (1 : Int32))), (2, .int x2)]) (pc' := 11) hC dX12_bits_8 rfl ki_1 (Nat.le_of_ble_eq_true rfl) rfl rfl ?_
        refine go_iload_n (pc' := 12) hC dX12_bits_11 rfl rfl ?_
        refine go_iload_n (pc' := 13) hC dX12_bits_12 rfl rfl ?_
        refine go_iconst (pc' := 14) hC dX12_bits_13 ki_1 rfl ?_
        refine go_isub (pc' := 15) hC dX12_bits_14 rfl ?_
        refine go_iand (pc' := 16) hC dX12_bits_15 rfl ?_
        refine go_namei (fun x4 hx => ?_)
        have hf := lz_r hx hf
        clear hx
        refine go_istore_n (lc' := [(1, .int (x1 + (1 : Int32))), (2, .int x4)]) (pc' := 17) hC dX12_bits_16 (Nat.le_of_ble_eq_true rfl) rfl rfl ?_
        refine go_goto (tgt := 4) hC dX12_bits_17 (by decide) ?_
        exact ih (x1 + (1 : Int32)) x4 hf
  refine go_sub [1, 2] rfl ?_
  exact l4_6 fuel (0 : Int32) p1 hf
theorem dX12_isThrough_0 : decode cX12_isThrough 0 = .ok (.aload_n 0, 1) := by decide +kernel
theorem dX12_isThrough_1 : decode cX12_isThrough 1 = .ok (.iload_n 1, 1) := by decide +kernel
theorem dX12_isThrough_2 : decode cX12_isThrough 2 = .ok (.iload_n 2, 1) := by decide +kernel
theorem dX12_isThrough_3 : decode cX12_isThrough 3 = .ok (.invokevirtual 337, 3) := by decide +kernel
theorem dX12_isThrough_6 : decode cX12_isThrough 6 = .ok (.aload_n 0, 1) := by decide +kernel
theorem dX12_isThrough_7 : decode cX12_isThrough 7 = .ok (.getfield 291, 3) := by decide +kernel
theorem dX12_isThrough_10 : decode cX12_isThrough 10 = .ok (.tableswitch 128 0 3 #[30, 43, 79, 103], 30) := by decide +kernel
theorem dX12_isThrough_40 : decode cX12_isThrough 40 = .ok (.aload_n 0, 1) := by decide +kernel
theorem dX12_isThrough_41 : decode cX12_isThrough 41 = .ok (.aload_n 0, 1) := by decide +kernel
theorem dX12_isThrough_42 : decode cX12_isThrough 42 = .ok (.getfield 297, 3) := by decide +kernel
theorem dX12_isThrough_45 : decode cX12_isThrough 45 = .ok (.aload_n 0, 1) := by decide +kernel
theorem dX12_isThrough_46 : decode cX12_isThrough 46 = .ok (.getfield 300, 3) := by decide +kernel
theorem dX12_isThrough_49 : decode cX12_isThrough 49 = .ok (.invokevirtual 341, 3) := by decide +kernel
theorem dX12_isThrough_52 : decode cX12_isThrough 52 = .ok (.ireturn, 1) := by decide +kernel
theorem dX12_isThrough_53 : decode cX12_isThrough 53 = .ok (.iconst 0, 1) := by decide +kernel
theorem dX12_isThrough_54 : decode cX12_isThrough 54 = .ok (.istore_n 3, 1) := by decide +kernel
theorem dX12_isThrough_55 : decode cX12_isThrough 55 = .ok (.iload_n 3, 1) := by decide +kernel
theorem dX12_isThrough_56 : decode cX12_isThrough 56 = .ok (.aload_n 0, 1) := by decide +kernel
theorem dX12_isThrough_57 : decode cX12_isThrough 57 = .ok (.getfield 276, 3) := by decide +kernel
theorem dX12_isThrough_60 : decode cX12_isThrough 60 = .ok (.if_icmp .ge 27, 3) := by decide +kernel
theorem dX12_isThrough_63 : decode cX12_isThrough 63 = .ok (.aload_n 0, 1) := by decide +kernel
theorem dX12_isThrough_64 : decode cX12_isThrough 64 = .ok (.iload_n 3, 1) := by decide +kernel
theorem dX12_isThrough_65 : decode cX12_isThrough 65 = .ok (.invokevirtual 330, 3) := by decide +kernel
theorem dX12_isThrough_68 : decode cX12_isThrough 68 = .ok (.iconst 1, 1) := by decide +kernel
theorem dX12_isThrough_69 : decode cX12_isThrough 69 = .ok (.aload_n 0, 1) := by decide +kernel
theorem dX12_isThrough_70 : decode cX12_isThrough 70 = .ok (.getfield 276, 3) := by decide +kernel
theorem dX12_isThrough_73 : decode cX12_isThrough 73 = .ok (.ishl, 1) := by decide +kernel
theorem dX12_isThrough_74 : decode cX12_isThrough 74 = .ok (.iconst 1, 1) := by decide +kernel
theorem dX12_isThrough_75 : decode cX12_isThrough 75 = .ok (.isub, 1) := by decide +kernel
theorem dX12_isThrough_76 : decode cX12_isThrough 76 = .ok (.if_icmp .eq 5, 3) := by decide +kernel
theorem dX12_isThrough_79 : decode cX12_isThrough 79 = .ok (.iconst 0, 1) := by decide +kernel
theorem dX12_isThrough_80 : decode cX12_isThrough 80 = .ok (.ireturn, 1) := by decide +kernel
theorem dX12_isThrough_81 : decode cX12_isThrough 81 = .ok (.iinc 3 1, 3) := by decide +kernel
theorem dX12_isThrough_84 : decode cX12_isThrough 84 = .ok (.goto (-29), 3) := by decide +kernel
theorem dX12_isThrough_87 : decode cX12_isThrough 87 = .ok (.iconst 1, 1) := by decide +kernel
theorem dX12_isThrough_88 : decode cX12_isThrough 88 = .ok (.ireturn, 1) := by decide +kernel
theorem dX12_isThrough_89 : decode cX12_isThrough 89 = .ok (.aload_n 0, 1) := by decide +kernel
theorem dX12_isThrough_90 : decode cX12_isThrough 90 = .ok (.aload_n 0, 1) := by decide +kernel
theorem dX12_isThrough_91 : decode cX12_isThrough 91 = .ok (.getfield 297, 3) := by decide +kernel
theorem dX12_isThrough_94 : decode cX12_isThrough 94 = .ok (.invokevirtual 330, 3) := by decide +kernel
theorem dX12_isThrough_97 : decode cX12_isThrough 97 = .ok (.invokestatic 344, 3) := by decide +kernel
theorem dX12_isThrough_100 : decode cX12_isThrough 100 = .ok (.aload_n 0, 1) := by decide +kernel
theorem dX12_isThrough_101 : decode cX12_isThrough 101 = .ok (.getfield 294, 3) := by decide +kernel
theorem dX12_isThrough_104 : decode cX12_isThrough 104 = .ok (.if_icmp .lt 7, 3) := by decide +kernel
theorem dX12_isThrough_107 : decode cX12_isThrough 107 = .ok (.iconst 1, 1) := by decide +kernel
theorem dX12_isThrough_108 : decode cX12_isThrough 108 = .ok (.goto 4, 3) := by decide +kernel
theorem dX12_isThrough_111 : decode cX12_isThrough 111 = .ok (.iconst 0, 1) := by decide +kernel
theorem dX12_isThrough_112 : decode cX12_isThrough 112 = .ok (.ireturn, 1) := by decide +kernel
theorem dX12_isThrough_113 : decode cX12_isThrough 113 = .ok (.aload_n 0, 1) := by decide +kernel
theorem dX12_isThrough_114 : decode cX12_isThrough 114 = .ok (.aload_n 0, 1) := by decide +kernel
theorem dX12_isThrough_115 : decode cX12_isThrough 115 = .ok (.getfield 297, 3) := by decide +kernel
theorem dX12_isThrough_118 : decode cX12_isThrough 118 = .ok (.aload_n 0, 1) := by decide +kernel
theorem dX12_isThrough_119 : decode cX12_isThrough 119 = .ok (.getfield 300, 3) := by decide +kernel
theorem dX12_isThrough_122 : decode cX12_isThrough 122 = .ok (.invokevirtual 347, 3) := by decide +kernel
theorem dX12_isThrough_125 : decode cX12_isThrough 125 = .ok (.aload_n 0, 1) := by decide +kernel
theorem dX12_isThrough_126 : decode cX12_isThrough 126 = .ok (.getfield 294, 3) := by decide +kernel
theorem dX12_isThrough_129 : decode cX12_isThrough 129 = .ok (.if_icmp .gt 7, 3) := by decide +kernel
theorem dX12_isThrough_132 : decode cX12_isThrough 132 = .ok (.iconst 1, 1) := by decide +kernel
theorem dX12_isThrough_133 : decode cX12_isThrough 133 = .ok (.goto 4, 3) := by decide +kernel
theorem dX12_isThrough_136 : decode cX12_isThrough 136 = .ok (.iconst 0, 1) := by decide +kernel
theorem dX12_isThrough_137 : decode cX12_isThrough 137 = .ok (.ireturn, 1) := by decide +kernel
theorem dX12_isThrough_138 : decode cX12_isThrough 138 = .ok (.aload_n 0, 1) := by decide +kernel
theorem dX12_isThrough_139 : decode cX12_isThrough 139 = .ok (.aload_n 0, 1) := by decide +kernel
theorem dX12_isThrough_140 : decode cX12_isThrough 140 = .ok (.getfield 297, 3) := by decide +kernel
theorem dX12_isThrough_143 : decode cX12_isThrough 143 = .ok (.aload_n 0, 1) := by decide +kernel
theorem dX12_isThrough_144 : decode cX12_isThrough 144 = .ok (.getfield 300, 3) := by decide +kernel
theorem dX12_isThrough_147 : decode cX12_isThrough 147 = .ok (.invokevirtual 351, 3) := by decide +kernel
theorem dX12_isThrough_150 : decode cX12_isThrough 150 = .ok (.ireturn, 1) := by decide +kernel
abbrev o_X12_isThrough : Type := Int32 × Int32 × Int32 × (Nat → Int32) × (Nat → Int32) × (Nat → Int32)
def f_X12_isThrough_L55 (S : wd_W) (o1 : o_X12_opens) (r6 : (Int32) → (Option o_X12_isThrough)) (x5 : Int32) : Option o_X12_isThrough :=
if (S.1 20) ≤ x5 then (
some ((1 : Int32), o1.1, o1.2, (S.2.2.1 17), (S.2.2.1 18), (S.2.2.1 19))) else (
bd (f_X12_ledTo (wd_o S [(38, o1.1), (39, o1.2)] [] [(17, (S.2.2.1 17)), (18, (S.2.2.1 18)), (19, (S.2.2.1 19))] [] []) x5) fun o7 =>
if o7 = (((1 : Int32) <<< ((S.1 20) &&& 31)) - (1 : Int32)) then (
r6 (x5 + (1 : Int32))) else (
some ((0 : Int32), o1.1, o1.2, (S.2.2.1 17), (S.2.2.1 18), (S.2.2.1 19))))
def f_X12_isThrough (S : wd_W) (p1 : Int32) (p2 : Int32) : Option o_X12_isThrough :=
bd (f_X12_opens (wd_o S [(38, (S.1 38)), (39, (S.1 39))] [] [(17, (S.2.2.1 17)), (18, (S.2.2.1 18)), (19, (S.2.2.1 19))] [] []) p1 p2) fun o1 =>
if (S.1 34) = (0 : Int32) then (
bd (f_X12_leads (wd_o S [(38, o1.1), (39, o1.2)] [] [(17, (S.2.2.1 17)), (18, (S.2.2.1 18)), (19, (S.2.2.1 19))] [] []) (S.1 36) (S.1 37)) fun o2 =>
gd (okz o2) <|
some (o2, o1.1, o1.2, (S.2.2.1 17), (S.2.2.1 18), (S.2.2.1 19))) else (
if (S.1 34) = (1 : Int32) then (
it1 (f_X12_isThrough_L55 S o1) fuel (0 : Int32)) else (
if (S.1 34) = (2 : Int32) then (
bd (f_X12_ledTo (wd_o S [(38, o1.1), (39, o1.2)] [] [(17, (S.2.2.1 17)), (18, (S.2.2.1 18)), (19, (S.2.2.1 19))] [] []) (S.1 36)) fun o12 =>
bd (f_X12_bits o12) fun o13 =>
if o13 < (S.1 35) then (
some ((0 : Int32), o1.1, o1.2, (S.2.2.1 17), (S.2.2.1 18), (S.2.2.1 19))) else (
some ((1 : Int32), o1.1, o1.2, (S.2.2.1 17), (S.2.2.1 18), (S.2.2.1 19)))) else (
if (S.1 34) = (3 : Int32) then (
bd (f_X12_daysTo (wd_o S [(38, o1.1), (39, o1.2)] [] [(17, (S.2.2.1 17)), (18, (S.2.2.1 18)), (19, (S.2.2.1 19))] [] []) (S.1 36) (S.1 37)) fun o16 =>
if (S.1 35) < o16.1 then (
some ((0 : Int32), o1.1, o1.2, o16.2, (S.2.2.1 18), (S.2.2.1 19))) else (
some ((1 : Int32), o1.1, o1.2, o16.2, (S.2.2.1 18), (S.2.2.1 19)))) else (
bd (f_X12_areTwo (wd_o S [(38, o1.1), (39, o1.2)] [] [(17, (S.2.2.1 17)), (18, (S.2.2.1 18)), (19, (S.2.2.1 19))] [] []) (S.1 36) (S.1 37)) fun o19 =>
gd (okz o19.1) <|
some (o19.1, o1.1, o1.2, (S.2.2.1 17), o19.2.1, o19.2.2)))))
set_option maxRecDepth 100000 in
set_option maxHeartbeats 4000000 in
theorem c_X12_isThrough (l : Launch) (D : va_G) (q g : Nat → Nat) (cy : Nat → ClassId) (z : (Nat → Nat) × (Nat → Nat) × Nat) (S : wd_W) (p1 : Int32) (p2 : Int32) (o : o_X12_isThrough) (hf : f_X12_isThrough S p1 p2 = some o) : MX layM l yX12_isThrough cX12_isThrough 4 (some .boolean) ({ frames := 3, cells := 0, slots := 0, locals := 71 } : Room) D q g cy z [.ref (q 0), .int p1, .int p2] S false (some (.int o.1)) (wd_o S [(38, o.2.1), (39, o.2.2.1)] [] [(17, o.2.2.2.1), (18, o.2.2.2.2.1), (19, o.2.2.2.2.2)] [] []) 0 0 := by
  refine mx_of (own := RX12) (lc := [(0, .ref (q 0)), (1, .int p1), (2, .int p2)]) (by decide +kernel) rfl layM_ok (Nat.le_of_ble_eq_true rfl) rfl ?_
  intro X hXl hXq hXz hC hQ
  subst hXl; subst hXq; subst hXz
  unfold f_X12_isThrough at hf
  refine go_keys (L1 := [(38, (S.1 38)), (39, (S.1 39))]) (L2 := []) (L3 := [(17, (S.2.2.1 17)), (18, (S.2.2.1 18)), (19, (S.2.2.1 19))]) (L4 := []) (L5 := []) [38, 39] [] [17, 18, 19] [] [] rfl rfl rfl rfl rfl ?_
  refine go_aload_n (pc' := 1) hC dX12_isThrough_0 rfl rfl ?_
  refine go_iload_n (pc' := 2) hC dX12_isThrough_1 rfl rfl ?_
  refine go_iload_n (pc' := 3) hC dX12_isThrough_2 rfl rfl ?_
  obtain ⟨o1, ho1, hf⟩ := bd_e hf
  refine go_callV1 (pc' := 6) (As := [.int p1, .int p2]) (st := []) (st' := []) (L1' := [(38, o1.1), (39, o1.2)]) (L2' := []) (L3' := [(17, (S.2.2.1 17)), (18, (S.2.2.1 18)), (19, (S.2.2.1 19))]) (L4' := []) (L5' := []) (cells' := 0) (slots' := 0)  (b := 0) hC dX12_isThrough_3 ⟨mw_868, mw_871, mw_5, yd_yX12_opens, yp_yX12_opens, Nat.le_of_ble_eq_true rfl, Nat.le_of_ble_eq_true rfl, (Nat.le_of_ble_eq_true rfl), (Nat.le_of_ble_eq_true rfl)⟩ mw_869 mw_870 layM_0 rfl rfl rfl (Nat.le_of_ble_eq_true rfl) (c_X12_opens (x_l X) (x_D X) (x_q X) g (x_cy X) (x_z X) _ p1 p2 o1 ho1) rfl rfl rfl rfl rfl rfl rfl rfl rfl rfl rfl rfl rfl rfl ?_
  refine go_aload_n (pc' := 7) hC dX12_isThrough_6 rfl rfl ?_
  refine go_geti (v := (S.1 34)) (pc' := 10) hC 0 34 layM_0 rfl rfl inlX12 (Nat.le_of_ble_eq_true rfl) mw_251 rfl dX12_isThrough_7 rfl rfl ?_
  by_cases h4 : (S.1 34) = (0 : Int32)
  · have hf := ite_t h4 hf
    refine go_tabIn' (v := (0 : Int32)) (tgt := 40) hC dX12_isThrough_10 h4 kt_0 (by decide) (by decide) rfl (by decide) ?_
    refine go_aload_n (pc' := 41) hC dX12_isThrough_40 rfl rfl ?_
    refine go_aload_n (pc' := 42) hC dX12_isThrough_41 rfl rfl ?_
    refine go_geti (v := (S.1 36)) (pc' := 45) hC 0 36 layM_0 rfl rfl inlX12 (Nat.le_of_ble_eq_true rfl) mw_253 rfl dX12_isThrough_42 rfl rfl ?_
    refine go_aload_n (pc' := 46) hC dX12_isThrough_45 rfl rfl ?_
    refine go_geti (v := (S.1 37)) (pc' := 49) hC 0 37 layM_0 rfl rfl inlX12 (Nat.le_of_ble_eq_true rfl) mw_254 rfl dX12_isThrough_46 rfl rfl ?_
    obtain ⟨o2, ho2, hf⟩ := bd_e hf
    refine go_callV0 (pc' := 52) (As := [.int (S.1 36), .int (S.1 37)]) (st := []) (st' := [.int o2])    (b := 0) hC dX12_isThrough_49 ⟨mw_878, mw_881, mw_5, yd_yX12_leads, yp_yX12_leads, Nat.le_of_ble_eq_true rfl, Nat.le_of_ble_eq_true rfl, (Nat.le_of_ble_eq_true rfl), (Nat.le_of_ble_eq_true rfl)⟩ mw_879 mw_880 layM_0 rfl rfl rfl (Nat.le_of_ble_eq_true rfl) (c_X12_leads (x_l X) (x_D X) (x_q X) g (x_cy X) (x_z X) _ (S.1 36) (S.1 37) o2 ho2) rfl rfl ?_
    obtain ⟨h3, hf⟩ := gd_e hf
    obtain rfl := Option.some.inj hf
    exact go_iret hC hQ dX12_isThrough_52 rfl (okz_n h3) rfl rfl (fun _ => rfl) rfl rfl
  · have hf := ite_f h4 hf
    by_cases h11 : (S.1 34) = (1 : Int32)
    · have hf := ite_t h11 hf
      refine go_tabIn' (v := (1 : Int32)) (tgt := 53) hC dX12_isThrough_10 h11 kt_1 (by decide) (by decide) rfl (by decide) ?_
      refine go_iconst (pc' := 54) hC dX12_isThrough_53 ki_0 rfl ?_
      refine go_istore_n (lc' := [(0, .ref (x_q X 0)), (1, .int p1), (2, .int p2), (3, .int (0 : Int32))]) (pc' := 55) hC dX12_isThrough_54 (Nat.le_of_ble_eq_true rfl) rfl rfl ?_
      have l55_10 : ∀ (nn : Nat) (x5 : Int32), it1 (f_X12_isThrough_L55 S o1) nn x5 = some o → Go X layM S 55 [(0, .ref (x_q X 0)), (3, .int x5)] [] g [(38, o1.1), (39, o1.2)] [] [(17, (S.2.2.1 17)), (18, (S.2.2.1 18)), (19, (S.2.2.1 19))] [] [] 0 0 := by
        intro nn
        induction nn with
        | zero =>
          intro x5 hf
          exact none_no hf
        | succ nn ih =>
          intro x5 hf
          have hf : f_X12_isThrough_L55 S o1 (it1 (f_X12_isThrough_L55 S o1) nn) x5 = some o := hf
          generalize it1 (f_X12_isThrough_L55 S o1) nn = r6 at ih hf
          unfold f_X12_isThrough_L55 at hf
          refine go_iload_n (pc' := 56) hC dX12_isThrough_55 rfl rfl ?_
          refine go_aload_n (pc' := 57) hC dX12_isThrough_56 rfl rfl ?_
          refine go_geti (v := (S.1 20)) (pc' := 60) hC 0 20 layM_0 rfl rfl inlX12 (Nat.le_of_ble_eq_true rfl) mw_246 rfl dX12_isThrough_57 rfl rfl ?_
          refine go_icmp_ge (tgt := 87) (pc' := 63) hC dX12_isThrough_60 (by decide) rfl (fun h9 => ?_) (fun h9 => ?_)
          · have hf := ite_t h9 hf
            refine go_iconst (pc' := 88) hC dX12_isThrough_87 ki_1 rfl ?_
            obtain rfl := Option.some.inj hf
            exact go_iret hC hQ dX12_isThrough_88 rfl rfl rfl rfl (fun _ => rfl) rfl rfl
          · have hf := ite_f h9 hf
            refine go_aload_n (pc' := 64) hC dX12_isThrough_63 rfl rfl ?_
            refine go_iload_n (pc' := 65) hC dX12_isThrough_64 rfl rfl ?_
            obtain ⟨o7, ho7, hf⟩ := bd_e hf
            refine go_callV0 (pc' := 68) (As := [.int x5]) (st := []) (st' := [.int o7])    (b := 0) hC dX12_isThrough_65 ⟨mw_882, mw_885, mw_5, yd_yX12_ledTo, yp_yX12_ledTo, Nat.le_of_ble_eq_true rfl, Nat.le_of_ble_eq_true rfl, (Nat.le_of_ble_eq_true rfl), (Nat.le_of_ble_eq_true rfl)⟩ mw_883 mw_884 layM_0 rfl rfl rfl (Nat.le_of_ble_eq_true rfl) (c_X12_ledTo (x_l X) (x_D X) (x_q X) g (x_cy X) (x_z X) _ x5 o7 ho7) rfl rfl ?_
            refine go_iconst (pc' := 69) hC dX12_isThrough_68 ki_1 rfl ?_
            refine go_aload_n (pc' := 70) hC dX12_isThrough_69 rfl rfl ?_
            refine go_geti (v := (S.1 20)) (pc' := 73) hC 0 20 layM_0 rfl rfl inlX12 (Nat.le_of_ble_eq_true rfl) mw_246 rfl dX12_isThrough_70 rfl rfl ?_
            refine go_ishl (pc' := 74) hC dX12_isThrough_73 rfl ?_
            refine go_iconst (pc' := 75) hC dX12_isThrough_74 ki_1 rfl ?_
            refine go_isub (pc' := 76) hC dX12_isThrough_75 rfl ?_
            refine go_icmp_eq (tgt := 81) (pc' := 79) hC dX12_isThrough_76 (by decide) rfl (fun h8 => ?_) (fun h8 => ?_)
            · have hf := ite_t h8 hf
              refine go_iinc (lc' := [(0, .ref (x_q X 0)), (3, .int (x5 + (1 : Int32)))]) (pc' := 84) hC dX12_isThrough_81 rfl ki_1 (Nat.le_of_ble_eq_true rfl) rfl rfl ?_
              refine go_goto (tgt := 55) hC dX12_isThrough_84 (by decide) ?_
              exact ih (x5 + (1 : Int32)) hf
            · have hf := ite_f h8 hf
              refine go_iconst (pc' := 80) hC dX12_isThrough_79 ki_0 rfl ?_
              obtain rfl := Option.some.inj hf
              exact go_iret hC hQ dX12_isThrough_80 rfl rfl rfl rfl (fun _ => rfl) rfl rfl
      refine go_sub [0, 3] rfl ?_
      exact l55_10 fuel (0 : Int32) hf
    · have hf := ite_f h11 hf
      by_cases h15 : (S.1 34) = (2 : Int32)
      · have hf := ite_t h15 hf
        refine go_tabIn' (v := (2 : Int32)) (tgt := 89) hC dX12_isThrough_10 h15 kt_2 (by decide) (by decide) rfl (by decide) ?_
        refine go_aload_n (pc' := 90) hC dX12_isThrough_89 rfl rfl ?_
        refine go_aload_n (pc' := 91) hC dX12_isThrough_90 rfl rfl ?_
        refine go_geti (v := (S.1 36)) (pc' := 94) hC 0 36 layM_0 rfl rfl inlX12 (Nat.le_of_ble_eq_true rfl) mw_253 rfl dX12_isThrough_91 rfl rfl ?_
        obtain ⟨o12, ho12, hf⟩ := bd_e hf
        refine go_callV0 (pc' := 97) (As := [.int (S.1 36)]) (st := []) (st' := [.int o12])    (b := 0) hC dX12_isThrough_94 ⟨mw_882, mw_885, mw_5, yd_yX12_ledTo, yp_yX12_ledTo, Nat.le_of_ble_eq_true rfl, Nat.le_of_ble_eq_true rfl, (Nat.le_of_ble_eq_true rfl), (Nat.le_of_ble_eq_true rfl)⟩ mw_883 mw_884 layM_0 rfl rfl rfl (Nat.le_of_ble_eq_true rfl) (c_X12_ledTo (x_l X) (x_D X) (x_q X) g (x_cy X) (x_z X) _ (S.1 36) o12 ho12) rfl rfl ?_
        obtain ⟨o13, ho13, hf⟩ := bd_e hf
        refine go_callS0 (pc' := 100) (As := [.int o12]) (st := []) (st' := [.int o13])    hC dX12_isThrough_97 ⟨mw_890, mw_892, mw_5, yd_yX12_bits, yp_yX12_bits, Nat.le_of_ble_eq_true rfl, Nat.le_of_ble_eq_true rfl, (Nat.le_of_ble_eq_true rfl), (Nat.le_of_ble_eq_true rfl)⟩ mw_891 rfl rfl (Nat.le_of_ble_eq_true rfl) (c_X12_bits (x_l X) (x_D X) (x_q X) g (x_cy X) (x_z X) _ o12 o13 ho13) rfl rfl ?_
        refine go_aload_n (pc' := 101) hC dX12_isThrough_100 rfl rfl ?_
        refine go_geti (v := (S.1 35)) (pc' := 104) hC 0 35 layM_0 rfl rfl inlX12 (Nat.le_of_ble_eq_true rfl) mw_252 rfl dX12_isThrough_101 rfl rfl ?_
        refine go_icmp_lt (tgt := 111) (pc' := 107) hC dX12_isThrough_104 (by decide) rfl (fun h14 => ?_) (fun h14 => ?_)
        · have hf := ite_t h14 hf
          refine go_iconst (pc' := 112) hC dX12_isThrough_111 ki_0 rfl ?_
          obtain rfl := Option.some.inj hf
          exact go_iret hC hQ dX12_isThrough_112 rfl rfl rfl rfl (fun _ => rfl) rfl rfl
        · have hf := ite_f h14 hf
          refine go_iconst (pc' := 108) hC dX12_isThrough_107 ki_1 rfl ?_
          refine go_goto (tgt := 112) hC dX12_isThrough_108 (by decide) ?_
          obtain rfl := Option.some.inj hf
          exact go_iret hC hQ dX12_isThrough_112 rfl rfl rfl rfl (fun _ => rfl) rfl rfl
      · have hf := ite_f h15 hf
        by_cases h18 : (S.1 34) = (3 : Int32)
        · have hf := ite_t h18 hf
          refine go_tabIn' (v := (3 : Int32)) (tgt := 113) hC dX12_isThrough_10 h18 kt_3 (by decide) (by decide) rfl (by decide) ?_
          refine go_aload_n (pc' := 114) hC dX12_isThrough_113 rfl rfl ?_
          refine go_aload_n (pc' := 115) hC dX12_isThrough_114 rfl rfl ?_
          refine go_geti (v := (S.1 36)) (pc' := 118) hC 0 36 layM_0 rfl rfl inlX12 (Nat.le_of_ble_eq_true rfl) mw_253 rfl dX12_isThrough_115 rfl rfl ?_
          refine go_aload_n (pc' := 119) hC dX12_isThrough_118 rfl rfl ?_
          refine go_geti (v := (S.1 37)) (pc' := 122) hC 0 37 layM_0 rfl rfl inlX12 (Nat.le_of_ble_eq_true rfl) mw_254 rfl dX12_isThrough_119 rfl rfl ?_
          obtain ⟨o16, ho16, hf⟩ := bd_e hf
          refine go_callV1 (pc' := 125) (As := [.int (S.1 36), .int (S.1 37)]) (st := []) (st' := [.int o16.1]) (L1' := [(38, o1.1), (39, o1.2)]) (L2' := []) (L3' := [(17, o16.2), (18, (S.2.2.1 18)), (19, (S.2.2.1 19))]) (L4' := []) (L5' := []) (cells' := 0) (slots' := 0)  (b := 0) hC dX12_isThrough_122 ⟨mw_893, mw_896, mw_5, yd_yX12_daysTo, yp_yX12_daysTo, Nat.le_of_ble_eq_true rfl, Nat.le_of_ble_eq_true rfl, (Nat.le_of_ble_eq_true rfl), (Nat.le_of_ble_eq_true rfl)⟩ mw_894 mw_895 layM_0 rfl rfl rfl (Nat.le_of_ble_eq_true rfl) (c_X12_daysTo (x_l X) (x_D X) (x_q X) g (x_cy X) (x_z X) _ (S.1 36) (S.1 37) o16 ho16) rfl rfl rfl rfl rfl rfl rfl rfl rfl rfl rfl rfl rfl rfl ?_
          refine go_aload_n (pc' := 126) hC dX12_isThrough_125 rfl rfl ?_
          refine go_geti (v := (S.1 35)) (pc' := 129) hC 0 35 layM_0 rfl rfl inlX12 (Nat.le_of_ble_eq_true rfl) mw_252 rfl dX12_isThrough_126 rfl rfl ?_
          refine go_icmp_gt (tgt := 136) (pc' := 132) hC dX12_isThrough_129 (by decide) rfl (fun h17 => ?_) (fun h17 => ?_)
          · have hf := ite_t h17 hf
            refine go_iconst (pc' := 137) hC dX12_isThrough_136 ki_0 rfl ?_
            obtain rfl := Option.some.inj hf
            exact go_iret hC hQ dX12_isThrough_137 rfl rfl rfl rfl (fun _ => rfl) rfl rfl
          · have hf := ite_f h17 hf
            refine go_iconst (pc' := 133) hC dX12_isThrough_132 ki_1 rfl ?_
            refine go_goto (tgt := 137) hC dX12_isThrough_133 (by decide) ?_
            obtain rfl := Option.some.inj hf
            exact go_iret hC hQ dX12_isThrough_137 rfl rfl rfl rfl (fun _ => rfl) rfl rfl
        · have hf := ite_f h18 hf
          refine go_tabOut (tgt := 138) hC dX12_isThrough_10 ?_ (by decide) ?_
          · have e0 := lv_neT h4 kt_0; have e1 := lv_neT h11 kt_1; have e2 := lv_neT h15 kt_2; have e3 := lv_neT h18 kt_3; omega
          · refine go_aload_n (pc' := 139) hC dX12_isThrough_138 rfl rfl ?_
            refine go_aload_n (pc' := 140) hC dX12_isThrough_139 rfl rfl ?_
            refine go_geti (v := (S.1 36)) (pc' := 143) hC 0 36 layM_0 rfl rfl inlX12 (Nat.le_of_ble_eq_true rfl) mw_253 rfl dX12_isThrough_140 rfl rfl ?_
            refine go_aload_n (pc' := 144) hC dX12_isThrough_143 rfl rfl ?_
            refine go_geti (v := (S.1 37)) (pc' := 147) hC 0 37 layM_0 rfl rfl inlX12 (Nat.le_of_ble_eq_true rfl) mw_254 rfl dX12_isThrough_144 rfl rfl ?_
            obtain ⟨o19, ho19, hf⟩ := bd_e hf
            refine go_callV1 (pc' := 150) (As := [.int (S.1 36), .int (S.1 37)]) (st := []) (st' := [.int o19.1]) (L1' := [(38, o1.1), (39, o1.2)]) (L2' := []) (L3' := [(17, (S.2.2.1 17)), (18, o19.2.1), (19, o19.2.2)]) (L4' := []) (L5' := []) (cells' := 0) (slots' := 0)  (b := 0) hC dX12_isThrough_147 ⟨mw_897, mw_900, mw_5, yd_yX12_areTwo, yp_yX12_areTwo, Nat.le_of_ble_eq_true rfl, Nat.le_of_ble_eq_true rfl, (Nat.le_of_ble_eq_true rfl), (Nat.le_of_ble_eq_true rfl)⟩ mw_898 mw_899 layM_0 rfl rfl rfl (Nat.le_of_ble_eq_true rfl) (c_X12_areTwo (x_l X) (x_D X) (x_q X) g (x_cy X) (x_z X) _ (S.1 36) (S.1 37) o19 ho19) rfl rfl rfl rfl rfl rfl rfl rfl rfl rfl rfl rfl rfl rfl ?_
            obtain ⟨h20, hf⟩ := gd_e hf
            obtain rfl := Option.some.inj hf
            exact go_iret hC hQ dX12_isThrough_150 rfl (okz_n h20) rfl rfl (fun _ => rfl) rfl rfl
theorem dX12_sets_0 : decode cX12_sets 0 = .ok (.iconst 1, 1) := by decide +kernel
theorem dX12_sets_1 : decode cX12_sets 1 = .ok (.aload_n 0, 1) := by decide +kernel
theorem dX12_sets_2 : decode cX12_sets 2 = .ok (.getfield 288, 3) := by decide +kernel
theorem dX12_sets_5 : decode cX12_sets 5 = .ok (.ishl, 1) := by decide +kernel
theorem dX12_sets_6 : decode cX12_sets 6 = .ok (.ireturn, 1) := by decide +kernel
abbrev o_X12_sets : Type := Int32
def f_X12_sets (S : wd_W) : Option o_X12_sets :=
some ((1 : Int32) <<< ((S.1 32) &&& 31))
set_option maxRecDepth 100000 in
set_option maxHeartbeats 4000000 in
theorem c_X12_sets (l : Launch) (D : va_G) (q g : Nat → Nat) (cy : Nat → ClassId) (z : (Nat → Nat) × (Nat → Nat) × Nat) (S : wd_W) (o : o_X12_sets) (hf : f_X12_sets S = some o) : MX layM l yX12_sets cX12_sets 1 (some .int) ({ frames := 0, cells := 0, slots := 0, locals := 0 } : Room) D q g cy z [.ref (q 0)] S false (some (.int o)) (wd_o S [] [] [] [] []) 0 0 := by
  refine mx_of (own := RX12) (lc := [(0, .ref (q 0))]) (by decide +kernel) rfl layM_ok (Nat.le_of_ble_eq_true rfl) rfl ?_
  intro X hXl hXq hXz hC hQ
  subst hXl; subst hXq; subst hXz
  unfold f_X12_sets at hf
  refine go_iconst (pc' := 1) hC dX12_sets_0 ki_1 rfl ?_
  refine go_aload_n (pc' := 2) hC dX12_sets_1 rfl rfl ?_
  refine go_geti (v := (S.1 32)) (pc' := 5) hC 0 32 layM_0 rfl rfl inlX12 (Nat.le_of_ble_eq_true rfl) mw_250 rfl dX12_sets_2 rfl rfl ?_
  refine go_ishl (pc' := 6) hC dX12_sets_5 rfl ?_
  obtain rfl := Option.some.inj hf
  exact go_iret hC hQ dX12_sets_6 rfl rfl rfl rfl (fun _ => rfl) rfl rfl
theorem dX12_lays_0 : decode cX12_lays 0 = .ok (.aload_n 0, 1) := by decide +kernel
theorem dX12_lays_1 : decode cX12_lays 1 = .ok (.getfield 312, 3) := by decide +kernel
theorem dX12_lays_4 : decode cX12_lays 4 = .ok (.ifCond .eq 4, 3) := by decide +kernel
theorem dX12_lays_7 : decode cX12_lays 7 = .ok (.return_, 1) := by decide +kernel
theorem dX12_lays_8 : decode cX12_lays 8 = .ok (.aload_n 0, 1) := by decide +kernel
theorem dX12_lays_9 : decode cX12_lays 9 = .ok (.iconst 1, 1) := by decide +kernel
theorem dX12_lays_10 : decode cX12_lays 10 = .ok (.putfield 312, 3) := by decide +kernel
theorem dX12_lays_13 : decode cX12_lays 13 = .ok (.iconst 0, 1) := by decide +kernel
theorem dX12_lays_14 : decode cX12_lays 14 = .ok (.istore_n 1, 1) := by decide +kernel
theorem dX12_lays_15 : decode cX12_lays 15 = .ok (.iload_n 1, 1) := by decide +kernel
theorem dX12_lays_16 : decode cX12_lays 16 = .ok (.aload_n 0, 1) := by decide +kernel
theorem dX12_lays_17 : decode cX12_lays 17 = .ok (.invokevirtual 354, 3) := by decide +kernel
theorem dX12_lays_20 : decode cX12_lays 20 = .ok (.if_icmp .ge 21, 3) := by decide +kernel
theorem dX12_lays_23 : decode cX12_lays 23 = .ok (.aload_n 0, 1) := by decide +kernel
theorem dX12_lays_24 : decode cX12_lays 24 = .ok (.getfield 70, 3) := by decide +kernel
theorem dX12_lays_27 : decode cX12_lays 27 = .ok (.iload_n 1, 1) := by decide +kernel
theorem dX12_lays_28 : decode cX12_lays 28 = .ok (.aload_n 0, 1) := by decide +kernel
theorem dX12_lays_29 : decode cX12_lays 29 = .ok (.iload_n 1, 1) := by decide +kernel
theorem dX12_lays_30 : decode cX12_lays 30 = .ok (.iconst 0, 1) := by decide +kernel
theorem dX12_lays_31 : decode cX12_lays 31 = .ok (.invokevirtual 357, 3) := by decide +kernel
theorem dX12_lays_34 : decode cX12_lays 34 = .ok (.bastore, 1) := by decide +kernel
theorem dX12_lays_35 : decode cX12_lays 35 = .ok (.iinc 1 1, 3) := by decide +kernel
theorem dX12_lays_38 : decode cX12_lays 38 = .ok (.goto (-23), 3) := by decide +kernel
theorem dX12_lays_41 : decode cX12_lays 41 = .ok (.return_, 1) := by decide +kernel
abbrev o_X12_lays : Type := Int32 × Int32 × Int32 × (Nat → Int32) × (Nat → Int32) × (Nat → Int32) × (Nat → Int32)
def f_X12_lays_L15 (S : wd_W) (r8 : (Int32) → (Int32) → (Int32) → (Nat → Int32) → (Nat → Int32) → (Nat → Int32) → (Nat → Int32) → (Option o_X12_lays)) (x1 : Int32) (x2 : Int32) (x3 : Int32) (a4 : Nat → Int32) (a5 : Nat → Int32) (a6 : Nat → Int32) (a7 : Nat → Int32) : Option o_X12_lays :=
bd (f_X12_sets (wd_o S [(38, x2), (39, x3), (44, (1 : Int32))] [] [(17, a4), (18, a5), (19, a6), (20, a7)] [] [])) fun o9 =>
if o9 ≤ x1 then (
some (x2, x3, (1 : Int32), a4, a5, a6, a7)) else (
bd (f_X12_isThrough (wd_o S [(38, x2), (39, x3), (44, (1 : Int32))] [] [(17, a4), (18, a5), (19, a6), (20, a7)] [] []) x1 (0 : Int32)) fun o10 =>
gd (okx x1 32768) <|
lz (upd a7 x1.toNatClampNeg (vp_nar .boolean o10.1)) fun a12 =>
r8 (x1 + (1 : Int32)) o10.2.1 o10.2.2.1 o10.2.2.2.1 o10.2.2.2.2.1 o10.2.2.2.2.2 a12)
def f_X12_lays (S : wd_W) : Option o_X12_lays :=
if (S.1 44) = 0 then (
it7 (f_X12_lays_L15 S) fuel (0 : Int32) (S.1 38) (S.1 39) (S.2.2.1 17) (S.2.2.1 18) (S.2.2.1 19) (S.2.2.1 20)) else (
some ((S.1 38), (S.1 39), (S.1 44), (S.2.2.1 17), (S.2.2.1 18), (S.2.2.1 19), (S.2.2.1 20)))
set_option maxRecDepth 100000 in
set_option maxHeartbeats 4000000 in
theorem c_X12_lays (l : Launch) (D : va_G) (q g : Nat → Nat) (cy : Nat → ClassId) (z : (Nat → Nat) × (Nat → Nat) × Nat) (S : wd_W) (o : o_X12_lays) (hf : f_X12_lays S = some o) : MX layM l yX12_lays cX12_lays 2 none ({ frames := 4, cells := 0, slots := 0, locals := 94 } : Room) D q g cy z [.ref (q 0)] S false (none) (wd_o S [(38, o.1), (39, o.2.1), (44, o.2.2.1)] [] [(17, o.2.2.2.1), (18, o.2.2.2.2.1), (19, o.2.2.2.2.2.1), (20, o.2.2.2.2.2.2)] [] []) 0 0 := by
  refine mx_of (own := RX12) (lc := [(0, .ref (q 0))]) (by decide +kernel) rfl layM_ok (Nat.le_of_ble_eq_true rfl) rfl ?_
  intro X hXl hXq hXz hC hQ
  subst hXl; subst hXq; subst hXz
  unfold f_X12_lays at hf
  refine go_keys (L1 := [(38, (S.1 38)), (39, (S.1 39)), (44, (S.1 44))]) (L2 := []) (L3 := [(17, (S.2.2.1 17)), (18, (S.2.2.1 18)), (19, (S.2.2.1 19)), (20, (S.2.2.1 20))]) (L4 := []) (L5 := []) [38, 39, 44] [] [17, 18, 19, 20] [] [] rfl rfl rfl rfl rfl ?_
  refine go_aload_n (pc' := 1) hC dX12_lays_0 rfl rfl ?_
  refine go_geti (v := (S.1 44)) (pc' := 4) hC 0 44 layM_0 rfl rfl inlX12 (Nat.le_of_ble_eq_true rfl) mw_258 rfl dX12_lays_1 rfl rfl ?_
  refine go_if_eq (tgt := 8) (pc' := 7) hC dX12_lays_4 (by decide) rfl (fun h15 => ?_) (fun h15 => ?_)
  · have hf := ite_t h15 hf
    refine go_aload_n (pc' := 9) hC dX12_lays_8 rfl rfl ?_
    refine go_iconst (pc' := 10) hC dX12_lays_9 ki_1 rfl ?_
    refine go_puti (L1' := [(38, (S.1 38)), (39, (S.1 39)), (44, (1 : Int32))]) (pc' := 13) hC 0 44 layM_0 rfl rfl inlX12 tyX12_ok nmX12 (Nat.le_of_ble_eq_true rfl) mw_258 rfl rfl rfl rfl dX12_lays_10 rfl rfl rfl ?_
    refine go_iconst (pc' := 14) hC dX12_lays_13 ki_0 rfl ?_
    refine go_istore_n (lc' := [(0, .ref (x_q X 0)), (1, .int (0 : Int32))]) (pc' := 15) hC dX12_lays_14 (Nat.le_of_ble_eq_true rfl) rfl rfl ?_
    have l15_14 : ∀ (nn : Nat) (x1 : Int32) (x2 : Int32) (x3 : Int32) (a4 : Nat → Int32) (a5 : Nat → Int32) (a6 : Nat → Int32) (a7 : Nat → Int32), it7 (f_X12_lays_L15 S) nn x1 x2 x3 a4 a5 a6 a7 = some o → Go X layM S 15 [(0, .ref (x_q X 0)), (1, .int x1)] [] g [(38, x2), (39, x3), (44, (1 : Int32))] [] [(17, a4), (18, a5), (19, a6), (20, a7)] [] [] 0 0 := by
      intro nn
      induction nn with
      | zero =>
        intro x1 x2 x3 a4 a5 a6 a7 hf
        exact none_no hf
      | succ nn ih =>
        intro x1 x2 x3 a4 a5 a6 a7 hf
        have hf : f_X12_lays_L15 S (it7 (f_X12_lays_L15 S) nn) x1 x2 x3 a4 a5 a6 a7 = some o := hf
        generalize it7 (f_X12_lays_L15 S) nn = r8 at ih hf
        unfold f_X12_lays_L15 at hf
        refine go_iload_n (pc' := 16) hC dX12_lays_15 rfl rfl ?_
        refine go_aload_n (pc' := 17) hC dX12_lays_16 rfl rfl ?_
        obtain ⟨o9, ho9, hf⟩ := bd_e hf
        refine go_callV0 (pc' := 20) (As := []) (st := [.int x1]) (st' := [.int o9, .int x1])    (b := 0) hC dX12_lays_17 ⟨mw_856, mw_859, mw_5, yd_yX12_sets, yp_yX12_sets, Nat.le_of_ble_eq_true rfl, Nat.le_of_ble_eq_true rfl, (Nat.le_of_ble_eq_true rfl), (Nat.le_of_ble_eq_true rfl)⟩ mw_857 mw_858 layM_0 rfl rfl rfl (Nat.le_of_ble_eq_true rfl) (c_X12_sets (x_l X) (x_D X) (x_q X) g (x_cy X) (x_z X) _  o9 ho9) rfl rfl ?_
        refine go_icmp_ge (tgt := 41) (pc' := 23) hC dX12_lays_20 (by decide) rfl (fun h13 => ?_) (fun h13 => ?_)
        · have hf := ite_t h13 hf
          obtain rfl := Option.some.inj hf
          exact go_vret hC hQ dX12_lays_41 rfl rfl rfl (fun _ => rfl) rfl rfl
        · have hf := ite_f h13 hf
          refine go_aload_n (pc' := 24) hC dX12_lays_23 rfl rfl ?_
          refine go_getq (pc' := 27) hC 0 43 layM_0 rfl rfl inlX12 (Nat.le_of_ble_eq_true rfl) mw_201 rfl dX12_lays_24 rfl ?_
          refine go_iload_n (pc' := 28) hC dX12_lays_27 rfl rfl ?_
          refine go_aload_n (pc' := 29) hC dX12_lays_28 rfl rfl ?_
          refine go_iload_n (pc' := 30) hC dX12_lays_29 rfl rfl ?_
          refine go_iconst (pc' := 31) hC dX12_lays_30 ki_0 rfl ?_
          obtain ⟨o10, ho10, hf⟩ := bd_e hf
          refine go_callV1 (pc' := 34) (As := [.int x1, .int (0 : Int32)]) (st := [.int x1, .ref (x_q X 20)]) (st' := [.int o10.1, .int x1, .ref (x_q X 20)]) (L1' := [(38, o10.2.1), (39, o10.2.2.1), (44, (1 : Int32))]) (L2' := []) (L3' := [(17, o10.2.2.2.1), (18, o10.2.2.2.2.1), (19, o10.2.2.2.2.2), (20, a7)]) (L4' := []) (L5' := []) (cells' := 0) (slots' := 0)  (b := 0) hC dX12_lays_31 ⟨mw_864, mw_867, mw_5, yd_yX12_isThrough, yp_yX12_isThrough, Nat.le_of_ble_eq_true rfl, Nat.le_of_ble_eq_true rfl, (Nat.le_of_ble_eq_true rfl), (Nat.le_of_ble_eq_true rfl)⟩ mw_865 mw_866 layM_0 rfl rfl rfl (Nat.le_of_ble_eq_true rfl) (c_X12_isThrough (x_l X) (x_D X) (x_q X) g (x_cy X) (x_z X) _ x1 (0 : Int32) o10 ho10) rfl rfl rfl rfl rfl rfl rfl rfl rfl rfl rfl rfl rfl rfl ?_
          obtain ⟨h11, hf⟩ := gd_e hf
          refine go_zast (f := a7) (pc' := 35) hC 20 layM_20 rfl rfl dX12_lays_34 (okx_in h11) rfl rfl (fun a12 ha L3' hL => ?_)
          have hf := lz_r ha hf
          clear ha
          obtain rfl : L3' = [(17, o10.2.2.2.1), (18, o10.2.2.2.2.1), (19, o10.2.2.2.2.2), (20, a12)] := hL.symm
          refine go_iinc (lc' := [(0, .ref (x_q X 0)), (1, .int (x1 + (1 : Int32)))]) (pc' := 38) hC dX12_lays_35 rfl ki_1 (Nat.le_of_ble_eq_true rfl) rfl rfl ?_
          refine go_goto (tgt := 15) hC dX12_lays_38 (by decide) ?_
          exact ih (x1 + (1 : Int32)) o10.2.1 o10.2.2.1 o10.2.2.2.1 o10.2.2.2.2.1 o10.2.2.2.2.2 a12 hf
    exact l15_14 fuel (0 : Int32) (S.1 38) (S.1 39) (S.2.2.1 17) (S.2.2.1 18) (S.2.2.1 19) (S.2.2.1 20) hf
  · have hf := ite_f h15 hf
    obtain rfl := Option.some.inj hf
    exact go_vret hC hQ dX12_lays_7 rfl rfl rfl (fun _ => rfl) rfl rfl
theorem dX12_plain_0 : decode cX12_plain 0 = .ok (.iconst 0, 1) := by decide +kernel
theorem dX12_plain_1 : decode cX12_plain 1 = .ok (.istore_n 1, 1) := by decide +kernel
theorem dX12_plain_2 : decode cX12_plain 2 = .ok (.iload_n 1, 1) := by decide +kernel
theorem dX12_plain_3 : decode cX12_plain 3 = .ok (.aload_n 0, 1) := by decide +kernel
theorem dX12_plain_4 : decode cX12_plain 4 = .ok (.getfield 288, 3) := by decide +kernel
theorem dX12_plain_7 : decode cX12_plain 7 = .ok (.if_icmp .ge 36, 3) := by decide +kernel
theorem dX12_plain_10 : decode cX12_plain 10 = .ok (.aload_n 0, 1) := by decide +kernel
theorem dX12_plain_11 : decode cX12_plain 11 = .ok (.getfield 77, 3) := by decide +kernel
theorem dX12_plain_14 : decode cX12_plain 14 = .ok (.iload_n 1, 1) := by decide +kernel
theorem dX12_plain_15 : decode cX12_plain 15 = .ok (.aload_n 0, 1) := by decide +kernel
theorem dX12_plain_16 : decode cX12_plain 16 = .ok (.getfield 57, 3) := by decide +kernel
theorem dX12_plain_19 : decode cX12_plain 19 = .ok (.iload_n 1, 1) := by decide +kernel
theorem dX12_plain_20 : decode cX12_plain 20 = .ok (.iaload, 1) := by decide +kernel
theorem dX12_plain_21 : decode cX12_plain 21 = .ok (.iastore, 1) := by decide +kernel
theorem dX12_plain_22 : decode cX12_plain 22 = .ok (.aload_n 0, 1) := by decide +kernel
theorem dX12_plain_23 : decode cX12_plain 23 = .ok (.getfield 80, 3) := by decide +kernel
theorem dX12_plain_26 : decode cX12_plain 26 = .ok (.iload_n 1, 1) := by decide +kernel
theorem dX12_plain_27 : decode cX12_plain 27 = .ok (.bipush 16, 2) := by decide +kernel
theorem dX12_plain_29 : decode cX12_plain 29 = .ok (.aload_n 0, 1) := by decide +kernel
theorem dX12_plain_30 : decode cX12_plain 30 = .ok (.getfield 57, 3) := by decide +kernel
theorem dX12_plain_33 : decode cX12_plain 33 = .ok (.iload_n 1, 1) := by decide +kernel
theorem dX12_plain_34 : decode cX12_plain 34 = .ok (.iaload, 1) := by decide +kernel
theorem dX12_plain_35 : decode cX12_plain 35 = .ok (.isub, 1) := by decide +kernel
theorem dX12_plain_36 : decode cX12_plain 36 = .ok (.iastore, 1) := by decide +kernel
theorem dX12_plain_37 : decode cX12_plain 37 = .ok (.iinc 1 1, 3) := by decide +kernel
theorem dX12_plain_40 : decode cX12_plain 40 = .ok (.goto (-38), 3) := by decide +kernel
theorem dX12_plain_43 : decode cX12_plain 43 = .ok (.return_, 1) := by decide +kernel
abbrev o_X12_plain : Type := (Nat → Int32) × (Nat → Int32)
def f_X12_plain_L2 (S : wd_W) (r4 : (Int32) → (Nat → Int32) → (Nat → Int32) → (Option o_X12_plain)) (x1 : Int32) (a2 : Nat → Int32) (a3 : Nat → Int32) : Option o_X12_plain :=
if (S.1 32) ≤ x1 then (
some (a2, a3)) else (
gd (okx x1 15) <|
lz ((S.2.2.1 16) x1.toNatClampNeg) fun x6 =>
gd (okx x1 15) <|
lz (upd a2 x1.toNatClampNeg x6) fun a8 =>
gd (okx x1 15) <|
lz ((16 : Int32) - ((S.2.2.1 16) x1.toNatClampNeg)) fun x10 =>
gd (okx x1 15) <|
lz (upd a3 x1.toNatClampNeg x10) fun a12 =>
r4 (x1 + (1 : Int32)) a8 a12)
def f_X12_plain (S : wd_W) : Option o_X12_plain :=
it3 (f_X12_plain_L2 S) fuel (0 : Int32) (S.2.2.1 22) (S.2.2.1 23)
set_option maxRecDepth 100000 in
set_option maxHeartbeats 4000000 in
theorem c_X12_plain (l : Launch) (D : va_G) (q g : Nat → Nat) (cy : Nat → ClassId) (z : (Nat → Nat) × (Nat → Nat) × Nat) (S : wd_W) (o : o_X12_plain) (hf : f_X12_plain S = some o) : MX layM l yX12_plain cX12_plain 2 none ({ frames := 0, cells := 0, slots := 0, locals := 0 } : Room) D q g cy z [.ref (q 0)] S false (none) (wd_o S [] [] [(22, o.1), (23, o.2)] [] []) 0 0 := by
  refine mx_of (own := RX12) (lc := [(0, .ref (q 0))]) (by decide +kernel) rfl layM_ok (Nat.le_of_ble_eq_true rfl) rfl ?_
  intro X hXl hXq hXz hC hQ
  subst hXl; subst hXq; subst hXz
  unfold f_X12_plain at hf
  refine go_keys (L1 := []) (L2 := []) (L3 := [(22, (S.2.2.1 22)), (23, (S.2.2.1 23))]) (L4 := []) (L5 := []) [] [] [22, 23] [] [] rfl rfl rfl rfl rfl ?_
  refine go_iconst (pc' := 1) hC dX12_plain_0 ki_0 rfl ?_
  refine go_istore_n (lc' := [(0, .ref (x_q X 0)), (1, .int (0 : Int32))]) (pc' := 2) hC dX12_plain_1 (Nat.le_of_ble_eq_true rfl) rfl rfl ?_
  have l2_14 : ∀ (nn : Nat) (x1 : Int32) (a2 : Nat → Int32) (a3 : Nat → Int32), it3 (f_X12_plain_L2 S) nn x1 a2 a3 = some o → Go X layM S 2 [(0, .ref (x_q X 0)), (1, .int x1)] [] g [] [] [(22, a2), (23, a3)] [] [] 0 0 := by
    intro nn
    induction nn with
    | zero =>
      intro x1 a2 a3 hf
      exact none_no hf
    | succ nn ih =>
      intro x1 a2 a3 hf
      have hf : f_X12_plain_L2 S (it3 (f_X12_plain_L2 S) nn) x1 a2 a3 = some o := hf
      generalize it3 (f_X12_plain_L2 S) nn = r4 at ih hf
      unfold f_X12_plain_L2 at hf
      refine go_iload_n (pc' := 3) hC dX12_plain_2 rfl rfl ?_
      refine go_aload_n (pc' := 4) hC dX12_plain_3 rfl rfl ?_
      refine go_geti (v := (S.1 32)) (pc' := 7) hC 0 32 layM_0 rfl rfl inlX12 (Nat.le_of_ble_eq_true rfl) mw_250 rfl dX12_plain_4 rfl rfl ?_
      refine go_icmp_ge (tgt := 43) (pc' := 10) hC dX12_plain_7 (by decide) rfl (fun h13 => ?_) (fun h13 => ?_)
      · have hf := ite_t h13 hf
        obtain rfl := Option.some.inj hf
        exact go_vret hC hQ dX12_plain_43 rfl rfl rfl (fun _ => rfl) rfl rfl
      · have hf := ite_f h13 hf
        refine go_aload_n (pc' := 11) hC dX12_plain_10 rfl rfl ?_
        refine go_getq (pc' := 14) hC 0 46 layM_0 rfl rfl inlX12 (Nat.le_of_ble_eq_true rfl) mw_203 rfl dX12_plain_11 rfl ?_
        refine go_iload_n (pc' := 15) hC dX12_plain_14 rfl rfl ?_
        refine go_aload_n (pc' := 16) hC dX12_plain_15 rfl rfl ?_
        refine go_getq (pc' := 19) hC 0 33 layM_0 rfl rfl inlX12 (Nat.le_of_ble_eq_true rfl) mw_196 rfl dX12_plain_16 rfl ?_
        refine go_iload_n (pc' := 20) hC dX12_plain_19 rfl rfl ?_
        obtain ⟨h5, hf⟩ := gd_e hf
        refine go_iald (f := (S.2.2.1 16)) (pc' := 21) hC 16 layM_16 rfl rfl dX12_plain_20 (okx_in h5) rfl ?_
        refine go_namei (fun x6 hx => ?_)
        have hf := lz_r hx hf
        clear hx
        obtain ⟨h7, hf⟩ := gd_e hf
        refine go_iast (f := a2) (pc' := 22) hC 22 layM_22 rfl rfl dX12_plain_21 (okx_in h7) rfl rfl (fun a8 ha L3' hL => ?_)
        have hf := lz_r ha hf
        clear ha
        obtain rfl : L3' = [(22, a8), (23, a3)] := hL.symm
        refine go_aload_n (pc' := 23) hC dX12_plain_22 rfl rfl ?_
        refine go_getq (pc' := 26) hC 0 47 layM_0 rfl rfl inlX12 (Nat.le_of_ble_eq_true rfl) mw_204 rfl dX12_plain_23 rfl ?_
        refine go_iload_n (pc' := 27) hC dX12_plain_26 rfl rfl ?_
        refine go_bipush (pc' := 29) hC dX12_plain_27 kb_16 rfl ?_
        refine go_aload_n (pc' := 30) hC dX12_plain_29 rfl rfl ?_
        refine go_getq (pc' := 33) hC 0 33 layM_0 rfl rfl inlX12 (Nat.le_of_ble_eq_true rfl) mw_196 rfl dX12_plain_30 rfl ?_
        refine go_iload_n (pc' := 34) hC dX12_plain_33 rfl rfl ?_
        obtain ⟨h9, hf⟩ := gd_e hf
        refine go_iald (f := (S.2.2.1 16)) (pc' := 35) hC 16 layM_16 rfl rfl dX12_plain_34 (okx_in h9) rfl ?_
        refine go_isub (pc' := 36) hC dX12_plain_35 rfl ?_
        refine go_namei (fun x10 hx => ?_)
        have hf := lz_r hx hf
        clear hx
        obtain ⟨h11, hf⟩ := gd_e hf
        refine go_iast (f := a3) (pc' := 37) hC 23 layM_23 rfl rfl dX12_plain_36 (okx_in h11) rfl rfl (fun a12 ha L3' hL => ?_)
        have hf := lz_r ha hf
        clear ha
        obtain rfl : L3' = [(22, a8), (23, a12)] := hL.symm
        refine go_iinc (lc' := [(0, .ref (x_q X 0)), (1, .int (x1 + (1 : Int32)))]) (pc' := 40) hC dX12_plain_37 rfl ki_1 (Nat.le_of_ble_eq_true rfl) rfl rfl ?_
        refine go_goto (tgt := 2) hC dX12_plain_40 (by decide) ?_
        exact ih (x1 + (1 : Int32)) a8 a12 hf
  exact l2_14 fuel (0 : Int32) (S.2.2.1 22) (S.2.2.1 23) hf
theorem dX12_weighs_0 : decode cX12_weighs 0 = .ok (.aload_n 0, 1) := by decide +kernel
theorem dX12_weighs_1 : decode cX12_weighs 1 = .ok (.getfield 73, 3) := by decide +kernel
theorem dX12_weighs_4 : decode cX12_weighs 4 = .ok (.iconst 0, 1) := by decide +kernel
theorem dX12_weighs_5 : decode cX12_weighs 5 = .ok (.lconst 1, 1) := by decide +kernel
theorem dX12_weighs_6 : decode cX12_weighs 6 = .ok (.lastore, 1) := by decide +kernel
theorem dX12_weighs_7 : decode cX12_weighs 7 = .ok (.iconst 0, 1) := by decide +kernel
theorem dX12_weighs_8 : decode cX12_weighs 8 = .ok (.istore_n 1, 1) := by decide +kernel
theorem dX12_weighs_9 : decode cX12_weighs 9 = .ok (.iload_n 1, 1) := by decide +kernel
theorem dX12_weighs_10 : decode cX12_weighs 10 = .ok (.aload_n 0, 1) := by decide +kernel
theorem dX12_weighs_11 : decode cX12_weighs 11 = .ok (.getfield 288, 3) := by decide +kernel
theorem dX12_weighs_14 : decode cX12_weighs 14 = .ok (.if_icmp .ge 64, 3) := by decide +kernel
theorem dX12_weighs_17 : decode cX12_weighs 17 = .ok (.iconst 0, 1) := by decide +kernel
theorem dX12_weighs_18 : decode cX12_weighs 18 = .ok (.istore_n 2, 1) := by decide +kernel
theorem dX12_weighs_19 : decode cX12_weighs 19 = .ok (.iload_n 2, 1) := by decide +kernel
theorem dX12_weighs_20 : decode cX12_weighs 20 = .ok (.iconst 1, 1) := by decide +kernel
theorem dX12_weighs_21 : decode cX12_weighs 21 = .ok (.iload_n 1, 1) := by decide +kernel
theorem dX12_weighs_22 : decode cX12_weighs 22 = .ok (.ishl, 1) := by decide +kernel
theorem dX12_weighs_23 : decode cX12_weighs 23 = .ok (.if_icmp .ge 49, 3) := by decide +kernel
theorem dX12_weighs_26 : decode cX12_weighs 26 = .ok (.aload_n 0, 1) := by decide +kernel
theorem dX12_weighs_27 : decode cX12_weighs 27 = .ok (.getfield 73, 3) := by decide +kernel
theorem dX12_weighs_30 : decode cX12_weighs 30 = .ok (.iload_n 2, 1) := by decide +kernel
theorem dX12_weighs_31 : decode cX12_weighs 31 = .ok (.iconst 1, 1) := by decide +kernel
theorem dX12_weighs_32 : decode cX12_weighs 32 = .ok (.iload_n 1, 1) := by decide +kernel
theorem dX12_weighs_33 : decode cX12_weighs 33 = .ok (.ishl, 1) := by decide +kernel
theorem dX12_weighs_34 : decode cX12_weighs 34 = .ok (.ior, 1) := by decide +kernel
theorem dX12_weighs_35 : decode cX12_weighs 35 = .ok (.aload_n 0, 1) := by decide +kernel
theorem dX12_weighs_36 : decode cX12_weighs 36 = .ok (.getfield 73, 3) := by decide +kernel
theorem dX12_weighs_39 : decode cX12_weighs 39 = .ok (.iload_n 2, 1) := by decide +kernel
theorem dX12_weighs_40 : decode cX12_weighs 40 = .ok (.laload, 1) := by decide +kernel
theorem dX12_weighs_41 : decode cX12_weighs 41 = .ok (.aload_n 0, 1) := by decide +kernel
theorem dX12_weighs_42 : decode cX12_weighs 42 = .ok (.getfield 77, 3) := by decide +kernel
theorem dX12_weighs_45 : decode cX12_weighs 45 = .ok (.iload_n 1, 1) := by decide +kernel
theorem dX12_weighs_46 : decode cX12_weighs 46 = .ok (.iaload, 1) := by decide +kernel
theorem dX12_weighs_47 : decode cX12_weighs 47 = .ok (.i2l, 1) := by decide +kernel
theorem dX12_weighs_48 : decode cX12_weighs 48 = .ok (.lmul, 1) := by decide +kernel
theorem dX12_weighs_49 : decode cX12_weighs 49 = .ok (.lastore, 1) := by decide +kernel
theorem dX12_weighs_50 : decode cX12_weighs 50 = .ok (.aload_n 0, 1) := by decide +kernel
theorem dX12_weighs_51 : decode cX12_weighs 51 = .ok (.getfield 73, 3) := by decide +kernel
theorem dX12_weighs_54 : decode cX12_weighs 54 = .ok (.iload_n 2, 1) := by decide +kernel
theorem dX12_weighs_55 : decode cX12_weighs 55 = .ok (.dup2, 1) := by decide +kernel
theorem dX12_weighs_56 : decode cX12_weighs 56 = .ok (.laload, 1) := by decide +kernel
theorem dX12_weighs_57 : decode cX12_weighs 57 = .ok (.aload_n 0, 1) := by decide +kernel
theorem dX12_weighs_58 : decode cX12_weighs 58 = .ok (.getfield 80, 3) := by decide +kernel
theorem dX12_weighs_61 : decode cX12_weighs 61 = .ok (.iload_n 1, 1) := by decide +kernel
theorem dX12_weighs_62 : decode cX12_weighs 62 = .ok (.iaload, 1) := by decide +kernel
theorem dX12_weighs_63 : decode cX12_weighs 63 = .ok (.i2l, 1) := by decide +kernel
theorem dX12_weighs_64 : decode cX12_weighs 64 = .ok (.lmul, 1) := by decide +kernel
theorem dX12_weighs_65 : decode cX12_weighs 65 = .ok (.lastore, 1) := by decide +kernel
theorem dX12_weighs_66 : decode cX12_weighs 66 = .ok (.iinc 2 1, 3) := by decide +kernel
theorem dX12_weighs_69 : decode cX12_weighs 69 = .ok (.goto (-50), 3) := by decide +kernel
theorem dX12_weighs_72 : decode cX12_weighs 72 = .ok (.iinc 1 1, 3) := by decide +kernel
theorem dX12_weighs_75 : decode cX12_weighs 75 = .ok (.goto (-66), 3) := by decide +kernel
theorem dX12_weighs_78 : decode cX12_weighs 78 = .ok (.return_, 1) := by decide +kernel
abbrev o_X12_weighs : Type := (Nat → Int64)
def f_X12_weighs_L19 (S : wd_W) (x3 : Int32) (k72_7 : (Nat → Int64) → (Option o_X12_weighs)) (r10 : (Int32) → (Nat → Int64) → (Option o_X12_weighs)) (x8 : Int32) (a9 : Nat → Int64) : Option o_X12_weighs :=
if ((1 : Int32) <<< (x3 &&& 31)) ≤ x8 then (
k72_7 a9) else (
gd (okx x8 32768) <|
gd (okx x3 15) <|
lz ((a9 x8.toNatClampNeg) * (((S.2.2.1 22) x3.toNatClampNeg).toInt64)) fun x13 =>
gd (okx (x8 ||| ((1 : Int32) <<< (x3 &&& 31))) 32768) <|
lz (vp_updL a9 (x8 ||| ((1 : Int32) <<< (x3 &&& 31))).toNatClampNeg x13) fun a15 =>
gd (okx x8 32768) <|
gd (okx x3 15) <|
lz ((a15 x8.toNatClampNeg) * (((S.2.2.1 23) x3.toNatClampNeg).toInt64)) fun x18 =>
gd (okx x8 32768) <|
lz (vp_updL a15 x8.toNatClampNeg x18) fun a20 =>
r10 (x8 + (1 : Int32)) a20)
def f_X12_weighs_L9 (S : wd_W) (r5 : (Int32) → (Nat → Int64) → (Option o_X12_weighs)) (x3 : Int32) (a4 : Nat → Int64) : Option o_X12_weighs :=
if (S.1 32) ≤ x3 then (
some a4) else (
lk (fun a6 =>
r5 (x3 + (1 : Int32)) a6) fun k72_7 =>
it2 (f_X12_weighs_L19 S x3 k72_7) fuel (0 : Int32) a4)
def f_X12_weighs (S : wd_W) : Option o_X12_weighs :=
gd (okx (0 : Int32) 32768) <|
lz (vp_updL (S.2.2.2.1 21) (0 : Int32).toNatClampNeg (1 : Int64)) fun a2 =>
it2 (f_X12_weighs_L9 S) fuel (0 : Int32) a2
set_option maxRecDepth 100000 in
set_option maxHeartbeats 4000000 in
theorem c_X12_weighs (l : Launch) (D : va_G) (q g : Nat → Nat) (cy : Nat → ClassId) (z : (Nat → Nat) × (Nat → Nat) × Nat) (S : wd_W) (o : o_X12_weighs) (hf : f_X12_weighs S = some o) : MX layM l yX12_weighs cX12_weighs 3 none ({ frames := 0, cells := 0, slots := 0, locals := 0 } : Room) D q g cy z [.ref (q 0)] S false (none) (wd_o S [] [] [] [(21, o)] []) 0 0 := by
  refine mx_of (own := RX12) (lc := [(0, .ref (q 0))]) (by decide +kernel) rfl layM_ok (Nat.le_of_ble_eq_true rfl) rfl ?_
  intro X hXl hXq hXz hC hQ
  subst hXl; subst hXq; subst hXz
  unfold f_X12_weighs at hf
  refine go_keys (L1 := []) (L2 := []) (L3 := []) (L4 := [(21, (S.2.2.2.1 21))]) (L5 := []) [] [] [] [21] [] rfl rfl rfl rfl rfl ?_
  refine go_aload_n (pc' := 1) hC dX12_weighs_0 rfl rfl ?_
  refine go_getq (pc' := 4) hC 0 45 layM_0 rfl rfl inlX12 (Nat.le_of_ble_eq_true rfl) mw_202 rfl dX12_weighs_1 rfl ?_
  refine go_iconst (pc' := 5) hC dX12_weighs_4 ki_0 rfl ?_
  refine go_lconst (pc' := 6) hC dX12_weighs_5 kl_1 rfl ?_
  obtain ⟨h1, hf⟩ := gd_e hf
  refine go_last (f := (S.2.2.2.1 21)) (pc' := 7) hC 21 layM_21 rfl rfl dX12_weighs_6 (okx_in h1) rfl rfl (fun a2 ha L4' hL => ?_)
  have hf := lz_r ha hf
  clear ha
  obtain rfl : L4' = [(21, a2)] := hL.symm
  refine go_iconst (pc' := 8) hC dX12_weighs_7 ki_0 rfl ?_
  refine go_istore_n (lc' := [(0, .ref (x_q X 0)), (1, .int (0 : Int32))]) (pc' := 9) hC dX12_weighs_8 (Nat.le_of_ble_eq_true rfl) rfl rfl ?_
  have l9_24 : ∀ (nn : Nat) (x3 : Int32) (a4 : Nat → Int64), it2 (f_X12_weighs_L9 S) nn x3 a4 = some o → Go X layM S 9 [(0, .ref (x_q X 0)), (1, .int x3)] [] g [] [] [] [(21, a4)] [] 0 0 := by
    intro nn
    induction nn with
    | zero =>
      intro x3 a4 hf
      exact none_no hf
    | succ nn ih =>
      intro x3 a4 hf
      have hf : f_X12_weighs_L9 S (it2 (f_X12_weighs_L9 S) nn) x3 a4 = some o := hf
      generalize it2 (f_X12_weighs_L9 S) nn = r5 at ih hf
      unfold f_X12_weighs_L9 at hf
      refine go_iload_n (pc' := 10) hC dX12_weighs_9 rfl rfl ?_
      refine go_aload_n (pc' := 11) hC dX12_weighs_10 rfl rfl ?_
      refine go_geti (v := (S.1 32)) (pc' := 14) hC 0 32 layM_0 rfl rfl inlX12 (Nat.le_of_ble_eq_true rfl) mw_250 rfl dX12_weighs_11 rfl rfl ?_
      refine go_icmp_ge (tgt := 78) (pc' := 17) hC dX12_weighs_14 (by decide) rfl (fun h23 => ?_) (fun h23 => ?_)
      · have hf := ite_t h23 hf
        obtain rfl := Option.some.inj hf
        exact go_vret hC hQ dX12_weighs_78 rfl rfl rfl (fun _ => rfl) rfl rfl
      · have hf := ite_f h23 hf
        refine go_iconst (pc' := 18) hC dX12_weighs_17 ki_0 rfl ?_
        refine go_istore_n (lc' := [(0, .ref (x_q X 0)), (1, .int x3), (2, .int (0 : Int32))]) (pc' := 19) hC dX12_weighs_18 (Nat.le_of_ble_eq_true rfl) rfl rfl ?_
        obtain ⟨k72_7, hk72_7, hf⟩ := lk_e1 hf
        have jk72_7 : ∀ (a6 : Nat → Int64), k72_7 a6 = some o → Go X layM S 72 [(0, .ref (x_q X 0)), (1, .int x3)] [] g [] [] [] [(21, a6)] [] 0 0 := by
          intro a6 hf
          have hf := hk72_7 a6 hf
          clear hk72_7
          refine go_iinc (lc' := [(0, .ref (x_q X 0)), (1, .int (x3 + (1 : Int32)))]) (pc' := 75) hC dX12_weighs_72 rfl ki_1 (Nat.le_of_ble_eq_true rfl) rfl rfl ?_
          refine go_goto (tgt := 9) hC dX12_weighs_75 (by decide) ?_
          exact ih (x3 + (1 : Int32)) a6 hf
        clear hk72_7
        have l19_22 : ∀ (nn : Nat) (x8 : Int32) (a9 : Nat → Int64), it2 (f_X12_weighs_L19 S x3 k72_7) nn x8 a9 = some o → Go X layM S 19 [(0, .ref (x_q X 0)), (1, .int x3), (2, .int x8)] [] g [] [] [] [(21, a9)] [] 0 0 := by
          intro nn
          induction nn with
          | zero =>
            intro x8 a9 hf
            exact none_no hf
          | succ nn ih =>
            intro x8 a9 hf
            have hf : f_X12_weighs_L19 S x3 k72_7 (it2 (f_X12_weighs_L19 S x3 k72_7) nn) x8 a9 = some o := hf
            generalize it2 (f_X12_weighs_L19 S x3 k72_7) nn = r10 at ih hf
            unfold f_X12_weighs_L19 at hf
            refine go_iload_n (pc' := 20) hC dX12_weighs_19 rfl rfl ?_
            refine go_iconst (pc' := 21) hC dX12_weighs_20 ki_1 rfl ?_
            refine go_iload_n (pc' := 22) hC dX12_weighs_21 rfl rfl ?_
            refine go_ishl (pc' := 23) hC dX12_weighs_22 rfl ?_
            refine go_icmp_ge (tgt := 72) (pc' := 26) hC dX12_weighs_23 (by decide) rfl (fun h21 => ?_) (fun h21 => ?_)
            · have hf := ite_t h21 hf
              refine go_sub [0, 1] rfl ?_
              exact jk72_7 a9 hf
            · have hf := ite_f h21 hf
              refine go_aload_n (pc' := 27) hC dX12_weighs_26 rfl rfl ?_
              refine go_getq (pc' := 30) hC 0 45 layM_0 rfl rfl inlX12 (Nat.le_of_ble_eq_true rfl) mw_202 rfl dX12_weighs_27 rfl ?_
              refine go_iload_n (pc' := 31) hC dX12_weighs_30 rfl rfl ?_
              refine go_iconst (pc' := 32) hC dX12_weighs_31 ki_1 rfl ?_
              refine go_iload_n (pc' := 33) hC dX12_weighs_32 rfl rfl ?_
              refine go_ishl (pc' := 34) hC dX12_weighs_33 rfl ?_
              refine go_ior (pc' := 35) hC dX12_weighs_34 rfl ?_
              refine go_aload_n (pc' := 36) hC dX12_weighs_35 rfl rfl ?_
              refine go_getq (pc' := 39) hC 0 45 layM_0 rfl rfl inlX12 (Nat.le_of_ble_eq_true rfl) mw_202 rfl dX12_weighs_36 rfl ?_
              refine go_iload_n (pc' := 40) hC dX12_weighs_39 rfl rfl ?_
              obtain ⟨h11, hf⟩ := gd_e hf
              refine go_lald (f := a9) (pc' := 41) hC 21 layM_21 rfl rfl dX12_weighs_40 (okx_in h11) rfl ?_
              refine go_aload_n (pc' := 42) hC dX12_weighs_41 rfl rfl ?_
              refine go_getq (pc' := 45) hC 0 46 layM_0 rfl rfl inlX12 (Nat.le_of_ble_eq_true rfl) mw_203 rfl dX12_weighs_42 rfl ?_
              refine go_iload_n (pc' := 46) hC dX12_weighs_45 rfl rfl ?_
              obtain ⟨h12, hf⟩ := gd_e hf
              refine go_iald (f := (S.2.2.1 22)) (pc' := 47) hC 22 layM_22 rfl rfl dX12_weighs_46 (okx_in h12) rfl ?_
              refine go_i2l (pc' := 48) hC dX12_weighs_47 rfl ?_
              refine go_lmul (pc' := 49) hC dX12_weighs_48 rfl ?_
              refine go_namel (fun x13 hx => ?_)
              have hf := lz_r hx hf
              clear hx
              obtain ⟨h14, hf⟩ := gd_e hf
              refine go_last (f := a9) (pc' := 50) hC 21 layM_21 rfl rfl dX12_weighs_49 (okx_in h14) rfl rfl (fun a15 ha L4' hL => ?_)
              have hf := lz_r ha hf
              clear ha
              obtain rfl : L4' = [(21, a15)] := hL.symm
              refine go_aload_n (pc' := 51) hC dX12_weighs_50 rfl rfl ?_
              refine go_getq (pc' := 54) hC 0 45 layM_0 rfl rfl inlX12 (Nat.le_of_ble_eq_true rfl) mw_202 rfl dX12_weighs_51 rfl ?_
              refine go_iload_n (pc' := 55) hC dX12_weighs_54 rfl rfl ?_
              refine go_dup2 (pc' := 56) hC dX12_weighs_55 rfl rfl rfl ?_
              obtain ⟨h16, hf⟩ := gd_e hf
              refine go_lald (f := a15) (pc' := 57) hC 21 layM_21 rfl rfl dX12_weighs_56 (okx_in h16) rfl ?_
              refine go_aload_n (pc' := 58) hC dX12_weighs_57 rfl rfl ?_
              refine go_getq (pc' := 61) hC 0 47 layM_0 rfl rfl inlX12 (Nat.le_of_ble_eq_true rfl) mw_204 rfl dX12_weighs_58 rfl ?_
              refine go_iload_n (pc' := 62) hC dX12_weighs_61 rfl rfl ?_
              obtain ⟨h17, hf⟩ := gd_e hf
              refine go_iald (f := (S.2.2.1 23)) (pc' := 63) hC 23 layM_23 rfl rfl dX12_weighs_62 (okx_in h17) rfl ?_
              refine go_i2l (pc' := 64) hC dX12_weighs_63 rfl ?_
              refine go_lmul (pc' := 65) hC dX12_weighs_64 rfl ?_
              refine go_namel (fun x18 hx => ?_)
              have hf := lz_r hx hf
              clear hx
              obtain ⟨h19, hf⟩ := gd_e hf
              refine go_last (f := a15) (pc' := 66) hC 21 layM_21 rfl rfl dX12_weighs_65 (okx_in h19) rfl rfl (fun a20 ha L4' hL => ?_)
              have hf := lz_r ha hf
              clear ha
              obtain rfl : L4' = [(21, a20)] := hL.symm
              refine go_iinc (lc' := [(0, .ref (x_q X 0)), (1, .int x3), (2, .int (x8 + (1 : Int32)))]) (pc' := 69) hC dX12_weighs_66 rfl ki_1 (Nat.le_of_ble_eq_true rfl) rfl rfl ?_
              refine go_goto (tgt := 19) hC dX12_weighs_69 (by decide) ?_
              exact ih (x8 + (1 : Int32)) a20 hf
        exact l19_22 fuel (0 : Int32) a4 hf
  exact l9_24 fuel (0 : Int32) a2 hf
