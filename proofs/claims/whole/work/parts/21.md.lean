theorem dX12_lists_0 : decode cX12_lists 0 = .ok (.aload_n 0, 1) := by decide +kernel
theorem dX12_lists_1 : decode cX12_lists 1 = .ok (.invokevirtual 361, 3) := by decide +kernel
theorem dX12_lists_4 : decode cX12_lists 4 = .ok (.iload_n 1, 1) := by decide +kernel
theorem dX12_lists_5 : decode cX12_lists 5 = .ok (.ifCond .eq 7, 3) := by decide +kernel
theorem dX12_lists_8 : decode cX12_lists 8 = .ok (.iconst 1, 1) := by decide +kernel
theorem dX12_lists_9 : decode cX12_lists 9 = .ok (.goto 4, 3) := by decide +kernel
theorem dX12_lists_12 : decode cX12_lists 12 = .ok (.iconst 0, 1) := by decide +kernel
theorem dX12_lists_13 : decode cX12_lists 13 = .ok (.istore_n 2, 1) := by decide +kernel
theorem dX12_lists_14 : decode cX12_lists 14 = .ok (.bipush 60, 2) := by decide +kernel
theorem dX12_lists_16 : decode cX12_lists 16 = .ok (.iload_n 2, 1) := by decide +kernel
theorem dX12_lists_17 : decode cX12_lists 17 = .ok (.imul, 1) := by decide +kernel
theorem dX12_lists_18 : decode cX12_lists 18 = .ok (.istore_n 3, 1) := by decide +kernel
theorem dX12_lists_19 : decode cX12_lists 19 = .ok (.aload_n 0, 1) := by decide +kernel
theorem dX12_lists_20 : decode cX12_lists 20 = .ok (.getfield 89, 3) := by decide +kernel
theorem dX12_lists_23 : decode cX12_lists 23 = .ok (.iload_n 2, 1) := by decide +kernel
theorem dX12_lists_24 : decode cX12_lists 24 = .ok (.iconst 0, 1) := by decide +kernel
theorem dX12_lists_25 : decode cX12_lists 25 = .ok (.iastore, 1) := by decide +kernel
theorem dX12_lists_26 : decode cX12_lists 26 = .ok (.aload_n 0, 1) := by decide +kernel
theorem dX12_lists_27 : decode cX12_lists 27 = .ok (.getfield 86, 3) := by decide +kernel
theorem dX12_lists_30 : decode cX12_lists 30 = .ok (.iload_n 2, 1) := by decide +kernel
theorem dX12_lists_31 : decode cX12_lists 31 = .ok (.iconst 0, 1) := by decide +kernel
theorem dX12_lists_32 : decode cX12_lists 32 = .ok (.iastore, 1) := by decide +kernel
theorem dX12_lists_33 : decode cX12_lists 33 = .ok (.iconst 0, 1) := by decide +kernel
theorem dX12_lists_34 : decode cX12_lists 34 = .ok (.istore 4, 2) := by decide +kernel
theorem dX12_lists_36 : decode cX12_lists 36 = .ok (.iload 4, 2) := by decide +kernel
theorem dX12_lists_38 : decode cX12_lists 38 = .ok (.aload_n 0, 1) := by decide +kernel
theorem dX12_lists_39 : decode cX12_lists 39 = .ok (.invokevirtual 354, 3) := by decide +kernel
theorem dX12_lists_42 : decode cX12_lists 42 = .ok (.if_icmp .ge 182, 3) := by decide +kernel
theorem dX12_lists_45 : decode cX12_lists 45 = .ok (.iload_n 1, 1) := by decide +kernel
theorem dX12_lists_46 : decode cX12_lists 46 = .ok (.ifCond .eq 15, 3) := by decide +kernel
theorem dX12_lists_49 : decode cX12_lists 49 = .ok (.aload_n 0, 1) := by decide +kernel
theorem dX12_lists_50 : decode cX12_lists 50 = .ok (.iload 4, 2) := by decide +kernel
theorem dX12_lists_52 : decode cX12_lists 52 = .ok (.invokevirtual 395, 3) := by decide +kernel
theorem dX12_lists_55 : decode cX12_lists 55 = .ok (.ifCond .ne 18, 3) := by decide +kernel
theorem dX12_lists_58 : decode cX12_lists 58 = .ok (.goto 160, 3) := by decide +kernel
theorem dX12_lists_61 : decode cX12_lists 61 = .ok (.aload_n 0, 1) := by decide +kernel
theorem dX12_lists_62 : decode cX12_lists 62 = .ok (.iload 4, 2) := by decide +kernel
theorem dX12_lists_64 : decode cX12_lists 64 = .ok (.invokevirtual 398, 3) := by decide +kernel
theorem dX12_lists_67 : decode cX12_lists 67 = .ok (.ifCond .ne 6, 3) := by decide +kernel
theorem dX12_lists_70 : decode cX12_lists 70 = .ok (.goto 148, 3) := by decide +kernel
theorem dX12_lists_73 : decode cX12_lists 73 = .ok (.aload_n 0, 1) := by decide +kernel
theorem dX12_lists_74 : decode cX12_lists 74 = .ok (.getfield 89, 3) := by decide +kernel
theorem dX12_lists_77 : decode cX12_lists 77 = .ok (.iload_n 2, 1) := by decide +kernel
theorem dX12_lists_78 : decode cX12_lists 78 = .ok (.dup2, 1) := by decide +kernel
theorem dX12_lists_79 : decode cX12_lists 79 = .ok (.iaload, 1) := by decide +kernel
theorem dX12_lists_80 : decode cX12_lists 80 = .ok (.iconst 1, 1) := by decide +kernel
theorem dX12_lists_81 : decode cX12_lists 81 = .ok (.iadd, 1) := by decide +kernel
theorem dX12_lists_82 : decode cX12_lists 82 = .ok (.iastore, 1) := by decide +kernel
theorem dX12_lists_83 : decode cX12_lists 83 = .ok (.aload_n 0, 1) := by decide +kernel
theorem dX12_lists_84 : decode cX12_lists 84 = .ok (.iload 4, 2) := by decide +kernel
theorem dX12_lists_86 : decode cX12_lists 86 = .ok (.iload_n 1, 1) := by decide +kernel
theorem dX12_lists_87 : decode cX12_lists 87 = .ok (.invokevirtual 401, 3) := by decide +kernel
theorem dX12_lists_90 : decode cX12_lists 90 = .ok (.lstore 5, 2) := by decide +kernel
theorem dX12_lists_92 : decode cX12_lists 92 = .ok (.aload_n 0, 1) := by decide +kernel
theorem dX12_lists_93 : decode cX12_lists 93 = .ok (.getfield 86, 3) := by decide +kernel
theorem dX12_lists_96 : decode cX12_lists 96 = .ok (.iload_n 2, 1) := by decide +kernel
theorem dX12_lists_97 : decode cX12_lists 97 = .ok (.iaload, 1) := by decide +kernel
theorem dX12_lists_98 : decode cX12_lists 98 = .ok (.istore 7, 2) := by decide +kernel
theorem dX12_lists_100 : decode cX12_lists 100 = .ok (.iload 7, 2) := by decide +kernel
theorem dX12_lists_102 : decode cX12_lists 102 = .ok (.ifCond .le 31, 3) := by decide +kernel
theorem dX12_lists_105 : decode cX12_lists 105 = .ok (.aload_n 0, 1) := by decide +kernel
theorem dX12_lists_106 : decode cX12_lists 106 = .ok (.aload_n 0, 1) := by decide +kernel
theorem dX12_lists_107 : decode cX12_lists 107 = .ok (.getfield 83, 3) := by decide +kernel
theorem dX12_lists_110 : decode cX12_lists 110 = .ok (.iload_n 3, 1) := by decide +kernel
theorem dX12_lists_111 : decode cX12_lists 111 = .ok (.iload 7, 2) := by decide +kernel
theorem dX12_lists_113 : decode cX12_lists 113 = .ok (.iadd, 1) := by decide +kernel
theorem dX12_lists_114 : decode cX12_lists 114 = .ok (.iconst 1, 1) := by decide +kernel
theorem dX12_lists_115 : decode cX12_lists 115 = .ok (.isub, 1) := by decide +kernel
theorem dX12_lists_116 : decode cX12_lists 116 = .ok (.iaload, 1) := by decide +kernel
theorem dX12_lists_117 : decode cX12_lists 117 = .ok (.iload_n 1, 1) := by decide +kernel
theorem dX12_lists_118 : decode cX12_lists 118 = .ok (.invokevirtual 401, 3) := by decide +kernel
theorem dX12_lists_121 : decode cX12_lists 121 = .ok (.lload 5, 2) := by decide +kernel
theorem dX12_lists_123 : decode cX12_lists 123 = .ok (.lcmp, 1) := by decide +kernel
theorem dX12_lists_124 : decode cX12_lists 124 = .ok (.ifCond .ge 9, 3) := by decide +kernel
theorem dX12_lists_127 : decode cX12_lists 127 = .ok (.iinc 7 (-1), 3) := by decide +kernel
theorem dX12_lists_130 : decode cX12_lists 130 = .ok (.goto (-30), 3) := by decide +kernel
theorem dX12_lists_133 : decode cX12_lists 133 = .ok (.iload 7, 2) := by decide +kernel
theorem dX12_lists_135 : decode cX12_lists 135 = .ok (.bipush 60, 2) := by decide +kernel
theorem dX12_lists_137 : decode cX12_lists 137 = .ok (.if_icmp .ne 6, 3) := by decide +kernel
theorem dX12_lists_140 : decode cX12_lists 140 = .ok (.goto 78, 3) := by decide +kernel
theorem dX12_lists_143 : decode cX12_lists 143 = .ok (.aload_n 0, 1) := by decide +kernel
theorem dX12_lists_144 : decode cX12_lists 144 = .ok (.getfield 86, 3) := by decide +kernel
theorem dX12_lists_147 : decode cX12_lists 147 = .ok (.iload_n 2, 1) := by decide +kernel
theorem dX12_lists_148 : decode cX12_lists 148 = .ok (.iaload, 1) := by decide +kernel
theorem dX12_lists_149 : decode cX12_lists 149 = .ok (.bipush 60, 2) := by decide +kernel
theorem dX12_lists_151 : decode cX12_lists 151 = .ok (.if_icmp .ge 13, 3) := by decide +kernel
theorem dX12_lists_154 : decode cX12_lists 154 = .ok (.aload_n 0, 1) := by decide +kernel
theorem dX12_lists_155 : decode cX12_lists 155 = .ok (.getfield 86, 3) := by decide +kernel
theorem dX12_lists_158 : decode cX12_lists 158 = .ok (.iload_n 2, 1) := by decide +kernel
theorem dX12_lists_159 : decode cX12_lists 159 = .ok (.dup2, 1) := by decide +kernel
theorem dX12_lists_160 : decode cX12_lists 160 = .ok (.iaload, 1) := by decide +kernel
theorem dX12_lists_161 : decode cX12_lists 161 = .ok (.iconst 1, 1) := by decide +kernel
theorem dX12_lists_162 : decode cX12_lists 162 = .ok (.iadd, 1) := by decide +kernel
theorem dX12_lists_163 : decode cX12_lists 163 = .ok (.iastore, 1) := by decide +kernel
theorem dX12_lists_164 : decode cX12_lists 164 = .ok (.aload_n 0, 1) := by decide +kernel
theorem dX12_lists_165 : decode cX12_lists 165 = .ok (.getfield 86, 3) := by decide +kernel
theorem dX12_lists_168 : decode cX12_lists 168 = .ok (.iload_n 2, 1) := by decide +kernel
theorem dX12_lists_169 : decode cX12_lists 169 = .ok (.iaload, 1) := by decide +kernel
theorem dX12_lists_170 : decode cX12_lists 170 = .ok (.iconst 1, 1) := by decide +kernel
theorem dX12_lists_171 : decode cX12_lists 171 = .ok (.isub, 1) := by decide +kernel
theorem dX12_lists_172 : decode cX12_lists 172 = .ok (.istore 8, 2) := by decide +kernel
theorem dX12_lists_174 : decode cX12_lists 174 = .ok (.iload 8, 2) := by decide +kernel
theorem dX12_lists_176 : decode cX12_lists 176 = .ok (.iload 7, 2) := by decide +kernel
theorem dX12_lists_178 : decode cX12_lists 178 = .ok (.if_icmp .le 29, 3) := by decide +kernel
theorem dX12_lists_181 : decode cX12_lists 181 = .ok (.aload_n 0, 1) := by decide +kernel
theorem dX12_lists_182 : decode cX12_lists 182 = .ok (.getfield 83, 3) := by decide +kernel
theorem dX12_lists_185 : decode cX12_lists 185 = .ok (.iload_n 3, 1) := by decide +kernel
theorem dX12_lists_186 : decode cX12_lists 186 = .ok (.iload 8, 2) := by decide +kernel
theorem dX12_lists_188 : decode cX12_lists 188 = .ok (.iadd, 1) := by decide +kernel
theorem dX12_lists_189 : decode cX12_lists 189 = .ok (.aload_n 0, 1) := by decide +kernel
theorem dX12_lists_190 : decode cX12_lists 190 = .ok (.getfield 83, 3) := by decide +kernel
theorem dX12_lists_193 : decode cX12_lists 193 = .ok (.iload_n 3, 1) := by decide +kernel
theorem dX12_lists_194 : decode cX12_lists 194 = .ok (.iload 8, 2) := by decide +kernel
theorem dX12_lists_196 : decode cX12_lists 196 = .ok (.iadd, 1) := by decide +kernel
theorem dX12_lists_197 : decode cX12_lists 197 = .ok (.iconst 1, 1) := by decide +kernel
theorem dX12_lists_198 : decode cX12_lists 198 = .ok (.isub, 1) := by decide +kernel
theorem dX12_lists_199 : decode cX12_lists 199 = .ok (.iaload, 1) := by decide +kernel
theorem dX12_lists_200 : decode cX12_lists 200 = .ok (.iastore, 1) := by decide +kernel
theorem dX12_lists_201 : decode cX12_lists 201 = .ok (.iinc 8 (-1), 3) := by decide +kernel
theorem dX12_lists_204 : decode cX12_lists 204 = .ok (.goto (-30), 3) := by decide +kernel
theorem dX12_lists_207 : decode cX12_lists 207 = .ok (.aload_n 0, 1) := by decide +kernel
theorem dX12_lists_208 : decode cX12_lists 208 = .ok (.getfield 83, 3) := by decide +kernel
theorem dX12_lists_211 : decode cX12_lists 211 = .ok (.iload_n 3, 1) := by decide +kernel
theorem dX12_lists_212 : decode cX12_lists 212 = .ok (.iload 7, 2) := by decide +kernel
theorem dX12_lists_214 : decode cX12_lists 214 = .ok (.iadd, 1) := by decide +kernel
theorem dX12_lists_215 : decode cX12_lists 215 = .ok (.iload 4, 2) := by decide +kernel
theorem dX12_lists_217 : decode cX12_lists 217 = .ok (.iastore, 1) := by decide +kernel
theorem dX12_lists_218 : decode cX12_lists 218 = .ok (.iinc 4 1, 3) := by decide +kernel
theorem dX12_lists_221 : decode cX12_lists 221 = .ok (.goto (-185), 3) := by decide +kernel
theorem dX12_lists_224 : decode cX12_lists 224 = .ok (.return_, 1) := by decide +kernel
abbrev o_X12_lists : Type := Int32 × Int32 × Int32 × (Nat → Int32) × (Nat → Int32) × (Nat → Int32) × (Nat → Int32) × (Nat → Int32) × (Nat → Int32) × (Nat → Int32)
def f_X12_lists_L174 (x4 : Int32) (x27 : Int32) (k207_35 : (Nat → Int32) → (Option o_X12_lists)) (r40 : (Int32) → (Nat → Int32) → (Option o_X12_lists)) (x38 : Int32) (a39 : Nat → Int32) : Option o_X12_lists :=
if x38 ≤ x27 then (
k207_35 a39) else (
gd (okx ((x4 + x38) - (1 : Int32)) 120) <|
lz (a39 ((x4 + x38) - (1 : Int32)).toNatClampNeg) fun x42 =>
gd (okx (x4 + x38) 120) <|
lz (upd a39 (x4 + x38).toNatClampNeg x42) fun a44 =>
r40 (x38 + (-1 : Int32)) a44)
def f_X12_lists_L100 (S : wd_W) (p1 : Int32) (o1 : o_X12_lays) (x4 : Int32) (a10 : Nat → Int32) (a11 : Nat → Int32) (a23 : Nat → Int32) (o24 : o_X12_chanceOf) (k133_28 : (Int32) → (Option o_X12_lists)) (r54 : (Int32) → (Option o_X12_lists)) (x53 : Int32) : Option o_X12_lists :=
if x53 ≤ 0 then (
k133_28 x53) else (
gd (okx ((x4 + x53) - (1 : Int32)) 120) <|
bd (f_X12_chanceOf (wd_o S [(38, o1.1), (39, o1.2.1), (44, o1.2.2.1)] [] [(17, o1.2.2.2.1), (18, o1.2.2.2.2.1), (19, o1.2.2.2.2.2.1), (20, o1.2.2.2.2.2.2), (24, a10), (25, a11), (26, a23)] [] []) (a10 ((x4 + x53) - (1 : Int32)).toNatClampNeg) p1) fun o56 =>
if o24 ≤ o56 then (
k133_28 x53) else (
r54 (x53 + (-1 : Int32))))
def f_X12_lists_L36 (S : wd_W) (p1 : Int32) (o1 : o_X12_lays) (x2 : Int32) (x4 : Int32) (r13 : (Int32) → (Nat → Int32) → (Nat → Int32) → (Nat → Int32) → (Option o_X12_lists)) (x9 : Int32) (a10 : Nat → Int32) (a11 : Nat → Int32) (a12 : Nat → Int32) : Option o_X12_lists :=
bd (f_X12_sets (wd_o S [(38, o1.1), (39, o1.2.1), (44, o1.2.2.1)] [] [(17, o1.2.2.2.1), (18, o1.2.2.2.2.1), (19, o1.2.2.2.2.2.1), (20, o1.2.2.2.2.2.2), (24, a10), (25, a11), (26, a12)] [] [])) fun o14 =>
if o14 ≤ x9 then (
some (o1.1, o1.2.1, o1.2.2.1, o1.2.2.2.1, o1.2.2.2.2.1, o1.2.2.2.2.2.1, o1.2.2.2.2.2.2, a10, a11, a12)) else (
lk (fun a15 a16 a17 =>
r13 (x9 + (1 : Int32)) a15 a16 a17) fun k218_18 =>
lk (gd (okx x2 2) <|
lz ((a12 x2.toNatClampNeg) + (1 : Int32)) fun x21 =>
gd (okx x2 2) <|
lz (upd a12 x2.toNatClampNeg x21) fun a23 =>
bd (f_X12_chanceOf (wd_o S [(38, o1.1), (39, o1.2.1), (44, o1.2.2.1)] [] [(17, o1.2.2.2.1), (18, o1.2.2.2.2.1), (19, o1.2.2.2.2.2.1), (20, o1.2.2.2.2.2.2), (24, a10), (25, a11), (26, a23)] [] []) x9 p1) fun o24 =>
gd (okx x2 2) <|
lz (a11 x2.toNatClampNeg) fun x26 =>
lk (fun x27 =>
if x27 = (60 : Int32) then (
k218_18 a10 a11 a23) else (
gd (okx x2 2) <|
lk (fun a30 =>
gd (okx x2 2) <|
lz ((a30 x2.toNatClampNeg) - (1 : Int32)) fun x33 =>
lk (fun a34 =>
gd (okx (x4 + x27) 120) <|
lz (upd a34 (x4 + x27).toNatClampNeg x9) fun a37 =>
k218_18 a37 a30 a23) fun k207_35 =>
it2 (f_X12_lists_L174 x4 x27 k207_35) fuel x33 a10) fun k164_31 =>
if (60 : Int32) ≤ (a11 x2.toNatClampNeg) then (
k164_31 a11) else (
gd (okx x2 2) <|
lz ((a11 x2.toNatClampNeg) + (1 : Int32)) fun x48 =>
gd (okx x2 2) <|
lz (upd a11 x2.toNatClampNeg x48) fun a50 =>
k164_31 a50))) fun k133_28 =>
it1 (f_X12_lists_L100 S p1 o1 x4 a10 a11 a23 o24 k133_28) fuel x26) fun k73_19 =>
if p1 = 0 then (
bd (f_X12_isWay (wd_o S [(38, o1.1), (39, o1.2.1), (44, o1.2.2.1)] [] [(17, o1.2.2.2.1), (18, o1.2.2.2.2.1), (19, o1.2.2.2.2.2.1), (20, o1.2.2.2.2.2.2), (24, a10), (25, a11), (26, a12)] [] []) x9) fun o60 =>
if o60 = 0 then (
k218_18 a10 a11 a12) else (
k73_19)) else (
bd (f_X12_isCut (wd_o S [(38, o1.1), (39, o1.2.1), (44, o1.2.2.1)] [] [(17, o1.2.2.2.1), (18, o1.2.2.2.2.1), (19, o1.2.2.2.2.2.1), (20, o1.2.2.2.2.2.2), (24, a10), (25, a11), (26, a12)] [] []) x9) fun o62 =>
if o62 = 0 then (
k218_18 a10 a11 a12) else (
k73_19)))
def f_X12_lists (S : wd_W) (p1 : Int32) : Option o_X12_lists :=
bd (f_X12_lays (wd_o S [(38, (S.1 38)), (39, (S.1 39)), (44, (S.1 44))] [] [(17, (S.2.2.1 17)), (18, (S.2.2.1 18)), (19, (S.2.2.1 19)), (20, (S.2.2.1 20)), (24, (S.2.2.1 24)), (25, (S.2.2.1 25)), (26, (S.2.2.1 26))] [] [])) fun o1 =>
lk (fun x2 =>
lz ((60 : Int32) * x2) fun x4 =>
gd (okx x2 2) <|
lz (upd (S.2.2.1 26) x2.toNatClampNeg (0 : Int32)) fun a6 =>
gd (okx x2 2) <|
lz (upd (S.2.2.1 25) x2.toNatClampNeg (0 : Int32)) fun a8 =>
it4 (f_X12_lists_L36 S p1 o1 x2 x4) fuel (0 : Int32) (S.2.2.1 24) a8 a6) fun k13_3 =>
if p1 = 0 then (
k13_3 (0 : Int32)) else (
k13_3 (1 : Int32))
set_option maxRecDepth 100000 in
set_option maxHeartbeats 4000000 in
theorem c_X12_lists (l : Launch) (D : va_G) (q g : Nat → Nat) (cy : Nat → ClassId) (z : (Nat → Nat) × (Nat → Nat) × Nat) (S : wd_W) (p1 : Int32) (o : o_X12_lists) (hf : f_X12_lists S p1 = some o) : MX layM l yX12_lists cX12_lists 9 none ({ frames := 5, cells := 0, slots := 0, locals := 115 } : Room) D q g cy z [.ref (q 0), .int p1] S (none) (wd_o S [(38, o.1), (39, o.2.1), (44, o.2.2.1)] [] [(17, o.2.2.2.1), (18, o.2.2.2.2.1), (19, o.2.2.2.2.2.1), (20, o.2.2.2.2.2.2.1), (24, o.2.2.2.2.2.2.2.1), (25, o.2.2.2.2.2.2.2.2.1), (26, o.2.2.2.2.2.2.2.2.2)] [] []) 0 0 := by
  refine mx_of (own := RX12) (lc := [(0, .ref (q 0)), (1, .int p1)]) (by decide +kernel) rfl layM_ok (Nat.le_of_ble_eq_true rfl) rfl ?_
  intro X hXl hXq hXS hC hQ
  subst hXl; subst hXq; subst hXS
  unfold f_X12_lists at hf
  refine go_keys (L1 := [(38, ((x_S X).1 38)), (39, ((x_S X).1 39)), (44, ((x_S X).1 44))]) (L2 := []) (L3 := [(17, ((x_S X).2.2.1 17)), (18, ((x_S X).2.2.1 18)), (19, ((x_S X).2.2.1 19)), (20, ((x_S X).2.2.1 20)), (24, ((x_S X).2.2.1 24)), (25, ((x_S X).2.2.1 25)), (26, ((x_S X).2.2.1 26))]) (L4 := []) (L5 := []) [38, 39, 44] [] [17, 18, 19, 20, 24, 25, 26] [] [] rfl rfl rfl rfl rfl ?_
  refine go_aload_n (pc' := 1) hC dX12_lists_0 rfl rfl ?_
  obtain ⟨o1, ho1, hf⟩ := bd_e hf
  refine go_callV (pc' := 4) (As := []) (st := []) (st' := []) (L1' := [(38, o1.1), (39, o1.2.1), (44, o1.2.2.1)]) (L2' := []) (L3' := [(17, o1.2.2.2.1), (18, o1.2.2.2.2.1), (19, o1.2.2.2.2.2.1), (20, o1.2.2.2.2.2.2), (24, ((x_S X).2.2.1 24)), (25, ((x_S X).2.2.1 25)), (26, ((x_S X).2.2.1 26))]) (L4' := []) (L5' := []) (cells' := 0) (slots' := 0) (b := 0) hC dX12_lists_1 ⟨mw_860, mw_863, mw_5, yd_yX12_lays, yp_yX12_lays, Nat.le_of_ble_eq_true rfl, Nat.le_of_ble_eq_true rfl, Nat.le_of_ble_eq_true rfl, Nat.le_of_ble_eq_true rfl⟩ mw_861 mw_862 layM_0 rfl rfl rfl (Nat.le_of_ble_eq_true rfl) (c_X12_lays (x_l X) (x_D X) (x_q X) g (x_cy X) (x_z X) _  o1 ho1) rfl rfl rfl rfl rfl rfl rfl rfl rfl rfl rfl rfl rfl rfl (fun g => ?_)
  refine go_iload_n (pc' := 5) hC dX12_lists_4 rfl rfl ?_
  obtain ⟨k13_3, hk13_3, hf⟩ := lk_e1 hf
  have jk13_3 : ∀ (x2 : Int32) (g : Nat → Nat), k13_3 x2 = some o → Go X layM 13 [(0, .ref (x_q X 0)), (1, .int p1)] [.int x2] g [(38, o1.1), (39, o1.2.1), (44, o1.2.2.1)] [] [(17, o1.2.2.2.1), (18, o1.2.2.2.2.1), (19, o1.2.2.2.2.2.1), (20, o1.2.2.2.2.2.2), (24, ((x_S X).2.2.1 24)), (25, ((x_S X).2.2.1 25)), (26, ((x_S X).2.2.1 26))] [] [] 0 0 := by
    intro x2 g hf
    have hf := hk13_3 x2 hf
    clear hk13_3
    refine go_istore_n (lc' := [(0, .ref (x_q X 0)), (1, .int p1), (2, .int x2)]) (pc' := 14) hC dX12_lists_13 (Nat.le_of_ble_eq_true rfl) rfl rfl ?_
    refine go_bipush (pc' := 16) hC dX12_lists_14 kb_60 rfl ?_
    refine go_iload_n (pc' := 17) hC dX12_lists_16 rfl rfl ?_
    refine go_imul (pc' := 18) hC dX12_lists_17 rfl ?_
    refine go_namei (fun x4 hx => ?_)
    have hf := lz_r hx hf
    clear hx
    refine go_istore_n (lc' := [(0, .ref (x_q X 0)), (1, .int p1), (2, .int x2), (3, .int x4)]) (pc' := 19) hC dX12_lists_18 (Nat.le_of_ble_eq_true rfl) rfl rfl ?_
    refine go_aload_n (pc' := 20) hC dX12_lists_19 rfl rfl ?_
    refine go_getq (pc' := 23) hC 0 50 layM_0 rfl rfl inlX12 (Nat.le_of_ble_eq_true rfl) mw_207 rfl dX12_lists_20 rfl ?_
    refine go_iload_n (pc' := 24) hC dX12_lists_23 rfl rfl ?_
    refine go_iconst (pc' := 25) hC dX12_lists_24 ki_0 rfl ?_
    obtain ⟨h5, hf⟩ := gd_e hf
    refine go_iast (f := ((x_S X).2.2.1 26)) (pc' := 26) hC 26 layM_26 rfl rfl dX12_lists_25 (okx_in h5) rfl rfl (fun a6 ha L3' hL => ?_)
    have hf := lz_r ha hf
    clear ha
    obtain rfl : L3' = [(17, o1.2.2.2.1), (18, o1.2.2.2.2.1), (19, o1.2.2.2.2.2.1), (20, o1.2.2.2.2.2.2), (24, ((x_S X).2.2.1 24)), (25, ((x_S X).2.2.1 25)), (26, a6)] := hL.symm
    refine go_aload_n (pc' := 27) hC dX12_lists_26 rfl rfl ?_
    refine go_getq (pc' := 30) hC 0 49 layM_0 rfl rfl inlX12 (Nat.le_of_ble_eq_true rfl) mw_206 rfl dX12_lists_27 rfl ?_
    refine go_iload_n (pc' := 31) hC dX12_lists_30 rfl rfl ?_
    refine go_iconst (pc' := 32) hC dX12_lists_31 ki_0 rfl ?_
    obtain ⟨h7, hf⟩ := gd_e hf
    refine go_iast (f := ((x_S X).2.2.1 25)) (pc' := 33) hC 25 layM_25 rfl rfl dX12_lists_32 (okx_in h7) rfl rfl (fun a8 ha L3' hL => ?_)
    have hf := lz_r ha hf
    clear ha
    obtain rfl : L3' = [(17, o1.2.2.2.1), (18, o1.2.2.2.2.1), (19, o1.2.2.2.2.2.1), (20, o1.2.2.2.2.2.2), (24, ((x_S X).2.2.1 24)), (25, a8), (26, a6)] := hL.symm
    refine go_iconst (pc' := 34) hC dX12_lists_33 ki_0 rfl ?_
    refine go_istore (lc' := [(0, .ref (x_q X 0)), (1, .int p1), (2, .int x2), (3, .int x4), (4, .int (0 : Int32))]) (pc' := 36) hC dX12_lists_34 (Nat.le_of_ble_eq_true rfl) rfl rfl ?_
    have l36_66 : ∀ (nn : Nat) (x9 : Int32) (a10 : Nat → Int32) (a11 : Nat → Int32) (a12 : Nat → Int32) (g : Nat → Nat), it4 (f_X12_lists_L36 (x_S X) p1 o1 x2 x4) nn x9 a10 a11 a12 = some o → Go X layM 36 [(0, .ref (x_q X 0)), (1, .int p1), (2, .int x2), (3, .int x4), (4, .int x9)] [] g [(38, o1.1), (39, o1.2.1), (44, o1.2.2.1)] [] [(17, o1.2.2.2.1), (18, o1.2.2.2.2.1), (19, o1.2.2.2.2.2.1), (20, o1.2.2.2.2.2.2), (24, a10), (25, a11), (26, a12)] [] [] 0 0 := by
      intro nn
      induction nn with
      | zero =>
        intro x9 a10 a11 a12 g hf
        exact none_no hf
      | succ nn ih =>
        intro x9 a10 a11 a12 g hf
        have hf : f_X12_lists_L36 (x_S X) p1 o1 x2 x4 (it4 (f_X12_lists_L36 (x_S X) p1 o1 x2 x4) nn) x9 a10 a11 a12 = some o := hf
        generalize it4 (f_X12_lists_L36 (x_S X) p1 o1 x2 x4) nn = r13 at ih hf
        unfold f_X12_lists_L36 at hf
        refine go_iload (pc' := 38) hC dX12_lists_36 rfl rfl ?_
        refine go_aload_n (pc' := 39) hC dX12_lists_38 rfl rfl ?_
        obtain ⟨o14, ho14, hf⟩ := bd_e hf
        refine go_callV0 (pc' := 42) (As := []) (st := [.int x9]) (st' := [.int o14, .int x9])   (b := 0) hC dX12_lists_39 ⟨mw_856, mw_859, mw_5, yd_yX12_sets, yp_yX12_sets, Nat.le_of_ble_eq_true rfl, Nat.le_of_ble_eq_true rfl, Nat.le_of_ble_eq_true rfl, Nat.le_of_ble_eq_true rfl⟩ mw_857 mw_858 layM_0 rfl rfl rfl (Nat.le_of_ble_eq_true rfl) (c_X12_sets (x_l X) (x_D X) (x_q X) g (x_cy X) (x_z X) _  o14 ho14) rfl rfl (fun g => ?_)
        refine go_icmp_ge (tgt := 224) (pc' := 45) hC dX12_lists_42 (by decide) rfl (fun h65 => ?_) (fun h65 => ?_)
        · have hf := ite_t h65 hf
          obtain rfl := Option.some.inj hf
          exact go_vret hC hQ dX12_lists_224 rfl rfl rfl rfl rfl
        · have hf := ite_f h65 hf
          refine go_iload_n (pc' := 46) hC dX12_lists_45 rfl rfl ?_
          obtain ⟨k218_18, hk218_18, hf⟩ := lk_e3 hf
          have jk218_18 : ∀ (a15 : Nat → Int32) (a16 : Nat → Int32) (a17 : Nat → Int32) (g : Nat → Nat), k218_18 a15 a16 a17 = some o → Go X layM 218 [(0, .ref (x_q X 0)), (1, .int p1), (2, .int x2), (3, .int x4), (4, .int x9)] [] g [(38, o1.1), (39, o1.2.1), (44, o1.2.2.1)] [] [(17, o1.2.2.2.1), (18, o1.2.2.2.2.1), (19, o1.2.2.2.2.2.1), (20, o1.2.2.2.2.2.2), (24, a15), (25, a16), (26, a17)] [] [] 0 0 := by
            intro a15 a16 a17 g hf
            have hf := hk218_18 a15 a16 a17 hf
            clear hk218_18
            refine go_iinc (lc' := [(0, .ref (x_q X 0)), (1, .int p1), (2, .int x2), (3, .int x4), (4, .int (x9 + (1 : Int32)))]) (pc' := 221) hC dX12_lists_218 rfl ki_1 (Nat.le_of_ble_eq_true rfl) rfl rfl ?_
            refine go_goto (tgt := 36) hC dX12_lists_221 (by decide) ?_
            exact ih (x9 + (1 : Int32)) a15 a16 a17 g hf
          clear hk218_18
          obtain ⟨k73_19, hk73_19, hf⟩ := lk_e0 hf
          have jk73_19 : ∀ (g : Nat → Nat), k73_19 = some o → Go X layM 73 [(0, .ref (x_q X 0)), (1, .int p1), (2, .int x2), (3, .int x4), (4, .int x9)] [] g [(38, o1.1), (39, o1.2.1), (44, o1.2.2.1)] [] [(17, o1.2.2.2.1), (18, o1.2.2.2.2.1), (19, o1.2.2.2.2.2.1), (20, o1.2.2.2.2.2.2), (24, a10), (25, a11), (26, a12)] [] [] 0 0 := by
            intro  g hf
            have hf := hk73_19 hf
            clear hk73_19
            refine go_aload_n (pc' := 74) hC dX12_lists_73 rfl rfl ?_
            refine go_getq (pc' := 77) hC 0 50 layM_0 rfl rfl inlX12 (Nat.le_of_ble_eq_true rfl) mw_207 rfl dX12_lists_74 rfl ?_
            refine go_iload_n (pc' := 78) hC dX12_lists_77 rfl rfl ?_
            refine go_dup2 (pc' := 79) hC dX12_lists_78 rfl rfl rfl ?_
            obtain ⟨h20, hf⟩ := gd_e hf
            refine go_iald (f := a12) (pc' := 80) hC 26 layM_26 rfl rfl dX12_lists_79 (okx_in h20) rfl ?_
            refine go_iconst (pc' := 81) hC dX12_lists_80 ki_1 rfl ?_
            refine go_iadd (pc' := 82) hC dX12_lists_81 rfl ?_
            refine go_namei (fun x21 hx => ?_)
            have hf := lz_r hx hf
            clear hx
            obtain ⟨h22, hf⟩ := gd_e hf
            refine go_iast (f := a12) (pc' := 83) hC 26 layM_26 rfl rfl dX12_lists_82 (okx_in h22) rfl rfl (fun a23 ha L3' hL => ?_)
            have hf := lz_r ha hf
            clear ha
            obtain rfl : L3' = [(17, o1.2.2.2.1), (18, o1.2.2.2.2.1), (19, o1.2.2.2.2.2.1), (20, o1.2.2.2.2.2.2), (24, a10), (25, a11), (26, a23)] := hL.symm
            refine go_aload_n (pc' := 84) hC dX12_lists_83 rfl rfl ?_
            refine go_iload (pc' := 86) hC dX12_lists_84 rfl rfl ?_
            refine go_iload_n (pc' := 87) hC dX12_lists_86 rfl rfl ?_
            obtain ⟨o24, ho24, hf⟩ := bd_e hf
            refine go_callV0 (pc' := 90) (As := [.int x9, .int p1]) (st := []) (st' := [.long o24])   (b := 0) hC dX12_lists_87 ⟨mw_1034, mw_1037, mw_5, yd_yX12_chanceOf, yp_yX12_chanceOf, Nat.le_of_ble_eq_true rfl, Nat.le_of_ble_eq_true rfl, Nat.le_of_ble_eq_true rfl, Nat.le_of_ble_eq_true rfl⟩ mw_1035 mw_1036 layM_0 rfl rfl rfl (Nat.le_of_ble_eq_true rfl) (c_X12_chanceOf (x_l X) (x_D X) (x_q X) g (x_cy X) (x_z X) _ x9 p1 o24 ho24) rfl rfl (fun g => ?_)
            refine go_lstore (lc' := [(0, .ref (x_q X 0)), (1, .int p1), (2, .int x2), (3, .int x4), (4, .int x9), (5, .long o24)]) (pc' := 92) hC dX12_lists_90 (Nat.le_of_ble_eq_true rfl) rfl rfl ?_
            refine go_aload_n (pc' := 93) hC dX12_lists_92 rfl rfl ?_
            refine go_getq (pc' := 96) hC 0 49 layM_0 rfl rfl inlX12 (Nat.le_of_ble_eq_true rfl) mw_206 rfl dX12_lists_93 rfl ?_
            refine go_iload_n (pc' := 97) hC dX12_lists_96 rfl rfl ?_
            obtain ⟨h25, hf⟩ := gd_e hf
            refine go_iald (f := a11) (pc' := 98) hC 25 layM_25 rfl rfl dX12_lists_97 (okx_in h25) rfl ?_
            refine go_namei (fun x26 hx => ?_)
            have hf := lz_r hx hf
            clear hx
            refine go_istore (lc' := [(0, .ref (x_q X 0)), (1, .int p1), (2, .int x2), (3, .int x4), (4, .int x9), (5, .long o24), (7, .int x26)]) (pc' := 100) hC dX12_lists_98 (Nat.le_of_ble_eq_true rfl) rfl rfl ?_
            obtain ⟨k133_28, hk133_28, hf⟩ := lk_e1 hf
            have jk133_28 : ∀ (x27 : Int32) (g : Nat → Nat), k133_28 x27 = some o → Go X layM 133 [(0, .ref (x_q X 0)), (1, .int p1), (2, .int x2), (3, .int x4), (4, .int x9), (7, .int x27)] [] g [(38, o1.1), (39, o1.2.1), (44, o1.2.2.1)] [] [(17, o1.2.2.2.1), (18, o1.2.2.2.2.1), (19, o1.2.2.2.2.2.1), (20, o1.2.2.2.2.2.2), (24, a10), (25, a11), (26, a23)] [] [] 0 0 := by
              intro x27 g hf
              have hf := hk133_28 x27 hf
              clear hk133_28
              refine go_iload (pc' := 135) hC dX12_lists_133 rfl rfl ?_
              refine go_bipush (pc' := 137) hC dX12_lists_135 kb_60 rfl ?_
              refine go_icmp_ne (tgt := 143) (pc' := 140) hC dX12_lists_137 (by decide) rfl (fun h52 => ?_) (fun h52 => ?_)
              · have hf := ite_f h52 hf
                refine go_aload_n (pc' := 144) hC dX12_lists_143 rfl rfl ?_
                refine go_getq (pc' := 147) hC 0 49 layM_0 rfl rfl inlX12 (Nat.le_of_ble_eq_true rfl) mw_206 rfl dX12_lists_144 rfl ?_
                refine go_iload_n (pc' := 148) hC dX12_lists_147 rfl rfl ?_
                obtain ⟨h29, hf⟩ := gd_e hf
                refine go_iald (f := a11) (pc' := 149) hC 25 layM_25 rfl rfl dX12_lists_148 (okx_in h29) rfl ?_
                refine go_bipush (pc' := 151) hC dX12_lists_149 kb_60 rfl ?_
                obtain ⟨k164_31, hk164_31, hf⟩ := lk_e1 hf
                have jk164_31 : ∀ (a30 : Nat → Int32) (g : Nat → Nat), k164_31 a30 = some o → Go X layM 164 [(0, .ref (x_q X 0)), (1, .int p1), (2, .int x2), (3, .int x4), (4, .int x9), (7, .int x27)] [] g [(38, o1.1), (39, o1.2.1), (44, o1.2.2.1)] [] [(17, o1.2.2.2.1), (18, o1.2.2.2.2.1), (19, o1.2.2.2.2.2.1), (20, o1.2.2.2.2.2.2), (24, a10), (25, a30), (26, a23)] [] [] 0 0 := by
                  intro a30 g hf
                  have hf := hk164_31 a30 hf
                  clear hk164_31
                  refine go_aload_n (pc' := 165) hC dX12_lists_164 rfl rfl ?_
                  refine go_getq (pc' := 168) hC 0 49 layM_0 rfl rfl inlX12 (Nat.le_of_ble_eq_true rfl) mw_206 rfl dX12_lists_165 rfl ?_
                  refine go_iload_n (pc' := 169) hC dX12_lists_168 rfl rfl ?_
                  obtain ⟨h32, hf⟩ := gd_e hf
                  refine go_iald (f := a30) (pc' := 170) hC 25 layM_25 rfl rfl dX12_lists_169 (okx_in h32) rfl ?_
                  refine go_iconst (pc' := 171) hC dX12_lists_170 ki_1 rfl ?_
                  refine go_isub (pc' := 172) hC dX12_lists_171 rfl ?_
                  refine go_namei (fun x33 hx => ?_)
                  have hf := lz_r hx hf
                  clear hx
                  refine go_istore (lc' := [(0, .ref (x_q X 0)), (1, .int p1), (2, .int x2), (3, .int x4), (4, .int x9), (7, .int x27), (8, .int x33)]) (pc' := 174) hC dX12_lists_172 (Nat.le_of_ble_eq_true rfl) rfl rfl ?_
                  obtain ⟨k207_35, hk207_35, hf⟩ := lk_e1 hf
                  have jk207_35 : ∀ (a34 : Nat → Int32) (g : Nat → Nat), k207_35 a34 = some o → Go X layM 207 [(0, .ref (x_q X 0)), (1, .int p1), (2, .int x2), (3, .int x4), (4, .int x9), (7, .int x27)] [] g [(38, o1.1), (39, o1.2.1), (44, o1.2.2.1)] [] [(17, o1.2.2.2.1), (18, o1.2.2.2.2.1), (19, o1.2.2.2.2.2.1), (20, o1.2.2.2.2.2.2), (24, a34), (25, a30), (26, a23)] [] [] 0 0 := by
                    intro a34 g hf
                    have hf := hk207_35 a34 hf
                    clear hk207_35
                    refine go_aload_n (pc' := 208) hC dX12_lists_207 rfl rfl ?_
                    refine go_getq (pc' := 211) hC 0 48 layM_0 rfl rfl inlX12 (Nat.le_of_ble_eq_true rfl) mw_205 rfl dX12_lists_208 rfl ?_
                    refine go_iload_n (pc' := 212) hC dX12_lists_211 rfl rfl ?_
                    refine go_iload (pc' := 214) hC dX12_lists_212 rfl rfl ?_
                    refine go_iadd (pc' := 215) hC dX12_lists_214 rfl ?_
                    refine go_iload (pc' := 217) hC dX12_lists_215 rfl rfl ?_
                    obtain ⟨h36, hf⟩ := gd_e hf
                    refine go_iast (f := a34) (pc' := 218) hC 24 layM_24 rfl rfl dX12_lists_217 (okx_in h36) rfl rfl (fun a37 ha L3' hL => ?_)
                    have hf := lz_r ha hf
                    clear ha
                    obtain rfl : L3' = [(17, o1.2.2.2.1), (18, o1.2.2.2.2.1), (19, o1.2.2.2.2.2.1), (20, o1.2.2.2.2.2.2), (24, a37), (25, a30), (26, a23)] := hL.symm
                    refine go_sub [0, 1, 2, 3, 4] rfl ?_
                    exact jk218_18 a37 a30 a23 g hf
                  clear hk207_35
                  have l174_46 : ∀ (nn : Nat) (x38 : Int32) (a39 : Nat → Int32) (g : Nat → Nat), it2 (f_X12_lists_L174 x4 x27 k207_35) nn x38 a39 = some o → Go X layM 174 [(0, .ref (x_q X 0)), (1, .int p1), (2, .int x2), (3, .int x4), (4, .int x9), (7, .int x27), (8, .int x38)] [] g [(38, o1.1), (39, o1.2.1), (44, o1.2.2.1)] [] [(17, o1.2.2.2.1), (18, o1.2.2.2.2.1), (19, o1.2.2.2.2.2.1), (20, o1.2.2.2.2.2.2), (24, a39), (25, a30), (26, a23)] [] [] 0 0 := by
                    intro nn
                    induction nn with
                    | zero =>
                      intro x38 a39 g hf
                      exact none_no hf
                    | succ nn ih =>
                      intro x38 a39 g hf
                      have hf : f_X12_lists_L174 x4 x27 k207_35 (it2 (f_X12_lists_L174 x4 x27 k207_35) nn) x38 a39 = some o := hf
                      generalize it2 (f_X12_lists_L174 x4 x27 k207_35) nn = r40 at ih hf
                      unfold f_X12_lists_L174 at hf
                      refine go_iload (pc' := 176) hC dX12_lists_174 rfl rfl ?_
                      refine go_iload (pc' := 178) hC dX12_lists_176 rfl rfl ?_
                      refine go_icmp_le (tgt := 207) (pc' := 181) hC dX12_lists_178 (by decide) rfl (fun h45 => ?_) (fun h45 => ?_)
                      · have hf := ite_t h45 hf
                        refine go_sub [0, 1, 2, 3, 4, 7] rfl ?_
                        exact jk207_35 a39 g hf
                      · have hf := ite_f h45 hf
                        refine go_aload_n (pc' := 182) hC dX12_lists_181 rfl rfl ?_
                        refine go_getq (pc' := 185) hC 0 48 layM_0 rfl rfl inlX12 (Nat.le_of_ble_eq_true rfl) mw_205 rfl dX12_lists_182 rfl ?_
                        refine go_iload_n (pc' := 186) hC dX12_lists_185 rfl rfl ?_
                        refine go_iload (pc' := 188) hC dX12_lists_186 rfl rfl ?_
                        refine go_iadd (pc' := 189) hC dX12_lists_188 rfl ?_
                        refine go_aload_n (pc' := 190) hC dX12_lists_189 rfl rfl ?_
                        refine go_getq (pc' := 193) hC 0 48 layM_0 rfl rfl inlX12 (Nat.le_of_ble_eq_true rfl) mw_205 rfl dX12_lists_190 rfl ?_
                        refine go_iload_n (pc' := 194) hC dX12_lists_193 rfl rfl ?_
                        refine go_iload (pc' := 196) hC dX12_lists_194 rfl rfl ?_
                        refine go_iadd (pc' := 197) hC dX12_lists_196 rfl ?_
                        refine go_iconst (pc' := 198) hC dX12_lists_197 ki_1 rfl ?_
                        refine go_isub (pc' := 199) hC dX12_lists_198 rfl ?_
                        obtain ⟨h41, hf⟩ := gd_e hf
                        refine go_iald (f := a39) (pc' := 200) hC 24 layM_24 rfl rfl dX12_lists_199 (okx_in h41) rfl ?_
                        refine go_namei (fun x42 hx => ?_)
                        have hf := lz_r hx hf
                        clear hx
                        obtain ⟨h43, hf⟩ := gd_e hf
                        refine go_iast (f := a39) (pc' := 201) hC 24 layM_24 rfl rfl dX12_lists_200 (okx_in h43) rfl rfl (fun a44 ha L3' hL => ?_)
                        have hf := lz_r ha hf
                        clear ha
                        obtain rfl : L3' = [(17, o1.2.2.2.1), (18, o1.2.2.2.2.1), (19, o1.2.2.2.2.2.1), (20, o1.2.2.2.2.2.2), (24, a44), (25, a30), (26, a23)] := hL.symm
                        refine go_iinc (lc' := [(0, .ref (x_q X 0)), (1, .int p1), (2, .int x2), (3, .int x4), (4, .int x9), (7, .int x27), (8, .int (x38 + (-1 : Int32)))]) (pc' := 204) hC dX12_lists_201 rfl ki_m1 (Nat.le_of_ble_eq_true rfl) rfl rfl ?_
                        refine go_goto (tgt := 174) hC dX12_lists_204 (by decide) ?_
                        exact ih (x38 + (-1 : Int32)) a44 g hf
                  exact l174_46 fuel x33 a10 g hf
                clear hk164_31
                refine go_icmp_ge (tgt := 164) (pc' := 154) hC dX12_lists_151 (by decide) rfl (fun h51 => ?_) (fun h51 => ?_)
                · have hf := ite_t h51 hf
                  exact jk164_31 a11 g hf
                · have hf := ite_f h51 hf
                  refine go_aload_n (pc' := 155) hC dX12_lists_154 rfl rfl ?_
                  refine go_getq (pc' := 158) hC 0 49 layM_0 rfl rfl inlX12 (Nat.le_of_ble_eq_true rfl) mw_206 rfl dX12_lists_155 rfl ?_
                  refine go_iload_n (pc' := 159) hC dX12_lists_158 rfl rfl ?_
                  refine go_dup2 (pc' := 160) hC dX12_lists_159 rfl rfl rfl ?_
                  obtain ⟨h47, hf⟩ := gd_e hf
                  refine go_iald (f := a11) (pc' := 161) hC 25 layM_25 rfl rfl dX12_lists_160 (okx_in h47) rfl ?_
                  refine go_iconst (pc' := 162) hC dX12_lists_161 ki_1 rfl ?_
                  refine go_iadd (pc' := 163) hC dX12_lists_162 rfl ?_
                  refine go_namei (fun x48 hx => ?_)
                  have hf := lz_r hx hf
                  clear hx
                  obtain ⟨h49, hf⟩ := gd_e hf
                  refine go_iast (f := a11) (pc' := 164) hC 25 layM_25 rfl rfl dX12_lists_163 (okx_in h49) rfl rfl (fun a50 ha L3' hL => ?_)
                  have hf := lz_r ha hf
                  clear ha
                  obtain rfl : L3' = [(17, o1.2.2.2.1), (18, o1.2.2.2.2.1), (19, o1.2.2.2.2.2.1), (20, o1.2.2.2.2.2.2), (24, a10), (25, a50), (26, a23)] := hL.symm
                  exact jk164_31 a50 g hf
              · have hf := ite_t h52 hf
                refine go_goto (tgt := 218) hC dX12_lists_140 (by decide) ?_
                refine go_sub [0, 1, 2, 3, 4] rfl ?_
                exact jk218_18 a10 a11 a23 g hf
            clear hk133_28
            have l100_59 : ∀ (nn : Nat) (x53 : Int32) (g : Nat → Nat), it1 (f_X12_lists_L100 (x_S X) p1 o1 x4 a10 a11 a23 o24 k133_28) nn x53 = some o → Go X layM 100 [(0, .ref (x_q X 0)), (1, .int p1), (2, .int x2), (3, .int x4), (4, .int x9), (5, .long o24), (7, .int x53)] [] g [(38, o1.1), (39, o1.2.1), (44, o1.2.2.1)] [] [(17, o1.2.2.2.1), (18, o1.2.2.2.2.1), (19, o1.2.2.2.2.2.1), (20, o1.2.2.2.2.2.2), (24, a10), (25, a11), (26, a23)] [] [] 0 0 := by
              intro nn
              induction nn with
              | zero =>
                intro x53 g hf
                exact none_no hf
              | succ nn ih =>
                intro x53 g hf
                have hf : f_X12_lists_L100 (x_S X) p1 o1 x4 a10 a11 a23 o24 k133_28 (it1 (f_X12_lists_L100 (x_S X) p1 o1 x4 a10 a11 a23 o24 k133_28) nn) x53 = some o := hf
                generalize it1 (f_X12_lists_L100 (x_S X) p1 o1 x4 a10 a11 a23 o24 k133_28) nn = r54 at ih hf
                unfold f_X12_lists_L100 at hf
                refine go_iload (pc' := 102) hC dX12_lists_100 rfl rfl ?_
                refine go_if_le (tgt := 133) (pc' := 105) hC dX12_lists_102 (by decide) rfl (fun h58 => ?_) (fun h58 => ?_)
                · have hf := ite_t h58 hf
                  refine go_sub [0, 1, 2, 3, 4, 7] rfl ?_
                  exact jk133_28 x53 g hf
                · have hf := ite_f h58 hf
                  refine go_aload_n (pc' := 106) hC dX12_lists_105 rfl rfl ?_
                  refine go_aload_n (pc' := 107) hC dX12_lists_106 rfl rfl ?_
                  refine go_getq (pc' := 110) hC 0 48 layM_0 rfl rfl inlX12 (Nat.le_of_ble_eq_true rfl) mw_205 rfl dX12_lists_107 rfl ?_
                  refine go_iload_n (pc' := 111) hC dX12_lists_110 rfl rfl ?_
                  refine go_iload (pc' := 113) hC dX12_lists_111 rfl rfl ?_
                  refine go_iadd (pc' := 114) hC dX12_lists_113 rfl ?_
                  refine go_iconst (pc' := 115) hC dX12_lists_114 ki_1 rfl ?_
                  refine go_isub (pc' := 116) hC dX12_lists_115 rfl ?_
                  obtain ⟨h55, hf⟩ := gd_e hf
                  refine go_iald (f := a10) (pc' := 117) hC 24 layM_24 rfl rfl dX12_lists_116 (okx_in h55) rfl ?_
                  refine go_iload_n (pc' := 118) hC dX12_lists_117 rfl rfl ?_
                  obtain ⟨o56, ho56, hf⟩ := bd_e hf
                  refine go_callV0 (pc' := 121) (As := [.int (a10 ((x4 + x53) - (1 : Int32)).toNatClampNeg), .int p1]) (st := []) (st' := [.long o56])   (b := 0) hC dX12_lists_118 ⟨mw_1034, mw_1037, mw_5, yd_yX12_chanceOf, yp_yX12_chanceOf, Nat.le_of_ble_eq_true rfl, Nat.le_of_ble_eq_true rfl, Nat.le_of_ble_eq_true rfl, Nat.le_of_ble_eq_true rfl⟩ mw_1035 mw_1036 layM_0 rfl rfl rfl (Nat.le_of_ble_eq_true rfl) (c_X12_chanceOf (x_l X) (x_D X) (x_q X) g (x_cy X) (x_z X) _ (a10 ((x4 + x53) - (1 : Int32)).toNatClampNeg) p1 o56 ho56) rfl rfl (fun g => ?_)
                  refine go_lload (pc' := 123) hC dX12_lists_121 rfl rfl ?_
                  refine go_lcmp (pc' := 124) hC dX12_lists_123 rfl ?_
                  refine go_if_ge (tgt := 133) (pc' := 127) hC dX12_lists_124 (by decide) rfl (fun h57 => ?_) (fun h57 => ?_)
                  · have hf := ite_t (lg_ge.mp h57) hf
                    refine go_sub [0, 1, 2, 3, 4, 7] rfl ?_
                    exact jk133_28 x53 g hf
                  · have hf := ite_f (mt lg_ge.mpr h57) hf
                    refine go_iinc (lc' := [(0, .ref (x_q X 0)), (1, .int p1), (2, .int x2), (3, .int x4), (4, .int x9), (5, .long o24), (7, .int (x53 + (-1 : Int32)))]) (pc' := 130) hC dX12_lists_127 rfl ki_m1 (Nat.le_of_ble_eq_true rfl) rfl rfl ?_
                    refine go_goto (tgt := 100) hC dX12_lists_130 (by decide) ?_
                    exact ih (x53 + (-1 : Int32)) g hf
            exact l100_59 fuel x26 g hf
          clear hk73_19
          refine go_if_eq (tgt := 61) (pc' := 49) hC dX12_lists_46 (by decide) rfl (fun h64 => ?_) (fun h64 => ?_)
          · have hf := ite_t h64 hf
            refine go_aload_n (pc' := 62) hC dX12_lists_61 rfl rfl ?_
            refine go_iload (pc' := 64) hC dX12_lists_62 rfl rfl ?_
            obtain ⟨o60, ho60, hf⟩ := bd_e hf
            refine go_callV0 (pc' := 67) (As := [.int x9]) (st := []) (st' := [.int o60])   (b := 0) hC dX12_lists_64 ⟨mw_1030, mw_1033, mw_5, yd_yX12_isWay, yp_yX12_isWay, Nat.le_of_ble_eq_true rfl, Nat.le_of_ble_eq_true rfl, Nat.le_of_ble_eq_true rfl, Nat.le_of_ble_eq_true rfl⟩ mw_1031 mw_1032 layM_0 rfl rfl rfl (Nat.le_of_ble_eq_true rfl) (c_X12_isWay (x_l X) (x_D X) (x_q X) g (x_cy X) (x_z X) _ x9 o60 ho60) rfl rfl (fun g => ?_)
            refine go_if_ne (tgt := 73) (pc' := 70) hC dX12_lists_67 (by decide) rfl (fun h61 => ?_) (fun h61 => ?_)
            · have hf := ite_f h61 hf
              exact jk73_19 g hf
            · have hf := ite_t h61 hf
              refine go_goto (tgt := 218) hC dX12_lists_70 (by decide) ?_
              exact jk218_18 a10 a11 a12 g hf
          · have hf := ite_f h64 hf
            refine go_aload_n (pc' := 50) hC dX12_lists_49 rfl rfl ?_
            refine go_iload (pc' := 52) hC dX12_lists_50 rfl rfl ?_
            obtain ⟨o62, ho62, hf⟩ := bd_e hf
            refine go_callV0 (pc' := 55) (As := [.int x9]) (st := []) (st' := [.int o62])   (b := 0) hC dX12_lists_52 ⟨mw_1026, mw_1029, mw_5, yd_yX12_isCut, yp_yX12_isCut, Nat.le_of_ble_eq_true rfl, Nat.le_of_ble_eq_true rfl, Nat.le_of_ble_eq_true rfl, Nat.le_of_ble_eq_true rfl⟩ mw_1027 mw_1028 layM_0 rfl rfl rfl (Nat.le_of_ble_eq_true rfl) (c_X12_isCut (x_l X) (x_D X) (x_q X) g (x_cy X) (x_z X) _ x9 o62 ho62) rfl rfl (fun g => ?_)
            refine go_if_ne (tgt := 73) (pc' := 58) hC dX12_lists_55 (by decide) rfl (fun h63 => ?_) (fun h63 => ?_)
            · have hf := ite_f h63 hf
              exact jk73_19 g hf
            · have hf := ite_t h63 hf
              refine go_goto (tgt := 218) hC dX12_lists_58 (by decide) ?_
              exact jk218_18 a10 a11 a12 g hf
    exact l36_66 fuel (0 : Int32) ((x_S X).2.2.1 24) a8 a6 g hf
  clear hk13_3
  refine go_if_eq (tgt := 12) (pc' := 8) hC dX12_lists_5 (by decide) rfl (fun h67 => ?_) (fun h67 => ?_)
  · have hf := ite_t h67 hf
    refine go_iconst (pc' := 13) hC dX12_lists_12 ki_0 rfl ?_
    exact jk13_3 (0 : Int32) g hf
  · have hf := ite_f h67 hf
    refine go_iconst (pc' := 9) hC dX12_lists_8 ki_1 rfl ?_
    refine go_goto (tgt := 13) hC dX12_lists_9 (by decide) ?_
    exact jk13_3 (1 : Int32) g hf
theorem dX12_ways_0 : decode cX12_ways 0 = .ok (.aload_n 0, 1) := by decide +kernel
theorem dX12_ways_1 : decode cX12_ways 1 = .ok (.iload_n 1, 1) := by decide +kernel
theorem dX12_ways_2 : decode cX12_ways 2 = .ok (.invokevirtual 404, 3) := by decide +kernel
theorem dX12_ways_5 : decode cX12_ways 5 = .ok (.aload_n 0, 1) := by decide +kernel
theorem dX12_ways_6 : decode cX12_ways 6 = .ok (.getfield 89, 3) := by decide +kernel
theorem dX12_ways_9 : decode cX12_ways 9 = .ok (.iload_n 1, 1) := by decide +kernel
theorem dX12_ways_10 : decode cX12_ways 10 = .ok (.ifCond .eq 7, 3) := by decide +kernel
theorem dX12_ways_13 : decode cX12_ways 13 = .ok (.iconst 1, 1) := by decide +kernel
theorem dX12_ways_14 : decode cX12_ways 14 = .ok (.goto 4, 3) := by decide +kernel
theorem dX12_ways_17 : decode cX12_ways 17 = .ok (.iconst 0, 1) := by decide +kernel
theorem dX12_ways_18 : decode cX12_ways 18 = .ok (.iaload, 1) := by decide +kernel
theorem dX12_ways_19 : decode cX12_ways 19 = .ok (.ireturn, 1) := by decide +kernel
abbrev o_X12_ways : Type := Int32 × Int32 × Int32 × Int32 × (Nat → Int32) × (Nat → Int32) × (Nat → Int32) × (Nat → Int32) × (Nat → Int32) × (Nat → Int32) × (Nat → Int32)
def f_X12_ways (S : wd_W) (p1 : Int32) : Option o_X12_ways :=
bd (f_X12_lists (wd_o S [(38, (S.1 38)), (39, (S.1 39)), (44, (S.1 44))] [] [(17, (S.2.2.1 17)), (18, (S.2.2.1 18)), (19, (S.2.2.1 19)), (20, (S.2.2.1 20)), (24, (S.2.2.1 24)), (25, (S.2.2.1 25)), (26, (S.2.2.1 26))] [] []) p1) fun o1 =>
lk (fun x2 =>
gd (okx x2 2) <|
some (o1.2.2.2.2.2.2.2.2.2 x2.toNatClampNeg, o1.1, o1.2.1, o1.2.2.1, o1.2.2.2.1, o1.2.2.2.2.1, o1.2.2.2.2.2.1, o1.2.2.2.2.2.2.1, o1.2.2.2.2.2.2.2.1, o1.2.2.2.2.2.2.2.2.1, o1.2.2.2.2.2.2.2.2.2)) fun k18_3 =>
if p1 = 0 then (
k18_3 (0 : Int32)) else (
k18_3 (1 : Int32))
set_option maxRecDepth 100000 in
set_option maxHeartbeats 4000000 in
theorem c_X12_ways (l : Launch) (D : va_G) (q g : Nat → Nat) (cy : Nat → ClassId) (z : (Nat → Nat) × (Nat → Nat) × Nat) (S : wd_W) (p1 : Int32) (o : o_X12_ways) (hf : f_X12_ways S p1 = some o) : MX layM l yX12_ways cX12_ways 2 (some .int) ({ frames := 6, cells := 0, slots := 0, locals := 143 } : Room) D q g cy z [.ref (q 0), .int p1] S (some (.int o.1)) (wd_o S [(38, o.2.1), (39, o.2.2.1), (44, o.2.2.2.1)] [] [(17, o.2.2.2.2.1), (18, o.2.2.2.2.2.1), (19, o.2.2.2.2.2.2.1), (20, o.2.2.2.2.2.2.2.1), (24, o.2.2.2.2.2.2.2.2.1), (25, o.2.2.2.2.2.2.2.2.2.1), (26, o.2.2.2.2.2.2.2.2.2.2)] [] []) 0 0 := by
  refine mx_of (own := RX12) (lc := [(0, .ref (q 0)), (1, .int p1)]) (by decide +kernel) rfl layM_ok (Nat.le_of_ble_eq_true rfl) rfl ?_
  intro X hXl hXq hXS hC hQ
  subst hXl; subst hXq; subst hXS
  unfold f_X12_ways at hf
  refine go_keys (L1 := [(38, ((x_S X).1 38)), (39, ((x_S X).1 39)), (44, ((x_S X).1 44))]) (L2 := []) (L3 := [(17, ((x_S X).2.2.1 17)), (18, ((x_S X).2.2.1 18)), (19, ((x_S X).2.2.1 19)), (20, ((x_S X).2.2.1 20)), (24, ((x_S X).2.2.1 24)), (25, ((x_S X).2.2.1 25)), (26, ((x_S X).2.2.1 26))]) (L4 := []) (L5 := []) [38, 39, 44] [] [17, 18, 19, 20, 24, 25, 26] [] [] rfl rfl rfl rfl rfl ?_
  refine go_aload_n (pc' := 1) hC dX12_ways_0 rfl rfl ?_
  refine go_iload_n (pc' := 2) hC dX12_ways_1 rfl rfl ?_
  obtain ⟨o1, ho1, hf⟩ := bd_e hf
  refine go_callV (pc' := 5) (As := [.int p1]) (st := []) (st' := []) (L1' := [(38, o1.1), (39, o1.2.1), (44, o1.2.2.1)]) (L2' := []) (L3' := [(17, o1.2.2.2.1), (18, o1.2.2.2.2.1), (19, o1.2.2.2.2.2.1), (20, o1.2.2.2.2.2.2.1), (24, o1.2.2.2.2.2.2.2.1), (25, o1.2.2.2.2.2.2.2.2.1), (26, o1.2.2.2.2.2.2.2.2.2)]) (L4' := []) (L5' := []) (cells' := 0) (slots' := 0) (b := 0) hC dX12_ways_2 ⟨mw_1022, mw_1025, mw_5, yd_yX12_lists, yp_yX12_lists, Nat.le_of_ble_eq_true rfl, Nat.le_of_ble_eq_true rfl, Nat.le_of_ble_eq_true rfl, Nat.le_of_ble_eq_true rfl⟩ mw_1023 mw_1024 layM_0 rfl rfl rfl (Nat.le_of_ble_eq_true rfl) (c_X12_lists (x_l X) (x_D X) (x_q X) g (x_cy X) (x_z X) _ p1 o1 ho1) rfl rfl rfl rfl rfl rfl rfl rfl rfl rfl rfl rfl rfl rfl (fun g => ?_)
  refine go_aload_n (pc' := 6) hC dX12_ways_5 rfl rfl ?_
  refine go_getq (pc' := 9) hC 0 50 layM_0 rfl rfl inlX12 (Nat.le_of_ble_eq_true rfl) mw_207 rfl dX12_ways_6 rfl ?_
  refine go_iload_n (pc' := 10) hC dX12_ways_9 rfl rfl ?_
  obtain ⟨k18_3, hk18_3, hf⟩ := lk_e1 hf
  have jk18_3 : ∀ (x2 : Int32) (g : Nat → Nat), k18_3 x2 = some o → Go X layM 18 [] [.int x2, .ref (x_q X 26)] g [(38, o1.1), (39, o1.2.1), (44, o1.2.2.1)] [] [(17, o1.2.2.2.1), (18, o1.2.2.2.2.1), (19, o1.2.2.2.2.2.1), (20, o1.2.2.2.2.2.2.1), (24, o1.2.2.2.2.2.2.2.1), (25, o1.2.2.2.2.2.2.2.2.1), (26, o1.2.2.2.2.2.2.2.2.2)] [] [] 0 0 := by
    intro x2 g hf
    have hf := hk18_3 x2 hf
    clear hk18_3
    obtain ⟨h4, hf⟩ := gd_e hf
    refine go_iald (f := o1.2.2.2.2.2.2.2.2.2) (pc' := 19) hC 26 layM_26 rfl rfl dX12_ways_18 (okx_in h4) rfl ?_
    obtain rfl := Option.some.inj hf
    exact go_iret hC hQ dX12_ways_19 rfl rfl rfl rfl rfl rfl
  clear hk18_3
  refine go_if_eq (tgt := 17) (pc' := 13) hC dX12_ways_10 (by decide) rfl (fun h5 => ?_) (fun h5 => ?_)
  · have hf := ite_t h5 hf
    refine go_iconst (pc' := 18) hC dX12_ways_17 ki_0 rfl ?_
    refine go_sub [] rfl ?_
    exact jk18_3 (0 : Int32) g hf
  · have hf := ite_f h5 hf
    refine go_iconst (pc' := 14) hC dX12_ways_13 ki_1 rfl ?_
    refine go_goto (tgt := 18) hC dX12_ways_14 (by decide) ?_
    refine go_sub [] rfl ?_
    exact jk18_3 (1 : Int32) g hf
theorem dX12_way_0 : decode cX12_way 0 = .ok (.aload_n 0, 1) := by decide +kernel
theorem dX12_way_1 : decode cX12_way 1 = .ok (.iload_n 1, 1) := by decide +kernel
theorem dX12_way_2 : decode cX12_way 2 = .ok (.invokevirtual 404, 3) := by decide +kernel
theorem dX12_way_5 : decode cX12_way 5 = .ok (.iload_n 1, 1) := by decide +kernel
theorem dX12_way_6 : decode cX12_way 6 = .ok (.ifCond .eq 7, 3) := by decide +kernel
theorem dX12_way_9 : decode cX12_way 9 = .ok (.iconst 1, 1) := by decide +kernel
theorem dX12_way_10 : decode cX12_way 10 = .ok (.goto 4, 3) := by decide +kernel
theorem dX12_way_13 : decode cX12_way 13 = .ok (.iconst 0, 1) := by decide +kernel
theorem dX12_way_14 : decode cX12_way 14 = .ok (.istore_n 3, 1) := by decide +kernel
theorem dX12_way_15 : decode cX12_way 15 = .ok (.iload_n 2, 1) := by decide +kernel
theorem dX12_way_16 : decode cX12_way 16 = .ok (.i2l, 1) := by decide +kernel
theorem dX12_way_17 : decode cX12_way 17 = .ok (.lconst 0, 1) := by decide +kernel
theorem dX12_way_18 : decode cX12_way 18 = .ok (.aload_n 0, 1) := by decide +kernel
theorem dX12_way_19 : decode cX12_way 19 = .ok (.getfield 86, 3) := by decide +kernel
theorem dX12_way_22 : decode cX12_way 22 = .ok (.iload_n 3, 1) := by decide +kernel
theorem dX12_way_23 : decode cX12_way 23 = .ok (.iaload, 1) := by decide +kernel
theorem dX12_way_24 : decode cX12_way 24 = .ok (.iconst 1, 1) := by decide +kernel
theorem dX12_way_25 : decode cX12_way 25 = .ok (.isub, 1) := by decide +kernel
theorem dX12_way_26 : decode cX12_way 26 = .ok (.i2l, 1) := by decide +kernel
theorem dX12_way_27 : decode cX12_way 27 = .ok (.invokestatic 218, 3) := by decide +kernel
theorem dX12_way_30 : decode cX12_way 30 = .ok (.ifCond .eq 17, 3) := by decide +kernel
theorem dX12_way_33 : decode cX12_way 33 = .ok (.aload_n 0, 1) := by decide +kernel
theorem dX12_way_34 : decode cX12_way 34 = .ok (.getfield 83, 3) := by decide +kernel
theorem dX12_way_37 : decode cX12_way 37 = .ok (.bipush 60, 2) := by decide +kernel
theorem dX12_way_39 : decode cX12_way 39 = .ok (.iload_n 3, 1) := by decide +kernel
theorem dX12_way_40 : decode cX12_way 40 = .ok (.imul, 1) := by decide +kernel
theorem dX12_way_41 : decode cX12_way 41 = .ok (.iload_n 2, 1) := by decide +kernel
theorem dX12_way_42 : decode cX12_way 42 = .ok (.iadd, 1) := by decide +kernel
theorem dX12_way_43 : decode cX12_way 43 = .ok (.iaload, 1) := by decide +kernel
theorem dX12_way_44 : decode cX12_way 44 = .ok (.goto 4, 3) := by decide +kernel
theorem dX12_way_47 : decode cX12_way 47 = .ok (.iconst (-1), 1) := by decide +kernel
theorem dX12_way_48 : decode cX12_way 48 = .ok (.ireturn, 1) := by decide +kernel
abbrev o_X12_way : Type := Int32 × Int32 × Int32 × Int32 × (Nat → Int32) × (Nat → Int32) × (Nat → Int32) × (Nat → Int32) × (Nat → Int32) × (Nat → Int32) × (Nat → Int32)
def f_X12_way (S : wd_W) (p1 : Int32) (p2 : Int32) : Option o_X12_way :=
bd (f_X12_lists (wd_o S [(38, (S.1 38)), (39, (S.1 39)), (44, (S.1 44))] [] [(17, (S.2.2.1 17)), (18, (S.2.2.1 18)), (19, (S.2.2.1 19)), (20, (S.2.2.1 20)), (24, (S.2.2.1 24)), (25, (S.2.2.1 25)), (26, (S.2.2.1 26))] [] []) p1) fun o1 =>
lk (fun x2 =>
gd (okx x2 2) <|
bd (f_X12_in p2.toInt64 (0 : Int64) (((o1.2.2.2.2.2.2.2.2.1 x2.toNatClampNeg) - (1 : Int32)).toInt64)) fun o5 =>
if o5 = 0 then (
some ((-1 : Int32), o1.1, o1.2.1, o1.2.2.1, o1.2.2.2.1, o1.2.2.2.2.1, o1.2.2.2.2.2.1, o1.2.2.2.2.2.2.1, o1.2.2.2.2.2.2.2.1, o1.2.2.2.2.2.2.2.2.1, o1.2.2.2.2.2.2.2.2.2)) else (
gd (okx (((60 : Int32) * x2) + p2) 120) <|
some (o1.2.2.2.2.2.2.2.1 (((60 : Int32) * x2) + p2).toNatClampNeg, o1.1, o1.2.1, o1.2.2.1, o1.2.2.2.1, o1.2.2.2.2.1, o1.2.2.2.2.2.1, o1.2.2.2.2.2.2.1, o1.2.2.2.2.2.2.2.1, o1.2.2.2.2.2.2.2.2.1, o1.2.2.2.2.2.2.2.2.2))) fun k14_3 =>
if p1 = 0 then (
k14_3 (0 : Int32)) else (
k14_3 (1 : Int32))
set_option maxRecDepth 100000 in
set_option maxHeartbeats 4000000 in
theorem c_X12_way (l : Launch) (D : va_G) (q g : Nat → Nat) (cy : Nat → ClassId) (z : (Nat → Nat) × (Nat → Nat) × Nat) (S : wd_W) (p1 : Int32) (p2 : Int32) (o : o_X12_way) (hf : f_X12_way S p1 p2 = some o) : MX layM l yX12_way cX12_way 4 (some .int) ({ frames := 6, cells := 0, slots := 0, locals := 143 } : Room) D q g cy z [.ref (q 0), .int p1, .int p2] S (some (.int o.1)) (wd_o S [(38, o.2.1), (39, o.2.2.1), (44, o.2.2.2.1)] [] [(17, o.2.2.2.2.1), (18, o.2.2.2.2.2.1), (19, o.2.2.2.2.2.2.1), (20, o.2.2.2.2.2.2.2.1), (24, o.2.2.2.2.2.2.2.2.1), (25, o.2.2.2.2.2.2.2.2.2.1), (26, o.2.2.2.2.2.2.2.2.2.2)] [] []) 0 0 := by
  refine mx_of (own := RX12) (lc := [(0, .ref (q 0)), (1, .int p1), (2, .int p2)]) (by decide +kernel) rfl layM_ok (Nat.le_of_ble_eq_true rfl) rfl ?_
  intro X hXl hXq hXS hC hQ
  subst hXl; subst hXq; subst hXS
  unfold f_X12_way at hf
  refine go_keys (L1 := [(38, ((x_S X).1 38)), (39, ((x_S X).1 39)), (44, ((x_S X).1 44))]) (L2 := []) (L3 := [(17, ((x_S X).2.2.1 17)), (18, ((x_S X).2.2.1 18)), (19, ((x_S X).2.2.1 19)), (20, ((x_S X).2.2.1 20)), (24, ((x_S X).2.2.1 24)), (25, ((x_S X).2.2.1 25)), (26, ((x_S X).2.2.1 26))]) (L4 := []) (L5 := []) [38, 39, 44] [] [17, 18, 19, 20, 24, 25, 26] [] [] rfl rfl rfl rfl rfl ?_
  refine go_aload_n (pc' := 1) hC dX12_way_0 rfl rfl ?_
  refine go_iload_n (pc' := 2) hC dX12_way_1 rfl rfl ?_
  obtain ⟨o1, ho1, hf⟩ := bd_e hf
  refine go_callV (pc' := 5) (As := [.int p1]) (st := []) (st' := []) (L1' := [(38, o1.1), (39, o1.2.1), (44, o1.2.2.1)]) (L2' := []) (L3' := [(17, o1.2.2.2.1), (18, o1.2.2.2.2.1), (19, o1.2.2.2.2.2.1), (20, o1.2.2.2.2.2.2.1), (24, o1.2.2.2.2.2.2.2.1), (25, o1.2.2.2.2.2.2.2.2.1), (26, o1.2.2.2.2.2.2.2.2.2)]) (L4' := []) (L5' := []) (cells' := 0) (slots' := 0) (b := 0) hC dX12_way_2 ⟨mw_1022, mw_1025, mw_5, yd_yX12_lists, yp_yX12_lists, Nat.le_of_ble_eq_true rfl, Nat.le_of_ble_eq_true rfl, Nat.le_of_ble_eq_true rfl, Nat.le_of_ble_eq_true rfl⟩ mw_1023 mw_1024 layM_0 rfl rfl rfl (Nat.le_of_ble_eq_true rfl) (c_X12_lists (x_l X) (x_D X) (x_q X) g (x_cy X) (x_z X) _ p1 o1 ho1) rfl rfl rfl rfl rfl rfl rfl rfl rfl rfl rfl rfl rfl rfl (fun g => ?_)
  refine go_iload_n (pc' := 6) hC dX12_way_5 rfl rfl ?_
  obtain ⟨k14_3, hk14_3, hf⟩ := lk_e1 hf
  have jk14_3 : ∀ (x2 : Int32) (g : Nat → Nat), k14_3 x2 = some o → Go X layM 14 [(0, .ref (x_q X 0)), (2, .int p2)] [.int x2] g [(38, o1.1), (39, o1.2.1), (44, o1.2.2.1)] [] [(17, o1.2.2.2.1), (18, o1.2.2.2.2.1), (19, o1.2.2.2.2.2.1), (20, o1.2.2.2.2.2.2.1), (24, o1.2.2.2.2.2.2.2.1), (25, o1.2.2.2.2.2.2.2.2.1), (26, o1.2.2.2.2.2.2.2.2.2)] [] [] 0 0 := by
    intro x2 g hf
    have hf := hk14_3 x2 hf
    clear hk14_3
    refine go_istore_n (lc' := [(0, .ref (x_q X 0)), (2, .int p2), (3, .int x2)]) (pc' := 15) hC dX12_way_14 (Nat.le_of_ble_eq_true rfl) rfl rfl ?_
    refine go_iload_n (pc' := 16) hC dX12_way_15 rfl rfl ?_
    refine go_i2l (pc' := 17) hC dX12_way_16 rfl ?_
    refine go_lconst (pc' := 18) hC dX12_way_17 kl_0 rfl ?_
    refine go_aload_n (pc' := 19) hC dX12_way_18 rfl rfl ?_
    refine go_getq (pc' := 22) hC 0 49 layM_0 rfl rfl inlX12 (Nat.le_of_ble_eq_true rfl) mw_206 rfl dX12_way_19 rfl ?_
    refine go_iload_n (pc' := 23) hC dX12_way_22 rfl rfl ?_
    obtain ⟨h4, hf⟩ := gd_e hf
    refine go_iald (f := o1.2.2.2.2.2.2.2.2.1) (pc' := 24) hC 25 layM_25 rfl rfl dX12_way_23 (okx_in h4) rfl ?_
    refine go_iconst (pc' := 25) hC dX12_way_24 ki_1 rfl ?_
    refine go_isub (pc' := 26) hC dX12_way_25 rfl ?_
    refine go_i2l (pc' := 27) hC dX12_way_26 rfl ?_
    obtain ⟨o5, ho5, hf⟩ := bd_e hf
    refine go_callS0 (pc' := 30) (As := [.long p2.toInt64, .long (0 : Int64), .long (((o1.2.2.2.2.2.2.2.2.1 x2.toNatClampNeg) - (1 : Int32)).toInt64)]) (st := []) (st' := [.int o5])   hC dX12_way_27 ⟨mw_525, mw_527, mw_5, yd_yX12_in, yp_yX12_in, Nat.le_of_ble_eq_true rfl, Nat.le_of_ble_eq_true rfl, Nat.le_of_ble_eq_true rfl, Nat.le_of_ble_eq_true rfl⟩ mw_526 rfl rfl (Nat.le_of_ble_eq_true rfl) (c_X12_in (x_l X) (x_D X) (x_q X) g (x_cy X) (x_z X) _ p2.toInt64 (0 : Int64) (((o1.2.2.2.2.2.2.2.2.1 x2.toNatClampNeg) - (1 : Int32)).toInt64) o5 ho5) rfl rfl (fun g => ?_)
    refine go_if_eq (tgt := 47) (pc' := 33) hC dX12_way_30 (by decide) rfl (fun h7 => ?_) (fun h7 => ?_)
    · have hf := ite_t h7 hf
      refine go_iconst (pc' := 48) hC dX12_way_47 ki_m1 rfl ?_
      obtain rfl := Option.some.inj hf
      exact go_iret hC hQ dX12_way_48 rfl rfl rfl rfl rfl rfl
    · have hf := ite_f h7 hf
      refine go_aload_n (pc' := 34) hC dX12_way_33 rfl rfl ?_
      refine go_getq (pc' := 37) hC 0 48 layM_0 rfl rfl inlX12 (Nat.le_of_ble_eq_true rfl) mw_205 rfl dX12_way_34 rfl ?_
      refine go_bipush (pc' := 39) hC dX12_way_37 kb_60 rfl ?_
      refine go_iload_n (pc' := 40) hC dX12_way_39 rfl rfl ?_
      refine go_imul (pc' := 41) hC dX12_way_40 rfl ?_
      refine go_iload_n (pc' := 42) hC dX12_way_41 rfl rfl ?_
      refine go_iadd (pc' := 43) hC dX12_way_42 rfl ?_
      obtain ⟨h6, hf⟩ := gd_e hf
      refine go_iald (f := o1.2.2.2.2.2.2.2.1) (pc' := 44) hC 24 layM_24 rfl rfl dX12_way_43 (okx_in h6) rfl ?_
      refine go_goto (tgt := 48) hC dX12_way_44 (by decide) ?_
      obtain rfl := Option.some.inj hf
      exact go_iret hC hQ dX12_way_48 rfl rfl rfl rfl rfl rfl
  clear hk14_3
  refine go_if_eq (tgt := 13) (pc' := 9) hC dX12_way_6 (by decide) rfl (fun h8 => ?_) (fun h8 => ?_)
  · have hf := ite_t h8 hf
    refine go_iconst (pc' := 14) hC dX12_way_13 ki_0 rfl ?_
    refine go_sub [0, 2] rfl ?_
    exact jk14_3 (0 : Int32) g hf
  · have hf := ite_f h8 hf
    refine go_iconst (pc' := 10) hC dX12_way_9 ki_1 rfl ?_
    refine go_goto (tgt := 14) hC dX12_way_10 (by decide) ?_
    refine go_sub [0, 2] rfl ?_
    exact jk14_3 (1 : Int32) g hf
theorem dX12_hasOne_0 : decode cX12_hasOne 0 = .ok (.bipush 60, 2) := by decide +kernel
theorem dX12_hasOne_2 : decode cX12_hasOne 2 = .ok (.iload_n 1, 1) := by decide +kernel
theorem dX12_hasOne_3 : decode cX12_hasOne 3 = .ok (.imul, 1) := by decide +kernel
theorem dX12_hasOne_4 : decode cX12_hasOne 4 = .ok (.istore 4, 2) := by decide +kernel
theorem dX12_hasOne_6 : decode cX12_hasOne 6 = .ok (.iload 4, 2) := by decide +kernel
theorem dX12_hasOne_8 : decode cX12_hasOne 8 = .ok (.bipush 60, 2) := by decide +kernel
theorem dX12_hasOne_10 : decode cX12_hasOne 10 = .ok (.iload_n 1, 1) := by decide +kernel
theorem dX12_hasOne_11 : decode cX12_hasOne 11 = .ok (.imul, 1) := by decide +kernel
theorem dX12_hasOne_12 : decode cX12_hasOne 12 = .ok (.aload_n 0, 1) := by decide +kernel
theorem dX12_hasOne_13 : decode cX12_hasOne 13 = .ok (.getfield 86, 3) := by decide +kernel
theorem dX12_hasOne_16 : decode cX12_hasOne 16 = .ok (.iload_n 1, 1) := by decide +kernel
theorem dX12_hasOne_17 : decode cX12_hasOne 17 = .ok (.iaload, 1) := by decide +kernel
theorem dX12_hasOne_18 : decode cX12_hasOne 18 = .ok (.iadd, 1) := by decide +kernel
theorem dX12_hasOne_19 : decode cX12_hasOne 19 = .ok (.if_icmp .ge 36, 3) := by decide +kernel
theorem dX12_hasOne_22 : decode cX12_hasOne 22 = .ok (.iload 4, 2) := by decide +kernel
theorem dX12_hasOne_24 : decode cX12_hasOne 24 = .ok (.bipush 60, 2) := by decide +kernel
theorem dX12_hasOne_26 : decode cX12_hasOne 26 = .ok (.iload_n 1, 1) := by decide +kernel
theorem dX12_hasOne_27 : decode cX12_hasOne 27 = .ok (.imul, 1) := by decide +kernel
theorem dX12_hasOne_28 : decode cX12_hasOne 28 = .ok (.iload_n 2, 1) := by decide +kernel
theorem dX12_hasOne_29 : decode cX12_hasOne 29 = .ok (.iadd, 1) := by decide +kernel
theorem dX12_hasOne_30 : decode cX12_hasOne 30 = .ok (.if_icmp .ge 25, 3) := by decide +kernel
theorem dX12_hasOne_33 : decode cX12_hasOne 33 = .ok (.aload_n 0, 1) := by decide +kernel
theorem dX12_hasOne_34 : decode cX12_hasOne 34 = .ok (.getfield 83, 3) := by decide +kernel
theorem dX12_hasOne_37 : decode cX12_hasOne 37 = .ok (.iload 4, 2) := by decide +kernel
theorem dX12_hasOne_39 : decode cX12_hasOne 39 = .ok (.iaload, 1) := by decide +kernel
theorem dX12_hasOne_40 : decode cX12_hasOne 40 = .ok (.iload_n 3, 1) := by decide +kernel
theorem dX12_hasOne_41 : decode cX12_hasOne 41 = .ok (.iconst (-1), 1) := by decide +kernel
theorem dX12_hasOne_42 : decode cX12_hasOne 42 = .ok (.ixor, 1) := by decide +kernel
theorem dX12_hasOne_43 : decode cX12_hasOne 43 = .ok (.iand, 1) := by decide +kernel
theorem dX12_hasOne_44 : decode cX12_hasOne 44 = .ok (.ifCond .ne 5, 3) := by decide +kernel
theorem dX12_hasOne_47 : decode cX12_hasOne 47 = .ok (.iconst 1, 1) := by decide +kernel
theorem dX12_hasOne_48 : decode cX12_hasOne 48 = .ok (.ireturn, 1) := by decide +kernel
theorem dX12_hasOne_49 : decode cX12_hasOne 49 = .ok (.iinc 4 1, 3) := by decide +kernel
theorem dX12_hasOne_52 : decode cX12_hasOne 52 = .ok (.goto (-46), 3) := by decide +kernel
theorem dX12_hasOne_55 : decode cX12_hasOne 55 = .ok (.iconst 0, 1) := by decide +kernel
theorem dX12_hasOne_56 : decode cX12_hasOne 56 = .ok (.ireturn, 1) := by decide +kernel
abbrev o_X12_hasOne : Type := Int32
def f_X12_hasOne_L6 (S : wd_W) (p1 : Int32) (p2 : Int32) (p3 : Int32) (r3 : (Int32) → (Option o_X12_hasOne)) (x2 : Int32) : Option o_X12_hasOne :=
gd (okx p1 2) <|
if (((60 : Int32) * p1) + ((S.2.2.1 25) p1.toNatClampNeg)) ≤ x2 then (
some (0 : Int32)) else (
if (((60 : Int32) * p1) + p2) ≤ x2 then (
some (0 : Int32)) else (
gd (okx x2 120) <|
if (((S.2.2.1 24) x2.toNatClampNeg) &&& (p3 ^^^ (-1 : Int32))) = 0 then (
some (1 : Int32)) else (
r3 (x2 + (1 : Int32)))))
def f_X12_hasOne (S : wd_W) (p1 : Int32) (p2 : Int32) (p3 : Int32) : Option o_X12_hasOne :=
lz ((60 : Int32) * p1) fun x1 =>
it1 (f_X12_hasOne_L6 S p1 p2 p3) fuel x1
set_option maxRecDepth 100000 in
set_option maxHeartbeats 4000000 in
theorem c_X12_hasOne (l : Launch) (D : va_G) (q g : Nat → Nat) (cy : Nat → ClassId) (z : (Nat → Nat) × (Nat → Nat) × Nat) (S : wd_W) (p1 : Int32) (p2 : Int32) (p3 : Int32) (o : o_X12_hasOne) (hf : f_X12_hasOne S p1 p2 p3 = some o) : MX layM l yX12_hasOne cX12_hasOne 5 (some .boolean) ({ frames := 0, cells := 0, slots := 0, locals := 0 } : Room) D q g cy z [.ref (q 0), .int p1, .int p2, .int p3] S (some (.int o)) (wd_o S [] [] [] [] []) 0 0 := by
  refine mx_of (own := RX12) (lc := [(0, .ref (q 0)), (1, .int p1), (2, .int p2), (3, .int p3)]) (by decide +kernel) rfl layM_ok (Nat.le_of_ble_eq_true rfl) rfl ?_
  intro X hXl hXq hXS hC hQ
  subst hXl; subst hXq; subst hXS
  unfold f_X12_hasOne at hf
  refine go_bipush (pc' := 2) hC dX12_hasOne_0 kb_60 rfl ?_
  refine go_iload_n (pc' := 3) hC dX12_hasOne_2 rfl rfl ?_
  refine go_imul (pc' := 4) hC dX12_hasOne_3 rfl ?_
  refine go_namei (fun x1 hx => ?_)
  have hf := lz_r hx hf
  clear hx
  refine go_istore (lc' := [(0, .ref (x_q X 0)), (1, .int p1), (2, .int p2), (3, .int p3), (4, .int x1)]) (pc' := 6) hC dX12_hasOne_4 (Nat.le_of_ble_eq_true rfl) rfl rfl ?_
  have l6_9 : ∀ (nn : Nat) (x2 : Int32) (g : Nat → Nat), it1 (f_X12_hasOne_L6 (x_S X) p1 p2 p3) nn x2 = some o → Go X layM 6 [(0, .ref (x_q X 0)), (1, .int p1), (2, .int p2), (3, .int p3), (4, .int x2)] [] g [] [] [] [] [] 0 0 := by
    intro nn
    induction nn with
    | zero =>
      intro x2 g hf
      exact none_no hf
    | succ nn ih =>
      intro x2 g hf
      have hf : f_X12_hasOne_L6 (x_S X) p1 p2 p3 (it1 (f_X12_hasOne_L6 (x_S X) p1 p2 p3) nn) x2 = some o := hf
      generalize it1 (f_X12_hasOne_L6 (x_S X) p1 p2 p3) nn = r3 at ih hf
      unfold f_X12_hasOne_L6 at hf
      refine go_iload (pc' := 8) hC dX12_hasOne_6 rfl rfl ?_
      refine go_bipush (pc' := 10) hC dX12_hasOne_8 kb_60 rfl ?_
      refine go_iload_n (pc' := 11) hC dX12_hasOne_10 rfl rfl ?_
      refine go_imul (pc' := 12) hC dX12_hasOne_11 rfl ?_
      refine go_aload_n (pc' := 13) hC dX12_hasOne_12 rfl rfl ?_
      refine go_getq (pc' := 16) hC 0 49 layM_0 rfl rfl inlX12 (Nat.le_of_ble_eq_true rfl) mw_206 rfl dX12_hasOne_13 rfl ?_
      refine go_iload_n (pc' := 17) hC dX12_hasOne_16 rfl rfl ?_
      obtain ⟨h4, hf⟩ := gd_e hf
      refine go_iald (f := ((x_S X).2.2.1 25)) (pc' := 18) hC 25 layM_25 rfl rfl dX12_hasOne_17 (okx_in h4) rfl ?_
      refine go_iadd (pc' := 19) hC dX12_hasOne_18 rfl ?_
      refine go_icmp_ge (tgt := 55) (pc' := 22) hC dX12_hasOne_19 (by decide) rfl (fun h8 => ?_) (fun h8 => ?_)
      · have hf := ite_t h8 hf
        refine go_iconst (pc' := 56) hC dX12_hasOne_55 ki_0 rfl ?_
        obtain rfl := Option.some.inj hf
        exact go_iret hC hQ dX12_hasOne_56 rfl rfl rfl rfl rfl rfl
      · have hf := ite_f h8 hf
        refine go_iload (pc' := 24) hC dX12_hasOne_22 rfl rfl ?_
        refine go_bipush (pc' := 26) hC dX12_hasOne_24 kb_60 rfl ?_
        refine go_iload_n (pc' := 27) hC dX12_hasOne_26 rfl rfl ?_
        refine go_imul (pc' := 28) hC dX12_hasOne_27 rfl ?_
        refine go_iload_n (pc' := 29) hC dX12_hasOne_28 rfl rfl ?_
        refine go_iadd (pc' := 30) hC dX12_hasOne_29 rfl ?_
        refine go_icmp_ge (tgt := 55) (pc' := 33) hC dX12_hasOne_30 (by decide) rfl (fun h7 => ?_) (fun h7 => ?_)
        · have hf := ite_t h7 hf
          refine go_iconst (pc' := 56) hC dX12_hasOne_55 ki_0 rfl ?_
          obtain rfl := Option.some.inj hf
          exact go_iret hC hQ dX12_hasOne_56 rfl rfl rfl rfl rfl rfl
        · have hf := ite_f h7 hf
          refine go_aload_n (pc' := 34) hC dX12_hasOne_33 rfl rfl ?_
          refine go_getq (pc' := 37) hC 0 48 layM_0 rfl rfl inlX12 (Nat.le_of_ble_eq_true rfl) mw_205 rfl dX12_hasOne_34 rfl ?_
          refine go_iload (pc' := 39) hC dX12_hasOne_37 rfl rfl ?_
          obtain ⟨h5, hf⟩ := gd_e hf
          refine go_iald (f := ((x_S X).2.2.1 24)) (pc' := 40) hC 24 layM_24 rfl rfl dX12_hasOne_39 (okx_in h5) rfl ?_
          refine go_iload_n (pc' := 41) hC dX12_hasOne_40 rfl rfl ?_
          refine go_iconst (pc' := 42) hC dX12_hasOne_41 ki_m1 rfl ?_
          refine go_ixor (pc' := 43) hC dX12_hasOne_42 rfl ?_
          refine go_iand (pc' := 44) hC dX12_hasOne_43 rfl ?_
          refine go_if_ne (tgt := 49) (pc' := 47) hC dX12_hasOne_44 (by decide) rfl (fun h6 => ?_) (fun h6 => ?_)
          · have hf := ite_f h6 hf
            refine go_iinc (lc' := [(0, .ref (x_q X 0)), (1, .int p1), (2, .int p2), (3, .int p3), (4, .int (x2 + (1 : Int32)))]) (pc' := 52) hC dX12_hasOne_49 rfl ki_1 (Nat.le_of_ble_eq_true rfl) rfl rfl ?_
            refine go_goto (tgt := 6) hC dX12_hasOne_52 (by decide) ?_
            exact ih (x2 + (1 : Int32)) g hf
          · have hf := ite_t h6 hf
            refine go_iconst (pc' := 48) hC dX12_hasOne_47 ki_1 rfl ?_
            obtain rfl := Option.some.inj hf
            exact go_iret hC hQ dX12_hasOne_48 rfl rfl rfl rfl rfl rfl
  exact l6_9 fuel x1 g hf
theorem dX12_ends_0 : decode cX12_ends 0 = .ok (.iload_n 1, 1) := by decide +kernel
theorem dX12_ends_1 : decode cX12_ends 1 = .ok (.i2l, 1) := by decide +kernel
theorem dX12_ends_2 : decode cX12_ends 2 = .ok (.lconst 0, 1) := by decide +kernel
theorem dX12_ends_3 : decode cX12_ends 3 = .ok (.ldc2_w 408, 3) := by decide +kernel
theorem dX12_ends_6 : decode cX12_ends 6 = .ok (.invokestatic 218, 3) := by decide +kernel
theorem dX12_ends_9 : decode cX12_ends 9 = .ok (.ifCond .eq 13, 3) := by decide +kernel
theorem dX12_ends_12 : decode cX12_ends 12 = .ok (.iload_n 2, 1) := by decide +kernel
theorem dX12_ends_13 : decode cX12_ends 13 = .ok (.i2l, 1) := by decide +kernel
theorem dX12_ends_14 : decode cX12_ends 14 = .ok (.lconst 0, 1) := by decide +kernel
theorem dX12_ends_15 : decode cX12_ends 15 = .ok (.lconst 1, 1) := by decide +kernel
theorem dX12_ends_16 : decode cX12_ends 16 = .ok (.invokestatic 218, 3) := by decide +kernel
theorem dX12_ends_19 : decode cX12_ends 19 = .ok (.ifCond .ne 7, 3) := by decide +kernel
theorem dX12_ends_22 : decode cX12_ends 22 = .ok (.ldc2_w 373, 3) := by decide +kernel
theorem dX12_ends_25 : decode cX12_ends 25 = .ok (.lreturn, 1) := by decide +kernel
theorem dX12_ends_26 : decode cX12_ends 26 = .ok (.aload_n 0, 1) := by decide +kernel
theorem dX12_ends_27 : decode cX12_ends 27 = .ok (.iload_n 2, 1) := by decide +kernel
theorem dX12_ends_28 : decode cX12_ends 28 = .ok (.iconst 1, 1) := by decide +kernel
theorem dX12_ends_29 : decode cX12_ends 29 = .ok (.if_icmp .ne 7, 3) := by decide +kernel
theorem dX12_ends_32 : decode cX12_ends 32 = .ok (.iconst 1, 1) := by decide +kernel
theorem dX12_ends_33 : decode cX12_ends 33 = .ok (.goto 4, 3) := by decide +kernel
theorem dX12_ends_36 : decode cX12_ends 36 = .ok (.iconst 0, 1) := by decide +kernel
theorem dX12_ends_37 : decode cX12_ends 37 = .ok (.invokevirtual 404, 3) := by decide +kernel
theorem dX12_ends_40 : decode cX12_ends 40 = .ok (.aload_n 0, 1) := by decide +kernel
theorem dX12_ends_41 : decode cX12_ends 41 = .ok (.invokevirtual 375, 3) := by decide +kernel
theorem dX12_ends_44 : decode cX12_ends 44 = .ok (.aload_n 0, 1) := by decide +kernel
theorem dX12_ends_45 : decode cX12_ends 45 = .ok (.invokevirtual 364, 3) := by decide +kernel
theorem dX12_ends_48 : decode cX12_ends 48 = .ok (.lconst 0, 1) := by decide +kernel
theorem dX12_ends_49 : decode cX12_ends 49 = .ok (.lstore_n 3, 1) := by decide +kernel
theorem dX12_ends_50 : decode cX12_ends 50 = .ok (.iconst 0, 1) := by decide +kernel
theorem dX12_ends_51 : decode cX12_ends 51 = .ok (.istore 5, 2) := by decide +kernel
theorem dX12_ends_53 : decode cX12_ends 53 = .ok (.iload 5, 2) := by decide +kernel
theorem dX12_ends_55 : decode cX12_ends 55 = .ok (.aload_n 0, 1) := by decide +kernel
theorem dX12_ends_56 : decode cX12_ends 56 = .ok (.invokevirtual 354, 3) := by decide +kernel
theorem dX12_ends_59 : decode cX12_ends 59 = .ok (.if_icmp .ge 61, 3) := by decide +kernel
theorem dX12_ends_62 : decode cX12_ends 62 = .ok (.lload_n 3, 1) := by decide +kernel
theorem dX12_ends_63 : decode cX12_ends 63 = .ok (.iload_n 2, 1) := by decide +kernel
theorem dX12_ends_64 : decode cX12_ends 64 = .ok (.ifCond .ne 17, 3) := by decide +kernel
theorem dX12_ends_67 : decode cX12_ends 67 = .ok (.aload_n 0, 1) := by decide +kernel
theorem dX12_ends_68 : decode cX12_ends 68 = .ok (.iconst 0, 1) := by decide +kernel
theorem dX12_ends_69 : decode cX12_ends 69 = .ok (.iload_n 1, 1) := by decide +kernel
theorem dX12_ends_70 : decode cX12_ends 70 = .ok (.iload 5, 2) := by decide +kernel
theorem dX12_ends_72 : decode cX12_ends 72 = .ok (.invokevirtual 410, 3) := by decide +kernel
theorem dX12_ends_75 : decode cX12_ends 75 = .ok (.ifCond .eq 36, 3) := by decide +kernel
theorem dX12_ends_78 : decode cX12_ends 78 = .ok (.goto 23, 3) := by decide +kernel
theorem dX12_ends_81 : decode cX12_ends 81 = .ok (.aload_n 0, 1) := by decide +kernel
theorem dX12_ends_82 : decode cX12_ends 82 = .ok (.iconst 1, 1) := by decide +kernel
theorem dX12_ends_83 : decode cX12_ends 83 = .ok (.iload_n 1, 1) := by decide +kernel
theorem dX12_ends_84 : decode cX12_ends 84 = .ok (.aload_n 0, 1) := by decide +kernel
theorem dX12_ends_85 : decode cX12_ends 85 = .ok (.invokevirtual 354, 3) := by decide +kernel
theorem dX12_ends_88 : decode cX12_ends 88 = .ok (.iconst 1, 1) := by decide +kernel
theorem dX12_ends_89 : decode cX12_ends 89 = .ok (.isub, 1) := by decide +kernel
theorem dX12_ends_90 : decode cX12_ends 90 = .ok (.iload 5, 2) := by decide +kernel
theorem dX12_ends_92 : decode cX12_ends 92 = .ok (.iconst (-1), 1) := by decide +kernel
theorem dX12_ends_93 : decode cX12_ends 93 = .ok (.ixor, 1) := by decide +kernel
theorem dX12_ends_94 : decode cX12_ends 94 = .ok (.iand, 1) := by decide +kernel
theorem dX12_ends_95 : decode cX12_ends 95 = .ok (.invokevirtual 410, 3) := by decide +kernel
theorem dX12_ends_98 : decode cX12_ends 98 = .ok (.ifCond .ne 13, 3) := by decide +kernel
theorem dX12_ends_101 : decode cX12_ends 101 = .ok (.aload_n 0, 1) := by decide +kernel
theorem dX12_ends_102 : decode cX12_ends 102 = .ok (.getfield 73, 3) := by decide +kernel
theorem dX12_ends_105 : decode cX12_ends 105 = .ok (.iload 5, 2) := by decide +kernel
theorem dX12_ends_107 : decode cX12_ends 107 = .ok (.laload, 1) := by decide +kernel
theorem dX12_ends_108 : decode cX12_ends 108 = .ok (.goto 4, 3) := by decide +kernel
theorem dX12_ends_111 : decode cX12_ends 111 = .ok (.lconst 0, 1) := by decide +kernel
theorem dX12_ends_112 : decode cX12_ends 112 = .ok (.ladd, 1) := by decide +kernel
theorem dX12_ends_113 : decode cX12_ends 113 = .ok (.lstore_n 3, 1) := by decide +kernel
theorem dX12_ends_114 : decode cX12_ends 114 = .ok (.iinc 5 1, 3) := by decide +kernel
theorem dX12_ends_117 : decode cX12_ends 117 = .ok (.goto (-64), 3) := by decide +kernel
theorem dX12_ends_120 : decode cX12_ends 120 = .ok (.lload_n 3, 1) := by decide +kernel
theorem dX12_ends_121 : decode cX12_ends 121 = .ok (.lreturn, 1) := by decide +kernel
abbrev o_X12_ends : Type := Int64 × Int32 × Int32 × Int32 × (Nat → Int32) × (Nat → Int32) × (Nat → Int32) × (Nat → Int32) × (Nat → Int32) × (Nat → Int32) × (Nat → Int32) × (Nat → Int32) × (Nat → Int32) × (Nat → Int64)
def f_X12_ends_L53 (S : wd_W) (p1 : Int32) (p2 : Int32) (o5 : o_X12_lists) (o6 : o_X12_plain) (o7 : o_X12_weighs) (r10 : (Int64) → (Int32) → (Option o_X12_ends)) (x8 : Int64) (x9 : Int32) : Option o_X12_ends :=
bd (f_X12_sets (wd_o S [(38, o5.1), (39, o5.2.1), (44, o5.2.2.1)] [] [(17, o5.2.2.2.1), (18, o5.2.2.2.2.1), (19, o5.2.2.2.2.2.1), (20, o5.2.2.2.2.2.2.1), (22, o6.1), (23, o6.2), (24, o5.2.2.2.2.2.2.2.1), (25, o5.2.2.2.2.2.2.2.2.1), (26, o5.2.2.2.2.2.2.2.2.2)] [(21, o7)] [])) fun o11 =>
if o11 ≤ x9 then (
some (x8, o5.1, o5.2.1, o5.2.2.1, o5.2.2.2.1, o5.2.2.2.2.1, o5.2.2.2.2.2.1, o5.2.2.2.2.2.2.1, o6.1, o6.2, o5.2.2.2.2.2.2.2.1, o5.2.2.2.2.2.2.2.2.1, o5.2.2.2.2.2.2.2.2.2, o7)) else (
lk (fun x12 x13 =>
lz (x13 + x12) fun x15 =>
r10 x15 (x9 + (1 : Int32))) fun k112_14 =>
lk (fun x16 =>
k112_14 (0 : Int64) x16) fun k111_17 =>
lk (fun x18 =>
gd (okx x9 32768) <|
k112_14 (o7 x9.toNatClampNeg) x18) fun k101_19 =>
if p2 = 0 then (
bd (f_X12_hasOne (wd_o S [(38, o5.1), (39, o5.2.1), (44, o5.2.2.1)] [] [(17, o5.2.2.2.1), (18, o5.2.2.2.2.1), (19, o5.2.2.2.2.2.1), (20, o5.2.2.2.2.2.2.1), (22, o6.1), (23, o6.2), (24, o5.2.2.2.2.2.2.2.1), (25, o5.2.2.2.2.2.2.2.2.1), (26, o5.2.2.2.2.2.2.2.2.2)] [(21, o7)] []) (0 : Int32) p1 x9) fun o24 =>
if o24 = 0 then (
k111_17 x8) else (
k101_19 x8)) else (
bd (f_X12_sets (wd_o S [(38, o5.1), (39, o5.2.1), (44, o5.2.2.1)] [] [(17, o5.2.2.2.1), (18, o5.2.2.2.2.1), (19, o5.2.2.2.2.2.1), (20, o5.2.2.2.2.2.2.1), (22, o6.1), (23, o6.2), (24, o5.2.2.2.2.2.2.2.1), (25, o5.2.2.2.2.2.2.2.2.1), (26, o5.2.2.2.2.2.2.2.2.2)] [(21, o7)] [])) fun o21 =>
bd (f_X12_hasOne (wd_o S [(38, o5.1), (39, o5.2.1), (44, o5.2.2.1)] [] [(17, o5.2.2.2.1), (18, o5.2.2.2.2.1), (19, o5.2.2.2.2.2.1), (20, o5.2.2.2.2.2.2.1), (22, o6.1), (23, o6.2), (24, o5.2.2.2.2.2.2.2.1), (25, o5.2.2.2.2.2.2.2.2.1), (26, o5.2.2.2.2.2.2.2.2.2)] [(21, o7)] []) (1 : Int32) p1 ((o21 - (1 : Int32)) &&& (x9 ^^^ (-1 : Int32)))) fun o22 =>
if o22 = 0 then (
k101_19 x8) else (
k111_17 x8)))
def f_X12_ends (S : wd_W) (p1 : Int32) (p2 : Int32) : Option o_X12_ends :=
bd (f_X12_in p1.toInt64 (0 : Int64) (60 : Int64)) fun o1 =>
if o1 = 0 then (
some ((-1 : Int64), (S.1 38), (S.1 39), (S.1 44), (S.2.2.1 17), (S.2.2.1 18), (S.2.2.1 19), (S.2.2.1 20), (S.2.2.1 22), (S.2.2.1 23), (S.2.2.1 24), (S.2.2.1 25), (S.2.2.1 26), (S.2.2.2.1 21))) else (
bd (f_X12_in p2.toInt64 (0 : Int64) (1 : Int64)) fun o2 =>
if o2 = 0 then (
some ((-1 : Int64), (S.1 38), (S.1 39), (S.1 44), (S.2.2.1 17), (S.2.2.1 18), (S.2.2.1 19), (S.2.2.1 20), (S.2.2.1 22), (S.2.2.1 23), (S.2.2.1 24), (S.2.2.1 25), (S.2.2.1 26), (S.2.2.2.1 21))) else (
lk (fun x3 =>
bd (f_X12_lists (wd_o S [(38, (S.1 38)), (39, (S.1 39)), (44, (S.1 44))] [] [(17, (S.2.2.1 17)), (18, (S.2.2.1 18)), (19, (S.2.2.1 19)), (20, (S.2.2.1 20)), (22, (S.2.2.1 22)), (23, (S.2.2.1 23)), (24, (S.2.2.1 24)), (25, (S.2.2.1 25)), (26, (S.2.2.1 26))] [(21, (S.2.2.2.1 21))] []) x3) fun o5 =>
bd (f_X12_plain (wd_o S [(38, o5.1), (39, o5.2.1), (44, o5.2.2.1)] [] [(17, o5.2.2.2.1), (18, o5.2.2.2.2.1), (19, o5.2.2.2.2.2.1), (20, o5.2.2.2.2.2.2.1), (22, (S.2.2.1 22)), (23, (S.2.2.1 23)), (24, o5.2.2.2.2.2.2.2.1), (25, o5.2.2.2.2.2.2.2.2.1), (26, o5.2.2.2.2.2.2.2.2.2)] [(21, (S.2.2.2.1 21))] [])) fun o6 =>
bd (f_X12_weighs (wd_o S [(38, o5.1), (39, o5.2.1), (44, o5.2.2.1)] [] [(17, o5.2.2.2.1), (18, o5.2.2.2.2.1), (19, o5.2.2.2.2.2.1), (20, o5.2.2.2.2.2.2.1), (22, o6.1), (23, o6.2), (24, o5.2.2.2.2.2.2.2.1), (25, o5.2.2.2.2.2.2.2.2.1), (26, o5.2.2.2.2.2.2.2.2.2)] [(21, (S.2.2.2.1 21))] [])) fun o7 =>
it2 (f_X12_ends_L53 S p1 p2 o5 o6 o7) fuel (0 : Int64) (0 : Int32)) fun k37_4 =>
if p2 = (1 : Int32) then (
k37_4 (1 : Int32)) else (
k37_4 (0 : Int32))))
set_option maxRecDepth 100000 in
set_option maxHeartbeats 4000000 in
theorem c_X12_ends (l : Launch) (D : va_G) (q g : Nat → Nat) (cy : Nat → ClassId) (z : (Nat → Nat) × (Nat → Nat) × Nat) (S : wd_W) (p1 : Int32) (p2 : Int32) (o : o_X12_ends) (hf : f_X12_ends S p1 p2 = some o) : MX layM l yX12_ends cX12_ends 6 (some .long) ({ frames := 6, cells := 0, slots := 0, locals := 143 } : Room) D q g cy z [.ref (q 0), .int p1, .int p2] S (some (.long o.1)) (wd_o S [(38, o.2.1), (39, o.2.2.1), (44, o.2.2.2.1)] [] [(17, o.2.2.2.2.1), (18, o.2.2.2.2.2.1), (19, o.2.2.2.2.2.2.1), (20, o.2.2.2.2.2.2.2.1), (22, o.2.2.2.2.2.2.2.2.1), (23, o.2.2.2.2.2.2.2.2.2.1), (24, o.2.2.2.2.2.2.2.2.2.2.1), (25, o.2.2.2.2.2.2.2.2.2.2.2.1), (26, o.2.2.2.2.2.2.2.2.2.2.2.2.1)] [(21, o.2.2.2.2.2.2.2.2.2.2.2.2.2)] []) 0 0 := by
  refine mx_of (own := RX12) (lc := [(0, .ref (q 0)), (1, .int p1), (2, .int p2)]) (by decide +kernel) rfl layM_ok (Nat.le_of_ble_eq_true rfl) rfl ?_
  intro X hXl hXq hXS hC hQ
  subst hXl; subst hXq; subst hXS
  unfold f_X12_ends at hf
  refine go_keys (L1 := [(38, ((x_S X).1 38)), (39, ((x_S X).1 39)), (44, ((x_S X).1 44))]) (L2 := []) (L3 := [(17, ((x_S X).2.2.1 17)), (18, ((x_S X).2.2.1 18)), (19, ((x_S X).2.2.1 19)), (20, ((x_S X).2.2.1 20)), (22, ((x_S X).2.2.1 22)), (23, ((x_S X).2.2.1 23)), (24, ((x_S X).2.2.1 24)), (25, ((x_S X).2.2.1 25)), (26, ((x_S X).2.2.1 26))]) (L4 := [(21, ((x_S X).2.2.2.1 21))]) (L5 := []) [38, 39, 44] [] [17, 18, 19, 20, 22, 23, 24, 25, 26] [21] [] rfl rfl rfl rfl rfl ?_
  refine go_iload_n (pc' := 1) hC dX12_ends_0 rfl rfl ?_
  refine go_i2l (pc' := 2) hC dX12_ends_1 rfl ?_
  refine go_lconst (pc' := 3) hC dX12_ends_2 kl_0 rfl ?_
  refine go_ldc2 (pc' := 6) hC dX12_ends_3 mw_1061 rfl ?_
  obtain ⟨o1, ho1, hf⟩ := bd_e hf
  refine go_callS0 (pc' := 9) (As := [.long p1.toInt64, .long (0 : Int64), .long (60 : Int64)]) (st := []) (st' := [.int o1])   hC dX12_ends_6 ⟨mw_525, mw_527, mw_5, yd_yX12_in, yp_yX12_in, Nat.le_of_ble_eq_true rfl, Nat.le_of_ble_eq_true rfl, Nat.le_of_ble_eq_true rfl, Nat.le_of_ble_eq_true rfl⟩ mw_526 rfl rfl (Nat.le_of_ble_eq_true rfl) (c_X12_in (x_l X) (x_D X) (x_q X) g (x_cy X) (x_z X) _ p1.toInt64 (0 : Int64) (60 : Int64) o1 ho1) rfl rfl (fun g => ?_)
  refine go_if_eq (tgt := 22) (pc' := 12) hC dX12_ends_9 (by decide) rfl (fun h31 => ?_) (fun h31 => ?_)
  · have hf := ite_t h31 hf
    refine go_ldc2 (pc' := 25) hC dX12_ends_22 mw_922 rfl ?_
    obtain rfl := Option.some.inj hf
    exact go_lret hC hQ dX12_ends_25 rfl rfl rfl rfl rfl
  · have hf := ite_f h31 hf
    refine go_iload_n (pc' := 13) hC dX12_ends_12 rfl rfl ?_
    refine go_i2l (pc' := 14) hC dX12_ends_13 rfl ?_
    refine go_lconst (pc' := 15) hC dX12_ends_14 kl_0 rfl ?_
    refine go_lconst (pc' := 16) hC dX12_ends_15 kl_1 rfl ?_
    obtain ⟨o2, ho2, hf⟩ := bd_e hf
    refine go_callS0 (pc' := 19) (As := [.long p2.toInt64, .long (0 : Int64), .long (1 : Int64)]) (st := []) (st' := [.int o2])   hC dX12_ends_16 ⟨mw_525, mw_527, mw_5, yd_yX12_in, yp_yX12_in, Nat.le_of_ble_eq_true rfl, Nat.le_of_ble_eq_true rfl, Nat.le_of_ble_eq_true rfl, Nat.le_of_ble_eq_true rfl⟩ mw_526 rfl rfl (Nat.le_of_ble_eq_true rfl) (c_X12_in (x_l X) (x_D X) (x_q X) g (x_cy X) (x_z X) _ p2.toInt64 (0 : Int64) (1 : Int64) o2 ho2) rfl rfl (fun g => ?_)
    refine go_if_ne (tgt := 26) (pc' := 22) hC dX12_ends_19 (by decide) rfl (fun h30 => ?_) (fun h30 => ?_)
    · have hf := ite_f h30 hf
      refine go_aload_n (pc' := 27) hC dX12_ends_26 rfl rfl ?_
      refine go_iload_n (pc' := 28) hC dX12_ends_27 rfl rfl ?_
      refine go_iconst (pc' := 29) hC dX12_ends_28 ki_1 rfl ?_
      obtain ⟨k37_4, hk37_4, hf⟩ := lk_e1 hf
      have jk37_4 : ∀ (x3 : Int32) (g : Nat → Nat), k37_4 x3 = some o → Go X layM 37 [(0, .ref (x_q X 0)), (1, .int p1), (2, .int p2)] [.int x3, .ref (x_q X 0)] g [(38, ((x_S X).1 38)), (39, ((x_S X).1 39)), (44, ((x_S X).1 44))] [] [(17, ((x_S X).2.2.1 17)), (18, ((x_S X).2.2.1 18)), (19, ((x_S X).2.2.1 19)), (20, ((x_S X).2.2.1 20)), (22, ((x_S X).2.2.1 22)), (23, ((x_S X).2.2.1 23)), (24, ((x_S X).2.2.1 24)), (25, ((x_S X).2.2.1 25)), (26, ((x_S X).2.2.1 26))] [(21, ((x_S X).2.2.2.1 21))] [] 0 0 := by
        intro x3 g hf
        have hf := hk37_4 x3 hf
        clear hk37_4
        obtain ⟨o5, ho5, hf⟩ := bd_e hf
        refine go_callV (pc' := 40) (As := [.int x3]) (st := []) (st' := []) (L1' := [(38, o5.1), (39, o5.2.1), (44, o5.2.2.1)]) (L2' := []) (L3' := [(17, o5.2.2.2.1), (18, o5.2.2.2.2.1), (19, o5.2.2.2.2.2.1), (20, o5.2.2.2.2.2.2.1), (22, ((x_S X).2.2.1 22)), (23, ((x_S X).2.2.1 23)), (24, o5.2.2.2.2.2.2.2.1), (25, o5.2.2.2.2.2.2.2.2.1), (26, o5.2.2.2.2.2.2.2.2.2)]) (L4' := [(21, ((x_S X).2.2.2.1 21))]) (L5' := []) (cells' := 0) (slots' := 0) (b := 0) hC dX12_ends_37 ⟨mw_1022, mw_1025, mw_5, yd_yX12_lists, yp_yX12_lists, Nat.le_of_ble_eq_true rfl, Nat.le_of_ble_eq_true rfl, Nat.le_of_ble_eq_true rfl, Nat.le_of_ble_eq_true rfl⟩ mw_1023 mw_1024 layM_0 rfl rfl rfl (Nat.le_of_ble_eq_true rfl) (c_X12_lists (x_l X) (x_D X) (x_q X) g (x_cy X) (x_z X) _ x3 o5 ho5) rfl rfl rfl rfl rfl rfl rfl rfl rfl rfl rfl rfl rfl rfl (fun g => ?_)
        refine go_aload_n (pc' := 41) hC dX12_ends_40 rfl rfl ?_
        obtain ⟨o6, ho6, hf⟩ := bd_e hf
        refine go_callV (pc' := 44) (As := []) (st := []) (st' := []) (L1' := [(38, o5.1), (39, o5.2.1), (44, o5.2.2.1)]) (L2' := []) (L3' := [(17, o5.2.2.2.1), (18, o5.2.2.2.2.1), (19, o5.2.2.2.2.2.1), (20, o5.2.2.2.2.2.2.1), (22, o6.1), (23, o6.2), (24, o5.2.2.2.2.2.2.2.1), (25, o5.2.2.2.2.2.2.2.2.1), (26, o5.2.2.2.2.2.2.2.2.2)]) (L4' := [(21, ((x_S X).2.2.2.1 21))]) (L5' := []) (cells' := 0) (slots' := 0) (b := 0) hC dX12_ends_41 ⟨mw_927, mw_930, mw_5, yd_yX12_plain, yp_yX12_plain, Nat.le_of_ble_eq_true rfl, Nat.le_of_ble_eq_true rfl, Nat.le_of_ble_eq_true rfl, Nat.le_of_ble_eq_true rfl⟩ mw_928 mw_929 layM_0 rfl rfl rfl (Nat.le_of_ble_eq_true rfl) (c_X12_plain (x_l X) (x_D X) (x_q X) g (x_cy X) (x_z X) _  o6 ho6) rfl rfl rfl rfl rfl rfl rfl rfl rfl rfl rfl rfl rfl rfl (fun g => ?_)
        refine go_aload_n (pc' := 45) hC dX12_ends_44 rfl rfl ?_
        obtain ⟨o7, ho7, hf⟩ := bd_e hf
        refine go_callV (pc' := 48) (As := []) (st := []) (st' := []) (L1' := [(38, o5.1), (39, o5.2.1), (44, o5.2.2.1)]) (L2' := []) (L3' := [(17, o5.2.2.2.1), (18, o5.2.2.2.2.1), (19, o5.2.2.2.2.2.1), (20, o5.2.2.2.2.2.2.1), (22, o6.1), (23, o6.2), (24, o5.2.2.2.2.2.2.2.1), (25, o5.2.2.2.2.2.2.2.2.1), (26, o5.2.2.2.2.2.2.2.2.2)]) (L4' := [(21, o7)]) (L5' := []) (cells' := 0) (slots' := 0) (b := 0) hC dX12_ends_45 ⟨mw_935, mw_938, mw_5, yd_yX12_weighs, yp_yX12_weighs, Nat.le_of_ble_eq_true rfl, Nat.le_of_ble_eq_true rfl, Nat.le_of_ble_eq_true rfl, Nat.le_of_ble_eq_true rfl⟩ mw_936 mw_937 layM_0 rfl rfl rfl (Nat.le_of_ble_eq_true rfl) (c_X12_weighs (x_l X) (x_D X) (x_q X) g (x_cy X) (x_z X) _  o7 ho7) rfl rfl rfl rfl rfl rfl rfl rfl rfl rfl rfl rfl rfl rfl (fun g => ?_)
        refine go_lconst (pc' := 49) hC dX12_ends_48 kl_0 rfl ?_
        refine go_lstore_n (lc' := [(0, .ref (x_q X 0)), (1, .int p1), (2, .int p2), (3, .long (0 : Int64))]) (pc' := 50) hC dX12_ends_49 (Nat.le_of_ble_eq_true rfl) rfl rfl ?_
        refine go_iconst (pc' := 51) hC dX12_ends_50 ki_0 rfl ?_
        refine go_istore (lc' := [(0, .ref (x_q X 0)), (1, .int p1), (2, .int p2), (3, .long (0 : Int64)), (5, .int (0 : Int32))]) (pc' := 53) hC dX12_ends_51 (Nat.le_of_ble_eq_true rfl) rfl rfl ?_
        have l53_28 : ∀ (nn : Nat) (x8 : Int64) (x9 : Int32) (g : Nat → Nat), it2 (f_X12_ends_L53 (x_S X) p1 p2 o5 o6 o7) nn x8 x9 = some o → Go X layM 53 [(0, .ref (x_q X 0)), (1, .int p1), (2, .int p2), (3, .long x8), (5, .int x9)] [] g [(38, o5.1), (39, o5.2.1), (44, o5.2.2.1)] [] [(17, o5.2.2.2.1), (18, o5.2.2.2.2.1), (19, o5.2.2.2.2.2.1), (20, o5.2.2.2.2.2.2.1), (22, o6.1), (23, o6.2), (24, o5.2.2.2.2.2.2.2.1), (25, o5.2.2.2.2.2.2.2.2.1), (26, o5.2.2.2.2.2.2.2.2.2)] [(21, o7)] [] 0 0 := by
          intro nn
          induction nn with
          | zero =>
            intro x8 x9 g hf
            exact none_no hf
          | succ nn ih =>
            intro x8 x9 g hf
            have hf : f_X12_ends_L53 (x_S X) p1 p2 o5 o6 o7 (it2 (f_X12_ends_L53 (x_S X) p1 p2 o5 o6 o7) nn) x8 x9 = some o := hf
            generalize it2 (f_X12_ends_L53 (x_S X) p1 p2 o5 o6 o7) nn = r10 at ih hf
            unfold f_X12_ends_L53 at hf
            refine go_iload (pc' := 55) hC dX12_ends_53 rfl rfl ?_
            refine go_aload_n (pc' := 56) hC dX12_ends_55 rfl rfl ?_
            obtain ⟨o11, ho11, hf⟩ := bd_e hf
            refine go_callV0 (pc' := 59) (As := []) (st := [.int x9]) (st' := [.int o11, .int x9])   (b := 0) hC dX12_ends_56 ⟨mw_856, mw_859, mw_5, yd_yX12_sets, yp_yX12_sets, Nat.le_of_ble_eq_true rfl, Nat.le_of_ble_eq_true rfl, Nat.le_of_ble_eq_true rfl, Nat.le_of_ble_eq_true rfl⟩ mw_857 mw_858 layM_0 rfl rfl rfl (Nat.le_of_ble_eq_true rfl) (c_X12_sets (x_l X) (x_D X) (x_q X) g (x_cy X) (x_z X) _  o11 ho11) rfl rfl (fun g => ?_)
            refine go_icmp_ge (tgt := 120) (pc' := 62) hC dX12_ends_59 (by decide) rfl (fun h27 => ?_) (fun h27 => ?_)
            · have hf := ite_t h27 hf
              refine go_lload_n (pc' := 121) hC dX12_ends_120 rfl rfl ?_
              obtain rfl := Option.some.inj hf
              exact go_lret hC hQ dX12_ends_121 rfl rfl rfl rfl rfl
            · have hf := ite_f h27 hf
              refine go_lload_n (pc' := 63) hC dX12_ends_62 rfl rfl ?_
              refine go_iload_n (pc' := 64) hC dX12_ends_63 rfl rfl ?_
              obtain ⟨k112_14, hk112_14, hf⟩ := lk_e2 hf
              have jk112_14 : ∀ (x12 : Int64) (x13 : Int64) (g : Nat → Nat), k112_14 x12 x13 = some o → Go X layM 112 [(0, .ref (x_q X 0)), (1, .int p1), (2, .int p2), (5, .int x9)] [.long x12, .long x13] g [(38, o5.1), (39, o5.2.1), (44, o5.2.2.1)] [] [(17, o5.2.2.2.1), (18, o5.2.2.2.2.1), (19, o5.2.2.2.2.2.1), (20, o5.2.2.2.2.2.2.1), (22, o6.1), (23, o6.2), (24, o5.2.2.2.2.2.2.2.1), (25, o5.2.2.2.2.2.2.2.2.1), (26, o5.2.2.2.2.2.2.2.2.2)] [(21, o7)] [] 0 0 := by
                intro x12 x13 g hf
                have hf := hk112_14 x12 x13 hf
                clear hk112_14
                refine go_ladd (pc' := 113) hC dX12_ends_112 rfl ?_
                refine go_namel (fun x15 hx => ?_)
                have hf := lz_r hx hf
                clear hx
                refine go_lstore_n (lc' := [(0, .ref (x_q X 0)), (1, .int p1), (2, .int p2), (3, .long x15), (5, .int x9)]) (pc' := 114) hC dX12_ends_113 (Nat.le_of_ble_eq_true rfl) rfl rfl ?_
                refine go_iinc (lc' := [(0, .ref (x_q X 0)), (1, .int p1), (2, .int p2), (3, .long x15), (5, .int (x9 + (1 : Int32)))]) (pc' := 117) hC dX12_ends_114 rfl ki_1 (Nat.le_of_ble_eq_true rfl) rfl rfl ?_
                refine go_goto (tgt := 53) hC dX12_ends_117 (by decide) ?_
                exact ih x15 (x9 + (1 : Int32)) g hf
              clear hk112_14
              obtain ⟨k111_17, hk111_17, hf⟩ := lk_e1 hf
              have jk111_17 : ∀ (x16 : Int64) (g : Nat → Nat), k111_17 x16 = some o → Go X layM 111 [(0, .ref (x_q X 0)), (1, .int p1), (2, .int p2), (5, .int x9)] [.long x16] g [(38, o5.1), (39, o5.2.1), (44, o5.2.2.1)] [] [(17, o5.2.2.2.1), (18, o5.2.2.2.2.1), (19, o5.2.2.2.2.2.1), (20, o5.2.2.2.2.2.2.1), (22, o6.1), (23, o6.2), (24, o5.2.2.2.2.2.2.2.1), (25, o5.2.2.2.2.2.2.2.2.1), (26, o5.2.2.2.2.2.2.2.2.2)] [(21, o7)] [] 0 0 := by
                intro x16 g hf
                have hf := hk111_17 x16 hf
                clear hk111_17
                refine go_lconst (pc' := 112) hC dX12_ends_111 kl_0 rfl ?_
                exact jk112_14 (0 : Int64) x16 g hf
              clear hk111_17
              obtain ⟨k101_19, hk101_19, hf⟩ := lk_e1 hf
              have jk101_19 : ∀ (x18 : Int64) (g : Nat → Nat), k101_19 x18 = some o → Go X layM 101 [(0, .ref (x_q X 0)), (1, .int p1), (2, .int p2), (5, .int x9)] [.long x18] g [(38, o5.1), (39, o5.2.1), (44, o5.2.2.1)] [] [(17, o5.2.2.2.1), (18, o5.2.2.2.2.1), (19, o5.2.2.2.2.2.1), (20, o5.2.2.2.2.2.2.1), (22, o6.1), (23, o6.2), (24, o5.2.2.2.2.2.2.2.1), (25, o5.2.2.2.2.2.2.2.2.1), (26, o5.2.2.2.2.2.2.2.2.2)] [(21, o7)] [] 0 0 := by
                intro x18 g hf
                have hf := hk101_19 x18 hf
                clear hk101_19
                refine go_aload_n (pc' := 102) hC dX12_ends_101 rfl rfl ?_
                refine go_getq (pc' := 105) hC 0 45 layM_0 rfl rfl inlX12 (Nat.le_of_ble_eq_true rfl) mw_202 rfl dX12_ends_102 rfl ?_
                refine go_iload (pc' := 107) hC dX12_ends_105 rfl rfl ?_
                obtain ⟨h20, hf⟩ := gd_e hf
                refine go_lald (f := o7) (pc' := 108) hC 21 layM_21 rfl rfl dX12_ends_107 (okx_in h20) rfl ?_
                refine go_goto (tgt := 112) hC dX12_ends_108 (by decide) ?_
                exact jk112_14 (o7 x9.toNatClampNeg) x18 g hf
              clear hk101_19
              refine go_if_ne (tgt := 81) (pc' := 67) hC dX12_ends_64 (by decide) rfl (fun h26 => ?_) (fun h26 => ?_)
              · have hf := ite_f h26 hf
                refine go_aload_n (pc' := 82) hC dX12_ends_81 rfl rfl ?_
                refine go_iconst (pc' := 83) hC dX12_ends_82 ki_1 rfl ?_
                refine go_iload_n (pc' := 84) hC dX12_ends_83 rfl rfl ?_
                refine go_aload_n (pc' := 85) hC dX12_ends_84 rfl rfl ?_
                obtain ⟨o21, ho21, hf⟩ := bd_e hf
                refine go_callV0 (pc' := 88) (As := []) (st := [.int p1, .int (1 : Int32), .ref (x_q X 0), .long x8]) (st' := [.int o21, .int p1, .int (1 : Int32), .ref (x_q X 0), .long x8])   (b := 0) hC dX12_ends_85 ⟨mw_856, mw_859, mw_5, yd_yX12_sets, yp_yX12_sets, Nat.le_of_ble_eq_true rfl, Nat.le_of_ble_eq_true rfl, Nat.le_of_ble_eq_true rfl, Nat.le_of_ble_eq_true rfl⟩ mw_857 mw_858 layM_0 rfl rfl rfl (Nat.le_of_ble_eq_true rfl) (c_X12_sets (x_l X) (x_D X) (x_q X) g (x_cy X) (x_z X) _  o21 ho21) rfl rfl (fun g => ?_)
                refine go_iconst (pc' := 89) hC dX12_ends_88 ki_1 rfl ?_
                refine go_isub (pc' := 90) hC dX12_ends_89 rfl ?_
                refine go_iload (pc' := 92) hC dX12_ends_90 rfl rfl ?_
                refine go_iconst (pc' := 93) hC dX12_ends_92 ki_m1 rfl ?_
                refine go_ixor (pc' := 94) hC dX12_ends_93 rfl ?_
                refine go_iand (pc' := 95) hC dX12_ends_94 rfl ?_
                obtain ⟨o22, ho22, hf⟩ := bd_e hf
                refine go_callV0 (pc' := 98) (As := [.int (1 : Int32), .int p1, .int ((o21 - (1 : Int32)) &&& (x9 ^^^ (-1 : Int32)))]) (st := [.long x8]) (st' := [.int o22, .long x8])   (b := 0) hC dX12_ends_95 ⟨mw_1062, mw_1065, mw_5, yd_yX12_hasOne, yp_yX12_hasOne, Nat.le_of_ble_eq_true rfl, Nat.le_of_ble_eq_true rfl, Nat.le_of_ble_eq_true rfl, Nat.le_of_ble_eq_true rfl⟩ mw_1063 mw_1064 layM_0 rfl rfl rfl (Nat.le_of_ble_eq_true rfl) (c_X12_hasOne (x_l X) (x_D X) (x_q X) g (x_cy X) (x_z X) _ (1 : Int32) p1 ((o21 - (1 : Int32)) &&& (x9 ^^^ (-1 : Int32))) o22 ho22) rfl rfl (fun g => ?_)
                refine go_if_ne (tgt := 111) (pc' := 101) hC dX12_ends_98 (by decide) rfl (fun h23 => ?_) (fun h23 => ?_)
                · have hf := ite_f h23 hf
                  refine go_sub [0, 1, 2, 5] rfl ?_
                  exact jk111_17 x8 g hf
                · have hf := ite_t h23 hf
                  refine go_sub [0, 1, 2, 5] rfl ?_
                  exact jk101_19 x8 g hf
              · have hf := ite_t h26 hf
                refine go_aload_n (pc' := 68) hC dX12_ends_67 rfl rfl ?_
                refine go_iconst (pc' := 69) hC dX12_ends_68 ki_0 rfl ?_
                refine go_iload_n (pc' := 70) hC dX12_ends_69 rfl rfl ?_
                refine go_iload (pc' := 72) hC dX12_ends_70 rfl rfl ?_
                obtain ⟨o24, ho24, hf⟩ := bd_e hf
                refine go_callV0 (pc' := 75) (As := [.int (0 : Int32), .int p1, .int x9]) (st := [.long x8]) (st' := [.int o24, .long x8])   (b := 0) hC dX12_ends_72 ⟨mw_1062, mw_1065, mw_5, yd_yX12_hasOne, yp_yX12_hasOne, Nat.le_of_ble_eq_true rfl, Nat.le_of_ble_eq_true rfl, Nat.le_of_ble_eq_true rfl, Nat.le_of_ble_eq_true rfl⟩ mw_1063 mw_1064 layM_0 rfl rfl rfl (Nat.le_of_ble_eq_true rfl) (c_X12_hasOne (x_l X) (x_D X) (x_q X) g (x_cy X) (x_z X) _ (0 : Int32) p1 x9 o24 ho24) rfl rfl (fun g => ?_)
                refine go_if_eq (tgt := 111) (pc' := 78) hC dX12_ends_75 (by decide) rfl (fun h25 => ?_) (fun h25 => ?_)
                · have hf := ite_t h25 hf
                  refine go_sub [0, 1, 2, 5] rfl ?_
                  exact jk111_17 x8 g hf
                · have hf := ite_f h25 hf
                  refine go_goto (tgt := 101) hC dX12_ends_78 (by decide) ?_
                  refine go_sub [0, 1, 2, 5] rfl ?_
                  exact jk101_19 x8 g hf
        exact l53_28 fuel (0 : Int64) (0 : Int32) g hf
      clear hk37_4
      refine go_icmp_ne (tgt := 36) (pc' := 32) hC dX12_ends_29 (by decide) rfl (fun h29 => ?_) (fun h29 => ?_)
      · have hf := ite_f h29 hf
        refine go_iconst (pc' := 37) hC dX12_ends_36 ki_0 rfl ?_
        exact jk37_4 (0 : Int32) g hf
      · have hf := ite_t h29 hf
        refine go_iconst (pc' := 33) hC dX12_ends_32 ki_1 rfl ?_
        refine go_goto (tgt := 37) hC dX12_ends_33 (by decide) ?_
        exact jk37_4 (1 : Int32) g hf
    · have hf := ite_t h30 hf
      refine go_ldc2 (pc' := 25) hC dX12_ends_22 mw_922 rfl ?_
      obtain rfl := Option.some.inj hf
      exact go_lret hC hQ dX12_ends_25 rfl rfl rfl rfl rfl
theorem dX12_row_0 : decode cX12_row 0 = .ok (.aload_n 0, 1) := by decide +kernel
theorem dX12_row_1 : decode cX12_row 1 = .ok (.invokevirtual 361, 3) := by decide +kernel
theorem dX12_row_4 : decode cX12_row 4 = .ok (.aload_n 0, 1) := by decide +kernel
theorem dX12_row_5 : decode cX12_row 5 = .ok (.invokevirtual 354, 3) := by decide +kernel
theorem dX12_row_8 : decode cX12_row 8 = .ok (.iconst 1, 1) := by decide +kernel
theorem dX12_row_9 : decode cX12_row 9 = .ok (.aload_n 0, 1) := by decide +kernel
theorem dX12_row_10 : decode cX12_row 10 = .ok (.getfield 279, 3) := by decide +kernel
theorem dX12_row_13 : decode cX12_row 13 = .ok (.ishl, 1) := by decide +kernel
theorem dX12_row_14 : decode cX12_row 14 = .ok (.isub, 1) := by decide +kernel
theorem dX12_row_15 : decode cX12_row 15 = .ok (.istore_n 2, 1) := by decide +kernel
theorem dX12_row_16 : decode cX12_row 16 = .ok (.iconst 0, 1) := by decide +kernel
theorem dX12_row_17 : decode cX12_row 17 = .ok (.istore_n 3, 1) := by decide +kernel
theorem dX12_row_18 : decode cX12_row 18 = .ok (.iconst 0, 1) := by decide +kernel
theorem dX12_row_19 : decode cX12_row 19 = .ok (.istore 4, 2) := by decide +kernel
theorem dX12_row_21 : decode cX12_row 21 = .ok (.iload 4, 2) := by decide +kernel
theorem dX12_row_23 : decode cX12_row 23 = .ok (.iconst 1, 1) := by decide +kernel
theorem dX12_row_24 : decode cX12_row 24 = .ok (.aload_n 0, 1) := by decide +kernel
theorem dX12_row_25 : decode cX12_row 25 = .ok (.getfield 279, 3) := by decide +kernel
theorem dX12_row_28 : decode cX12_row 28 = .ok (.ishl, 1) := by decide +kernel
theorem dX12_row_29 : decode cX12_row 29 = .ok (.if_icmp .ge 38, 3) := by decide +kernel
theorem dX12_row_32 : decode cX12_row 32 = .ok (.iload_n 3, 1) := by decide +kernel
theorem dX12_row_33 : decode cX12_row 33 = .ok (.iload 4, 2) := by decide +kernel
theorem dX12_row_35 : decode cX12_row 35 = .ok (.invokestatic 344, 3) := by decide +kernel
theorem dX12_row_38 : decode cX12_row 38 = .ok (.iload_n 1, 1) := by decide +kernel
theorem dX12_row_39 : decode cX12_row 39 = .ok (.if_icmp .ne 19, 3) := by decide +kernel
theorem dX12_row_42 : decode cX12_row 42 = .ok (.aload_n 0, 1) := by decide +kernel
theorem dX12_row_43 : decode cX12_row 43 = .ok (.getfield 70, 3) := by decide +kernel
theorem dX12_row_46 : decode cX12_row 46 = .ok (.iload 4, 2) := by decide +kernel
theorem dX12_row_48 : decode cX12_row 48 = .ok (.iload_n 2, 1) := by decide +kernel
theorem dX12_row_49 : decode cX12_row 49 = .ok (.ior, 1) := by decide +kernel
theorem dX12_row_50 : decode cX12_row 50 = .ok (.baload, 1) := by decide +kernel
theorem dX12_row_51 : decode cX12_row 51 = .ok (.ifCond .eq 7, 3) := by decide +kernel
theorem dX12_row_54 : decode cX12_row 54 = .ok (.iconst 1, 1) := by decide +kernel
theorem dX12_row_55 : decode cX12_row 55 = .ok (.goto 4, 3) := by decide +kernel
theorem dX12_row_58 : decode cX12_row 58 = .ok (.iconst 0, 1) := by decide +kernel
theorem dX12_row_59 : decode cX12_row 59 = .ok (.iadd, 1) := by decide +kernel
theorem dX12_row_60 : decode cX12_row 60 = .ok (.istore_n 3, 1) := by decide +kernel
theorem dX12_row_61 : decode cX12_row 61 = .ok (.iinc 4 1, 3) := by decide +kernel
theorem dX12_row_64 : decode cX12_row 64 = .ok (.goto (-43), 3) := by decide +kernel
theorem dX12_row_67 : decode cX12_row 67 = .ok (.iload_n 3, 1) := by decide +kernel
theorem dX12_row_68 : decode cX12_row 68 = .ok (.ireturn, 1) := by decide +kernel
abbrev o_X12_row : Type := Int32 × Int32 × Int32 × Int32 × (Nat → Int32) × (Nat → Int32) × (Nat → Int32) × (Nat → Int32)
def f_X12_row_L21 (S : wd_W) (p1 : Int32) (o1 : o_X12_lays) (x3 : Int32) (r6 : (Int32) → (Int32) → (Option o_X12_row)) (x4 : Int32) (x5 : Int32) : Option o_X12_row :=
if ((1 : Int32) <<< ((S.1 21) &&& 31)) ≤ x5 then (
some (x4, o1.1, o1.2.1, o1.2.2.1, o1.2.2.2.1, o1.2.2.2.2.1, o1.2.2.2.2.2.1, o1.2.2.2.2.2.2)) else (
bd (f_X12_bits x5) fun o7 =>
lk (fun x8 x9 =>
lz (x9 + x8) fun x11 =>
r6 x11 (x5 + (1 : Int32))) fun k59_10 =>
lk (fun x12 =>
k59_10 (0 : Int32) x12) fun k58_13 =>
if o7 = p1 then (
gd (okx (x5 ||| x3) 32768) <|
if (o1.2.2.2.2.2.2 (x5 ||| x3).toNatClampNeg) = 0 then (
k58_13 x4) else (
k59_10 (1 : Int32) x4)) else (
k58_13 x4))
def f_X12_row (S : wd_W) (p1 : Int32) : Option o_X12_row :=
bd (f_X12_lays (wd_o S [(38, (S.1 38)), (39, (S.1 39)), (44, (S.1 44))] [] [(17, (S.2.2.1 17)), (18, (S.2.2.1 18)), (19, (S.2.2.1 19)), (20, (S.2.2.1 20))] [] [])) fun o1 =>
bd (f_X12_sets (wd_o S [(38, o1.1), (39, o1.2.1), (44, o1.2.2.1)] [] [(17, o1.2.2.2.1), (18, o1.2.2.2.2.1), (19, o1.2.2.2.2.2.1), (20, o1.2.2.2.2.2.2)] [] [])) fun o2 =>
lz (o2 - ((1 : Int32) <<< ((S.1 21) &&& 31))) fun x3 =>
it2 (f_X12_row_L21 S p1 o1 x3) fuel (0 : Int32) (0 : Int32)
set_option maxRecDepth 100000 in
set_option maxHeartbeats 4000000 in
theorem c_X12_row (l : Launch) (D : va_G) (q g : Nat → Nat) (cy : Nat → ClassId) (z : (Nat → Nat) × (Nat → Nat) × Nat) (S : wd_W) (p1 : Int32) (o : o_X12_row) (hf : f_X12_row S p1 = some o) : MX layM l yX12_row cX12_row 5 (some .int) ({ frames := 5, cells := 0, slots := 0, locals := 115 } : Room) D q g cy z [.ref (q 0), .int p1] S (some (.int o.1)) (wd_o S [(38, o.2.1), (39, o.2.2.1), (44, o.2.2.2.1)] [] [(17, o.2.2.2.2.1), (18, o.2.2.2.2.2.1), (19, o.2.2.2.2.2.2.1), (20, o.2.2.2.2.2.2.2)] [] []) 0 0 := by
  refine mx_of (own := RX12) (lc := [(0, .ref (q 0)), (1, .int p1)]) (by decide +kernel) rfl layM_ok (Nat.le_of_ble_eq_true rfl) rfl ?_
  intro X hXl hXq hXS hC hQ
  subst hXl; subst hXq; subst hXS
  unfold f_X12_row at hf
  refine go_keys (L1 := [(38, ((x_S X).1 38)), (39, ((x_S X).1 39)), (44, ((x_S X).1 44))]) (L2 := []) (L3 := [(17, ((x_S X).2.2.1 17)), (18, ((x_S X).2.2.1 18)), (19, ((x_S X).2.2.1 19)), (20, ((x_S X).2.2.1 20))]) (L4 := []) (L5 := []) [38, 39, 44] [] [17, 18, 19, 20] [] [] rfl rfl rfl rfl rfl ?_
  refine go_aload_n (pc' := 1) hC dX12_row_0 rfl rfl ?_
  obtain ⟨o1, ho1, hf⟩ := bd_e hf
  refine go_callV (pc' := 4) (As := []) (st := []) (st' := []) (L1' := [(38, o1.1), (39, o1.2.1), (44, o1.2.2.1)]) (L2' := []) (L3' := [(17, o1.2.2.2.1), (18, o1.2.2.2.2.1), (19, o1.2.2.2.2.2.1), (20, o1.2.2.2.2.2.2)]) (L4' := []) (L5' := []) (cells' := 0) (slots' := 0) (b := 0) hC dX12_row_1 ⟨mw_860, mw_863, mw_5, yd_yX12_lays, yp_yX12_lays, Nat.le_of_ble_eq_true rfl, Nat.le_of_ble_eq_true rfl, Nat.le_of_ble_eq_true rfl, Nat.le_of_ble_eq_true rfl⟩ mw_861 mw_862 layM_0 rfl rfl rfl (Nat.le_of_ble_eq_true rfl) (c_X12_lays (x_l X) (x_D X) (x_q X) g (x_cy X) (x_z X) _  o1 ho1) rfl rfl rfl rfl rfl rfl rfl rfl rfl rfl rfl rfl rfl rfl (fun g => ?_)
  refine go_aload_n (pc' := 5) hC dX12_row_4 rfl rfl ?_
  obtain ⟨o2, ho2, hf⟩ := bd_e hf
  refine go_callV0 (pc' := 8) (As := []) (st := []) (st' := [.int o2])   (b := 0) hC dX12_row_5 ⟨mw_856, mw_859, mw_5, yd_yX12_sets, yp_yX12_sets, Nat.le_of_ble_eq_true rfl, Nat.le_of_ble_eq_true rfl, Nat.le_of_ble_eq_true rfl, Nat.le_of_ble_eq_true rfl⟩ mw_857 mw_858 layM_0 rfl rfl rfl (Nat.le_of_ble_eq_true rfl) (c_X12_sets (x_l X) (x_D X) (x_q X) g (x_cy X) (x_z X) _  o2 ho2) rfl rfl (fun g => ?_)
  refine go_iconst (pc' := 9) hC dX12_row_8 ki_1 rfl ?_
  refine go_aload_n (pc' := 10) hC dX12_row_9 rfl rfl ?_
  refine go_geti (v := ((x_S X).1 21)) (pc' := 13) hC 0 21 layM_0 rfl rfl inlX12 (Nat.le_of_ble_eq_true rfl) mw_247 rfl dX12_row_10 rfl rfl ?_
  refine go_ishl (pc' := 14) hC dX12_row_13 rfl ?_
  refine go_isub (pc' := 15) hC dX12_row_14 rfl ?_
  refine go_namei (fun x3 hx => ?_)
  have hf := lz_r hx hf
  clear hx
  refine go_istore_n (lc' := [(0, .ref (x_q X 0)), (1, .int p1), (2, .int x3)]) (pc' := 16) hC dX12_row_15 (Nat.le_of_ble_eq_true rfl) rfl rfl ?_
  refine go_iconst (pc' := 17) hC dX12_row_16 ki_0 rfl ?_
  refine go_istore_n (lc' := [(0, .ref (x_q X 0)), (1, .int p1), (2, .int x3), (3, .int (0 : Int32))]) (pc' := 18) hC dX12_row_17 (Nat.le_of_ble_eq_true rfl) rfl rfl ?_
  refine go_iconst (pc' := 19) hC dX12_row_18 ki_0 rfl ?_
  refine go_istore (lc' := [(0, .ref (x_q X 0)), (1, .int p1), (2, .int x3), (3, .int (0 : Int32)), (4, .int (0 : Int32))]) (pc' := 21) hC dX12_row_19 (Nat.le_of_ble_eq_true rfl) rfl rfl ?_
  have l21_18 : ∀ (nn : Nat) (x4 : Int32) (x5 : Int32) (g : Nat → Nat), it2 (f_X12_row_L21 (x_S X) p1 o1 x3) nn x4 x5 = some o → Go X layM 21 [(0, .ref (x_q X 0)), (1, .int p1), (2, .int x3), (3, .int x4), (4, .int x5)] [] g [(38, o1.1), (39, o1.2.1), (44, o1.2.2.1)] [] [(17, o1.2.2.2.1), (18, o1.2.2.2.2.1), (19, o1.2.2.2.2.2.1), (20, o1.2.2.2.2.2.2)] [] [] 0 0 := by
    intro nn
    induction nn with
    | zero =>
      intro x4 x5 g hf
      exact none_no hf
    | succ nn ih =>
      intro x4 x5 g hf
      have hf : f_X12_row_L21 (x_S X) p1 o1 x3 (it2 (f_X12_row_L21 (x_S X) p1 o1 x3) nn) x4 x5 = some o := hf
      generalize it2 (f_X12_row_L21 (x_S X) p1 o1 x3) nn = r6 at ih hf
      unfold f_X12_row_L21 at hf
      refine go_iload (pc' := 23) hC dX12_row_21 rfl rfl ?_
      refine go_iconst (pc' := 24) hC dX12_row_23 ki_1 rfl ?_
      refine go_aload_n (pc' := 25) hC dX12_row_24 rfl rfl ?_
      refine go_geti (v := ((x_S X).1 21)) (pc' := 28) hC 0 21 layM_0 rfl rfl inlX12 (Nat.le_of_ble_eq_true rfl) mw_247 rfl dX12_row_25 rfl rfl ?_
      refine go_ishl (pc' := 29) hC dX12_row_28 rfl ?_
      refine go_icmp_ge (tgt := 67) (pc' := 32) hC dX12_row_29 (by decide) rfl (fun h17 => ?_) (fun h17 => ?_)
      · have hf := ite_t h17 hf
        refine go_iload_n (pc' := 68) hC dX12_row_67 rfl rfl ?_
        obtain rfl := Option.some.inj hf
        exact go_iret hC hQ dX12_row_68 rfl rfl rfl rfl rfl rfl
      · have hf := ite_f h17 hf
        refine go_iload_n (pc' := 33) hC dX12_row_32 rfl rfl ?_
        refine go_iload (pc' := 35) hC dX12_row_33 rfl rfl ?_
        obtain ⟨o7, ho7, hf⟩ := bd_e hf
        refine go_callS0 (pc' := 38) (As := [.int x5]) (st := [.int x4]) (st' := [.int o7, .int x4])   hC dX12_row_35 ⟨mw_890, mw_892, mw_5, yd_yX12_bits, yp_yX12_bits, Nat.le_of_ble_eq_true rfl, Nat.le_of_ble_eq_true rfl, Nat.le_of_ble_eq_true rfl, Nat.le_of_ble_eq_true rfl⟩ mw_891 rfl rfl (Nat.le_of_ble_eq_true rfl) (c_X12_bits (x_l X) (x_D X) (x_q X) g (x_cy X) (x_z X) _ x5 o7 ho7) rfl rfl (fun g => ?_)
        refine go_iload_n (pc' := 39) hC dX12_row_38 rfl rfl ?_
        obtain ⟨k59_10, hk59_10, hf⟩ := lk_e2 hf
        have jk59_10 : ∀ (x8 : Int32) (x9 : Int32) (g : Nat → Nat), k59_10 x8 x9 = some o → Go X layM 59 [(0, .ref (x_q X 0)), (1, .int p1), (2, .int x3), (4, .int x5)] [.int x8, .int x9] g [(38, o1.1), (39, o1.2.1), (44, o1.2.2.1)] [] [(17, o1.2.2.2.1), (18, o1.2.2.2.2.1), (19, o1.2.2.2.2.2.1), (20, o1.2.2.2.2.2.2)] [] [] 0 0 := by
          intro x8 x9 g hf
          have hf := hk59_10 x8 x9 hf
          clear hk59_10
          refine go_iadd (pc' := 60) hC dX12_row_59 rfl ?_
          refine go_namei (fun x11 hx => ?_)
          have hf := lz_r hx hf
          clear hx
          refine go_istore_n (lc' := [(0, .ref (x_q X 0)), (1, .int p1), (2, .int x3), (3, .int x11), (4, .int x5)]) (pc' := 61) hC dX12_row_60 (Nat.le_of_ble_eq_true rfl) rfl rfl ?_
          refine go_iinc (lc' := [(0, .ref (x_q X 0)), (1, .int p1), (2, .int x3), (3, .int x11), (4, .int (x5 + (1 : Int32)))]) (pc' := 64) hC dX12_row_61 rfl ki_1 (Nat.le_of_ble_eq_true rfl) rfl rfl ?_
          refine go_goto (tgt := 21) hC dX12_row_64 (by decide) ?_
          exact ih x11 (x5 + (1 : Int32)) g hf
        clear hk59_10
        obtain ⟨k58_13, hk58_13, hf⟩ := lk_e1 hf
        have jk58_13 : ∀ (x12 : Int32) (g : Nat → Nat), k58_13 x12 = some o → Go X layM 58 [(0, .ref (x_q X 0)), (1, .int p1), (2, .int x3), (4, .int x5)] [.int x12] g [(38, o1.1), (39, o1.2.1), (44, o1.2.2.1)] [] [(17, o1.2.2.2.1), (18, o1.2.2.2.2.1), (19, o1.2.2.2.2.2.1), (20, o1.2.2.2.2.2.2)] [] [] 0 0 := by
          intro x12 g hf
          have hf := hk58_13 x12 hf
          clear hk58_13
          refine go_iconst (pc' := 59) hC dX12_row_58 ki_0 rfl ?_
          exact jk59_10 (0 : Int32) x12 g hf
        clear hk58_13
        refine go_icmp_ne (tgt := 58) (pc' := 42) hC dX12_row_39 (by decide) rfl (fun h16 => ?_) (fun h16 => ?_)
        · have hf := ite_f h16 hf
          refine go_sub [0, 1, 2, 4] rfl ?_
          exact jk58_13 x4 g hf
        · have hf := ite_t h16 hf
          refine go_aload_n (pc' := 43) hC dX12_row_42 rfl rfl ?_
          refine go_getq (pc' := 46) hC 0 43 layM_0 rfl rfl inlX12 (Nat.le_of_ble_eq_true rfl) mw_201 rfl dX12_row_43 rfl ?_
          refine go_iload (pc' := 48) hC dX12_row_46 rfl rfl ?_
          refine go_iload_n (pc' := 49) hC dX12_row_48 rfl rfl ?_
          refine go_ior (pc' := 50) hC dX12_row_49 rfl ?_
          obtain ⟨h14, hf⟩ := gd_e hf
          refine go_zald (f := o1.2.2.2.2.2.2) (pc' := 51) hC 20 layM_20 rfl rfl dX12_row_50 (okx_in h14) rfl ?_
          refine go_if_eq (tgt := 58) (pc' := 54) hC dX12_row_51 (by decide) rfl (fun h15 => ?_) (fun h15 => ?_)
          · have hf := ite_t h15 hf
            refine go_sub [0, 1, 2, 4] rfl ?_
            exact jk58_13 x4 g hf
          · have hf := ite_f h15 hf
            refine go_iconst (pc' := 55) hC dX12_row_54 ki_1 rfl ?_
            refine go_goto (tgt := 59) hC dX12_row_55 (by decide) ?_
            refine go_sub [0, 1, 2, 4] rfl ?_
            exact jk59_10 (1 : Int32) x4 g hf
  exact l21_18 fuel (0 : Int32) (0 : Int32) g hf
theorem dX12_mending_0 : decode cX12_mending 0 = .ok (.aload_n 0, 1) := by decide +kernel
theorem dX12_mending_1 : decode cX12_mending 1 = .ok (.getfield 303, 3) := by decide +kernel
theorem dX12_mending_4 : decode cX12_mending 4 = .ok (.bipush 9, 2) := by decide +kernel
theorem dX12_mending_6 : decode cX12_mending 6 = .ok (.if_icmp .eq 51, 3) := by decide +kernel
theorem dX12_mending_9 : decode cX12_mending 9 = .ok (.iload_n 1, 1) := by decide +kernel
theorem dX12_mending_10 : decode cX12_mending 10 = .ok (.i2l, 1) := by decide +kernel
theorem dX12_mending_11 : decode cX12_mending 11 = .ok (.lconst 0, 1) := by decide +kernel
theorem dX12_mending_12 : decode cX12_mending 12 = .ok (.aload_n 0, 1) := by decide +kernel
theorem dX12_mending_13 : decode cX12_mending 13 = .ok (.getfield 279, 3) := by decide +kernel
theorem dX12_mending_16 : decode cX12_mending 16 = .ok (.iconst 1, 1) := by decide +kernel
theorem dX12_mending_17 : decode cX12_mending 17 = .ok (.isub, 1) := by decide +kernel
theorem dX12_mending_18 : decode cX12_mending 18 = .ok (.i2l, 1) := by decide +kernel
theorem dX12_mending_19 : decode cX12_mending 19 = .ok (.invokestatic 218, 3) := by decide +kernel
theorem dX12_mending_22 : decode cX12_mending 22 = .ok (.ifCond .eq 35, 3) := by decide +kernel
theorem dX12_mending_25 : decode cX12_mending 25 = .ok (.iload_n 2, 1) := by decide +kernel
theorem dX12_mending_26 : decode cX12_mending 26 = .ok (.i2l, 1) := by decide +kernel
theorem dX12_mending_27 : decode cX12_mending 27 = .ok (.lconst 1, 1) := by decide +kernel
theorem dX12_mending_28 : decode cX12_mending 28 = .ok (.ldc2_w 414, 3) := by decide +kernel
theorem dX12_mending_31 : decode cX12_mending 31 = .ok (.invokestatic 218, 3) := by decide +kernel
theorem dX12_mending_34 : decode cX12_mending 34 = .ok (.ifCond .eq 23, 3) := by decide +kernel
theorem dX12_mending_37 : decode cX12_mending 37 = .ok (.iload_n 3, 1) := by decide +kernel
theorem dX12_mending_38 : decode cX12_mending 38 = .ok (.i2l, 1) := by decide +kernel
theorem dX12_mending_39 : decode cX12_mending 39 = .ok (.aload_n 0, 1) := by decide +kernel
theorem dX12_mending_40 : decode cX12_mending 40 = .ok (.getfield 38, 3) := by decide +kernel
theorem dX12_mending_43 : decode cX12_mending 43 = .ok (.iload_n 1, 1) := by decide +kernel
theorem dX12_mending_44 : decode cX12_mending 44 = .ok (.iaload, 1) := by decide +kernel
theorem dX12_mending_45 : decode cX12_mending 45 = .ok (.iconst 1, 1) := by decide +kernel
theorem dX12_mending_46 : decode cX12_mending 46 = .ok (.iadd, 1) := by decide +kernel
theorem dX12_mending_47 : decode cX12_mending 47 = .ok (.i2l, 1) := by decide +kernel
theorem dX12_mending_48 : decode cX12_mending 48 = .ok (.ldc2_w 367, 3) := by decide +kernel
theorem dX12_mending_51 : decode cX12_mending 51 = .ok (.invokestatic 218, 3) := by decide +kernel
theorem dX12_mending_54 : decode cX12_mending 54 = .ok (.ifCond .ne 5, 3) := by decide +kernel
theorem dX12_mending_57 : decode cX12_mending 57 = .ok (.iconst (-1), 1) := by decide +kernel
theorem dX12_mending_58 : decode cX12_mending 58 = .ok (.ireturn, 1) := by decide +kernel
theorem dX12_mending_59 : decode cX12_mending 59 = .ok (.aload_n 0, 1) := by decide +kernel
theorem dX12_mending_60 : decode cX12_mending 60 = .ok (.getfield 92, 3) := by decide +kernel
theorem dX12_mending_63 : decode cX12_mending 63 = .ok (.aload_n 0, 1) := by decide +kernel
theorem dX12_mending_64 : decode cX12_mending 64 = .ok (.getfield 303, 3) := by decide +kernel
theorem dX12_mending_67 : decode cX12_mending 67 = .ok (.iload_n 1, 1) := by decide +kernel
theorem dX12_mending_68 : decode cX12_mending 68 = .ok (.iastore, 1) := by decide +kernel
theorem dX12_mending_69 : decode cX12_mending 69 = .ok (.aload_n 0, 1) := by decide +kernel
theorem dX12_mending_70 : decode cX12_mending 70 = .ok (.getfield 95, 3) := by decide +kernel
theorem dX12_mending_73 : decode cX12_mending 73 = .ok (.aload_n 0, 1) := by decide +kernel
theorem dX12_mending_74 : decode cX12_mending 74 = .ok (.getfield 303, 3) := by decide +kernel
theorem dX12_mending_77 : decode cX12_mending 77 = .ok (.iload_n 2, 1) := by decide +kernel
theorem dX12_mending_78 : decode cX12_mending 78 = .ok (.iastore, 1) := by decide +kernel
theorem dX12_mending_79 : decode cX12_mending 79 = .ok (.aload_n 0, 1) := by decide +kernel
theorem dX12_mending_80 : decode cX12_mending 80 = .ok (.getfield 98, 3) := by decide +kernel
theorem dX12_mending_83 : decode cX12_mending 83 = .ok (.aload_n 0, 1) := by decide +kernel
theorem dX12_mending_84 : decode cX12_mending 84 = .ok (.getfield 303, 3) := by decide +kernel
theorem dX12_mending_87 : decode cX12_mending 87 = .ok (.iload_n 3, 1) := by decide +kernel
theorem dX12_mending_88 : decode cX12_mending 88 = .ok (.iastore, 1) := by decide +kernel
theorem dX12_mending_89 : decode cX12_mending 89 = .ok (.aload_n 0, 1) := by decide +kernel
theorem dX12_mending_90 : decode cX12_mending 90 = .ok (.dup, 1) := by decide +kernel
theorem dX12_mending_91 : decode cX12_mending 91 = .ok (.getfield 303, 3) := by decide +kernel
theorem dX12_mending_94 : decode cX12_mending 94 = .ok (.iconst 1, 1) := by decide +kernel
theorem dX12_mending_95 : decode cX12_mending 95 = .ok (.iadd, 1) := by decide +kernel
theorem dX12_mending_96 : decode cX12_mending 96 = .ok (.putfield 303, 3) := by decide +kernel
theorem dX12_mending_99 : decode cX12_mending 99 = .ok (.aload_n 0, 1) := by decide +kernel
theorem dX12_mending_100 : decode cX12_mending 100 = .ok (.getfield 303, 3) := by decide +kernel
theorem dX12_mending_103 : decode cX12_mending 103 = .ok (.iconst 1, 1) := by decide +kernel
theorem dX12_mending_104 : decode cX12_mending 104 = .ok (.isub, 1) := by decide +kernel
theorem dX12_mending_105 : decode cX12_mending 105 = .ok (.ireturn, 1) := by decide +kernel
abbrev o_X12_mending : Type := Int32 × Int32 × (Nat → Int32) × (Nat → Int32) × (Nat → Int32)
def f_X12_mending (S : wd_W) (p1 : Int32) (p2 : Int32) (p3 : Int32) : Option o_X12_mending :=
if (S.1 51) = (9 : Int32) then (
some ((-1 : Int32), (S.1 51), (S.2.2.1 27), (S.2.2.1 28), (S.2.2.1 29))) else (
bd (f_X12_in p1.toInt64 (0 : Int64) (((S.1 21) - (1 : Int32)).toInt64)) fun o1 =>
if o1 = 0 then (
some ((-1 : Int32), (S.1 51), (S.2.2.1 27), (S.2.2.1 28), (S.2.2.1 29))) else (
bd (f_X12_in p2.toInt64 (1 : Int64) (999 : Int64)) fun o2 =>
if o2 = 0 then (
some ((-1 : Int32), (S.1 51), (S.2.2.1 27), (S.2.2.1 28), (S.2.2.1 29))) else (
gd (okx p1 13) <|
bd (f_X12_in p3.toInt64 ((((S.2.2.1 10) p1.toNatClampNeg) + (1 : Int32)).toInt64) (16 : Int64)) fun o4 =>
if o4 = 0 then (
some ((-1 : Int32), (S.1 51), (S.2.2.1 27), (S.2.2.1 28), (S.2.2.1 29))) else (
gd (okx (S.1 51) 9) <|
lz (upd (S.2.2.1 27) (S.1 51).toNatClampNeg p1) fun a6 =>
gd (okx (S.1 51) 9) <|
lz (upd (S.2.2.1 28) (S.1 51).toNatClampNeg p2) fun a8 =>
gd (okx (S.1 51) 9) <|
lz (upd (S.2.2.1 29) (S.1 51).toNatClampNeg p3) fun a10 =>
lz ((S.1 51) + (1 : Int32)) fun x11 =>
some (x11 - (1 : Int32), x11, a6, a8, a10)))))
set_option maxRecDepth 100000 in
set_option maxHeartbeats 4000000 in
theorem c_X12_mending (l : Launch) (D : va_G) (q g : Nat → Nat) (cy : Nat → ClassId) (z : (Nat → Nat) × (Nat → Nat) × Nat) (S : wd_W) (p1 : Int32) (p2 : Int32) (p3 : Int32) (o : o_X12_mending) (hf : f_X12_mending S p1 p2 p3 = some o) : MX layM l yX12_mending cX12_mending 4 (some .int) ({ frames := 1, cells := 0, slots := 0, locals := 25 } : Room) D q g cy z [.ref (q 0), .int p1, .int p2, .int p3] S (some (.int o.1)) (wd_o S [(51, o.2.1)] [] [(27, o.2.2.1), (28, o.2.2.2.1), (29, o.2.2.2.2)] [] []) 0 0 := by
  refine mx_of (own := RX12) (lc := [(0, .ref (q 0)), (1, .int p1), (2, .int p2), (3, .int p3)]) (by decide +kernel) rfl layM_ok (Nat.le_of_ble_eq_true rfl) rfl ?_
  intro X hXl hXq hXS hC hQ
  subst hXl; subst hXq; subst hXS
  unfold f_X12_mending at hf
  refine go_keys (L1 := [(51, ((x_S X).1 51))]) (L2 := []) (L3 := [(27, ((x_S X).2.2.1 27)), (28, ((x_S X).2.2.1 28)), (29, ((x_S X).2.2.1 29))]) (L4 := []) (L5 := []) [51] [] [27, 28, 29] [] [] rfl rfl rfl rfl rfl ?_
  refine go_aload_n (pc' := 1) hC dX12_mending_0 rfl rfl ?_
  refine go_geti (v := ((x_S X).1 51)) (pc' := 4) hC 0 51 layM_0 rfl rfl inlX12 (Nat.le_of_ble_eq_true rfl) mw_255 rfl dX12_mending_1 rfl rfl ?_
  refine go_bipush (pc' := 6) hC dX12_mending_4 kb_9 rfl ?_
  refine go_icmp_eq (tgt := 57) (pc' := 9) hC dX12_mending_6 (by decide) rfl (fun h15 => ?_) (fun h15 => ?_)
  · have hf := ite_t h15 hf
    refine go_iconst (pc' := 58) hC dX12_mending_57 ki_m1 rfl ?_
    obtain rfl := Option.some.inj hf
    exact go_iret hC hQ dX12_mending_58 rfl rfl rfl rfl rfl rfl
  · have hf := ite_f h15 hf
    refine go_iload_n (pc' := 10) hC dX12_mending_9 rfl rfl ?_
    refine go_i2l (pc' := 11) hC dX12_mending_10 rfl ?_
    refine go_lconst (pc' := 12) hC dX12_mending_11 kl_0 rfl ?_
    refine go_aload_n (pc' := 13) hC dX12_mending_12 rfl rfl ?_
    refine go_geti (v := ((x_S X).1 21)) (pc' := 16) hC 0 21 layM_0 rfl rfl inlX12 (Nat.le_of_ble_eq_true rfl) mw_247 rfl dX12_mending_13 rfl rfl ?_
    refine go_iconst (pc' := 17) hC dX12_mending_16 ki_1 rfl ?_
    refine go_isub (pc' := 18) hC dX12_mending_17 rfl ?_
    refine go_i2l (pc' := 19) hC dX12_mending_18 rfl ?_
    obtain ⟨o1, ho1, hf⟩ := bd_e hf
    refine go_callS0 (pc' := 22) (As := [.long p1.toInt64, .long (0 : Int64), .long ((((x_S X).1 21) - (1 : Int32)).toInt64)]) (st := []) (st' := [.int o1])   hC dX12_mending_19 ⟨mw_525, mw_527, mw_5, yd_yX12_in, yp_yX12_in, Nat.le_of_ble_eq_true rfl, Nat.le_of_ble_eq_true rfl, Nat.le_of_ble_eq_true rfl, Nat.le_of_ble_eq_true rfl⟩ mw_526 rfl rfl (Nat.le_of_ble_eq_true rfl) (c_X12_in (x_l X) (x_D X) (x_q X) g (x_cy X) (x_z X) _ p1.toInt64 (0 : Int64) ((((x_S X).1 21) - (1 : Int32)).toInt64) o1 ho1) rfl rfl (fun g => ?_)
    refine go_if_eq (tgt := 57) (pc' := 25) hC dX12_mending_22 (by decide) rfl (fun h14 => ?_) (fun h14 => ?_)
    · have hf := ite_t h14 hf
      refine go_iconst (pc' := 58) hC dX12_mending_57 ki_m1 rfl ?_
      obtain rfl := Option.some.inj hf
      exact go_iret hC hQ dX12_mending_58 rfl rfl rfl rfl rfl rfl
    · have hf := ite_f h14 hf
      refine go_iload_n (pc' := 26) hC dX12_mending_25 rfl rfl ?_
      refine go_i2l (pc' := 27) hC dX12_mending_26 rfl ?_
      refine go_lconst (pc' := 28) hC dX12_mending_27 kl_1 rfl ?_
      refine go_ldc2 (pc' := 31) hC dX12_mending_28 mw_1092 rfl ?_
      obtain ⟨o2, ho2, hf⟩ := bd_e hf
      refine go_callS0 (pc' := 34) (As := [.long p2.toInt64, .long (1 : Int64), .long (999 : Int64)]) (st := []) (st' := [.int o2])   hC dX12_mending_31 ⟨mw_525, mw_527, mw_5, yd_yX12_in, yp_yX12_in, Nat.le_of_ble_eq_true rfl, Nat.le_of_ble_eq_true rfl, Nat.le_of_ble_eq_true rfl, Nat.le_of_ble_eq_true rfl⟩ mw_526 rfl rfl (Nat.le_of_ble_eq_true rfl) (c_X12_in (x_l X) (x_D X) (x_q X) g (x_cy X) (x_z X) _ p2.toInt64 (1 : Int64) (999 : Int64) o2 ho2) rfl rfl (fun g => ?_)
      refine go_if_eq (tgt := 57) (pc' := 37) hC dX12_mending_34 (by decide) rfl (fun h13 => ?_) (fun h13 => ?_)
      · have hf := ite_t h13 hf
        refine go_iconst (pc' := 58) hC dX12_mending_57 ki_m1 rfl ?_
        obtain rfl := Option.some.inj hf
        exact go_iret hC hQ dX12_mending_58 rfl rfl rfl rfl rfl rfl
      · have hf := ite_f h13 hf
        refine go_iload_n (pc' := 38) hC dX12_mending_37 rfl rfl ?_
        refine go_i2l (pc' := 39) hC dX12_mending_38 rfl ?_
        refine go_aload_n (pc' := 40) hC dX12_mending_39 rfl rfl ?_
        refine go_getq (pc' := 43) hC 0 24 layM_0 rfl rfl inlX12 (Nat.le_of_ble_eq_true rfl) mw_189 rfl dX12_mending_40 rfl ?_
        refine go_iload_n (pc' := 44) hC dX12_mending_43 rfl rfl ?_
        obtain ⟨h3, hf⟩ := gd_e hf
        refine go_iald (f := ((x_S X).2.2.1 10)) (pc' := 45) hC 10 layM_10 rfl rfl dX12_mending_44 (okx_in h3) rfl ?_
        refine go_iconst (pc' := 46) hC dX12_mending_45 ki_1 rfl ?_
        refine go_iadd (pc' := 47) hC dX12_mending_46 rfl ?_
        refine go_i2l (pc' := 48) hC dX12_mending_47 rfl ?_
        refine go_ldc2 (pc' := 51) hC dX12_mending_48 mw_1038 rfl ?_
        obtain ⟨o4, ho4, hf⟩ := bd_e hf
        refine go_callS0 (pc' := 54) (As := [.long p3.toInt64, .long (((((x_S X).2.2.1 10) p1.toNatClampNeg) + (1 : Int32)).toInt64), .long (16 : Int64)]) (st := []) (st' := [.int o4])   hC dX12_mending_51 ⟨mw_525, mw_527, mw_5, yd_yX12_in, yp_yX12_in, Nat.le_of_ble_eq_true rfl, Nat.le_of_ble_eq_true rfl, Nat.le_of_ble_eq_true rfl, Nat.le_of_ble_eq_true rfl⟩ mw_526 rfl rfl (Nat.le_of_ble_eq_true rfl) (c_X12_in (x_l X) (x_D X) (x_q X) g (x_cy X) (x_z X) _ p3.toInt64 (((((x_S X).2.2.1 10) p1.toNatClampNeg) + (1 : Int32)).toInt64) (16 : Int64) o4 ho4) rfl rfl (fun g => ?_)
        refine go_if_ne (tgt := 59) (pc' := 57) hC dX12_mending_54 (by decide) rfl (fun h12 => ?_) (fun h12 => ?_)
        · have hf := ite_f h12 hf
          refine go_aload_n (pc' := 60) hC dX12_mending_59 rfl rfl ?_
          refine go_getq (pc' := 63) hC 0 52 layM_0 rfl rfl inlX12 (Nat.le_of_ble_eq_true rfl) mw_208 rfl dX12_mending_60 rfl ?_
          refine go_aload_n (pc' := 64) hC dX12_mending_63 rfl rfl ?_
          refine go_geti (v := ((x_S X).1 51)) (pc' := 67) hC 0 51 layM_0 rfl rfl inlX12 (Nat.le_of_ble_eq_true rfl) mw_255 rfl dX12_mending_64 rfl rfl ?_
          refine go_iload_n (pc' := 68) hC dX12_mending_67 rfl rfl ?_
          obtain ⟨h5, hf⟩ := gd_e hf
          refine go_iast (f := ((x_S X).2.2.1 27)) (pc' := 69) hC 27 layM_27 rfl rfl dX12_mending_68 (okx_in h5) rfl rfl (fun a6 ha L3' hL => ?_)
          have hf := lz_r ha hf
          clear ha
          obtain rfl : L3' = [(27, a6), (28, ((x_S X).2.2.1 28)), (29, ((x_S X).2.2.1 29))] := hL.symm
          refine go_aload_n (pc' := 70) hC dX12_mending_69 rfl rfl ?_
          refine go_getq (pc' := 73) hC 0 53 layM_0 rfl rfl inlX12 (Nat.le_of_ble_eq_true rfl) mw_209 rfl dX12_mending_70 rfl ?_
          refine go_aload_n (pc' := 74) hC dX12_mending_73 rfl rfl ?_
          refine go_geti (v := ((x_S X).1 51)) (pc' := 77) hC 0 51 layM_0 rfl rfl inlX12 (Nat.le_of_ble_eq_true rfl) mw_255 rfl dX12_mending_74 rfl rfl ?_
          refine go_iload_n (pc' := 78) hC dX12_mending_77 rfl rfl ?_
          obtain ⟨h7, hf⟩ := gd_e hf
          refine go_iast (f := ((x_S X).2.2.1 28)) (pc' := 79) hC 28 layM_28 rfl rfl dX12_mending_78 (okx_in h7) rfl rfl (fun a8 ha L3' hL => ?_)
          have hf := lz_r ha hf
          clear ha
          obtain rfl : L3' = [(27, a6), (28, a8), (29, ((x_S X).2.2.1 29))] := hL.symm
          refine go_aload_n (pc' := 80) hC dX12_mending_79 rfl rfl ?_
          refine go_getq (pc' := 83) hC 0 54 layM_0 rfl rfl inlX12 (Nat.le_of_ble_eq_true rfl) mw_210 rfl dX12_mending_80 rfl ?_
          refine go_aload_n (pc' := 84) hC dX12_mending_83 rfl rfl ?_
          refine go_geti (v := ((x_S X).1 51)) (pc' := 87) hC 0 51 layM_0 rfl rfl inlX12 (Nat.le_of_ble_eq_true rfl) mw_255 rfl dX12_mending_84 rfl rfl ?_
          refine go_iload_n (pc' := 88) hC dX12_mending_87 rfl rfl ?_
          obtain ⟨h9, hf⟩ := gd_e hf
          refine go_iast (f := ((x_S X).2.2.1 29)) (pc' := 89) hC 29 layM_29 rfl rfl dX12_mending_88 (okx_in h9) rfl rfl (fun a10 ha L3' hL => ?_)
          have hf := lz_r ha hf
          clear ha
          obtain rfl : L3' = [(27, a6), (28, a8), (29, a10)] := hL.symm
          refine go_aload_n (pc' := 90) hC dX12_mending_89 rfl rfl ?_
          refine go_dup (pc' := 91) hC dX12_mending_90 rfl rfl ?_
          refine go_geti (v := ((x_S X).1 51)) (pc' := 94) hC 0 51 layM_0 rfl rfl inlX12 (Nat.le_of_ble_eq_true rfl) mw_255 rfl dX12_mending_91 rfl rfl ?_
          refine go_iconst (pc' := 95) hC dX12_mending_94 ki_1 rfl ?_
          refine go_iadd (pc' := 96) hC dX12_mending_95 rfl ?_
          refine go_namei (fun x11 hx => ?_)
          have hf := lz_r hx hf
          clear hx
          refine go_puti (L1' := [(51, x11)]) (pc' := 99) hC 0 51 layM_0 rfl rfl inlX12 tyX12_ok nmX12 (Nat.le_of_ble_eq_true rfl) mw_255 rfl rfl rfl rfl dX12_mending_96 rfl rfl rfl ?_
          refine go_aload_n (pc' := 100) hC dX12_mending_99 rfl rfl ?_
          refine go_geti (v := x11) (pc' := 103) hC 0 51 layM_0 rfl rfl inlX12 (Nat.le_of_ble_eq_true rfl) mw_255 rfl dX12_mending_100 rfl rfl ?_
          refine go_iconst (pc' := 104) hC dX12_mending_103 ki_1 rfl ?_
          refine go_isub (pc' := 105) hC dX12_mending_104 rfl ?_
          obtain rfl := Option.some.inj hf
          exact go_iret hC hQ dX12_mending_105 rfl rfl rfl rfl rfl rfl
        · have hf := ite_t h12 hf
          refine go_iconst (pc' := 58) hC dX12_mending_57 ki_m1 rfl ?_
          obtain rfl := Option.some.inj hf
          exact go_iret hC hQ dX12_mending_58 rfl rfl rfl rfl rfl rfl
theorem dX12_coinsOf_0 : decode cX12_coinsOf 0 = .ok (.iconst 0, 1) := by decide +kernel
theorem dX12_coinsOf_1 : decode cX12_coinsOf 1 = .ok (.istore_n 2, 1) := by decide +kernel
theorem dX12_coinsOf_2 : decode cX12_coinsOf 2 = .ok (.iconst 0, 1) := by decide +kernel
theorem dX12_coinsOf_3 : decode cX12_coinsOf 3 = .ok (.istore_n 3, 1) := by decide +kernel
theorem dX12_coinsOf_4 : decode cX12_coinsOf 4 = .ok (.iload_n 3, 1) := by decide +kernel
theorem dX12_coinsOf_5 : decode cX12_coinsOf 5 = .ok (.aload_n 0, 1) := by decide +kernel
theorem dX12_coinsOf_6 : decode cX12_coinsOf 6 = .ok (.getfield 303, 3) := by decide +kernel
theorem dX12_coinsOf_9 : decode cX12_coinsOf 9 = .ok (.if_icmp .ge 31, 3) := by decide +kernel
theorem dX12_coinsOf_12 : decode cX12_coinsOf 12 = .ok (.iload_n 2, 1) := by decide +kernel
theorem dX12_coinsOf_13 : decode cX12_coinsOf 13 = .ok (.iload_n 1, 1) := by decide +kernel
theorem dX12_coinsOf_14 : decode cX12_coinsOf 14 = .ok (.iload_n 3, 1) := by decide +kernel
theorem dX12_coinsOf_15 : decode cX12_coinsOf 15 = .ok (.ishr, 1) := by decide +kernel
theorem dX12_coinsOf_16 : decode cX12_coinsOf 16 = .ok (.iconst 1, 1) := by decide +kernel
theorem dX12_coinsOf_17 : decode cX12_coinsOf 17 = .ok (.iand, 1) := by decide +kernel
theorem dX12_coinsOf_18 : decode cX12_coinsOf 18 = .ok (.iconst 1, 1) := by decide +kernel
theorem dX12_coinsOf_19 : decode cX12_coinsOf 19 = .ok (.if_icmp .ne 12, 3) := by decide +kernel
theorem dX12_coinsOf_22 : decode cX12_coinsOf 22 = .ok (.aload_n 0, 1) := by decide +kernel
theorem dX12_coinsOf_23 : decode cX12_coinsOf 23 = .ok (.getfield 95, 3) := by decide +kernel
theorem dX12_coinsOf_26 : decode cX12_coinsOf 26 = .ok (.iload_n 3, 1) := by decide +kernel
theorem dX12_coinsOf_27 : decode cX12_coinsOf 27 = .ok (.iaload, 1) := by decide +kernel
theorem dX12_coinsOf_28 : decode cX12_coinsOf 28 = .ok (.goto 4, 3) := by decide +kernel
theorem dX12_coinsOf_31 : decode cX12_coinsOf 31 = .ok (.iconst 0, 1) := by decide +kernel
theorem dX12_coinsOf_32 : decode cX12_coinsOf 32 = .ok (.iadd, 1) := by decide +kernel
theorem dX12_coinsOf_33 : decode cX12_coinsOf 33 = .ok (.istore_n 2, 1) := by decide +kernel
theorem dX12_coinsOf_34 : decode cX12_coinsOf 34 = .ok (.iinc 3 1, 3) := by decide +kernel
theorem dX12_coinsOf_37 : decode cX12_coinsOf 37 = .ok (.goto (-33), 3) := by decide +kernel
theorem dX12_coinsOf_40 : decode cX12_coinsOf 40 = .ok (.iload_n 2, 1) := by decide +kernel
theorem dX12_coinsOf_41 : decode cX12_coinsOf 41 = .ok (.ireturn, 1) := by decide +kernel
abbrev o_X12_coinsOf : Type := Int32
def f_X12_coinsOf_L4 (S : wd_W) (p1 : Int32) (r3 : (Int32) → (Int32) → (Option o_X12_coinsOf)) (x1 : Int32) (x2 : Int32) : Option o_X12_coinsOf :=
if (S.1 51) ≤ x2 then (
some x1) else (
lk (fun x4 x5 =>
lz (x5 + x4) fun x7 =>
r3 x7 (x2 + (1 : Int32))) fun k32_6 =>
if ((p1 >>> (x2 &&& 31)) &&& (1 : Int32)) = (1 : Int32) then (
gd (okx x2 9) <|
k32_6 ((S.2.2.1 28) x2.toNatClampNeg) x1) else (
k32_6 (0 : Int32) x1))
def f_X12_coinsOf (S : wd_W) (p1 : Int32) : Option o_X12_coinsOf :=
it2 (f_X12_coinsOf_L4 S p1) fuel (0 : Int32) (0 : Int32)
set_option maxRecDepth 100000 in
set_option maxHeartbeats 4000000 in
theorem c_X12_coinsOf (l : Launch) (D : va_G) (q g : Nat → Nat) (cy : Nat → ClassId) (z : (Nat → Nat) × (Nat → Nat) × Nat) (S : wd_W) (p1 : Int32) (o : o_X12_coinsOf) (hf : f_X12_coinsOf S p1 = some o) : MX layM l yX12_coinsOf cX12_coinsOf 4 (some .int) ({ frames := 0, cells := 0, slots := 0, locals := 0 } : Room) D q g cy z [.ref (q 0), .int p1] S (some (.int o)) (wd_o S [] [] [] [] []) 0 0 := by
  refine mx_of (own := RX12) (lc := [(0, .ref (q 0)), (1, .int p1)]) (by decide +kernel) rfl layM_ok (Nat.le_of_ble_eq_true rfl) rfl ?_
  intro X hXl hXq hXS hC hQ
  subst hXl; subst hXq; subst hXS
  unfold f_X12_coinsOf at hf
  refine go_iconst (pc' := 1) hC dX12_coinsOf_0 ki_0 rfl ?_
  refine go_istore_n (lc' := [(0, .ref (x_q X 0)), (1, .int p1), (2, .int (0 : Int32))]) (pc' := 2) hC dX12_coinsOf_1 (Nat.le_of_ble_eq_true rfl) rfl rfl ?_
  refine go_iconst (pc' := 3) hC dX12_coinsOf_2 ki_0 rfl ?_
  refine go_istore_n (lc' := [(0, .ref (x_q X 0)), (1, .int p1), (2, .int (0 : Int32)), (3, .int (0 : Int32))]) (pc' := 4) hC dX12_coinsOf_3 (Nat.le_of_ble_eq_true rfl) rfl rfl ?_
  have l4_11 : ∀ (nn : Nat) (x1 : Int32) (x2 : Int32) (g : Nat → Nat), it2 (f_X12_coinsOf_L4 (x_S X) p1) nn x1 x2 = some o → Go X layM 4 [(0, .ref (x_q X 0)), (1, .int p1), (2, .int x1), (3, .int x2)] [] g [] [] [] [] [] 0 0 := by
    intro nn
    induction nn with
    | zero =>
      intro x1 x2 g hf
      exact none_no hf
    | succ nn ih =>
      intro x1 x2 g hf
      have hf : f_X12_coinsOf_L4 (x_S X) p1 (it2 (f_X12_coinsOf_L4 (x_S X) p1) nn) x1 x2 = some o := hf
      generalize it2 (f_X12_coinsOf_L4 (x_S X) p1) nn = r3 at ih hf
      unfold f_X12_coinsOf_L4 at hf
      refine go_iload_n (pc' := 5) hC dX12_coinsOf_4 rfl rfl ?_
      refine go_aload_n (pc' := 6) hC dX12_coinsOf_5 rfl rfl ?_
      refine go_geti (v := ((x_S X).1 51)) (pc' := 9) hC 0 51 layM_0 rfl rfl inlX12 (Nat.le_of_ble_eq_true rfl) mw_255 rfl dX12_coinsOf_6 rfl rfl ?_
      refine go_icmp_ge (tgt := 40) (pc' := 12) hC dX12_coinsOf_9 (by decide) rfl (fun h10 => ?_) (fun h10 => ?_)
      · have hf := ite_t h10 hf
        refine go_iload_n (pc' := 41) hC dX12_coinsOf_40 rfl rfl ?_
        obtain rfl := Option.some.inj hf
        exact go_iret hC hQ dX12_coinsOf_41 rfl rfl rfl rfl rfl rfl
      · have hf := ite_f h10 hf
        refine go_iload_n (pc' := 13) hC dX12_coinsOf_12 rfl rfl ?_
        refine go_iload_n (pc' := 14) hC dX12_coinsOf_13 rfl rfl ?_
        refine go_iload_n (pc' := 15) hC dX12_coinsOf_14 rfl rfl ?_
        refine go_ishr (pc' := 16) hC dX12_coinsOf_15 rfl ?_
        refine go_iconst (pc' := 17) hC dX12_coinsOf_16 ki_1 rfl ?_
        refine go_iand (pc' := 18) hC dX12_coinsOf_17 rfl ?_
        refine go_iconst (pc' := 19) hC dX12_coinsOf_18 ki_1 rfl ?_
        obtain ⟨k32_6, hk32_6, hf⟩ := lk_e2 hf
        have jk32_6 : ∀ (x4 : Int32) (x5 : Int32) (g : Nat → Nat), k32_6 x4 x5 = some o → Go X layM 32 [(0, .ref (x_q X 0)), (1, .int p1), (3, .int x2)] [.int x4, .int x5] g [] [] [] [] [] 0 0 := by
          intro x4 x5 g hf
          have hf := hk32_6 x4 x5 hf
          clear hk32_6
          refine go_iadd (pc' := 33) hC dX12_coinsOf_32 rfl ?_
          refine go_namei (fun x7 hx => ?_)
          have hf := lz_r hx hf
          clear hx
          refine go_istore_n (lc' := [(0, .ref (x_q X 0)), (1, .int p1), (2, .int x7), (3, .int x2)]) (pc' := 34) hC dX12_coinsOf_33 (Nat.le_of_ble_eq_true rfl) rfl rfl ?_
          refine go_iinc (lc' := [(0, .ref (x_q X 0)), (1, .int p1), (2, .int x7), (3, .int (x2 + (1 : Int32)))]) (pc' := 37) hC dX12_coinsOf_34 rfl ki_1 (Nat.le_of_ble_eq_true rfl) rfl rfl ?_
          refine go_goto (tgt := 4) hC dX12_coinsOf_37 (by decide) ?_
          exact ih x7 (x2 + (1 : Int32)) g hf
        clear hk32_6
        refine go_icmp_ne (tgt := 31) (pc' := 22) hC dX12_coinsOf_19 (by decide) rfl (fun h9 => ?_) (fun h9 => ?_)
        · have hf := ite_f h9 hf
          refine go_iconst (pc' := 32) hC dX12_coinsOf_31 ki_0 rfl ?_
          refine go_sub [0, 1, 3] rfl ?_
          exact jk32_6 (0 : Int32) x1 g hf
        · have hf := ite_t h9 hf
          refine go_aload_n (pc' := 23) hC dX12_coinsOf_22 rfl rfl ?_
          refine go_getq (pc' := 26) hC 0 53 layM_0 rfl rfl inlX12 (Nat.le_of_ble_eq_true rfl) mw_209 rfl dX12_coinsOf_23 rfl ?_
          refine go_iload_n (pc' := 27) hC dX12_coinsOf_26 rfl rfl ?_
          obtain ⟨h8, hf⟩ := gd_e hf
          refine go_iald (f := ((x_S X).2.2.1 28)) (pc' := 28) hC 28 layM_28 rfl rfl dX12_coinsOf_27 (okx_in h8) rfl ?_
          refine go_goto (tgt := 32) hC dX12_coinsOf_28 (by decide) ?_
          refine go_sub [0, 1, 3] rfl ?_
          exact jk32_6 (((x_S X).2.2.1 28) x2.toNatClampNeg) x1 g hf
  exact l4_11 fuel (0 : Int32) (0 : Int32) g hf
theorem dX12_chanceWith_0 : decode cX12_chanceWith 0 = .ok (.aload_n 0, 1) := by decide +kernel
theorem dX12_chanceWith_1 : decode cX12_chanceWith 1 = .ok (.invokevirtual 375, 3) := by decide +kernel
theorem dX12_chanceWith_4 : decode cX12_chanceWith 4 = .ok (.iconst 0, 1) := by decide +kernel
theorem dX12_chanceWith_5 : decode cX12_chanceWith 5 = .ok (.istore_n 2, 1) := by decide +kernel
theorem dX12_chanceWith_6 : decode cX12_chanceWith 6 = .ok (.iload_n 2, 1) := by decide +kernel
theorem dX12_chanceWith_7 : decode cX12_chanceWith 7 = .ok (.aload_n 0, 1) := by decide +kernel
theorem dX12_chanceWith_8 : decode cX12_chanceWith 8 = .ok (.getfield 303, 3) := by decide +kernel
theorem dX12_chanceWith_11 : decode cX12_chanceWith 11 = .ok (.if_icmp .ge 77, 3) := by decide +kernel
theorem dX12_chanceWith_14 : decode cX12_chanceWith 14 = .ok (.iload_n 1, 1) := by decide +kernel
theorem dX12_chanceWith_15 : decode cX12_chanceWith 15 = .ok (.iload_n 2, 1) := by decide +kernel
theorem dX12_chanceWith_16 : decode cX12_chanceWith 16 = .ok (.ishr, 1) := by decide +kernel
theorem dX12_chanceWith_17 : decode cX12_chanceWith 17 = .ok (.iconst 1, 1) := by decide +kernel
theorem dX12_chanceWith_18 : decode cX12_chanceWith 18 = .ok (.iand, 1) := by decide +kernel
theorem dX12_chanceWith_19 : decode cX12_chanceWith 19 = .ok (.ifCond .eq 63, 3) := by decide +kernel
theorem dX12_chanceWith_22 : decode cX12_chanceWith 22 = .ok (.aload_n 0, 1) := by decide +kernel
theorem dX12_chanceWith_23 : decode cX12_chanceWith 23 = .ok (.getfield 98, 3) := by decide +kernel
theorem dX12_chanceWith_26 : decode cX12_chanceWith 26 = .ok (.iload_n 2, 1) := by decide +kernel
theorem dX12_chanceWith_27 : decode cX12_chanceWith 27 = .ok (.iaload, 1) := by decide +kernel
theorem dX12_chanceWith_28 : decode cX12_chanceWith 28 = .ok (.aload_n 0, 1) := by decide +kernel
theorem dX12_chanceWith_29 : decode cX12_chanceWith 29 = .ok (.getfield 77, 3) := by decide +kernel
theorem dX12_chanceWith_32 : decode cX12_chanceWith 32 = .ok (.aload_n 0, 1) := by decide +kernel
theorem dX12_chanceWith_33 : decode cX12_chanceWith 33 = .ok (.getfield 92, 3) := by decide +kernel
theorem dX12_chanceWith_36 : decode cX12_chanceWith 36 = .ok (.iload_n 2, 1) := by decide +kernel
theorem dX12_chanceWith_37 : decode cX12_chanceWith 37 = .ok (.iaload, 1) := by decide +kernel
theorem dX12_chanceWith_38 : decode cX12_chanceWith 38 = .ok (.iaload, 1) := by decide +kernel
theorem dX12_chanceWith_39 : decode cX12_chanceWith 39 = .ok (.if_icmp .gt 6, 3) := by decide +kernel
theorem dX12_chanceWith_42 : decode cX12_chanceWith 42 = .ok (.goto 40, 3) := by decide +kernel
theorem dX12_chanceWith_45 : decode cX12_chanceWith 45 = .ok (.aload_n 0, 1) := by decide +kernel
theorem dX12_chanceWith_46 : decode cX12_chanceWith 46 = .ok (.getfield 77, 3) := by decide +kernel
theorem dX12_chanceWith_49 : decode cX12_chanceWith 49 = .ok (.aload_n 0, 1) := by decide +kernel
theorem dX12_chanceWith_50 : decode cX12_chanceWith 50 = .ok (.getfield 92, 3) := by decide +kernel
theorem dX12_chanceWith_53 : decode cX12_chanceWith 53 = .ok (.iload_n 2, 1) := by decide +kernel
theorem dX12_chanceWith_54 : decode cX12_chanceWith 54 = .ok (.iaload, 1) := by decide +kernel
theorem dX12_chanceWith_55 : decode cX12_chanceWith 55 = .ok (.aload_n 0, 1) := by decide +kernel
theorem dX12_chanceWith_56 : decode cX12_chanceWith 56 = .ok (.getfield 98, 3) := by decide +kernel
theorem dX12_chanceWith_59 : decode cX12_chanceWith 59 = .ok (.iload_n 2, 1) := by decide +kernel
theorem dX12_chanceWith_60 : decode cX12_chanceWith 60 = .ok (.iaload, 1) := by decide +kernel
theorem dX12_chanceWith_61 : decode cX12_chanceWith 61 = .ok (.iastore, 1) := by decide +kernel
theorem dX12_chanceWith_62 : decode cX12_chanceWith 62 = .ok (.aload_n 0, 1) := by decide +kernel
theorem dX12_chanceWith_63 : decode cX12_chanceWith 63 = .ok (.getfield 80, 3) := by decide +kernel
theorem dX12_chanceWith_66 : decode cX12_chanceWith 66 = .ok (.aload_n 0, 1) := by decide +kernel
theorem dX12_chanceWith_67 : decode cX12_chanceWith 67 = .ok (.getfield 92, 3) := by decide +kernel
theorem dX12_chanceWith_70 : decode cX12_chanceWith 70 = .ok (.iload_n 2, 1) := by decide +kernel
theorem dX12_chanceWith_71 : decode cX12_chanceWith 71 = .ok (.iaload, 1) := by decide +kernel
theorem dX12_chanceWith_72 : decode cX12_chanceWith 72 = .ok (.bipush 16, 2) := by decide +kernel
theorem dX12_chanceWith_74 : decode cX12_chanceWith 74 = .ok (.aload_n 0, 1) := by decide +kernel
theorem dX12_chanceWith_75 : decode cX12_chanceWith 75 = .ok (.getfield 98, 3) := by decide +kernel
theorem dX12_chanceWith_78 : decode cX12_chanceWith 78 = .ok (.iload_n 2, 1) := by decide +kernel
theorem dX12_chanceWith_79 : decode cX12_chanceWith 79 = .ok (.iaload, 1) := by decide +kernel
theorem dX12_chanceWith_80 : decode cX12_chanceWith 80 = .ok (.isub, 1) := by decide +kernel
theorem dX12_chanceWith_81 : decode cX12_chanceWith 81 = .ok (.iastore, 1) := by decide +kernel
theorem dX12_chanceWith_82 : decode cX12_chanceWith 82 = .ok (.iinc 2 1, 3) := by decide +kernel
theorem dX12_chanceWith_85 : decode cX12_chanceWith 85 = .ok (.goto (-79), 3) := by decide +kernel
theorem dX12_chanceWith_88 : decode cX12_chanceWith 88 = .ok (.aload_n 0, 1) := by decide +kernel
theorem dX12_chanceWith_89 : decode cX12_chanceWith 89 = .ok (.invokevirtual 378, 3) := by decide +kernel
theorem dX12_chanceWith_92 : decode cX12_chanceWith 92 = .ok (.lreturn, 1) := by decide +kernel
abbrev o_X12_chanceWith : Type := Int64 × Int32 × Int32 × Int32 × (Nat → Int32) × (Nat → Int32) × (Nat → Int32) × (Nat → Int32) × (Nat → Int32) × (Nat → Int32) × (Nat → Int64)
def f_X12_chanceWith_L6 (S : wd_W) (p1 : Int32) (k88_4 : (Nat → Int32) → (Nat → Int32) → (Option o_X12_chanceWith)) (r9 : (Int32) → (Nat → Int32) → (Nat → Int32) → (Option o_X12_chanceWith)) (x6 : Int32) (a7 : Nat → Int32) (a8 : Nat → Int32) : Option o_X12_chanceWith :=
if (S.1 51) ≤ x6 then (
k88_4 a7 a8) else (
lk (fun a10 a11 =>
r9 (x6 + (1 : Int32)) a10 a11) fun k82_12 =>
if ((p1 >>> (x6 &&& 31)) &&& (1 : Int32)) = 0 then (
k82_12 a7 a8) else (
gd (okx x6 9) <|
gd (okx x6 9) <|
gd (okx ((S.2.2.1 27) x6.toNatClampNeg) 15) <|
if (a7 ((S.2.2.1 27) x6.toNatClampNeg).toNatClampNeg) < ((S.2.2.1 29) x6.toNatClampNeg) then (
gd (okx x6 9) <|
gd (okx x6 9) <|
lz ((S.2.2.1 29) x6.toNatClampNeg) fun x18 =>
gd (okx ((S.2.2.1 27) x6.toNatClampNeg) 15) <|
lz (upd a7 ((S.2.2.1 27) x6.toNatClampNeg).toNatClampNeg x18) fun a20 =>
gd (okx x6 9) <|
gd (okx x6 9) <|
lz ((16 : Int32) - ((S.2.2.1 29) x6.toNatClampNeg)) fun x23 =>
gd (okx ((S.2.2.1 27) x6.toNatClampNeg) 15) <|
lz (upd a8 ((S.2.2.1 27) x6.toNatClampNeg).toNatClampNeg x23) fun a25 =>
k82_12 a20 a25) else (
k82_12 a7 a8)))
def f_X12_chanceWith (S : wd_W) (p1 : Int32) : Option o_X12_chanceWith :=
bd (f_X12_plain (wd_o S [(38, (S.1 38)), (39, (S.1 39)), (44, (S.1 44))] [] [(17, (S.2.2.1 17)), (18, (S.2.2.1 18)), (19, (S.2.2.1 19)), (20, (S.2.2.1 20)), (22, (S.2.2.1 22)), (23, (S.2.2.1 23))] [(21, (S.2.2.2.1 21))] [])) fun o1 =>
lk (fun a2 a3 =>
bd (f_X12_together (wd_o S [(38, (S.1 38)), (39, (S.1 39)), (44, (S.1 44))] [] [(17, (S.2.2.1 17)), (18, (S.2.2.1 18)), (19, (S.2.2.1 19)), (20, (S.2.2.1 20)), (22, a2), (23, a3)] [(21, (S.2.2.2.1 21))] [])) fun o5 =>
some (o5.1, o5.2.1, o5.2.2.1, o5.2.2.2.1, o5.2.2.2.2.1, o5.2.2.2.2.2.1, o5.2.2.2.2.2.2.1, o5.2.2.2.2.2.2.2.1, a2, a3, o5.2.2.2.2.2.2.2.2)) fun k88_4 =>
it3 (f_X12_chanceWith_L6 S p1 k88_4) fuel (0 : Int32) o1.1 o1.2
set_option maxRecDepth 100000 in
set_option maxHeartbeats 4000000 in
theorem c_X12_chanceWith (l : Launch) (D : va_G) (q g : Nat → Nat) (cy : Nat → ClassId) (z : (Nat → Nat) × (Nat → Nat) × Nat) (S : wd_W) (p1 : Int32) (o : o_X12_chanceWith) (hf : f_X12_chanceWith S p1 = some o) : MX layM l yX12_chanceWith cX12_chanceWith 3 (some .long) ({ frames := 6, cells := 0, slots := 0, locals := 138 } : Room) D q g cy z [.ref (q 0), .int p1] S (some (.long o.1)) (wd_o S [(38, o.2.1), (39, o.2.2.1), (44, o.2.2.2.1)] [] [(17, o.2.2.2.2.1), (18, o.2.2.2.2.2.1), (19, o.2.2.2.2.2.2.1), (20, o.2.2.2.2.2.2.2.1), (22, o.2.2.2.2.2.2.2.2.1), (23, o.2.2.2.2.2.2.2.2.2.1)] [(21, o.2.2.2.2.2.2.2.2.2.2)] []) 0 0 := by
  refine mx_of (own := RX12) (lc := [(0, .ref (q 0)), (1, .int p1)]) (by decide +kernel) rfl layM_ok (Nat.le_of_ble_eq_true rfl) rfl ?_
  intro X hXl hXq hXS hC hQ
  subst hXl; subst hXq; subst hXS
  unfold f_X12_chanceWith at hf
  refine go_keys (L1 := [(38, ((x_S X).1 38)), (39, ((x_S X).1 39)), (44, ((x_S X).1 44))]) (L2 := []) (L3 := [(17, ((x_S X).2.2.1 17)), (18, ((x_S X).2.2.1 18)), (19, ((x_S X).2.2.1 19)), (20, ((x_S X).2.2.1 20)), (22, ((x_S X).2.2.1 22)), (23, ((x_S X).2.2.1 23))]) (L4 := [(21, ((x_S X).2.2.2.1 21))]) (L5 := []) [38, 39, 44] [] [17, 18, 19, 20, 22, 23] [21] [] rfl rfl rfl rfl rfl ?_
  refine go_aload_n (pc' := 1) hC dX12_chanceWith_0 rfl rfl ?_
  obtain ⟨o1, ho1, hf⟩ := bd_e hf
  refine go_callV (pc' := 4) (As := []) (st := []) (st' := []) (L1' := [(38, ((x_S X).1 38)), (39, ((x_S X).1 39)), (44, ((x_S X).1 44))]) (L2' := []) (L3' := [(17, ((x_S X).2.2.1 17)), (18, ((x_S X).2.2.1 18)), (19, ((x_S X).2.2.1 19)), (20, ((x_S X).2.2.1 20)), (22, o1.1), (23, o1.2)]) (L4' := [(21, ((x_S X).2.2.2.1 21))]) (L5' := []) (cells' := 0) (slots' := 0) (b := 0) hC dX12_chanceWith_1 ⟨mw_927, mw_930, mw_5, yd_yX12_plain, yp_yX12_plain, Nat.le_of_ble_eq_true rfl, Nat.le_of_ble_eq_true rfl, Nat.le_of_ble_eq_true rfl, Nat.le_of_ble_eq_true rfl⟩ mw_928 mw_929 layM_0 rfl rfl rfl (Nat.le_of_ble_eq_true rfl) (c_X12_plain (x_l X) (x_D X) (x_q X) g (x_cy X) (x_z X) _  o1 ho1) rfl rfl rfl rfl rfl rfl rfl rfl rfl rfl rfl rfl rfl rfl (fun g => ?_)
  refine go_iconst (pc' := 5) hC dX12_chanceWith_4 ki_0 rfl ?_
  refine go_istore_n (lc' := [(0, .ref (x_q X 0)), (1, .int p1), (2, .int (0 : Int32))]) (pc' := 6) hC dX12_chanceWith_5 (Nat.le_of_ble_eq_true rfl) rfl rfl ?_
  obtain ⟨k88_4, hk88_4, hf⟩ := lk_e2 hf
  have jk88_4 : ∀ (a2 : Nat → Int32) (a3 : Nat → Int32) (g : Nat → Nat), k88_4 a2 a3 = some o → Go X layM 88 [(0, .ref (x_q X 0))] [] g [(38, ((x_S X).1 38)), (39, ((x_S X).1 39)), (44, ((x_S X).1 44))] [] [(17, ((x_S X).2.2.1 17)), (18, ((x_S X).2.2.1 18)), (19, ((x_S X).2.2.1 19)), (20, ((x_S X).2.2.1 20)), (22, a2), (23, a3)] [(21, ((x_S X).2.2.2.1 21))] [] 0 0 := by
    intro a2 a3 g hf
    have hf := hk88_4 a2 a3 hf
    clear hk88_4
    refine go_aload_n (pc' := 89) hC dX12_chanceWith_88 rfl rfl ?_
    obtain ⟨o5, ho5, hf⟩ := bd_e hf
    refine go_callV (pc' := 92) (As := []) (st := []) (st' := [.long o5.1]) (L1' := [(38, o5.2.1), (39, o5.2.2.1), (44, o5.2.2.2.1)]) (L2' := []) (L3' := [(17, o5.2.2.2.2.1), (18, o5.2.2.2.2.2.1), (19, o5.2.2.2.2.2.2.1), (20, o5.2.2.2.2.2.2.2.1), (22, a2), (23, a3)]) (L4' := [(21, o5.2.2.2.2.2.2.2.2)]) (L5' := []) (cells' := 0) (slots' := 0) (b := 0) hC dX12_chanceWith_89 ⟨mw_931, mw_934, mw_5, yd_yX12_together, yp_yX12_together, Nat.le_of_ble_eq_true rfl, Nat.le_of_ble_eq_true rfl, Nat.le_of_ble_eq_true rfl, Nat.le_of_ble_eq_true rfl⟩ mw_932 mw_933 layM_0 rfl rfl rfl (Nat.le_of_ble_eq_true rfl) (c_X12_together (x_l X) (x_D X) (x_q X) g (x_cy X) (x_z X) _  o5 ho5) rfl rfl rfl rfl rfl rfl rfl rfl rfl rfl rfl rfl rfl rfl (fun g => ?_)
    obtain rfl := Option.some.inj hf
    exact go_lret hC hQ dX12_chanceWith_92 rfl rfl rfl rfl rfl
  clear hk88_4
  have l6_29 : ∀ (nn : Nat) (x6 : Int32) (a7 : Nat → Int32) (a8 : Nat → Int32) (g : Nat → Nat), it3 (f_X12_chanceWith_L6 (x_S X) p1 k88_4) nn x6 a7 a8 = some o → Go X layM 6 [(0, .ref (x_q X 0)), (1, .int p1), (2, .int x6)] [] g [(38, ((x_S X).1 38)), (39, ((x_S X).1 39)), (44, ((x_S X).1 44))] [] [(17, ((x_S X).2.2.1 17)), (18, ((x_S X).2.2.1 18)), (19, ((x_S X).2.2.1 19)), (20, ((x_S X).2.2.1 20)), (22, a7), (23, a8)] [(21, ((x_S X).2.2.2.1 21))] [] 0 0 := by
    intro nn
    induction nn with
    | zero =>
      intro x6 a7 a8 g hf
      exact none_no hf
    | succ nn ih =>
      intro x6 a7 a8 g hf
      have hf : f_X12_chanceWith_L6 (x_S X) p1 k88_4 (it3 (f_X12_chanceWith_L6 (x_S X) p1 k88_4) nn) x6 a7 a8 = some o := hf
      generalize it3 (f_X12_chanceWith_L6 (x_S X) p1 k88_4) nn = r9 at ih hf
      unfold f_X12_chanceWith_L6 at hf
      refine go_iload_n (pc' := 7) hC dX12_chanceWith_6 rfl rfl ?_
      refine go_aload_n (pc' := 8) hC dX12_chanceWith_7 rfl rfl ?_
      refine go_geti (v := ((x_S X).1 51)) (pc' := 11) hC 0 51 layM_0 rfl rfl inlX12 (Nat.le_of_ble_eq_true rfl) mw_255 rfl dX12_chanceWith_8 rfl rfl ?_
      refine go_icmp_ge (tgt := 88) (pc' := 14) hC dX12_chanceWith_11 (by decide) rfl (fun h28 => ?_) (fun h28 => ?_)
      · have hf := ite_t h28 hf
        refine go_sub [0] rfl ?_
        exact jk88_4 a7 a8 g hf
      · have hf := ite_f h28 hf
        refine go_iload_n (pc' := 15) hC dX12_chanceWith_14 rfl rfl ?_
        refine go_iload_n (pc' := 16) hC dX12_chanceWith_15 rfl rfl ?_
        refine go_ishr (pc' := 17) hC dX12_chanceWith_16 rfl ?_
        refine go_iconst (pc' := 18) hC dX12_chanceWith_17 ki_1 rfl ?_
        refine go_iand (pc' := 19) hC dX12_chanceWith_18 rfl ?_
        obtain ⟨k82_12, hk82_12, hf⟩ := lk_e2 hf
        have jk82_12 : ∀ (a10 : Nat → Int32) (a11 : Nat → Int32) (g : Nat → Nat), k82_12 a10 a11 = some o → Go X layM 82 [(0, .ref (x_q X 0)), (1, .int p1), (2, .int x6)] [] g [(38, ((x_S X).1 38)), (39, ((x_S X).1 39)), (44, ((x_S X).1 44))] [] [(17, ((x_S X).2.2.1 17)), (18, ((x_S X).2.2.1 18)), (19, ((x_S X).2.2.1 19)), (20, ((x_S X).2.2.1 20)), (22, a10), (23, a11)] [(21, ((x_S X).2.2.2.1 21))] [] 0 0 := by
          intro a10 a11 g hf
          have hf := hk82_12 a10 a11 hf
          clear hk82_12
          refine go_iinc (lc' := [(0, .ref (x_q X 0)), (1, .int p1), (2, .int (x6 + (1 : Int32)))]) (pc' := 85) hC dX12_chanceWith_82 rfl ki_1 (Nat.le_of_ble_eq_true rfl) rfl rfl ?_
          refine go_goto (tgt := 6) hC dX12_chanceWith_85 (by decide) ?_
          exact ih (x6 + (1 : Int32)) a10 a11 g hf
        clear hk82_12
        refine go_if_eq (tgt := 82) (pc' := 22) hC dX12_chanceWith_19 (by decide) rfl (fun h27 => ?_) (fun h27 => ?_)
        · have hf := ite_t h27 hf
          exact jk82_12 a7 a8 g hf
        · have hf := ite_f h27 hf
          refine go_aload_n (pc' := 23) hC dX12_chanceWith_22 rfl rfl ?_
          refine go_getq (pc' := 26) hC 0 54 layM_0 rfl rfl inlX12 (Nat.le_of_ble_eq_true rfl) mw_210 rfl dX12_chanceWith_23 rfl ?_
          refine go_iload_n (pc' := 27) hC dX12_chanceWith_26 rfl rfl ?_
          obtain ⟨h13, hf⟩ := gd_e hf
          refine go_iald (f := ((x_S X).2.2.1 29)) (pc' := 28) hC 29 layM_29 rfl rfl dX12_chanceWith_27 (okx_in h13) rfl ?_
          refine go_aload_n (pc' := 29) hC dX12_chanceWith_28 rfl rfl ?_
          refine go_getq (pc' := 32) hC 0 46 layM_0 rfl rfl inlX12 (Nat.le_of_ble_eq_true rfl) mw_203 rfl dX12_chanceWith_29 rfl ?_
          refine go_aload_n (pc' := 33) hC dX12_chanceWith_32 rfl rfl ?_
          refine go_getq (pc' := 36) hC 0 52 layM_0 rfl rfl inlX12 (Nat.le_of_ble_eq_true rfl) mw_208 rfl dX12_chanceWith_33 rfl ?_
          refine go_iload_n (pc' := 37) hC dX12_chanceWith_36 rfl rfl ?_
          obtain ⟨h14, hf⟩ := gd_e hf
          refine go_iald (f := ((x_S X).2.2.1 27)) (pc' := 38) hC 27 layM_27 rfl rfl dX12_chanceWith_37 (okx_in h14) rfl ?_
          obtain ⟨h15, hf⟩ := gd_e hf
          refine go_iald (f := a7) (pc' := 39) hC 22 layM_22 rfl rfl dX12_chanceWith_38 (okx_in h15) rfl ?_
          refine go_icmp_gt (tgt := 45) (pc' := 42) hC dX12_chanceWith_39 (by decide) rfl (fun h26 => ?_) (fun h26 => ?_)
          · have hf := ite_t h26 hf
            refine go_aload_n (pc' := 46) hC dX12_chanceWith_45 rfl rfl ?_
            refine go_getq (pc' := 49) hC 0 46 layM_0 rfl rfl inlX12 (Nat.le_of_ble_eq_true rfl) mw_203 rfl dX12_chanceWith_46 rfl ?_
            refine go_aload_n (pc' := 50) hC dX12_chanceWith_49 rfl rfl ?_
            refine go_getq (pc' := 53) hC 0 52 layM_0 rfl rfl inlX12 (Nat.le_of_ble_eq_true rfl) mw_208 rfl dX12_chanceWith_50 rfl ?_
            refine go_iload_n (pc' := 54) hC dX12_chanceWith_53 rfl rfl ?_
            obtain ⟨h16, hf⟩ := gd_e hf
            refine go_iald (f := ((x_S X).2.2.1 27)) (pc' := 55) hC 27 layM_27 rfl rfl dX12_chanceWith_54 (okx_in h16) rfl ?_
            refine go_aload_n (pc' := 56) hC dX12_chanceWith_55 rfl rfl ?_
            refine go_getq (pc' := 59) hC 0 54 layM_0 rfl rfl inlX12 (Nat.le_of_ble_eq_true rfl) mw_210 rfl dX12_chanceWith_56 rfl ?_
            refine go_iload_n (pc' := 60) hC dX12_chanceWith_59 rfl rfl ?_
            obtain ⟨h17, hf⟩ := gd_e hf
            refine go_iald (f := ((x_S X).2.2.1 29)) (pc' := 61) hC 29 layM_29 rfl rfl dX12_chanceWith_60 (okx_in h17) rfl ?_
            refine go_namei (fun x18 hx => ?_)
            have hf := lz_r hx hf
            clear hx
            obtain ⟨h19, hf⟩ := gd_e hf
            refine go_iast (f := a7) (pc' := 62) hC 22 layM_22 rfl rfl dX12_chanceWith_61 (okx_in h19) rfl rfl (fun a20 ha L3' hL => ?_)
            have hf := lz_r ha hf
            clear ha
            obtain rfl : L3' = [(17, ((x_S X).2.2.1 17)), (18, ((x_S X).2.2.1 18)), (19, ((x_S X).2.2.1 19)), (20, ((x_S X).2.2.1 20)), (22, a20), (23, a8)] := hL.symm
            refine go_aload_n (pc' := 63) hC dX12_chanceWith_62 rfl rfl ?_
            refine go_getq (pc' := 66) hC 0 47 layM_0 rfl rfl inlX12 (Nat.le_of_ble_eq_true rfl) mw_204 rfl dX12_chanceWith_63 rfl ?_
            refine go_aload_n (pc' := 67) hC dX12_chanceWith_66 rfl rfl ?_
            refine go_getq (pc' := 70) hC 0 52 layM_0 rfl rfl inlX12 (Nat.le_of_ble_eq_true rfl) mw_208 rfl dX12_chanceWith_67 rfl ?_
            refine go_iload_n (pc' := 71) hC dX12_chanceWith_70 rfl rfl ?_
            obtain ⟨h21, hf⟩ := gd_e hf
            refine go_iald (f := ((x_S X).2.2.1 27)) (pc' := 72) hC 27 layM_27 rfl rfl dX12_chanceWith_71 (okx_in h21) rfl ?_
            refine go_bipush (pc' := 74) hC dX12_chanceWith_72 kb_16 rfl ?_
            refine go_aload_n (pc' := 75) hC dX12_chanceWith_74 rfl rfl ?_
            refine go_getq (pc' := 78) hC 0 54 layM_0 rfl rfl inlX12 (Nat.le_of_ble_eq_true rfl) mw_210 rfl dX12_chanceWith_75 rfl ?_
            refine go_iload_n (pc' := 79) hC dX12_chanceWith_78 rfl rfl ?_
            obtain ⟨h22, hf⟩ := gd_e hf
            refine go_iald (f := ((x_S X).2.2.1 29)) (pc' := 80) hC 29 layM_29 rfl rfl dX12_chanceWith_79 (okx_in h22) rfl ?_
            refine go_isub (pc' := 81) hC dX12_chanceWith_80 rfl ?_
            refine go_namei (fun x23 hx => ?_)
            have hf := lz_r hx hf
            clear hx
            obtain ⟨h24, hf⟩ := gd_e hf
            refine go_iast (f := a8) (pc' := 82) hC 23 layM_23 rfl rfl dX12_chanceWith_81 (okx_in h24) rfl rfl (fun a25 ha L3' hL => ?_)
            have hf := lz_r ha hf
            clear ha
            obtain rfl : L3' = [(17, ((x_S X).2.2.1 17)), (18, ((x_S X).2.2.1 18)), (19, ((x_S X).2.2.1 19)), (20, ((x_S X).2.2.1 20)), (22, a20), (23, a25)] := hL.symm
            exact jk82_12 a20 a25 g hf
          · have hf := ite_f h26 hf
            refine go_goto (tgt := 82) hC dX12_chanceWith_42 (by decide) ?_
            exact jk82_12 a7 a8 g hf
  exact l6_29 fuel (0 : Int32) o1.1 o1.2 g hf
theorem dX12_mend_0 : decode cX12_mend 0 = .ok (.iload_n 1, 1) := by decide +kernel
theorem dX12_mend_1 : decode cX12_mend 1 = .ok (.i2l, 1) := by decide +kernel
theorem dX12_mend_2 : decode cX12_mend 2 = .ok (.lconst 0, 1) := by decide +kernel
theorem dX12_mend_3 : decode cX12_mend 3 = .ok (.ldc2_w 416, 3) := by decide +kernel
theorem dX12_mend_6 : decode cX12_mend 6 = .ok (.invokestatic 218, 3) := by decide +kernel
theorem dX12_mend_9 : decode cX12_mend 9 = .ok (.ifCond .ne 7, 3) := by decide +kernel
theorem dX12_mend_12 : decode cX12_mend 12 = .ok (.ldc2_w 373, 3) := by decide +kernel
theorem dX12_mend_15 : decode cX12_mend 15 = .ok (.lreturn, 1) := by decide +kernel
theorem dX12_mend_16 : decode cX12_mend 16 = .ok (.ldc2_w 373, 3) := by decide +kernel
theorem dX12_mend_19 : decode cX12_mend 19 = .ok (.lstore_n 2, 1) := by decide +kernel
theorem dX12_mend_20 : decode cX12_mend 20 = .ok (.iconst 0, 1) := by decide +kernel
theorem dX12_mend_21 : decode cX12_mend 21 = .ok (.istore 4, 2) := by decide +kernel
theorem dX12_mend_23 : decode cX12_mend 23 = .ok (.iload 4, 2) := by decide +kernel
theorem dX12_mend_25 : decode cX12_mend 25 = .ok (.iconst 1, 1) := by decide +kernel
theorem dX12_mend_26 : decode cX12_mend 26 = .ok (.aload_n 0, 1) := by decide +kernel
theorem dX12_mend_27 : decode cX12_mend 27 = .ok (.getfield 303, 3) := by decide +kernel
theorem dX12_mend_30 : decode cX12_mend 30 = .ok (.ishl, 1) := by decide +kernel
theorem dX12_mend_31 : decode cX12_mend 31 = .ok (.if_icmp .ge 75, 3) := by decide +kernel
theorem dX12_mend_34 : decode cX12_mend 34 = .ok (.aload_n 0, 1) := by decide +kernel
theorem dX12_mend_35 : decode cX12_mend 35 = .ok (.iload 4, 2) := by decide +kernel
theorem dX12_mend_37 : decode cX12_mend 37 = .ok (.invokevirtual 418, 3) := by decide +kernel
theorem dX12_mend_40 : decode cX12_mend 40 = .ok (.istore 5, 2) := by decide +kernel
theorem dX12_mend_42 : decode cX12_mend 42 = .ok (.iload 5, 2) := by decide +kernel
theorem dX12_mend_44 : decode cX12_mend 44 = .ok (.iload_n 1, 1) := by decide +kernel
theorem dX12_mend_45 : decode cX12_mend 45 = .ok (.if_icmp .le 6, 3) := by decide +kernel
theorem dX12_mend_48 : decode cX12_mend 48 = .ok (.goto 52, 3) := by decide +kernel
theorem dX12_mend_51 : decode cX12_mend 51 = .ok (.aload_n 0, 1) := by decide +kernel
theorem dX12_mend_52 : decode cX12_mend 52 = .ok (.iload 4, 2) := by decide +kernel
theorem dX12_mend_54 : decode cX12_mend 54 = .ok (.invokevirtual 421, 3) := by decide +kernel
theorem dX12_mend_57 : decode cX12_mend 57 = .ok (.lstore 6, 2) := by decide +kernel
theorem dX12_mend_59 : decode cX12_mend 59 = .ok (.lload 6, 2) := by decide +kernel
theorem dX12_mend_61 : decode cX12_mend 61 = .ok (.lload_n 2, 1) := by decide +kernel
theorem dX12_mend_62 : decode cX12_mend 62 = .ok (.lcmp, 1) := by decide +kernel
theorem dX12_mend_63 : decode cX12_mend 63 = .ok (.ifCond .lt 37, 3) := by decide +kernel
theorem dX12_mend_66 : decode cX12_mend 66 = .ok (.lload 6, 2) := by decide +kernel
theorem dX12_mend_68 : decode cX12_mend 68 = .ok (.lload_n 2, 1) := by decide +kernel
theorem dX12_mend_69 : decode cX12_mend 69 = .ok (.lcmp, 1) := by decide +kernel
theorem dX12_mend_70 : decode cX12_mend 70 = .ok (.ifCond .ne 15, 3) := by decide +kernel
theorem dX12_mend_73 : decode cX12_mend 73 = .ok (.iload 5, 2) := by decide +kernel
theorem dX12_mend_75 : decode cX12_mend 75 = .ok (.aload_n 0, 1) := by decide +kernel
theorem dX12_mend_76 : decode cX12_mend 76 = .ok (.getfield 424, 3) := by decide +kernel
theorem dX12_mend_79 : decode cX12_mend 79 = .ok (.if_icmp .lt 6, 3) := by decide +kernel
theorem dX12_mend_82 : decode cX12_mend 82 = .ok (.goto 18, 3) := by decide +kernel
theorem dX12_mend_85 : decode cX12_mend 85 = .ok (.lload 6, 2) := by decide +kernel
theorem dX12_mend_87 : decode cX12_mend 87 = .ok (.lstore_n 2, 1) := by decide +kernel
theorem dX12_mend_88 : decode cX12_mend 88 = .ok (.aload_n 0, 1) := by decide +kernel
theorem dX12_mend_89 : decode cX12_mend 89 = .ok (.iload 4, 2) := by decide +kernel
theorem dX12_mend_91 : decode cX12_mend 91 = .ok (.putfield 427, 3) := by decide +kernel
theorem dX12_mend_94 : decode cX12_mend 94 = .ok (.aload_n 0, 1) := by decide +kernel
theorem dX12_mend_95 : decode cX12_mend 95 = .ok (.iload 5, 2) := by decide +kernel
theorem dX12_mend_97 : decode cX12_mend 97 = .ok (.putfield 424, 3) := by decide +kernel
theorem dX12_mend_100 : decode cX12_mend 100 = .ok (.iinc 4 1, 3) := by decide +kernel
theorem dX12_mend_103 : decode cX12_mend 103 = .ok (.goto (-80), 3) := by decide +kernel
theorem dX12_mend_106 : decode cX12_mend 106 = .ok (.aload_n 0, 1) := by decide +kernel
theorem dX12_mend_107 : decode cX12_mend 107 = .ok (.iconst 1, 1) := by decide +kernel
theorem dX12_mend_108 : decode cX12_mend 108 = .ok (.putfield 309, 3) := by decide +kernel
theorem dX12_mend_111 : decode cX12_mend 111 = .ok (.lload_n 2, 1) := by decide +kernel
theorem dX12_mend_112 : decode cX12_mend 112 = .ok (.lreturn, 1) := by decide +kernel
abbrev o_X12_mend : Type := Int64 × Int32 × Int32 × Int32 × Int32 × Int32 × Int32 × (Nat → Int32) × (Nat → Int32) × (Nat → Int32) × (Nat → Int32) × (Nat → Int32) × (Nat → Int32) × (Nat → Int64)
def f_X12_mend_L23 (S : wd_W) (p1 : Int32) (k106_15 : (Int64) → (Int32) → (Int32) → (Int32) → (Int32) → (Int32) → (Nat → Int32) → (Nat → Int32) → (Nat → Int32) → (Nat → Int32) → (Nat → Int32) → (Nat → Int32) → (Nat → Int64) → (Option o_X12_mend)) (r30 : (Int64) → (Int32) → (Int32) → (Int32) → (Int32) → (Int32) → (Int32) → (Nat → Int32) → (Nat → Int32) → (Nat → Int32) → (Nat → Int32) → (Nat → Int32) → (Nat → Int32) → (Nat → Int64) → (Option o_X12_mend)) (x16 : Int64) (x17 : Int32) (x18 : Int32) (x19 : Int32) (x20 : Int32) (x21 : Int32) (x22 : Int32) (a23 : Nat → Int32) (a24 : Nat → Int32) (a25 : Nat → Int32) (a26 : Nat → Int32) (a27 : Nat → Int32) (a28 : Nat → Int32) (a29 : Nat → Int64) : Option o_X12_mend :=
if ((1 : Int32) <<< ((S.1 51) &&& 31)) ≤ x17 then (
k106_15 x16 x18 x19 x20 x21 x22 a23 a24 a25 a26 a27 a28 a29) else (
bd (f_X12_coinsOf (wd_o S [(38, x18), (39, x19), (44, x20), (55, (S.1 55)), (56, x21), (57, x22)] [] [(17, a23), (18, a24), (19, a25), (20, a26), (22, a27), (23, a28)] [(21, a29)] []) x17) fun o31 =>
lk (fun x32 x33 x34 x35 x36 x37 a38 a39 a40 a41 a42 a43 a44 =>
r30 x32 (x17 + (1 : Int32)) x33 x34 x35 x36 x37 a38 a39 a40 a41 a42 a43 a44) fun k100_45 =>
if o31 ≤ p1 then (
bd (f_X12_chanceWith (wd_o S [(38, x18), (39, x19), (44, x20), (55, (S.1 55)), (56, x21), (57, x22)] [] [(17, a23), (18, a24), (19, a25), (20, a26), (22, a27), (23, a28)] [(21, a29)] []) x17) fun o46 =>
if o46.1 < x16 then (
k100_45 x16 o46.2.1 o46.2.2.1 o46.2.2.2.1 x21 x22 o46.2.2.2.2.1 o46.2.2.2.2.2.1 o46.2.2.2.2.2.2.1 o46.2.2.2.2.2.2.2.1 o46.2.2.2.2.2.2.2.2.1 o46.2.2.2.2.2.2.2.2.2.1 o46.2.2.2.2.2.2.2.2.2.2) else (
lk (k100_45 o46.1 o46.2.1 o46.2.2.1 o46.2.2.2.1 x17 o31 o46.2.2.2.2.1 o46.2.2.2.2.2.1 o46.2.2.2.2.2.2.1 o46.2.2.2.2.2.2.2.1 o46.2.2.2.2.2.2.2.2.1 o46.2.2.2.2.2.2.2.2.2.1 o46.2.2.2.2.2.2.2.2.2.2) fun k85_47 =>
if o46.1 = x16 then (
if o31 < x22 then (
k85_47) else (
k100_45 x16 o46.2.1 o46.2.2.1 o46.2.2.2.1 x21 x22 o46.2.2.2.2.1 o46.2.2.2.2.2.1 o46.2.2.2.2.2.2.1 o46.2.2.2.2.2.2.2.1 o46.2.2.2.2.2.2.2.2.1 o46.2.2.2.2.2.2.2.2.2.1 o46.2.2.2.2.2.2.2.2.2.2)) else (
k85_47))) else (
k100_45 x16 x18 x19 x20 x21 x22 a23 a24 a25 a26 a27 a28 a29))
def f_X12_mend (S : wd_W) (p1 : Int32) : Option o_X12_mend :=
bd (f_X12_in p1.toInt64 (0 : Int64) (99999 : Int64)) fun o1 =>
if o1 = 0 then (
some ((-1 : Int64), (S.1 38), (S.1 39), (S.1 44), (S.1 55), (S.1 56), (S.1 57), (S.2.2.1 17), (S.2.2.1 18), (S.2.2.1 19), (S.2.2.1 20), (S.2.2.1 22), (S.2.2.1 23), (S.2.2.2.1 21))) else (
lk (fun x2 x3 x4 x5 x6 x7 a8 a9 a10 a11 a12 a13 a14 =>
some (x2, x3, x4, x5, (1 : Int32), x6, x7, a8, a9, a10, a11, a12, a13, a14)) fun k106_15 =>
it14 (f_X12_mend_L23 S p1 k106_15) fuel (-1 : Int64) (0 : Int32) (S.1 38) (S.1 39) (S.1 44) (S.1 56) (S.1 57) (S.2.2.1 17) (S.2.2.1 18) (S.2.2.1 19) (S.2.2.1 20) (S.2.2.1 22) (S.2.2.1 23) (S.2.2.2.1 21))
set_option maxRecDepth 100000 in
set_option maxHeartbeats 4000000 in
theorem c_X12_mend (l : Launch) (D : va_G) (q g : Nat → Nat) (cy : Nat → ClassId) (z : (Nat → Nat) × (Nat → Nat) × Nat) (S : wd_W) (p1 : Int32) (o : o_X12_mend) (hf : f_X12_mend S p1 = some o) : MX layM l yX12_mend cX12_mend 8 (some .long) ({ frames := 7, cells := 0, slots := 0, locals := 160 } : Room) D q g cy z [.ref (q 0), .int p1] S (some (.long o.1)) (wd_o S [(38, o.2.1), (39, o.2.2.1), (44, o.2.2.2.1), (55, o.2.2.2.2.1), (56, o.2.2.2.2.2.1), (57, o.2.2.2.2.2.2.1)] [] [(17, o.2.2.2.2.2.2.2.1), (18, o.2.2.2.2.2.2.2.2.1), (19, o.2.2.2.2.2.2.2.2.2.1), (20, o.2.2.2.2.2.2.2.2.2.2.1), (22, o.2.2.2.2.2.2.2.2.2.2.2.1), (23, o.2.2.2.2.2.2.2.2.2.2.2.2.1)] [(21, o.2.2.2.2.2.2.2.2.2.2.2.2.2)] []) 0 0 := by
  refine mx_of (own := RX12) (lc := [(0, .ref (q 0)), (1, .int p1)]) (by decide +kernel) rfl layM_ok (Nat.le_of_ble_eq_true rfl) rfl ?_
  intro X hXl hXq hXS hC hQ
  subst hXl; subst hXq; subst hXS
  unfold f_X12_mend at hf
  refine go_keys (L1 := [(38, ((x_S X).1 38)), (39, ((x_S X).1 39)), (44, ((x_S X).1 44)), (55, ((x_S X).1 55)), (56, ((x_S X).1 56)), (57, ((x_S X).1 57))]) (L2 := []) (L3 := [(17, ((x_S X).2.2.1 17)), (18, ((x_S X).2.2.1 18)), (19, ((x_S X).2.2.1 19)), (20, ((x_S X).2.2.1 20)), (22, ((x_S X).2.2.1 22)), (23, ((x_S X).2.2.1 23))]) (L4 := [(21, ((x_S X).2.2.2.1 21))]) (L5 := []) [38, 39, 44, 55, 56, 57] [] [17, 18, 19, 20, 22, 23] [21] [] rfl rfl rfl rfl rfl ?_
  refine go_iload_n (pc' := 1) hC dX12_mend_0 rfl rfl ?_
  refine go_i2l (pc' := 2) hC dX12_mend_1 rfl ?_
  refine go_lconst (pc' := 3) hC dX12_mend_2 kl_0 rfl ?_
  refine go_ldc2 (pc' := 6) hC dX12_mend_3 mw_1112 rfl ?_
  obtain ⟨o1, ho1, hf⟩ := bd_e hf
  refine go_callS0 (pc' := 9) (As := [.long p1.toInt64, .long (0 : Int64), .long (99999 : Int64)]) (st := []) (st' := [.int o1])   hC dX12_mend_6 ⟨mw_525, mw_527, mw_5, yd_yX12_in, yp_yX12_in, Nat.le_of_ble_eq_true rfl, Nat.le_of_ble_eq_true rfl, Nat.le_of_ble_eq_true rfl, Nat.le_of_ble_eq_true rfl⟩ mw_526 rfl rfl (Nat.le_of_ble_eq_true rfl) (c_X12_in (x_l X) (x_D X) (x_q X) g (x_cy X) (x_z X) _ p1.toInt64 (0 : Int64) (99999 : Int64) o1 ho1) rfl rfl (fun g => ?_)
  refine go_if_ne (tgt := 16) (pc' := 12) hC dX12_mend_9 (by decide) rfl (fun h54 => ?_) (fun h54 => ?_)
  · have hf := ite_f h54 hf
    refine go_ldc2 (pc' := 19) hC dX12_mend_16 mw_922 rfl ?_
    refine go_lstore_n (lc' := [(0, .ref (x_q X 0)), (1, .int p1), (2, .long (-1 : Int64))]) (pc' := 20) hC dX12_mend_19 (Nat.le_of_ble_eq_true rfl) rfl rfl ?_
    refine go_iconst (pc' := 21) hC dX12_mend_20 ki_0 rfl ?_
    refine go_istore (lc' := [(0, .ref (x_q X 0)), (1, .int p1), (2, .long (-1 : Int64)), (4, .int (0 : Int32))]) (pc' := 23) hC dX12_mend_21 (Nat.le_of_ble_eq_true rfl) rfl rfl ?_
    obtain ⟨k106_15, hk106_15, hf⟩ := lk_e13 hf
    have jk106_15 : ∀ (x2 : Int64) (x3 : Int32) (x4 : Int32) (x5 : Int32) (x6 : Int32) (x7 : Int32) (a8 : Nat → Int32) (a9 : Nat → Int32) (a10 : Nat → Int32) (a11 : Nat → Int32) (a12 : Nat → Int32) (a13 : Nat → Int32) (a14 : Nat → Int64) (g : Nat → Nat), k106_15 x2 x3 x4 x5 x6 x7 a8 a9 a10 a11 a12 a13 a14 = some o → Go X layM 106 [(0, .ref (x_q X 0)), (2, .long x2)] [] g [(38, x3), (39, x4), (44, x5), (55, ((x_S X).1 55)), (56, x6), (57, x7)] [] [(17, a8), (18, a9), (19, a10), (20, a11), (22, a12), (23, a13)] [(21, a14)] [] 0 0 := by
      intro x2 x3 x4 x5 x6 x7 a8 a9 a10 a11 a12 a13 a14 g hf
      have hf := hk106_15 x2 x3 x4 x5 x6 x7 a8 a9 a10 a11 a12 a13 a14 hf
      clear hk106_15
      refine go_aload_n (pc' := 107) hC dX12_mend_106 rfl rfl ?_
      refine go_iconst (pc' := 108) hC dX12_mend_107 ki_1 rfl ?_
      refine go_puti (L1' := [(38, x3), (39, x4), (44, x5), (55, (1 : Int32)), (56, x6), (57, x7)]) (pc' := 111) hC 0 55 layM_0 rfl rfl inlX12 tyX12_ok nmX12 (Nat.le_of_ble_eq_true rfl) mw_257 rfl rfl rfl rfl dX12_mend_108 rfl rfl rfl ?_
      refine go_lload_n (pc' := 112) hC dX12_mend_111 rfl rfl ?_
      obtain rfl := Option.some.inj hf
      exact go_lret hC hQ dX12_mend_112 rfl rfl rfl rfl rfl
    clear hk106_15
    have l23_53 : ∀ (nn : Nat) (x16 : Int64) (x17 : Int32) (x18 : Int32) (x19 : Int32) (x20 : Int32) (x21 : Int32) (x22 : Int32) (a23 : Nat → Int32) (a24 : Nat → Int32) (a25 : Nat → Int32) (a26 : Nat → Int32) (a27 : Nat → Int32) (a28 : Nat → Int32) (a29 : Nat → Int64) (g : Nat → Nat), it14 (f_X12_mend_L23 (x_S X) p1 k106_15) nn x16 x17 x18 x19 x20 x21 x22 a23 a24 a25 a26 a27 a28 a29 = some o → Go X layM 23 [(0, .ref (x_q X 0)), (1, .int p1), (2, .long x16), (4, .int x17)] [] g [(38, x18), (39, x19), (44, x20), (55, ((x_S X).1 55)), (56, x21), (57, x22)] [] [(17, a23), (18, a24), (19, a25), (20, a26), (22, a27), (23, a28)] [(21, a29)] [] 0 0 := by
      intro nn
      induction nn with
      | zero =>
        intro x16 x17 x18 x19 x20 x21 x22 a23 a24 a25 a26 a27 a28 a29 g hf
        exact none_no hf
      | succ nn ih =>
        intro x16 x17 x18 x19 x20 x21 x22 a23 a24 a25 a26 a27 a28 a29 g hf
        have hf : f_X12_mend_L23 (x_S X) p1 k106_15 (it14 (f_X12_mend_L23 (x_S X) p1 k106_15) nn) x16 x17 x18 x19 x20 x21 x22 a23 a24 a25 a26 a27 a28 a29 = some o := hf
        generalize it14 (f_X12_mend_L23 (x_S X) p1 k106_15) nn = r30 at ih hf
        unfold f_X12_mend_L23 at hf
        refine go_iload (pc' := 25) hC dX12_mend_23 rfl rfl ?_
        refine go_iconst (pc' := 26) hC dX12_mend_25 ki_1 rfl ?_
        refine go_aload_n (pc' := 27) hC dX12_mend_26 rfl rfl ?_
        refine go_geti (v := ((x_S X).1 51)) (pc' := 30) hC 0 51 layM_0 rfl rfl inlX12 (Nat.le_of_ble_eq_true rfl) mw_255 rfl dX12_mend_27 rfl rfl ?_
        refine go_ishl (pc' := 31) hC dX12_mend_30 rfl ?_
        refine go_icmp_ge (tgt := 106) (pc' := 34) hC dX12_mend_31 (by decide) rfl (fun h52 => ?_) (fun h52 => ?_)
        · have hf := ite_t h52 hf
          refine go_sub [0, 2] rfl ?_
          exact jk106_15 x16 x18 x19 x20 x21 x22 a23 a24 a25 a26 a27 a28 a29 g hf
        · have hf := ite_f h52 hf
          refine go_aload_n (pc' := 35) hC dX12_mend_34 rfl rfl ?_
          refine go_iload (pc' := 37) hC dX12_mend_35 rfl rfl ?_
          obtain ⟨o31, ho31, hf⟩ := bd_e hf
          refine go_callV0 (pc' := 40) (As := [.int x17]) (st := []) (st' := [.int o31])   (b := 0) hC dX12_mend_37 ⟨mw_1115, mw_1118, mw_5, yd_yX12_coinsOf, yp_yX12_coinsOf, Nat.le_of_ble_eq_true rfl, Nat.le_of_ble_eq_true rfl, Nat.le_of_ble_eq_true rfl, Nat.le_of_ble_eq_true rfl⟩ mw_1116 mw_1117 layM_0 rfl rfl rfl (Nat.le_of_ble_eq_true rfl) (c_X12_coinsOf (x_l X) (x_D X) (x_q X) g (x_cy X) (x_z X) _ x17 o31 ho31) rfl rfl (fun g => ?_)
          refine go_istore (lc' := [(0, .ref (x_q X 0)), (1, .int p1), (2, .long x16), (4, .int x17), (5, .int o31)]) (pc' := 42) hC dX12_mend_40 (Nat.le_of_ble_eq_true rfl) rfl rfl ?_
          refine go_iload (pc' := 44) hC dX12_mend_42 rfl rfl ?_
          refine go_iload_n (pc' := 45) hC dX12_mend_44 rfl rfl ?_
          obtain ⟨k100_45, hk100_45, hf⟩ := lk_e13 hf
          have jk100_45 : ∀ (x32 : Int64) (x33 : Int32) (x34 : Int32) (x35 : Int32) (x36 : Int32) (x37 : Int32) (a38 : Nat → Int32) (a39 : Nat → Int32) (a40 : Nat → Int32) (a41 : Nat → Int32) (a42 : Nat → Int32) (a43 : Nat → Int32) (a44 : Nat → Int64) (g : Nat → Nat), k100_45 x32 x33 x34 x35 x36 x37 a38 a39 a40 a41 a42 a43 a44 = some o → Go X layM 100 [(0, .ref (x_q X 0)), (1, .int p1), (2, .long x32), (4, .int x17)] [] g [(38, x33), (39, x34), (44, x35), (55, ((x_S X).1 55)), (56, x36), (57, x37)] [] [(17, a38), (18, a39), (19, a40), (20, a41), (22, a42), (23, a43)] [(21, a44)] [] 0 0 := by
            intro x32 x33 x34 x35 x36 x37 a38 a39 a40 a41 a42 a43 a44 g hf
            have hf := hk100_45 x32 x33 x34 x35 x36 x37 a38 a39 a40 a41 a42 a43 a44 hf
            clear hk100_45
            refine go_iinc (lc' := [(0, .ref (x_q X 0)), (1, .int p1), (2, .long x32), (4, .int (x17 + (1 : Int32)))]) (pc' := 103) hC dX12_mend_100 rfl ki_1 (Nat.le_of_ble_eq_true rfl) rfl rfl ?_
            refine go_goto (tgt := 23) hC dX12_mend_103 (by decide) ?_
            exact ih x32 (x17 + (1 : Int32)) x33 x34 x35 x36 x37 a38 a39 a40 a41 a42 a43 a44 g hf
          clear hk100_45
          refine go_icmp_le (tgt := 51) (pc' := 48) hC dX12_mend_45 (by decide) rfl (fun h51 => ?_) (fun h51 => ?_)
          · have hf := ite_t h51 hf
            refine go_aload_n (pc' := 52) hC dX12_mend_51 rfl rfl ?_
            refine go_iload (pc' := 54) hC dX12_mend_52 rfl rfl ?_
            obtain ⟨o46, ho46, hf⟩ := bd_e hf
            refine go_callV (pc' := 57) (As := [.int x17]) (st := []) (st' := [.long o46.1]) (L1' := [(38, o46.2.1), (39, o46.2.2.1), (44, o46.2.2.2.1), (55, ((x_S X).1 55)), (56, x21), (57, x22)]) (L2' := []) (L3' := [(17, o46.2.2.2.2.1), (18, o46.2.2.2.2.2.1), (19, o46.2.2.2.2.2.2.1), (20, o46.2.2.2.2.2.2.2.1), (22, o46.2.2.2.2.2.2.2.2.1), (23, o46.2.2.2.2.2.2.2.2.2.1)]) (L4' := [(21, o46.2.2.2.2.2.2.2.2.2.2)]) (L5' := []) (cells' := 0) (slots' := 0) (b := 0) hC dX12_mend_54 ⟨mw_1119, mw_1122, mw_5, yd_yX12_chanceWith, yp_yX12_chanceWith, Nat.le_of_ble_eq_true rfl, Nat.le_of_ble_eq_true rfl, Nat.le_of_ble_eq_true rfl, Nat.le_of_ble_eq_true rfl⟩ mw_1120 mw_1121 layM_0 rfl rfl rfl (Nat.le_of_ble_eq_true rfl) (c_X12_chanceWith (x_l X) (x_D X) (x_q X) g (x_cy X) (x_z X) _ x17 o46 ho46) rfl rfl rfl rfl rfl rfl rfl rfl rfl rfl rfl rfl rfl rfl (fun g => ?_)
            refine go_lstore (lc' := [(0, .ref (x_q X 0)), (1, .int p1), (2, .long x16), (4, .int x17), (5, .int o31), (6, .long o46.1)]) (pc' := 59) hC dX12_mend_57 (Nat.le_of_ble_eq_true rfl) rfl rfl ?_
            refine go_lload (pc' := 61) hC dX12_mend_59 rfl rfl ?_
            refine go_lload_n (pc' := 62) hC dX12_mend_61 rfl rfl ?_
            refine go_lcmp (pc' := 63) hC dX12_mend_62 rfl ?_
            refine go_if_lt (tgt := 100) (pc' := 66) hC dX12_mend_63 (by decide) rfl (fun h50 => ?_) (fun h50 => ?_)
            · have hf := ite_t (lg_lt.mp h50) hf
              refine go_sub [0, 1, 2, 4] rfl ?_
              exact jk100_45 x16 o46.2.1 o46.2.2.1 o46.2.2.2.1 x21 x22 o46.2.2.2.2.1 o46.2.2.2.2.2.1 o46.2.2.2.2.2.2.1 o46.2.2.2.2.2.2.2.1 o46.2.2.2.2.2.2.2.2.1 o46.2.2.2.2.2.2.2.2.2.1 o46.2.2.2.2.2.2.2.2.2.2 g hf
            · have hf := ite_f (mt lg_lt.mpr h50) hf
              refine go_lload (pc' := 68) hC dX12_mend_66 rfl rfl ?_
              refine go_lload_n (pc' := 69) hC dX12_mend_68 rfl rfl ?_
              refine go_lcmp (pc' := 70) hC dX12_mend_69 rfl ?_
              obtain ⟨k85_47, hk85_47, hf⟩ := lk_e0 hf
              have jk85_47 : ∀ (g : Nat → Nat), k85_47 = some o → Go X layM 85 [(0, .ref (x_q X 0)), (1, .int p1), (4, .int x17), (5, .int o31), (6, .long o46.1)] [] g [(38, o46.2.1), (39, o46.2.2.1), (44, o46.2.2.2.1), (55, ((x_S X).1 55)), (56, x21), (57, x22)] [] [(17, o46.2.2.2.2.1), (18, o46.2.2.2.2.2.1), (19, o46.2.2.2.2.2.2.1), (20, o46.2.2.2.2.2.2.2.1), (22, o46.2.2.2.2.2.2.2.2.1), (23, o46.2.2.2.2.2.2.2.2.2.1)] [(21, o46.2.2.2.2.2.2.2.2.2.2)] [] 0 0 := by
                intro  g hf
                have hf := hk85_47 hf
                clear hk85_47
                refine go_lload (pc' := 87) hC dX12_mend_85 rfl rfl ?_
                refine go_lstore_n (lc' := [(0, .ref (x_q X 0)), (1, .int p1), (2, .long o46.1), (4, .int x17), (5, .int o31), (6, .long o46.1)]) (pc' := 88) hC dX12_mend_87 (Nat.le_of_ble_eq_true rfl) rfl rfl ?_
                refine go_aload_n (pc' := 89) hC dX12_mend_88 rfl rfl ?_
                refine go_iload (pc' := 91) hC dX12_mend_89 rfl rfl ?_
                refine go_puti (L1' := [(38, o46.2.1), (39, o46.2.2.1), (44, o46.2.2.2.1), (55, ((x_S X).1 55)), (56, x17), (57, x22)]) (pc' := 94) hC 0 56 layM_0 rfl rfl inlX12 tyX12_ok nmX12 (Nat.le_of_ble_eq_true rfl) mw_1114 rfl rfl rfl rfl dX12_mend_91 rfl rfl rfl ?_
                refine go_aload_n (pc' := 95) hC dX12_mend_94 rfl rfl ?_
                refine go_iload (pc' := 97) hC dX12_mend_95 rfl rfl ?_
                refine go_puti (L1' := [(38, o46.2.1), (39, o46.2.2.1), (44, o46.2.2.2.1), (55, ((x_S X).1 55)), (56, x17), (57, o31)]) (pc' := 100) hC 0 57 layM_0 rfl rfl inlX12 tyX12_ok nmX12 (Nat.le_of_ble_eq_true rfl) mw_1113 rfl rfl rfl rfl dX12_mend_97 rfl rfl rfl ?_
                refine go_sub [0, 1, 2, 4] rfl ?_
                exact jk100_45 o46.1 o46.2.1 o46.2.2.1 o46.2.2.2.1 x17 o31 o46.2.2.2.2.1 o46.2.2.2.2.2.1 o46.2.2.2.2.2.2.1 o46.2.2.2.2.2.2.2.1 o46.2.2.2.2.2.2.2.2.1 o46.2.2.2.2.2.2.2.2.2.1 o46.2.2.2.2.2.2.2.2.2.2 g hf
              clear hk85_47
              refine go_if_ne (tgt := 85) (pc' := 73) hC dX12_mend_70 (by decide) rfl (fun h49 => ?_) (fun h49 => ?_)
              · have hf := ite_f (mt lg_eq.mpr h49) hf
                refine go_sub [0, 1, 4, 5, 6] rfl ?_
                exact jk85_47 g hf
              · have hf := ite_t (lg_eq.mp h49) hf
                refine go_iload (pc' := 75) hC dX12_mend_73 rfl rfl ?_
                refine go_aload_n (pc' := 76) hC dX12_mend_75 rfl rfl ?_
                refine go_geti (v := x22) (pc' := 79) hC 0 57 layM_0 rfl rfl inlX12 (Nat.le_of_ble_eq_true rfl) mw_1113 rfl dX12_mend_76 rfl rfl ?_
                refine go_icmp_lt (tgt := 85) (pc' := 82) hC dX12_mend_79 (by decide) rfl (fun h48 => ?_) (fun h48 => ?_)
                · have hf := ite_t h48 hf
                  refine go_sub [0, 1, 4, 5, 6] rfl ?_
                  exact jk85_47 g hf
                · have hf := ite_f h48 hf
                  refine go_goto (tgt := 100) hC dX12_mend_82 (by decide) ?_
                  refine go_sub [0, 1, 2, 4] rfl ?_
                  exact jk100_45 x16 o46.2.1 o46.2.2.1 o46.2.2.2.1 x21 x22 o46.2.2.2.2.1 o46.2.2.2.2.2.1 o46.2.2.2.2.2.2.1 o46.2.2.2.2.2.2.2.1 o46.2.2.2.2.2.2.2.2.1 o46.2.2.2.2.2.2.2.2.2.1 o46.2.2.2.2.2.2.2.2.2.2 g hf
          · have hf := ite_f h51 hf
            refine go_goto (tgt := 100) hC dX12_mend_48 (by decide) ?_
            refine go_sub [0, 1, 2, 4] rfl ?_
            exact jk100_45 x16 x18 x19 x20 x21 x22 a23 a24 a25 a26 a27 a28 a29 g hf
    exact l23_53 fuel (-1 : Int64) (0 : Int32) ((x_S X).1 38) ((x_S X).1 39) ((x_S X).1 44) ((x_S X).1 56) ((x_S X).1 57) ((x_S X).2.2.1 17) ((x_S X).2.2.1 18) ((x_S X).2.2.1 19) ((x_S X).2.2.1 20) ((x_S X).2.2.1 22) ((x_S X).2.2.1 23) ((x_S X).2.2.2.1 21) g hf
  · have hf := ite_t h54 hf
    refine go_ldc2 (pc' := 15) hC dX12_mend_12 mw_922 rfl ?_
    obtain rfl := Option.some.inj hf
    exact go_lret hC hQ dX12_mend_15 rfl rfl rfl rfl rfl
theorem dX12_mended_0 : decode cX12_mended 0 = .ok (.aload_n 0, 1) := by decide +kernel
theorem dX12_mended_1 : decode cX12_mended 1 = .ok (.getfield 309, 3) := by decide +kernel
theorem dX12_mended_4 : decode cX12_mended 4 = .ok (.ifCond .ne 7, 3) := by decide +kernel
theorem dX12_mended_7 : decode cX12_mended 7 = .ok (.iconst (-1), 1) := by decide +kernel
theorem dX12_mended_8 : decode cX12_mended 8 = .ok (.goto 27, 3) := by decide +kernel
theorem dX12_mended_11 : decode cX12_mended 11 = .ok (.iload_n 1, 1) := by decide +kernel
theorem dX12_mended_12 : decode cX12_mended 12 = .ok (.ifCond .ne 10, 3) := by decide +kernel
theorem dX12_mended_15 : decode cX12_mended 15 = .ok (.aload_n 0, 1) := by decide +kernel
theorem dX12_mended_16 : decode cX12_mended 16 = .ok (.getfield 427, 3) := by decide +kernel
theorem dX12_mended_19 : decode cX12_mended 19 = .ok (.goto 16, 3) := by decide +kernel
theorem dX12_mended_22 : decode cX12_mended 22 = .ok (.iload_n 1, 1) := by decide +kernel
theorem dX12_mended_23 : decode cX12_mended 23 = .ok (.iconst 1, 1) := by decide +kernel
theorem dX12_mended_24 : decode cX12_mended 24 = .ok (.if_icmp .ne 10, 3) := by decide +kernel
theorem dX12_mended_27 : decode cX12_mended 27 = .ok (.aload_n 0, 1) := by decide +kernel
theorem dX12_mended_28 : decode cX12_mended 28 = .ok (.getfield 424, 3) := by decide +kernel
theorem dX12_mended_31 : decode cX12_mended 31 = .ok (.goto 4, 3) := by decide +kernel
theorem dX12_mended_34 : decode cX12_mended 34 = .ok (.iconst (-1), 1) := by decide +kernel
theorem dX12_mended_35 : decode cX12_mended 35 = .ok (.ireturn, 1) := by decide +kernel
abbrev o_X12_mended : Type := Int32
def f_X12_mended (S : wd_W) (p1 : Int32) : Option o_X12_mended :=
if (S.1 55) = 0 then (
some (-1 : Int32)) else (
if p1 = 0 then (
some (S.1 56)) else (
if p1 = (1 : Int32) then (
some (S.1 57)) else (
some (-1 : Int32))))
set_option maxRecDepth 100000 in
set_option maxHeartbeats 4000000 in
theorem c_X12_mended (l : Launch) (D : va_G) (q g : Nat → Nat) (cy : Nat → ClassId) (z : (Nat → Nat) × (Nat → Nat) × Nat) (S : wd_W) (p1 : Int32) (o : o_X12_mended) (hf : f_X12_mended S p1 = some o) : MX layM l yX12_mended cX12_mended 2 (some .int) ({ frames := 0, cells := 0, slots := 0, locals := 0 } : Room) D q g cy z [.ref (q 0), .int p1] S (some (.int o)) (wd_o S [] [] [] [] []) 0 0 := by
  refine mx_of (own := RX12) (lc := [(0, .ref (q 0)), (1, .int p1)]) (by decide +kernel) rfl layM_ok (Nat.le_of_ble_eq_true rfl) rfl ?_
  intro X hXl hXq hXS hC hQ
  subst hXl; subst hXq; subst hXS
  unfold f_X12_mended at hf
  refine go_aload_n (pc' := 1) hC dX12_mended_0 rfl rfl ?_
  refine go_geti (v := ((x_S X).1 55)) (pc' := 4) hC 0 55 layM_0 rfl rfl inlX12 (Nat.le_of_ble_eq_true rfl) mw_257 rfl dX12_mended_1 rfl rfl ?_
  refine go_if_ne (tgt := 11) (pc' := 7) hC dX12_mended_4 (by decide) rfl (fun h3 => ?_) (fun h3 => ?_)
  · have hf := ite_f h3 hf
    refine go_iload_n (pc' := 12) hC dX12_mended_11 rfl rfl ?_
    refine go_if_ne (tgt := 22) (pc' := 15) hC dX12_mended_12 (by decide) rfl (fun h2 => ?_) (fun h2 => ?_)
    · have hf := ite_f h2 hf
      refine go_iload_n (pc' := 23) hC dX12_mended_22 rfl rfl ?_
      refine go_iconst (pc' := 24) hC dX12_mended_23 ki_1 rfl ?_
      refine go_icmp_ne (tgt := 34) (pc' := 27) hC dX12_mended_24 (by decide) rfl (fun h1 => ?_) (fun h1 => ?_)
      · have hf := ite_f h1 hf
        refine go_iconst (pc' := 35) hC dX12_mended_34 ki_m1 rfl ?_
        obtain rfl := Option.some.inj hf
        exact go_iret hC hQ dX12_mended_35 rfl rfl rfl rfl rfl rfl
      · have hf := ite_t h1 hf
        refine go_aload_n (pc' := 28) hC dX12_mended_27 rfl rfl ?_
        refine go_geti (v := ((x_S X).1 57)) (pc' := 31) hC 0 57 layM_0 rfl rfl inlX12 (Nat.le_of_ble_eq_true rfl) mw_1113 rfl dX12_mended_28 rfl rfl ?_
        refine go_goto (tgt := 35) hC dX12_mended_31 (by decide) ?_
        obtain rfl := Option.some.inj hf
        exact go_iret hC hQ dX12_mended_35 rfl rfl rfl rfl rfl rfl
    · have hf := ite_t h2 hf
      refine go_aload_n (pc' := 16) hC dX12_mended_15 rfl rfl ?_
      refine go_geti (v := ((x_S X).1 56)) (pc' := 19) hC 0 56 layM_0 rfl rfl inlX12 (Nat.le_of_ble_eq_true rfl) mw_1114 rfl dX12_mended_16 rfl rfl ?_
      refine go_goto (tgt := 35) hC dX12_mended_19 (by decide) ?_
      obtain rfl := Option.some.inj hf
      exact go_iret hC hQ dX12_mended_35 rfl rfl rfl rfl rfl rfl
  · have hf := ite_t h3 hf
    refine go_iconst (pc' := 8) hC dX12_mended_7 ki_m1 rfl ?_
    refine go_goto (tgt := 35) hC dX12_mended_8 (by decide) ?_
    obtain rfl := Option.some.inj hf
    exact go_iret hC hQ dX12_mended_35 rfl rfl rfl rfl rfl rfl
theorem dX12_tries_0 : decode cX12_tries 0 = .ok (.aload_n 0, 1) := by decide +kernel
theorem dX12_tries_1 : decode cX12_tries 1 = .ok (.getfield 32, 3) := by decide +kernel
theorem dX12_tries_4 : decode cX12_tries 4 = .ok (.aload_n 0, 1) := by decide +kernel
theorem dX12_tries_5 : decode cX12_tries 5 = .ok (.getfield 279, 3) := by decide +kernel
theorem dX12_tries_8 : decode cX12_tries 8 = .ok (.iload_n 1, 1) := by decide +kernel
theorem dX12_tries_9 : decode cX12_tries 9 = .ok (.iastore, 1) := by decide +kernel
theorem dX12_tries_10 : decode cX12_tries 10 = .ok (.aload_n 0, 1) := by decide +kernel
theorem dX12_tries_11 : decode cX12_tries 11 = .ok (.getfield 35, 3) := by decide +kernel
theorem dX12_tries_14 : decode cX12_tries 14 = .ok (.aload_n 0, 1) := by decide +kernel
theorem dX12_tries_15 : decode cX12_tries 15 = .ok (.getfield 279, 3) := by decide +kernel
theorem dX12_tries_18 : decode cX12_tries 18 = .ok (.iload_n 2, 1) := by decide +kernel
theorem dX12_tries_19 : decode cX12_tries 19 = .ok (.iastore, 1) := by decide +kernel
theorem dX12_tries_20 : decode cX12_tries 20 = .ok (.aload_n 0, 1) := by decide +kernel
theorem dX12_tries_21 : decode cX12_tries 21 = .ok (.getfield 41, 3) := by decide +kernel
theorem dX12_tries_24 : decode cX12_tries 24 = .ok (.aload_n 0, 1) := by decide +kernel
theorem dX12_tries_25 : decode cX12_tries 25 = .ok (.getfield 279, 3) := by decide +kernel
theorem dX12_tries_28 : decode cX12_tries 28 = .ok (.iconst 1, 1) := by decide +kernel
theorem dX12_tries_29 : decode cX12_tries 29 = .ok (.bastore, 1) := by decide +kernel
theorem dX12_tries_30 : decode cX12_tries 30 = .ok (.aload_n 0, 1) := by decide +kernel
theorem dX12_tries_31 : decode cX12_tries 31 = .ok (.getfield 45, 3) := by decide +kernel
theorem dX12_tries_34 : decode cX12_tries 34 = .ok (.aload_n 0, 1) := by decide +kernel
theorem dX12_tries_35 : decode cX12_tries 35 = .ok (.getfield 279, 3) := by decide +kernel
theorem dX12_tries_38 : decode cX12_tries 38 = .ok (.iconst 1, 1) := by decide +kernel
theorem dX12_tries_39 : decode cX12_tries 39 = .ok (.iastore, 1) := by decide +kernel
theorem dX12_tries_40 : decode cX12_tries 40 = .ok (.lconst 0, 1) := by decide +kernel
theorem dX12_tries_41 : decode cX12_tries 41 = .ok (.lstore 4, 2) := by decide +kernel
theorem dX12_tries_43 : decode cX12_tries 43 = .ok (.iconst 0, 1) := by decide +kernel
theorem dX12_tries_44 : decode cX12_tries 44 = .ok (.istore 6, 2) := by decide +kernel
theorem dX12_tries_46 : decode cX12_tries 46 = .ok (.iload 6, 2) := by decide +kernel
theorem dX12_tries_48 : decode cX12_tries 48 = .ok (.aload_n 0, 1) := by decide +kernel
theorem dX12_tries_49 : decode cX12_tries 49 = .ok (.invokevirtual 354, 3) := by decide +kernel
theorem dX12_tries_52 : decode cX12_tries 52 = .ok (.if_icmp .ge 63, 3) := by decide +kernel
theorem dX12_tries_55 : decode cX12_tries 55 = .ok (.aload_n 0, 1) := by decide +kernel
theorem dX12_tries_56 : decode cX12_tries 56 = .ok (.getfield 70, 3) := by decide +kernel
theorem dX12_tries_59 : decode cX12_tries 59 = .ok (.iload 6, 2) := by decide +kernel
theorem dX12_tries_61 : decode cX12_tries 61 = .ok (.baload, 1) := by decide +kernel
theorem dX12_tries_62 : decode cX12_tries 62 = .ok (.ifCond .eq 22, 3) := by decide +kernel
theorem dX12_tries_65 : decode cX12_tries 65 = .ok (.lload 4, 2) := by decide +kernel
theorem dX12_tries_67 : decode cX12_tries 67 = .ok (.ldc2_w 367, 3) := by decide +kernel
theorem dX12_tries_70 : decode cX12_tries 70 = .ok (.aload_n 0, 1) := by decide +kernel
theorem dX12_tries_71 : decode cX12_tries 71 = .ok (.getfield 73, 3) := by decide +kernel
theorem dX12_tries_74 : decode cX12_tries 74 = .ok (.iload 6, 2) := by decide +kernel
theorem dX12_tries_76 : decode cX12_tries 76 = .ok (.laload, 1) := by decide +kernel
theorem dX12_tries_77 : decode cX12_tries 77 = .ok (.lmul, 1) := by decide +kernel
theorem dX12_tries_78 : decode cX12_tries 78 = .ok (.ladd, 1) := by decide +kernel
theorem dX12_tries_79 : decode cX12_tries 79 = .ok (.lstore 4, 2) := by decide +kernel
theorem dX12_tries_81 : decode cX12_tries 81 = .ok (.goto 28, 3) := by decide +kernel
theorem dX12_tries_84 : decode cX12_tries 84 = .ok (.aload_n 0, 1) := by decide +kernel
theorem dX12_tries_85 : decode cX12_tries 85 = .ok (.iload 6, 2) := by decide +kernel
theorem dX12_tries_87 : decode cX12_tries 87 = .ok (.iconst 1, 1) := by decide +kernel
theorem dX12_tries_88 : decode cX12_tries 88 = .ok (.invokevirtual 357, 3) := by decide +kernel
theorem dX12_tries_91 : decode cX12_tries 91 = .ok (.ifCond .eq 18, 3) := by decide +kernel
theorem dX12_tries_94 : decode cX12_tries 94 = .ok (.lload 4, 2) := by decide +kernel
theorem dX12_tries_96 : decode cX12_tries 96 = .ok (.iload_n 3, 1) := by decide +kernel
theorem dX12_tries_97 : decode cX12_tries 97 = .ok (.i2l, 1) := by decide +kernel
theorem dX12_tries_98 : decode cX12_tries 98 = .ok (.aload_n 0, 1) := by decide +kernel
theorem dX12_tries_99 : decode cX12_tries 99 = .ok (.getfield 73, 3) := by decide +kernel
theorem dX12_tries_102 : decode cX12_tries 102 = .ok (.iload 6, 2) := by decide +kernel
theorem dX12_tries_104 : decode cX12_tries 104 = .ok (.laload, 1) := by decide +kernel
theorem dX12_tries_105 : decode cX12_tries 105 = .ok (.lmul, 1) := by decide +kernel
theorem dX12_tries_106 : decode cX12_tries 106 = .ok (.ladd, 1) := by decide +kernel
theorem dX12_tries_107 : decode cX12_tries 107 = .ok (.lstore 4, 2) := by decide +kernel
theorem dX12_tries_109 : decode cX12_tries 109 = .ok (.iinc 6 1, 3) := by decide +kernel
theorem dX12_tries_112 : decode cX12_tries 112 = .ok (.goto (-66), 3) := by decide +kernel
theorem dX12_tries_115 : decode cX12_tries 115 = .ok (.lload 4, 2) := by decide +kernel
theorem dX12_tries_117 : decode cX12_tries 117 = .ok (.aload_n 0, 1) := by decide +kernel
theorem dX12_tries_118 : decode cX12_tries 118 = .ok (.getfield 101, 3) := by decide +kernel
theorem dX12_tries_121 : decode cX12_tries 121 = .ok (.iconst 0, 1) := by decide +kernel
theorem dX12_tries_122 : decode cX12_tries 122 = .ok (.laload, 1) := by decide +kernel
theorem dX12_tries_123 : decode cX12_tries 123 = .ok (.lcmp, 1) := by decide +kernel
theorem dX12_tries_124 : decode cX12_tries 124 = .ok (.ifCond .gt 4, 3) := by decide +kernel
theorem dX12_tries_127 : decode cX12_tries 127 = .ok (.return_, 1) := by decide +kernel
theorem dX12_tries_128 : decode cX12_tries 128 = .ok (.aload_n 0, 1) := by decide +kernel
theorem dX12_tries_129 : decode cX12_tries 129 = .ok (.getfield 101, 3) := by decide +kernel
theorem dX12_tries_132 : decode cX12_tries 132 = .ok (.iconst 0, 1) := by decide +kernel
theorem dX12_tries_133 : decode cX12_tries 133 = .ok (.lload 4, 2) := by decide +kernel
theorem dX12_tries_135 : decode cX12_tries 135 = .ok (.lastore, 1) := by decide +kernel
theorem dX12_tries_136 : decode cX12_tries 136 = .ok (.aload_n 0, 1) := by decide +kernel
theorem dX12_tries_137 : decode cX12_tries 137 = .ok (.getfield 101, 3) := by decide +kernel
theorem dX12_tries_140 : decode cX12_tries 140 = .ok (.iconst 1, 1) := by decide +kernel
theorem dX12_tries_141 : decode cX12_tries 141 = .ok (.iload_n 1, 1) := by decide +kernel
theorem dX12_tries_142 : decode cX12_tries 142 = .ok (.i2l, 1) := by decide +kernel
theorem dX12_tries_143 : decode cX12_tries 143 = .ok (.lastore, 1) := by decide +kernel
theorem dX12_tries_144 : decode cX12_tries 144 = .ok (.aload_n 0, 1) := by decide +kernel
theorem dX12_tries_145 : decode cX12_tries 145 = .ok (.getfield 101, 3) := by decide +kernel
theorem dX12_tries_148 : decode cX12_tries 148 = .ok (.iconst 2, 1) := by decide +kernel
theorem dX12_tries_149 : decode cX12_tries 149 = .ok (.iload_n 2, 1) := by decide +kernel
theorem dX12_tries_150 : decode cX12_tries 150 = .ok (.i2l, 1) := by decide +kernel
theorem dX12_tries_151 : decode cX12_tries 151 = .ok (.lastore, 1) := by decide +kernel
theorem dX12_tries_152 : decode cX12_tries 152 = .ok (.return_, 1) := by decide +kernel
abbrev o_X12_tries : Type := Int32 × Int32 × (Nat → Int32) × (Nat → Int32) × (Nat → Int32) × (Nat → Int32) × (Nat → Int32) × (Nat → Int32) × (Nat → Int32) × (Nat → Int64)
def f_X12_tries_L46 (S : wd_W) (p3 : Int32) (a2 : Nat → Int32) (a4 : Nat → Int32) (a6 : Nat → Int32) (a8 : Nat → Int32) (k115_15 : (Int64) → (Int32) → (Int32) → (Nat → Int32) → (Nat → Int32) → (Nat → Int32) → (Option o_X12_tries)) (r33 : (Int64) → (Int32) → (Int32) → (Int32) → (Nat → Int32) → (Nat → Int32) → (Nat → Int32) → (Option o_X12_tries)) (x26 : Int64) (x27 : Int32) (x28 : Int32) (x29 : Int32) (a30 : Nat → Int32) (a31 : Nat → Int32) (a32 : Nat → Int32) : Option o_X12_tries :=
bd (f_X12_sets (wd_o S [(38, x28), (39, x29)] [] [(8, a2), (9, a4), (11, a6), (12, a8), (17, a30), (18, a31), (19, a32)] [(30, (S.2.2.2.1 30))] [])) fun o34 =>
if o34 ≤ x27 then (
k115_15 x26 x28 x29 a30 a31 a32) else (
gd (okx x27 32768) <|
lk (fun x36 x37 x38 a39 a40 a41 =>
r33 x36 (x27 + (1 : Int32)) x37 x38 a39 a40 a41) fun k109_42 =>
if ((S.2.2.1 20) x27.toNatClampNeg) = 0 then (
bd (f_X12_isThrough (wd_o S [(38, x28), (39, x29)] [] [(8, a2), (9, a4), (11, a6), (12, a8), (17, a30), (18, a31), (19, a32)] [(30, (S.2.2.2.1 30))] []) x27 (1 : Int32)) fun o43 =>
if o43.1 = 0 then (
k109_42 x26 o43.2.1 o43.2.2.1 o43.2.2.2.1 o43.2.2.2.2.1 o43.2.2.2.2.2) else (
gd (okx x27 32768) <|
lz (x26 + (p3.toInt64 * ((S.2.2.2.1 21) x27.toNatClampNeg))) fun x45 =>
k109_42 x45 o43.2.1 o43.2.2.1 o43.2.2.2.1 o43.2.2.2.2.1 o43.2.2.2.2.2)) else (
gd (okx x27 32768) <|
lz (x26 + ((16 : Int64) * ((S.2.2.2.1 21) x27.toNatClampNeg))) fun x48 =>
k109_42 x48 x28 x29 a30 a31 a32))
def f_X12_tries (S : wd_W) (p1 : Int32) (p2 : Int32) (p3 : Int32) : Option o_X12_tries :=
gd (okx (S.1 21) 13) <|
lz (upd (S.2.2.1 8) (S.1 21).toNatClampNeg p1) fun a2 =>
gd (okx (S.1 21) 13) <|
lz (upd (S.2.2.1 9) (S.1 21).toNatClampNeg p2) fun a4 =>
gd (okx (S.1 21) 13) <|
lz (upd (S.2.2.1 11) (S.1 21).toNatClampNeg (vp_nar .boolean (1 : Int32))) fun a6 =>
gd (okx (S.1 21) 13) <|
lz (upd (S.2.2.1 12) (S.1 21).toNatClampNeg (1 : Int32)) fun a8 =>
lk (fun x9 x10 x11 a12 a13 a14 =>
gd (okx (0 : Int32) 3) <|
if ((S.2.2.2.1 30) (0 : Int32).toNatClampNeg) < x9 then (
gd (okx (0 : Int32) 3) <|
lz (vp_updL (S.2.2.2.1 30) (0 : Int32).toNatClampNeg x9) fun a18 =>
lz (p1.toInt64) fun x19 =>
gd (okx (1 : Int32) 3) <|
lz (vp_updL a18 (1 : Int32).toNatClampNeg x19) fun a21 =>
lz (p2.toInt64) fun x22 =>
gd (okx (2 : Int32) 3) <|
lz (vp_updL a21 (2 : Int32).toNatClampNeg x22) fun a24 =>
some (x10, x11, a2, a4, a6, a8, a12, a13, a14, a24)) else (
some (x10, x11, a2, a4, a6, a8, a12, a13, a14, (S.2.2.2.1 30)))) fun k115_15 =>
it7 (f_X12_tries_L46 S p3 a2 a4 a6 a8 k115_15) fuel (0 : Int64) (0 : Int32) (S.1 38) (S.1 39) (S.2.2.1 17) (S.2.2.1 18) (S.2.2.1 19)
set_option maxRecDepth 100000 in
set_option maxHeartbeats 4000000 in
theorem c_X12_tries (l : Launch) (D : va_G) (q g : Nat → Nat) (cy : Nat → ClassId) (z : (Nat → Nat) × (Nat → Nat) × Nat) (S : wd_W) (p1 : Int32) (p2 : Int32) (p3 : Int32) (o : o_X12_tries) (hf : f_X12_tries S p1 p2 p3 = some o) : MX layM l yX12_tries cX12_tries 7 none ({ frames := 4, cells := 0, slots := 0, locals := 94 } : Room) D q g cy z [.ref (q 0), .int p1, .int p2, .int p3] S (none) (wd_o S [(38, o.1), (39, o.2.1)] [] [(8, o.2.2.1), (9, o.2.2.2.1), (11, o.2.2.2.2.1), (12, o.2.2.2.2.2.1), (17, o.2.2.2.2.2.2.1), (18, o.2.2.2.2.2.2.2.1), (19, o.2.2.2.2.2.2.2.2.1)] [(30, o.2.2.2.2.2.2.2.2.2)] []) 0 0 := by
  refine mx_of (own := RX12) (lc := [(0, .ref (q 0)), (1, .int p1), (2, .int p2), (3, .int p3)]) (by decide +kernel) rfl layM_ok (Nat.le_of_ble_eq_true rfl) rfl ?_
  intro X hXl hXq hXS hC hQ
  subst hXl; subst hXq; subst hXS
  unfold f_X12_tries at hf
  refine go_keys (L1 := [(38, ((x_S X).1 38)), (39, ((x_S X).1 39))]) (L2 := []) (L3 := [(8, ((x_S X).2.2.1 8)), (9, ((x_S X).2.2.1 9)), (11, ((x_S X).2.2.1 11)), (12, ((x_S X).2.2.1 12)), (17, ((x_S X).2.2.1 17)), (18, ((x_S X).2.2.1 18)), (19, ((x_S X).2.2.1 19))]) (L4 := [(30, ((x_S X).2.2.2.1 30))]) (L5 := []) [38, 39] [] [8, 9, 11, 12, 17, 18, 19] [30] [] rfl rfl rfl rfl rfl ?_
  refine go_aload_n (pc' := 1) hC dX12_tries_0 rfl rfl ?_
  refine go_getq (pc' := 4) hC 0 22 layM_0 rfl rfl inlX12 (Nat.le_of_ble_eq_true rfl) mw_187 rfl dX12_tries_1 rfl ?_
  refine go_aload_n (pc' := 5) hC dX12_tries_4 rfl rfl ?_
  refine go_geti (v := ((x_S X).1 21)) (pc' := 8) hC 0 21 layM_0 rfl rfl inlX12 (Nat.le_of_ble_eq_true rfl) mw_247 rfl dX12_tries_5 rfl rfl ?_
  refine go_iload_n (pc' := 9) hC dX12_tries_8 rfl rfl ?_
  obtain ⟨h1, hf⟩ := gd_e hf
  refine go_iast (f := ((x_S X).2.2.1 8)) (pc' := 10) hC 8 layM_8 rfl rfl dX12_tries_9 (okx_in h1) rfl rfl (fun a2 ha L3' hL => ?_)
  have hf := lz_r ha hf
  clear ha
  obtain rfl : L3' = [(8, a2), (9, ((x_S X).2.2.1 9)), (11, ((x_S X).2.2.1 11)), (12, ((x_S X).2.2.1 12)), (17, ((x_S X).2.2.1 17)), (18, ((x_S X).2.2.1 18)), (19, ((x_S X).2.2.1 19))] := hL.symm
  refine go_aload_n (pc' := 11) hC dX12_tries_10 rfl rfl ?_
  refine go_getq (pc' := 14) hC 0 23 layM_0 rfl rfl inlX12 (Nat.le_of_ble_eq_true rfl) mw_188 rfl dX12_tries_11 rfl ?_
  refine go_aload_n (pc' := 15) hC dX12_tries_14 rfl rfl ?_
  refine go_geti (v := ((x_S X).1 21)) (pc' := 18) hC 0 21 layM_0 rfl rfl inlX12 (Nat.le_of_ble_eq_true rfl) mw_247 rfl dX12_tries_15 rfl rfl ?_
  refine go_iload_n (pc' := 19) hC dX12_tries_18 rfl rfl ?_
  obtain ⟨h3, hf⟩ := gd_e hf
  refine go_iast (f := ((x_S X).2.2.1 9)) (pc' := 20) hC 9 layM_9 rfl rfl dX12_tries_19 (okx_in h3) rfl rfl (fun a4 ha L3' hL => ?_)
  have hf := lz_r ha hf
  clear ha
  obtain rfl : L3' = [(8, a2), (9, a4), (11, ((x_S X).2.2.1 11)), (12, ((x_S X).2.2.1 12)), (17, ((x_S X).2.2.1 17)), (18, ((x_S X).2.2.1 18)), (19, ((x_S X).2.2.1 19))] := hL.symm
  refine go_aload_n (pc' := 21) hC dX12_tries_20 rfl rfl ?_
  refine go_getq (pc' := 24) hC 0 25 layM_0 rfl rfl inlX12 (Nat.le_of_ble_eq_true rfl) mw_191 rfl dX12_tries_21 rfl ?_
  refine go_aload_n (pc' := 25) hC dX12_tries_24 rfl rfl ?_
  refine go_geti (v := ((x_S X).1 21)) (pc' := 28) hC 0 21 layM_0 rfl rfl inlX12 (Nat.le_of_ble_eq_true rfl) mw_247 rfl dX12_tries_25 rfl rfl ?_
  refine go_iconst (pc' := 29) hC dX12_tries_28 ki_1 rfl ?_
  obtain ⟨h5, hf⟩ := gd_e hf
  refine go_zast (f := ((x_S X).2.2.1 11)) (pc' := 30) hC 11 layM_11 rfl rfl dX12_tries_29 (okx_in h5) rfl rfl (fun a6 ha L3' hL => ?_)
  have hf := lz_r ha hf
  clear ha
  obtain rfl : L3' = [(8, a2), (9, a4), (11, a6), (12, ((x_S X).2.2.1 12)), (17, ((x_S X).2.2.1 17)), (18, ((x_S X).2.2.1 18)), (19, ((x_S X).2.2.1 19))] := hL.symm
  refine go_aload_n (pc' := 31) hC dX12_tries_30 rfl rfl ?_
  refine go_getq (pc' := 34) hC 0 26 layM_0 rfl rfl inlX12 (Nat.le_of_ble_eq_true rfl) mw_192 rfl dX12_tries_31 rfl ?_
  refine go_aload_n (pc' := 35) hC dX12_tries_34 rfl rfl ?_
  refine go_geti (v := ((x_S X).1 21)) (pc' := 38) hC 0 21 layM_0 rfl rfl inlX12 (Nat.le_of_ble_eq_true rfl) mw_247 rfl dX12_tries_35 rfl rfl ?_
  refine go_iconst (pc' := 39) hC dX12_tries_38 ki_1 rfl ?_
  obtain ⟨h7, hf⟩ := gd_e hf
  refine go_iast (f := ((x_S X).2.2.1 12)) (pc' := 40) hC 12 layM_12 rfl rfl dX12_tries_39 (okx_in h7) rfl rfl (fun a8 ha L3' hL => ?_)
  have hf := lz_r ha hf
  clear ha
  obtain rfl : L3' = [(8, a2), (9, a4), (11, a6), (12, a8), (17, ((x_S X).2.2.1 17)), (18, ((x_S X).2.2.1 18)), (19, ((x_S X).2.2.1 19))] := hL.symm
  refine go_lconst (pc' := 41) hC dX12_tries_40 kl_0 rfl ?_
  refine go_lstore (lc' := [(0, .ref (x_q X 0)), (1, .int p1), (2, .int p2), (3, .int p3), (4, .long (0 : Int64))]) (pc' := 43) hC dX12_tries_41 (Nat.le_of_ble_eq_true rfl) rfl rfl ?_
  refine go_iconst (pc' := 44) hC dX12_tries_43 ki_0 rfl ?_
  refine go_istore (lc' := [(0, .ref (x_q X 0)), (1, .int p1), (2, .int p2), (3, .int p3), (4, .long (0 : Int64)), (6, .int (0 : Int32))]) (pc' := 46) hC dX12_tries_44 (Nat.le_of_ble_eq_true rfl) rfl rfl ?_
  obtain ⟨k115_15, hk115_15, hf⟩ := lk_e6 hf
  have jk115_15 : ∀ (x9 : Int64) (x10 : Int32) (x11 : Int32) (a12 : Nat → Int32) (a13 : Nat → Int32) (a14 : Nat → Int32) (g : Nat → Nat), k115_15 x9 x10 x11 a12 a13 a14 = some o → Go X layM 115 [(0, .ref (x_q X 0)), (1, .int p1), (2, .int p2), (4, .long x9)] [] g [(38, x10), (39, x11)] [] [(8, a2), (9, a4), (11, a6), (12, a8), (17, a12), (18, a13), (19, a14)] [(30, ((x_S X).2.2.2.1 30))] [] 0 0 := by
    intro x9 x10 x11 a12 a13 a14 g hf
    have hf := hk115_15 x9 x10 x11 a12 a13 a14 hf
    clear hk115_15
    refine go_lload (pc' := 117) hC dX12_tries_115 rfl rfl ?_
    refine go_aload_n (pc' := 118) hC dX12_tries_117 rfl rfl ?_
    refine go_getq (pc' := 121) hC 0 58 layM_0 rfl rfl inlX12 (Nat.le_of_ble_eq_true rfl) mw_211 rfl dX12_tries_118 rfl ?_
    refine go_iconst (pc' := 122) hC dX12_tries_121 ki_0 rfl ?_
    obtain ⟨h16, hf⟩ := gd_e hf
    refine go_lald (f := ((x_S X).2.2.2.1 30)) (pc' := 123) hC 30 layM_30 rfl rfl dX12_tries_122 (okx_in h16) rfl ?_
    refine go_lcmp (pc' := 124) hC dX12_tries_123 rfl ?_
    refine go_if_gt (tgt := 128) (pc' := 127) hC dX12_tries_124 (by decide) rfl (fun h25 => ?_) (fun h25 => ?_)
    · have hf := ite_t (lg_gt.mp h25) hf
      refine go_aload_n (pc' := 129) hC dX12_tries_128 rfl rfl ?_
      refine go_getq (pc' := 132) hC 0 58 layM_0 rfl rfl inlX12 (Nat.le_of_ble_eq_true rfl) mw_211 rfl dX12_tries_129 rfl ?_
      refine go_iconst (pc' := 133) hC dX12_tries_132 ki_0 rfl ?_
      refine go_lload (pc' := 135) hC dX12_tries_133 rfl rfl ?_
      obtain ⟨h17, hf⟩ := gd_e hf
      refine go_last (f := ((x_S X).2.2.2.1 30)) (pc' := 136) hC 30 layM_30 rfl rfl dX12_tries_135 (okx_in h17) rfl rfl (fun a18 ha L4' hL => ?_)
      have hf := lz_r ha hf
      clear ha
      obtain rfl : L4' = [(30, a18)] := hL.symm
      refine go_aload_n (pc' := 137) hC dX12_tries_136 rfl rfl ?_
      refine go_getq (pc' := 140) hC 0 58 layM_0 rfl rfl inlX12 (Nat.le_of_ble_eq_true rfl) mw_211 rfl dX12_tries_137 rfl ?_
      refine go_iconst (pc' := 141) hC dX12_tries_140 ki_1 rfl ?_
      refine go_iload_n (pc' := 142) hC dX12_tries_141 rfl rfl ?_
      refine go_i2l (pc' := 143) hC dX12_tries_142 rfl ?_
      refine go_namel (fun x19 hx => ?_)
      have hf := lz_r hx hf
      clear hx
      obtain ⟨h20, hf⟩ := gd_e hf
      refine go_last (f := a18) (pc' := 144) hC 30 layM_30 rfl rfl dX12_tries_143 (okx_in h20) rfl rfl (fun a21 ha L4' hL => ?_)
      have hf := lz_r ha hf
      clear ha
      obtain rfl : L4' = [(30, a21)] := hL.symm
      refine go_aload_n (pc' := 145) hC dX12_tries_144 rfl rfl ?_
      refine go_getq (pc' := 148) hC 0 58 layM_0 rfl rfl inlX12 (Nat.le_of_ble_eq_true rfl) mw_211 rfl dX12_tries_145 rfl ?_
      refine go_iconst (pc' := 149) hC dX12_tries_148 ki_2 rfl ?_
      refine go_iload_n (pc' := 150) hC dX12_tries_149 rfl rfl ?_
      refine go_i2l (pc' := 151) hC dX12_tries_150 rfl ?_
      refine go_namel (fun x22 hx => ?_)
      have hf := lz_r hx hf
      clear hx
      obtain ⟨h23, hf⟩ := gd_e hf
      refine go_last (f := a21) (pc' := 152) hC 30 layM_30 rfl rfl dX12_tries_151 (okx_in h23) rfl rfl (fun a24 ha L4' hL => ?_)
      have hf := lz_r ha hf
      clear ha
      obtain rfl : L4' = [(30, a24)] := hL.symm
      obtain rfl := Option.some.inj hf
      exact go_vret hC hQ dX12_tries_152 rfl rfl rfl rfl rfl
    · have hf := ite_f (mt lg_gt.mpr h25) hf
      obtain rfl := Option.some.inj hf
      exact go_vret hC hQ dX12_tries_127 rfl rfl rfl rfl rfl
  clear hk115_15
  have l46_51 : ∀ (nn : Nat) (x26 : Int64) (x27 : Int32) (x28 : Int32) (x29 : Int32) (a30 : Nat → Int32) (a31 : Nat → Int32) (a32 : Nat → Int32) (g : Nat → Nat), it7 (f_X12_tries_L46 (x_S X) p3 a2 a4 a6 a8 k115_15) nn x26 x27 x28 x29 a30 a31 a32 = some o → Go X layM 46 [(0, .ref (x_q X 0)), (1, .int p1), (2, .int p2), (3, .int p3), (4, .long x26), (6, .int x27)] [] g [(38, x28), (39, x29)] [] [(8, a2), (9, a4), (11, a6), (12, a8), (17, a30), (18, a31), (19, a32)] [(30, ((x_S X).2.2.2.1 30))] [] 0 0 := by
    intro nn
    induction nn with
    | zero =>
      intro x26 x27 x28 x29 a30 a31 a32 g hf
      exact none_no hf
    | succ nn ih =>
      intro x26 x27 x28 x29 a30 a31 a32 g hf
      have hf : f_X12_tries_L46 (x_S X) p3 a2 a4 a6 a8 k115_15 (it7 (f_X12_tries_L46 (x_S X) p3 a2 a4 a6 a8 k115_15) nn) x26 x27 x28 x29 a30 a31 a32 = some o := hf
      generalize it7 (f_X12_tries_L46 (x_S X) p3 a2 a4 a6 a8 k115_15) nn = r33 at ih hf
      unfold f_X12_tries_L46 at hf
      refine go_iload (pc' := 48) hC dX12_tries_46 rfl rfl ?_
      refine go_aload_n (pc' := 49) hC dX12_tries_48 rfl rfl ?_
      obtain ⟨o34, ho34, hf⟩ := bd_e hf
      refine go_callV0 (pc' := 52) (As := []) (st := [.int x27]) (st' := [.int o34, .int x27])   (b := 0) hC dX12_tries_49 ⟨mw_856, mw_859, mw_5, yd_yX12_sets, yp_yX12_sets, Nat.le_of_ble_eq_true rfl, Nat.le_of_ble_eq_true rfl, Nat.le_of_ble_eq_true rfl, Nat.le_of_ble_eq_true rfl⟩ mw_857 mw_858 layM_0 rfl rfl rfl (Nat.le_of_ble_eq_true rfl) (c_X12_sets (x_l X) (x_D X) (x_q X) g (x_cy X) (x_z X) _  o34 ho34) rfl rfl (fun g => ?_)
      refine go_icmp_ge (tgt := 115) (pc' := 55) hC dX12_tries_52 (by decide) rfl (fun h50 => ?_) (fun h50 => ?_)
      · have hf := ite_t h50 hf
        refine go_sub [0, 1, 2, 4] rfl ?_
        exact jk115_15 x26 x28 x29 a30 a31 a32 g hf
      · have hf := ite_f h50 hf
        refine go_aload_n (pc' := 56) hC dX12_tries_55 rfl rfl ?_
        refine go_getq (pc' := 59) hC 0 43 layM_0 rfl rfl inlX12 (Nat.le_of_ble_eq_true rfl) mw_201 rfl dX12_tries_56 rfl ?_
        refine go_iload (pc' := 61) hC dX12_tries_59 rfl rfl ?_
        obtain ⟨h35, hf⟩ := gd_e hf
        refine go_zald (f := ((x_S X).2.2.1 20)) (pc' := 62) hC 20 layM_20 rfl rfl dX12_tries_61 (okx_in h35) rfl ?_
        obtain ⟨k109_42, hk109_42, hf⟩ := lk_e6 hf
        have jk109_42 : ∀ (x36 : Int64) (x37 : Int32) (x38 : Int32) (a39 : Nat → Int32) (a40 : Nat → Int32) (a41 : Nat → Int32) (g : Nat → Nat), k109_42 x36 x37 x38 a39 a40 a41 = some o → Go X layM 109 [(0, .ref (x_q X 0)), (1, .int p1), (2, .int p2), (3, .int p3), (4, .long x36), (6, .int x27)] [] g [(38, x37), (39, x38)] [] [(8, a2), (9, a4), (11, a6), (12, a8), (17, a39), (18, a40), (19, a41)] [(30, ((x_S X).2.2.2.1 30))] [] 0 0 := by
          intro x36 x37 x38 a39 a40 a41 g hf
          have hf := hk109_42 x36 x37 x38 a39 a40 a41 hf
          clear hk109_42
          refine go_iinc (lc' := [(0, .ref (x_q X 0)), (1, .int p1), (2, .int p2), (3, .int p3), (4, .long x36), (6, .int (x27 + (1 : Int32)))]) (pc' := 112) hC dX12_tries_109 rfl ki_1 (Nat.le_of_ble_eq_true rfl) rfl rfl ?_
          refine go_goto (tgt := 46) hC dX12_tries_112 (by decide) ?_
          exact ih x36 (x27 + (1 : Int32)) x37 x38 a39 a40 a41 g hf
        clear hk109_42
        refine go_if_eq (tgt := 84) (pc' := 65) hC dX12_tries_62 (by decide) rfl (fun h49 => ?_) (fun h49 => ?_)
        · have hf := ite_t h49 hf
          refine go_aload_n (pc' := 85) hC dX12_tries_84 rfl rfl ?_
          refine go_iload (pc' := 87) hC dX12_tries_85 rfl rfl ?_
          refine go_iconst (pc' := 88) hC dX12_tries_87 ki_1 rfl ?_
          obtain ⟨o43, ho43, hf⟩ := bd_e hf
          refine go_callV (pc' := 91) (As := [.int x27, .int (1 : Int32)]) (st := []) (st' := [.int o43.1]) (L1' := [(38, o43.2.1), (39, o43.2.2.1)]) (L2' := []) (L3' := [(8, a2), (9, a4), (11, a6), (12, a8), (17, o43.2.2.2.1), (18, o43.2.2.2.2.1), (19, o43.2.2.2.2.2)]) (L4' := [(30, ((x_S X).2.2.2.1 30))]) (L5' := []) (cells' := 0) (slots' := 0) (b := 0) hC dX12_tries_88 ⟨mw_864, mw_867, mw_5, yd_yX12_isThrough, yp_yX12_isThrough, Nat.le_of_ble_eq_true rfl, Nat.le_of_ble_eq_true rfl, Nat.le_of_ble_eq_true rfl, Nat.le_of_ble_eq_true rfl⟩ mw_865 mw_866 layM_0 rfl rfl rfl (Nat.le_of_ble_eq_true rfl) (c_X12_isThrough (x_l X) (x_D X) (x_q X) g (x_cy X) (x_z X) _ x27 (1 : Int32) o43 ho43) rfl rfl rfl rfl rfl rfl rfl rfl rfl rfl rfl rfl rfl rfl (fun g => ?_)
          refine go_if_eq (tgt := 109) (pc' := 94) hC dX12_tries_91 (by decide) rfl (fun h46 => ?_) (fun h46 => ?_)
          · have hf := ite_t h46 hf
            exact jk109_42 x26 o43.2.1 o43.2.2.1 o43.2.2.2.1 o43.2.2.2.2.1 o43.2.2.2.2.2 g hf
          · have hf := ite_f h46 hf
            refine go_lload (pc' := 96) hC dX12_tries_94 rfl rfl ?_
            refine go_iload_n (pc' := 97) hC dX12_tries_96 rfl rfl ?_
            refine go_i2l (pc' := 98) hC dX12_tries_97 rfl ?_
            refine go_aload_n (pc' := 99) hC dX12_tries_98 rfl rfl ?_
            refine go_getq (pc' := 102) hC 0 45 layM_0 rfl rfl inlX12 (Nat.le_of_ble_eq_true rfl) mw_202 rfl dX12_tries_99 rfl ?_
            refine go_iload (pc' := 104) hC dX12_tries_102 rfl rfl ?_
            obtain ⟨h44, hf⟩ := gd_e hf
            refine go_lald (f := ((x_S X).2.2.2.1 21)) (pc' := 105) hC 21 layM_21 rfl rfl dX12_tries_104 (okx_in h44) rfl ?_
            refine go_lmul (pc' := 106) hC dX12_tries_105 rfl ?_
            refine go_ladd (pc' := 107) hC dX12_tries_106 rfl ?_
            refine go_namel (fun x45 hx => ?_)
            have hf := lz_r hx hf
            clear hx
            refine go_lstore (lc' := [(0, .ref (x_q X 0)), (1, .int p1), (2, .int p2), (3, .int p3), (4, .long x45), (6, .int x27)]) (pc' := 109) hC dX12_tries_107 (Nat.le_of_ble_eq_true rfl) rfl rfl ?_
            exact jk109_42 x45 o43.2.1 o43.2.2.1 o43.2.2.2.1 o43.2.2.2.2.1 o43.2.2.2.2.2 g hf
        · have hf := ite_f h49 hf
          refine go_lload (pc' := 67) hC dX12_tries_65 rfl rfl ?_
          refine go_ldc2 (pc' := 70) hC dX12_tries_67 mw_1038 rfl ?_
          refine go_aload_n (pc' := 71) hC dX12_tries_70 rfl rfl ?_
          refine go_getq (pc' := 74) hC 0 45 layM_0 rfl rfl inlX12 (Nat.le_of_ble_eq_true rfl) mw_202 rfl dX12_tries_71 rfl ?_
          refine go_iload (pc' := 76) hC dX12_tries_74 rfl rfl ?_
          obtain ⟨h47, hf⟩ := gd_e hf
          refine go_lald (f := ((x_S X).2.2.2.1 21)) (pc' := 77) hC 21 layM_21 rfl rfl dX12_tries_76 (okx_in h47) rfl ?_
          refine go_lmul (pc' := 78) hC dX12_tries_77 rfl ?_
          refine go_ladd (pc' := 79) hC dX12_tries_78 rfl ?_
          refine go_namel (fun x48 hx => ?_)
          have hf := lz_r hx hf
          clear hx
          refine go_lstore (lc' := [(0, .ref (x_q X 0)), (1, .int p1), (2, .int p2), (3, .int p3), (4, .long x48), (6, .int x27)]) (pc' := 81) hC dX12_tries_79 (Nat.le_of_ble_eq_true rfl) rfl rfl ?_
          refine go_goto (tgt := 109) hC dX12_tries_81 (by decide) ?_
          exact jk109_42 x48 x28 x29 a30 a31 a32 g hf
  exact l46_51 fuel (0 : Int64) (0 : Int32) ((x_S X).1 38) ((x_S X).1 39) ((x_S X).2.2.1 17) ((x_S X).2.2.1 18) ((x_S X).2.2.1 19) g hf
theorem dX12_add_0 : decode cX12_add 0 = .ok (.iload_n 1, 1) := by decide +kernel
theorem dX12_add_1 : decode cX12_add 1 = .ok (.i2l, 1) := by decide +kernel
theorem dX12_add_2 : decode cX12_add 2 = .ok (.lconst 0, 1) := by decide +kernel
theorem dX12_add_3 : decode cX12_add 3 = .ok (.ldc2_w 367, 3) := by decide +kernel
theorem dX12_add_6 : decode cX12_add 6 = .ok (.invokestatic 218, 3) := by decide +kernel
theorem dX12_add_9 : decode cX12_add 9 = .ok (.ifCond .eq 33, 3) := by decide +kernel
theorem dX12_add_12 : decode cX12_add 12 = .ok (.iload_n 2, 1) := by decide +kernel
theorem dX12_add_13 : decode cX12_add 13 = .ok (.i2l, 1) := by decide +kernel
theorem dX12_add_14 : decode cX12_add 14 = .ok (.lconst 0, 1) := by decide +kernel
theorem dX12_add_15 : decode cX12_add 15 = .ok (.ldc2_w 430, 3) := by decide +kernel
theorem dX12_add_18 : decode cX12_add 18 = .ok (.invokestatic 218, 3) := by decide +kernel
theorem dX12_add_21 : decode cX12_add 21 = .ok (.ifCond .eq 21, 3) := by decide +kernel
theorem dX12_add_24 : decode cX12_add 24 = .ok (.aload_n 0, 1) := by decide +kernel
theorem dX12_add_25 : decode cX12_add 25 = .ok (.getfield 288, 3) := by decide +kernel
theorem dX12_add_28 : decode cX12_add 28 = .ok (.bipush 10, 2) := by decide +kernel
theorem dX12_add_30 : decode cX12_add 30 = .ok (.if_icmp .gt 12, 3) := by decide +kernel
theorem dX12_add_33 : decode cX12_add 33 = .ok (.aload_n 0, 1) := by decide +kernel
theorem dX12_add_34 : decode cX12_add 34 = .ok (.getfield 279, 3) := by decide +kernel
theorem dX12_add_37 : decode cX12_add 37 = .ok (.bipush 12, 2) := by decide +kernel
theorem dX12_add_39 : decode cX12_add 39 = .ok (.if_icmp .ne 7, 3) := by decide +kernel
theorem dX12_add_42 : decode cX12_add 42 = .ok (.ldc2_w 373, 3) := by decide +kernel
theorem dX12_add_45 : decode cX12_add 45 = .ok (.lreturn, 1) := by decide +kernel
theorem dX12_add_46 : decode cX12_add 46 = .ok (.aload_n 0, 1) := by decide +kernel
theorem dX12_add_47 : decode cX12_add 47 = .ok (.invokevirtual 361, 3) := by decide +kernel
theorem dX12_add_50 : decode cX12_add 50 = .ok (.aload_n 0, 1) := by decide +kernel
theorem dX12_add_51 : decode cX12_add 51 = .ok (.invokevirtual 375, 3) := by decide +kernel
theorem dX12_add_54 : decode cX12_add 54 = .ok (.aload_n 0, 1) := by decide +kernel
theorem dX12_add_55 : decode cX12_add 55 = .ok (.invokevirtual 364, 3) := by decide +kernel
theorem dX12_add_58 : decode cX12_add 58 = .ok (.aload_n 0, 1) := by decide +kernel
theorem dX12_add_59 : decode cX12_add 59 = .ok (.getfield 101, 3) := by decide +kernel
theorem dX12_add_62 : decode cX12_add 62 = .ok (.iconst 0, 1) := by decide +kernel
theorem dX12_add_63 : decode cX12_add 63 = .ok (.ldc2_w 373, 3) := by decide +kernel
theorem dX12_add_66 : decode cX12_add 66 = .ok (.lastore, 1) := by decide +kernel
theorem dX12_add_67 : decode cX12_add 67 = .ok (.iconst 0, 1) := by decide +kernel
theorem dX12_add_68 : decode cX12_add 68 = .ok (.istore_n 3, 1) := by decide +kernel
theorem dX12_add_69 : decode cX12_add 69 = .ok (.iload_n 3, 1) := by decide +kernel
theorem dX12_add_70 : decode cX12_add 70 = .ok (.aload_n 0, 1) := by decide +kernel
theorem dX12_add_71 : decode cX12_add 71 = .ok (.getfield 276, 3) := by decide +kernel
theorem dX12_add_74 : decode cX12_add 74 = .ok (.if_icmp .ge 37, 3) := by decide +kernel
theorem dX12_add_77 : decode cX12_add 77 = .ok (.iload_n 3, 1) := by decide +kernel
theorem dX12_add_78 : decode cX12_add 78 = .ok (.iconst 1, 1) := by decide +kernel
theorem dX12_add_79 : decode cX12_add 79 = .ok (.iadd, 1) := by decide +kernel
theorem dX12_add_80 : decode cX12_add 80 = .ok (.istore 4, 2) := by decide +kernel
theorem dX12_add_82 : decode cX12_add 82 = .ok (.iload 4, 2) := by decide +kernel
theorem dX12_add_84 : decode cX12_add 84 = .ok (.aload_n 0, 1) := by decide +kernel
theorem dX12_add_85 : decode cX12_add 85 = .ok (.getfield 276, 3) := by decide +kernel
theorem dX12_add_88 : decode cX12_add 88 = .ok (.if_icmp .ge 17, 3) := by decide +kernel
theorem dX12_add_91 : decode cX12_add 91 = .ok (.aload_n 0, 1) := by decide +kernel
theorem dX12_add_92 : decode cX12_add 92 = .ok (.iload_n 3, 1) := by decide +kernel
theorem dX12_add_93 : decode cX12_add 93 = .ok (.iload 4, 2) := by decide +kernel
theorem dX12_add_95 : decode cX12_add 95 = .ok (.iload_n 1, 1) := by decide +kernel
theorem dX12_add_96 : decode cX12_add 96 = .ok (.invokevirtual 432, 3) := by decide +kernel
theorem dX12_add_99 : decode cX12_add 99 = .ok (.iinc 4 1, 3) := by decide +kernel
theorem dX12_add_102 : decode cX12_add 102 = .ok (.goto (-20), 3) := by decide +kernel
theorem dX12_add_105 : decode cX12_add 105 = .ok (.iinc 3 1, 3) := by decide +kernel
theorem dX12_add_108 : decode cX12_add 108 = .ok (.goto (-39), 3) := by decide +kernel
theorem dX12_add_111 : decode cX12_add 111 = .ok (.aload_n 0, 1) := by decide +kernel
theorem dX12_add_112 : decode cX12_add 112 = .ok (.getfield 101, 3) := by decide +kernel
theorem dX12_add_115 : decode cX12_add 115 = .ok (.iload_n 2, 1) := by decide +kernel
theorem dX12_add_116 : decode cX12_add 116 = .ok (.laload, 1) := by decide +kernel
theorem dX12_add_117 : decode cX12_add 117 = .ok (.lreturn, 1) := by decide +kernel
abbrev o_X12_add : Type := Int64 × Int32 × Int32 × Int32 × (Nat → Int32) × (Nat → Int32) × (Nat → Int32) × (Nat → Int32) × (Nat → Int32) × (Nat → Int32) × (Nat → Int32) × (Nat → Int32) × (Nat → Int32) × (Nat → Int32) × (Nat → Int64) × (Nat → Int64)
def f_X12_add_L82 (S : wd_W) (p1 : Int32) (o3 : o_X12_lays) (o4 : o_X12_plain) (o5 : o_X12_weighs) (x20 : Int32) (k105_43 : (Int32) → (Int32) → (Nat → Int32) → (Nat → Int32) → (Nat → Int32) → (Nat → Int32) → (Nat → Int32) → (Nat → Int32) → (Nat → Int32) → (Nat → Int64) → (Option o_X12_add)) (r55 : (Int32) → (Int32) → (Int32) → (Nat → Int32) → (Nat → Int32) → (Nat → Int32) → (Nat → Int32) → (Nat → Int32) → (Nat → Int32) → (Nat → Int32) → (Nat → Int64) → (Option o_X12_add)) (x44 : Int32) (x45 : Int32) (x46 : Int32) (a47 : Nat → Int32) (a48 : Nat → Int32) (a49 : Nat → Int32) (a50 : Nat → Int32) (a51 : Nat → Int32) (a52 : Nat → Int32) (a53 : Nat → Int32) (a54 : Nat → Int64) : Option o_X12_add :=
if (S.1 20) ≤ x44 then (
k105_43 x45 x46 a47 a48 a49 a50 a51 a52 a53 a54) else (
bd (f_X12_tries (wd_o S [(38, x45), (39, x46), (44, o3.2.2.1)] [] [(8, a47), (9, a48), (11, a49), (12, a50), (17, a51), (18, a52), (19, a53), (20, o3.2.2.2.2.2.2), (22, o4.1), (23, o4.2)] [(21, o5), (30, a54)] []) x20 x44 p1) fun o56 =>
r55 (x44 + (1 : Int32)) o56.1 o56.2.1 o56.2.2.1 o56.2.2.2.1 o56.2.2.2.2.1 o56.2.2.2.2.2.1 o56.2.2.2.2.2.2.1 o56.2.2.2.2.2.2.2.1 o56.2.2.2.2.2.2.2.2.1 o56.2.2.2.2.2.2.2.2.2)
def f_X12_add_L69 (S : wd_W) (p1 : Int32) (o3 : o_X12_lays) (o4 : o_X12_plain) (o5 : o_X12_weighs) (k111_18 : (Int32) → (Int32) → (Nat → Int32) → (Nat → Int32) → (Nat → Int32) → (Nat → Int32) → (Nat → Int32) → (Nat → Int32) → (Nat → Int32) → (Nat → Int64) → (Option o_X12_add)) (r31 : (Int32) → (Int32) → (Int32) → (Nat → Int32) → (Nat → Int32) → (Nat → Int32) → (Nat → Int32) → (Nat → Int32) → (Nat → Int32) → (Nat → Int32) → (Nat → Int64) → (Option o_X12_add)) (x20 : Int32) (x21 : Int32) (x22 : Int32) (a23 : Nat → Int32) (a24 : Nat → Int32) (a25 : Nat → Int32) (a26 : Nat → Int32) (a27 : Nat → Int32) (a28 : Nat → Int32) (a29 : Nat → Int32) (a30 : Nat → Int64) : Option o_X12_add :=
if (S.1 20) ≤ x20 then (
k111_18 x21 x22 a23 a24 a25 a26 a27 a28 a29 a30) else (
lz (x20 + (1 : Int32)) fun x32 =>
lk (fun x33 x34 a35 a36 a37 a38 a39 a40 a41 a42 =>
r31 (x20 + (1 : Int32)) x33 x34 a35 a36 a37 a38 a39 a40 a41 a42) fun k105_43 =>
it11 (f_X12_add_L82 S p1 o3 o4 o5 x20 k105_43) fuel x32 x21 x22 a23 a24 a25 a26 a27 a28 a29 a30)
def f_X12_add (S : wd_W) (p1 : Int32) (p2 : Int32) : Option o_X12_add :=
bd (f_X12_in p1.toInt64 (0 : Int64) (16 : Int64)) fun o1 =>
if o1 = 0 then (
some ((-1 : Int64), (S.1 38), (S.1 39), (S.1 44), (S.2.2.1 8), (S.2.2.1 9), (S.2.2.1 11), (S.2.2.1 12), (S.2.2.1 17), (S.2.2.1 18), (S.2.2.1 19), (S.2.2.1 20), (S.2.2.1 22), (S.2.2.1 23), (S.2.2.2.1 21), (S.2.2.2.1 30))) else (
bd (f_X12_in p2.toInt64 (0 : Int64) (2 : Int64)) fun o2 =>
if o2 = 0 then (
some ((-1 : Int64), (S.1 38), (S.1 39), (S.1 44), (S.2.2.1 8), (S.2.2.1 9), (S.2.2.1 11), (S.2.2.1 12), (S.2.2.1 17), (S.2.2.1 18), (S.2.2.1 19), (S.2.2.1 20), (S.2.2.1 22), (S.2.2.1 23), (S.2.2.2.1 21), (S.2.2.2.1 30))) else (
if (10 : Int32) < (S.1 32) then (
some ((-1 : Int64), (S.1 38), (S.1 39), (S.1 44), (S.2.2.1 8), (S.2.2.1 9), (S.2.2.1 11), (S.2.2.1 12), (S.2.2.1 17), (S.2.2.1 18), (S.2.2.1 19), (S.2.2.1 20), (S.2.2.1 22), (S.2.2.1 23), (S.2.2.2.1 21), (S.2.2.2.1 30))) else (
if (S.1 21) = (12 : Int32) then (
some ((-1 : Int64), (S.1 38), (S.1 39), (S.1 44), (S.2.2.1 8), (S.2.2.1 9), (S.2.2.1 11), (S.2.2.1 12), (S.2.2.1 17), (S.2.2.1 18), (S.2.2.1 19), (S.2.2.1 20), (S.2.2.1 22), (S.2.2.1 23), (S.2.2.2.1 21), (S.2.2.2.1 30))) else (
bd (f_X12_lays (wd_o S [(38, (S.1 38)), (39, (S.1 39)), (44, (S.1 44))] [] [(8, (S.2.2.1 8)), (9, (S.2.2.1 9)), (11, (S.2.2.1 11)), (12, (S.2.2.1 12)), (17, (S.2.2.1 17)), (18, (S.2.2.1 18)), (19, (S.2.2.1 19)), (20, (S.2.2.1 20)), (22, (S.2.2.1 22)), (23, (S.2.2.1 23))] [(21, (S.2.2.2.1 21)), (30, (S.2.2.2.1 30))] [])) fun o3 =>
bd (f_X12_plain (wd_o S [(38, o3.1), (39, o3.2.1), (44, o3.2.2.1)] [] [(8, (S.2.2.1 8)), (9, (S.2.2.1 9)), (11, (S.2.2.1 11)), (12, (S.2.2.1 12)), (17, o3.2.2.2.1), (18, o3.2.2.2.2.1), (19, o3.2.2.2.2.2.1), (20, o3.2.2.2.2.2.2), (22, (S.2.2.1 22)), (23, (S.2.2.1 23))] [(21, (S.2.2.2.1 21)), (30, (S.2.2.2.1 30))] [])) fun o4 =>
bd (f_X12_weighs (wd_o S [(38, o3.1), (39, o3.2.1), (44, o3.2.2.1)] [] [(8, (S.2.2.1 8)), (9, (S.2.2.1 9)), (11, (S.2.2.1 11)), (12, (S.2.2.1 12)), (17, o3.2.2.2.1), (18, o3.2.2.2.2.1), (19, o3.2.2.2.2.2.1), (20, o3.2.2.2.2.2.2), (22, o4.1), (23, o4.2)] [(21, (S.2.2.2.1 21)), (30, (S.2.2.2.1 30))] [])) fun o5 =>
gd (okx (0 : Int32) 3) <|
lz (vp_updL (S.2.2.2.1 30) (0 : Int32).toNatClampNeg (-1 : Int64)) fun a7 =>
lk (fun x8 x9 a10 a11 a12 a13 a14 a15 a16 a17 =>
gd (okx p2 3) <|
some (a17 p2.toNatClampNeg, x8, x9, o3.2.2.1, a10, a11, a12, a13, a14, a15, a16, o3.2.2.2.2.2.2, o4.1, o4.2, o5, a17)) fun k111_18 =>
it11 (f_X12_add_L69 S p1 o3 o4 o5 k111_18) fuel (0 : Int32) o3.1 o3.2.1 (S.2.2.1 8) (S.2.2.1 9) (S.2.2.1 11) (S.2.2.1 12) o3.2.2.2.1 o3.2.2.2.2.1 o3.2.2.2.2.2.1 a7))))
set_option maxRecDepth 100000 in
set_option maxHeartbeats 4000000 in
theorem c_X12_add (l : Launch) (D : va_G) (q g : Nat → Nat) (cy : Nat → ClassId) (z : (Nat → Nat) × (Nat → Nat) × Nat) (S : wd_W) (p1 : Int32) (p2 : Int32) (o : o_X12_add) (hf : f_X12_add S p1 p2 = some o) : MX layM l yX12_add cX12_add 5 (some .long) ({ frames := 5, cells := 0, slots := 0, locals := 120 } : Room) D q g cy z [.ref (q 0), .int p1, .int p2] S (some (.long o.1)) (wd_o S [(38, o.2.1), (39, o.2.2.1), (44, o.2.2.2.1)] [] [(8, o.2.2.2.2.1), (9, o.2.2.2.2.2.1), (11, o.2.2.2.2.2.2.1), (12, o.2.2.2.2.2.2.2.1), (17, o.2.2.2.2.2.2.2.2.1), (18, o.2.2.2.2.2.2.2.2.2.1), (19, o.2.2.2.2.2.2.2.2.2.2.1), (20, o.2.2.2.2.2.2.2.2.2.2.2.1), (22, o.2.2.2.2.2.2.2.2.2.2.2.2.1), (23, o.2.2.2.2.2.2.2.2.2.2.2.2.2.1)] [(21, o.2.2.2.2.2.2.2.2.2.2.2.2.2.2.1), (30, o.2.2.2.2.2.2.2.2.2.2.2.2.2.2.2)] []) 0 0 := by
  refine mx_of (own := RX12) (lc := [(0, .ref (q 0)), (1, .int p1), (2, .int p2)]) (by decide +kernel) rfl layM_ok (Nat.le_of_ble_eq_true rfl) rfl ?_
  intro X hXl hXq hXS hC hQ
  subst hXl; subst hXq; subst hXS
  unfold f_X12_add at hf
  refine go_keys (L1 := [(38, ((x_S X).1 38)), (39, ((x_S X).1 39)), (44, ((x_S X).1 44))]) (L2 := []) (L3 := [(8, ((x_S X).2.2.1 8)), (9, ((x_S X).2.2.1 9)), (11, ((x_S X).2.2.1 11)), (12, ((x_S X).2.2.1 12)), (17, ((x_S X).2.2.1 17)), (18, ((x_S X).2.2.1 18)), (19, ((x_S X).2.2.1 19)), (20, ((x_S X).2.2.1 20)), (22, ((x_S X).2.2.1 22)), (23, ((x_S X).2.2.1 23))]) (L4 := [(21, ((x_S X).2.2.2.1 21)), (30, ((x_S X).2.2.2.1 30))]) (L5 := []) [38, 39, 44] [] [8, 9, 11, 12, 17, 18, 19, 20, 22, 23] [21, 30] [] rfl rfl rfl rfl rfl ?_
  refine go_iload_n (pc' := 1) hC dX12_add_0 rfl rfl ?_
  refine go_i2l (pc' := 2) hC dX12_add_1 rfl ?_
  refine go_lconst (pc' := 3) hC dX12_add_2 kl_0 rfl ?_
  refine go_ldc2 (pc' := 6) hC dX12_add_3 mw_1038 rfl ?_
  obtain ⟨o1, ho1, hf⟩ := bd_e hf
  refine go_callS0 (pc' := 9) (As := [.long p1.toInt64, .long (0 : Int64), .long (16 : Int64)]) (st := []) (st' := [.int o1])   hC dX12_add_6 ⟨mw_525, mw_527, mw_5, yd_yX12_in, yp_yX12_in, Nat.le_of_ble_eq_true rfl, Nat.le_of_ble_eq_true rfl, Nat.le_of_ble_eq_true rfl, Nat.le_of_ble_eq_true rfl⟩ mw_526 rfl rfl (Nat.le_of_ble_eq_true rfl) (c_X12_in (x_l X) (x_D X) (x_q X) g (x_cy X) (x_z X) _ p1.toInt64 (0 : Int64) (16 : Int64) o1 ho1) rfl rfl (fun g => ?_)
  refine go_if_eq (tgt := 42) (pc' := 12) hC dX12_add_9 (by decide) rfl (fun h64 => ?_) (fun h64 => ?_)
  · have hf := ite_t h64 hf
    refine go_ldc2 (pc' := 45) hC dX12_add_42 mw_922 rfl ?_
    obtain rfl := Option.some.inj hf
    exact go_lret hC hQ dX12_add_45 rfl rfl rfl rfl rfl
  · have hf := ite_f h64 hf
    refine go_iload_n (pc' := 13) hC dX12_add_12 rfl rfl ?_
    refine go_i2l (pc' := 14) hC dX12_add_13 rfl ?_
    refine go_lconst (pc' := 15) hC dX12_add_14 kl_0 rfl ?_
    refine go_ldc2 (pc' := 18) hC dX12_add_15 mw_1174 rfl ?_
    obtain ⟨o2, ho2, hf⟩ := bd_e hf
    refine go_callS0 (pc' := 21) (As := [.long p2.toInt64, .long (0 : Int64), .long (2 : Int64)]) (st := []) (st' := [.int o2])   hC dX12_add_18 ⟨mw_525, mw_527, mw_5, yd_yX12_in, yp_yX12_in, Nat.le_of_ble_eq_true rfl, Nat.le_of_ble_eq_true rfl, Nat.le_of_ble_eq_true rfl, Nat.le_of_ble_eq_true rfl⟩ mw_526 rfl rfl (Nat.le_of_ble_eq_true rfl) (c_X12_in (x_l X) (x_D X) (x_q X) g (x_cy X) (x_z X) _ p2.toInt64 (0 : Int64) (2 : Int64) o2 ho2) rfl rfl (fun g => ?_)
    refine go_if_eq (tgt := 42) (pc' := 24) hC dX12_add_21 (by decide) rfl (fun h63 => ?_) (fun h63 => ?_)
    · have hf := ite_t h63 hf
      refine go_ldc2 (pc' := 45) hC dX12_add_42 mw_922 rfl ?_
      obtain rfl := Option.some.inj hf
      exact go_lret hC hQ dX12_add_45 rfl rfl rfl rfl rfl
    · have hf := ite_f h63 hf
      refine go_aload_n (pc' := 25) hC dX12_add_24 rfl rfl ?_
      refine go_geti (v := ((x_S X).1 32)) (pc' := 28) hC 0 32 layM_0 rfl rfl inlX12 (Nat.le_of_ble_eq_true rfl) mw_250 rfl dX12_add_25 rfl rfl ?_
      refine go_bipush (pc' := 30) hC dX12_add_28 kb_10 rfl ?_
      refine go_icmp_gt (tgt := 42) (pc' := 33) hC dX12_add_30 (by decide) rfl (fun h62 => ?_) (fun h62 => ?_)
      · have hf := ite_t h62 hf
        refine go_ldc2 (pc' := 45) hC dX12_add_42 mw_922 rfl ?_
        obtain rfl := Option.some.inj hf
        exact go_lret hC hQ dX12_add_45 rfl rfl rfl rfl rfl
      · have hf := ite_f h62 hf
        refine go_aload_n (pc' := 34) hC dX12_add_33 rfl rfl ?_
        refine go_geti (v := ((x_S X).1 21)) (pc' := 37) hC 0 21 layM_0 rfl rfl inlX12 (Nat.le_of_ble_eq_true rfl) mw_247 rfl dX12_add_34 rfl rfl ?_
        refine go_bipush (pc' := 39) hC dX12_add_37 kb_12 rfl ?_
        refine go_icmp_ne (tgt := 46) (pc' := 42) hC dX12_add_39 (by decide) rfl (fun h61 => ?_) (fun h61 => ?_)
        · have hf := ite_f h61 hf
          refine go_aload_n (pc' := 47) hC dX12_add_46 rfl rfl ?_
          obtain ⟨o3, ho3, hf⟩ := bd_e hf
          refine go_callV (pc' := 50) (As := []) (st := []) (st' := []) (L1' := [(38, o3.1), (39, o3.2.1), (44, o3.2.2.1)]) (L2' := []) (L3' := [(8, ((x_S X).2.2.1 8)), (9, ((x_S X).2.2.1 9)), (11, ((x_S X).2.2.1 11)), (12, ((x_S X).2.2.1 12)), (17, o3.2.2.2.1), (18, o3.2.2.2.2.1), (19, o3.2.2.2.2.2.1), (20, o3.2.2.2.2.2.2), (22, ((x_S X).2.2.1 22)), (23, ((x_S X).2.2.1 23))]) (L4' := [(21, ((x_S X).2.2.2.1 21)), (30, ((x_S X).2.2.2.1 30))]) (L5' := []) (cells' := 0) (slots' := 0) (b := 0) hC dX12_add_47 ⟨mw_860, mw_863, mw_5, yd_yX12_lays, yp_yX12_lays, Nat.le_of_ble_eq_true rfl, Nat.le_of_ble_eq_true rfl, Nat.le_of_ble_eq_true rfl, Nat.le_of_ble_eq_true rfl⟩ mw_861 mw_862 layM_0 rfl rfl rfl (Nat.le_of_ble_eq_true rfl) (c_X12_lays (x_l X) (x_D X) (x_q X) g (x_cy X) (x_z X) _  o3 ho3) rfl rfl rfl rfl rfl rfl rfl rfl rfl rfl rfl rfl rfl rfl (fun g => ?_)
          refine go_aload_n (pc' := 51) hC dX12_add_50 rfl rfl ?_
          obtain ⟨o4, ho4, hf⟩ := bd_e hf
          refine go_callV (pc' := 54) (As := []) (st := []) (st' := []) (L1' := [(38, o3.1), (39, o3.2.1), (44, o3.2.2.1)]) (L2' := []) (L3' := [(8, ((x_S X).2.2.1 8)), (9, ((x_S X).2.2.1 9)), (11, ((x_S X).2.2.1 11)), (12, ((x_S X).2.2.1 12)), (17, o3.2.2.2.1), (18, o3.2.2.2.2.1), (19, o3.2.2.2.2.2.1), (20, o3.2.2.2.2.2.2), (22, o4.1), (23, o4.2)]) (L4' := [(21, ((x_S X).2.2.2.1 21)), (30, ((x_S X).2.2.2.1 30))]) (L5' := []) (cells' := 0) (slots' := 0) (b := 0) hC dX12_add_51 ⟨mw_927, mw_930, mw_5, yd_yX12_plain, yp_yX12_plain, Nat.le_of_ble_eq_true rfl, Nat.le_of_ble_eq_true rfl, Nat.le_of_ble_eq_true rfl, Nat.le_of_ble_eq_true rfl⟩ mw_928 mw_929 layM_0 rfl rfl rfl (Nat.le_of_ble_eq_true rfl) (c_X12_plain (x_l X) (x_D X) (x_q X) g (x_cy X) (x_z X) _  o4 ho4) rfl rfl rfl rfl rfl rfl rfl rfl rfl rfl rfl rfl rfl rfl (fun g => ?_)
          refine go_aload_n (pc' := 55) hC dX12_add_54 rfl rfl ?_
          obtain ⟨o5, ho5, hf⟩ := bd_e hf
          refine go_callV (pc' := 58) (As := []) (st := []) (st' := []) (L1' := [(38, o3.1), (39, o3.2.1), (44, o3.2.2.1)]) (L2' := []) (L3' := [(8, ((x_S X).2.2.1 8)), (9, ((x_S X).2.2.1 9)), (11, ((x_S X).2.2.1 11)), (12, ((x_S X).2.2.1 12)), (17, o3.2.2.2.1), (18, o3.2.2.2.2.1), (19, o3.2.2.2.2.2.1), (20, o3.2.2.2.2.2.2), (22, o4.1), (23, o4.2)]) (L4' := [(21, o5), (30, ((x_S X).2.2.2.1 30))]) (L5' := []) (cells' := 0) (slots' := 0) (b := 0) hC dX12_add_55 ⟨mw_935, mw_938, mw_5, yd_yX12_weighs, yp_yX12_weighs, Nat.le_of_ble_eq_true rfl, Nat.le_of_ble_eq_true rfl, Nat.le_of_ble_eq_true rfl, Nat.le_of_ble_eq_true rfl⟩ mw_936 mw_937 layM_0 rfl rfl rfl (Nat.le_of_ble_eq_true rfl) (c_X12_weighs (x_l X) (x_D X) (x_q X) g (x_cy X) (x_z X) _  o5 ho5) rfl rfl rfl rfl rfl rfl rfl rfl rfl rfl rfl rfl rfl rfl (fun g => ?_)
          refine go_aload_n (pc' := 59) hC dX12_add_58 rfl rfl ?_
          refine go_getq (pc' := 62) hC 0 58 layM_0 rfl rfl inlX12 (Nat.le_of_ble_eq_true rfl) mw_211 rfl dX12_add_59 rfl ?_
          refine go_iconst (pc' := 63) hC dX12_add_62 ki_0 rfl ?_
          refine go_ldc2 (pc' := 66) hC dX12_add_63 mw_922 rfl ?_
          obtain ⟨h6, hf⟩ := gd_e hf
          refine go_last (f := ((x_S X).2.2.2.1 30)) (pc' := 67) hC 30 layM_30 rfl rfl dX12_add_66 (okx_in h6) rfl rfl (fun a7 ha L4' hL => ?_)
          have hf := lz_r ha hf
          clear ha
          obtain rfl : L4' = [(21, o5), (30, a7)] := hL.symm
          refine go_iconst (pc' := 68) hC dX12_add_67 ki_0 rfl ?_
          refine go_istore_n (lc' := [(0, .ref (x_q X 0)), (1, .int p1), (2, .int p2), (3, .int (0 : Int32))]) (pc' := 69) hC dX12_add_68 (Nat.le_of_ble_eq_true rfl) rfl rfl ?_
          obtain ⟨k111_18, hk111_18, hf⟩ := lk_e10 hf
          have jk111_18 : ∀ (x8 : Int32) (x9 : Int32) (a10 : Nat → Int32) (a11 : Nat → Int32) (a12 : Nat → Int32) (a13 : Nat → Int32) (a14 : Nat → Int32) (a15 : Nat → Int32) (a16 : Nat → Int32) (a17 : Nat → Int64) (g : Nat → Nat), k111_18 x8 x9 a10 a11 a12 a13 a14 a15 a16 a17 = some o → Go X layM 111 [(0, .ref (x_q X 0)), (2, .int p2)] [] g [(38, x8), (39, x9), (44, o3.2.2.1)] [] [(8, a10), (9, a11), (11, a12), (12, a13), (17, a14), (18, a15), (19, a16), (20, o3.2.2.2.2.2.2), (22, o4.1), (23, o4.2)] [(21, o5), (30, a17)] [] 0 0 := by
            intro x8 x9 a10 a11 a12 a13 a14 a15 a16 a17 g hf
            have hf := hk111_18 x8 x9 a10 a11 a12 a13 a14 a15 a16 a17 hf
            clear hk111_18
            refine go_aload_n (pc' := 112) hC dX12_add_111 rfl rfl ?_
            refine go_getq (pc' := 115) hC 0 58 layM_0 rfl rfl inlX12 (Nat.le_of_ble_eq_true rfl) mw_211 rfl dX12_add_112 rfl ?_
            refine go_iload_n (pc' := 116) hC dX12_add_115 rfl rfl ?_
            obtain ⟨h19, hf⟩ := gd_e hf
            refine go_lald (f := a17) (pc' := 117) hC 30 layM_30 rfl rfl dX12_add_116 (okx_in h19) rfl ?_
            obtain rfl := Option.some.inj hf
            exact go_lret hC hQ dX12_add_117 rfl rfl rfl rfl rfl
          clear hk111_18
          have l69_60 : ∀ (nn : Nat) (x20 : Int32) (x21 : Int32) (x22 : Int32) (a23 : Nat → Int32) (a24 : Nat → Int32) (a25 : Nat → Int32) (a26 : Nat → Int32) (a27 : Nat → Int32) (a28 : Nat → Int32) (a29 : Nat → Int32) (a30 : Nat → Int64) (g : Nat → Nat), it11 (f_X12_add_L69 (x_S X) p1 o3 o4 o5 k111_18) nn x20 x21 x22 a23 a24 a25 a26 a27 a28 a29 a30 = some o → Go X layM 69 [(0, .ref (x_q X 0)), (1, .int p1), (2, .int p2), (3, .int x20)] [] g [(38, x21), (39, x22), (44, o3.2.2.1)] [] [(8, a23), (9, a24), (11, a25), (12, a26), (17, a27), (18, a28), (19, a29), (20, o3.2.2.2.2.2.2), (22, o4.1), (23, o4.2)] [(21, o5), (30, a30)] [] 0 0 := by
            intro nn
            induction nn with
            | zero =>
              intro x20 x21 x22 a23 a24 a25 a26 a27 a28 a29 a30 g hf
              exact none_no hf
            | succ nn ih =>
              intro x20 x21 x22 a23 a24 a25 a26 a27 a28 a29 a30 g hf
              have hf : f_X12_add_L69 (x_S X) p1 o3 o4 o5 k111_18 (it11 (f_X12_add_L69 (x_S X) p1 o3 o4 o5 k111_18) nn) x20 x21 x22 a23 a24 a25 a26 a27 a28 a29 a30 = some o := hf
              generalize it11 (f_X12_add_L69 (x_S X) p1 o3 o4 o5 k111_18) nn = r31 at ih hf
              unfold f_X12_add_L69 at hf
              refine go_iload_n (pc' := 70) hC dX12_add_69 rfl rfl ?_
              refine go_aload_n (pc' := 71) hC dX12_add_70 rfl rfl ?_
              refine go_geti (v := ((x_S X).1 20)) (pc' := 74) hC 0 20 layM_0 rfl rfl inlX12 (Nat.le_of_ble_eq_true rfl) mw_246 rfl dX12_add_71 rfl rfl ?_
              refine go_icmp_ge (tgt := 111) (pc' := 77) hC dX12_add_74 (by decide) rfl (fun h59 => ?_) (fun h59 => ?_)
              · have hf := ite_t h59 hf
                refine go_sub [0, 2] rfl ?_
                exact jk111_18 x21 x22 a23 a24 a25 a26 a27 a28 a29 a30 g hf
              · have hf := ite_f h59 hf
                refine go_iload_n (pc' := 78) hC dX12_add_77 rfl rfl ?_
                refine go_iconst (pc' := 79) hC dX12_add_78 ki_1 rfl ?_
                refine go_iadd (pc' := 80) hC dX12_add_79 rfl ?_
                refine go_namei (fun x32 hx => ?_)
                have hf := lz_r hx hf
                clear hx
                refine go_istore (lc' := [(0, .ref (x_q X 0)), (1, .int p1), (2, .int p2), (3, .int x20), (4, .int x32)]) (pc' := 82) hC dX12_add_80 (Nat.le_of_ble_eq_true rfl) rfl rfl ?_
                obtain ⟨k105_43, hk105_43, hf⟩ := lk_e10 hf
                have jk105_43 : ∀ (x33 : Int32) (x34 : Int32) (a35 : Nat → Int32) (a36 : Nat → Int32) (a37 : Nat → Int32) (a38 : Nat → Int32) (a39 : Nat → Int32) (a40 : Nat → Int32) (a41 : Nat → Int32) (a42 : Nat → Int64) (g : Nat → Nat), k105_43 x33 x34 a35 a36 a37 a38 a39 a40 a41 a42 = some o → Go X layM 105 [(0, .ref (x_q X 0)), (1, .int p1), (2, .int p2), (3, .int x20)] [] g [(38, x33), (39, x34), (44, o3.2.2.1)] [] [(8, a35), (9, a36), (11, a37), (12, a38), (17, a39), (18, a40), (19, a41), (20, o3.2.2.2.2.2.2), (22, o4.1), (23, o4.2)] [(21, o5), (30, a42)] [] 0 0 := by
                  intro x33 x34 a35 a36 a37 a38 a39 a40 a41 a42 g hf
                  have hf := hk105_43 x33 x34 a35 a36 a37 a38 a39 a40 a41 a42 hf
                  clear hk105_43
                  refine go_iinc (lc' := [(0, .ref (x_q X 0)), (1, .int p1), (2, .int p2), (3, .int (x20 + (1 : Int32)))]) (pc' := 108) hC dX12_add_105 rfl ki_1 (Nat.le_of_ble_eq_true rfl) rfl rfl ?_
                  refine go_goto (tgt := 69) hC dX12_add_108 (by decide) ?_
                  exact ih (x20 + (1 : Int32)) x33 x34 a35 a36 a37 a38 a39 a40 a41 a42 g hf
                clear hk105_43
                have l82_58 : ∀ (nn : Nat) (x44 : Int32) (x45 : Int32) (x46 : Int32) (a47 : Nat → Int32) (a48 : Nat → Int32) (a49 : Nat → Int32) (a50 : Nat → Int32) (a51 : Nat → Int32) (a52 : Nat → Int32) (a53 : Nat → Int32) (a54 : Nat → Int64) (g : Nat → Nat), it11 (f_X12_add_L82 (x_S X) p1 o3 o4 o5 x20 k105_43) nn x44 x45 x46 a47 a48 a49 a50 a51 a52 a53 a54 = some o → Go X layM 82 [(0, .ref (x_q X 0)), (1, .int p1), (2, .int p2), (3, .int x20), (4, .int x44)] [] g [(38, x45), (39, x46), (44, o3.2.2.1)] [] [(8, a47), (9, a48), (11, a49), (12, a50), (17, a51), (18, a52), (19, a53), (20, o3.2.2.2.2.2.2), (22, o4.1), (23, o4.2)] [(21, o5), (30, a54)] [] 0 0 := by
                  intro nn
                  induction nn with
                  | zero =>
                    intro x44 x45 x46 a47 a48 a49 a50 a51 a52 a53 a54 g hf
                    exact none_no hf
                  | succ nn ih =>
                    intro x44 x45 x46 a47 a48 a49 a50 a51 a52 a53 a54 g hf
                    have hf : f_X12_add_L82 (x_S X) p1 o3 o4 o5 x20 k105_43 (it11 (f_X12_add_L82 (x_S X) p1 o3 o4 o5 x20 k105_43) nn) x44 x45 x46 a47 a48 a49 a50 a51 a52 a53 a54 = some o := hf
                    generalize it11 (f_X12_add_L82 (x_S X) p1 o3 o4 o5 x20 k105_43) nn = r55 at ih hf
                    unfold f_X12_add_L82 at hf
                    refine go_iload (pc' := 84) hC dX12_add_82 rfl rfl ?_
                    refine go_aload_n (pc' := 85) hC dX12_add_84 rfl rfl ?_
                    refine go_geti (v := ((x_S X).1 20)) (pc' := 88) hC 0 20 layM_0 rfl rfl inlX12 (Nat.le_of_ble_eq_true rfl) mw_246 rfl dX12_add_85 rfl rfl ?_
                    refine go_icmp_ge (tgt := 105) (pc' := 91) hC dX12_add_88 (by decide) rfl (fun h57 => ?_) (fun h57 => ?_)
                    · have hf := ite_t h57 hf
                      refine go_sub [0, 1, 2, 3] rfl ?_
                      exact jk105_43 x45 x46 a47 a48 a49 a50 a51 a52 a53 a54 g hf
                    · have hf := ite_f h57 hf
                      refine go_aload_n (pc' := 92) hC dX12_add_91 rfl rfl ?_
                      refine go_iload_n (pc' := 93) hC dX12_add_92 rfl rfl ?_
                      refine go_iload (pc' := 95) hC dX12_add_93 rfl rfl ?_
                      refine go_iload_n (pc' := 96) hC dX12_add_95 rfl rfl ?_
                      obtain ⟨o56, ho56, hf⟩ := bd_e hf
                      refine go_callV (pc' := 99) (As := [.int x20, .int x44, .int p1]) (st := []) (st' := []) (L1' := [(38, o56.1), (39, o56.2.1), (44, o3.2.2.1)]) (L2' := []) (L3' := [(8, o56.2.2.1), (9, o56.2.2.2.1), (11, o56.2.2.2.2.1), (12, o56.2.2.2.2.2.1), (17, o56.2.2.2.2.2.2.1), (18, o56.2.2.2.2.2.2.2.1), (19, o56.2.2.2.2.2.2.2.2.1), (20, o3.2.2.2.2.2.2), (22, o4.1), (23, o4.2)]) (L4' := [(21, o5), (30, o56.2.2.2.2.2.2.2.2.2)]) (L5' := []) (cells' := 0) (slots' := 0) (b := 0) hC dX12_add_96 ⟨mw_1175, mw_1178, mw_5, yd_yX12_tries, yp_yX12_tries, Nat.le_of_ble_eq_true rfl, Nat.le_of_ble_eq_true rfl, Nat.le_of_ble_eq_true rfl, Nat.le_of_ble_eq_true rfl⟩ mw_1176 mw_1177 layM_0 rfl rfl rfl (Nat.le_of_ble_eq_true rfl) (c_X12_tries (x_l X) (x_D X) (x_q X) g (x_cy X) (x_z X) _ x20 x44 p1 o56 ho56) rfl rfl rfl rfl rfl rfl rfl rfl rfl rfl rfl rfl rfl rfl (fun g => ?_)
                      refine go_iinc (lc' := [(0, .ref (x_q X 0)), (1, .int p1), (2, .int p2), (3, .int x20), (4, .int (x44 + (1 : Int32)))]) (pc' := 102) hC dX12_add_99 rfl ki_1 (Nat.le_of_ble_eq_true rfl) rfl rfl ?_
                      refine go_goto (tgt := 82) hC dX12_add_102 (by decide) ?_
                      exact ih (x44 + (1 : Int32)) o56.1 o56.2.1 o56.2.2.1 o56.2.2.2.1 o56.2.2.2.2.1 o56.2.2.2.2.2.1 o56.2.2.2.2.2.2.1 o56.2.2.2.2.2.2.2.1 o56.2.2.2.2.2.2.2.2.1 o56.2.2.2.2.2.2.2.2.2 g hf
                exact l82_58 fuel x32 x21 x22 a23 a24 a25 a26 a27 a28 a29 a30 g hf
          exact l69_60 fuel (0 : Int32) o3.1 o3.2.1 ((x_S X).2.2.1 8) ((x_S X).2.2.1 9) ((x_S X).2.2.1 11) ((x_S X).2.2.1 12) o3.2.2.2.1 o3.2.2.2.2.1 o3.2.2.2.2.2.1 a7 g hf
        · have hf := ite_t h61 hf
          refine go_ldc2 (pc' := 45) hC dX12_add_42 mw_922 rfl ?_
          obtain rfl := Option.some.inj hf
          exact go_lret hC hQ dX12_add_45 rfl rfl rfl rfl rfl
theorem dX12_builtOf_0 : decode cX12_builtOf 0 = .ok (.aload_n 0, 1) := by decide +kernel
theorem dX12_builtOf_1 : decode cX12_builtOf 1 = .ok (.invokevirtual 361, 3) := by decide +kernel
theorem dX12_builtOf_4 : decode cX12_builtOf 4 = .ok (.aload_n 0, 1) := by decide +kernel
theorem dX12_builtOf_5 : decode cX12_builtOf 5 = .ok (.getfield 73, 3) := by decide +kernel
theorem dX12_builtOf_8 : decode cX12_builtOf 8 = .ok (.iconst 0, 1) := by decide +kernel
theorem dX12_builtOf_9 : decode cX12_builtOf 9 = .ok (.lconst 1, 1) := by decide +kernel
theorem dX12_builtOf_10 : decode cX12_builtOf 10 = .ok (.lastore, 1) := by decide +kernel
theorem dX12_builtOf_11 : decode cX12_builtOf 11 = .ok (.aload_n 0, 1) := by decide +kernel
theorem dX12_builtOf_12 : decode cX12_builtOf 12 = .ok (.getfield 104, 3) := by decide +kernel
theorem dX12_builtOf_15 : decode cX12_builtOf 15 = .ok (.iconst 0, 1) := by decide +kernel
theorem dX12_builtOf_16 : decode cX12_builtOf 16 = .ok (.iconst 0, 1) := by decide +kernel
theorem dX12_builtOf_17 : decode cX12_builtOf 17 = .ok (.iastore, 1) := by decide +kernel
theorem dX12_builtOf_18 : decode cX12_builtOf 18 = .ok (.iconst 1, 1) := by decide +kernel
theorem dX12_builtOf_19 : decode cX12_builtOf 19 = .ok (.istore_n 2, 1) := by decide +kernel
theorem dX12_builtOf_20 : decode cX12_builtOf 20 = .ok (.iconst 0, 1) := by decide +kernel
theorem dX12_builtOf_21 : decode cX12_builtOf 21 = .ok (.istore_n 3, 1) := by decide +kernel
theorem dX12_builtOf_22 : decode cX12_builtOf 22 = .ok (.iconst 0, 1) := by decide +kernel
theorem dX12_builtOf_23 : decode cX12_builtOf 23 = .ok (.istore 4, 2) := by decide +kernel
theorem dX12_builtOf_25 : decode cX12_builtOf 25 = .ok (.iload 4, 2) := by decide +kernel
theorem dX12_builtOf_27 : decode cX12_builtOf 27 = .ok (.aload_n 0, 1) := by decide +kernel
theorem dX12_builtOf_28 : decode cX12_builtOf 28 = .ok (.getfield 288, 3) := by decide +kernel
theorem dX12_builtOf_31 : decode cX12_builtOf 31 = .ok (.if_icmp .ge 119, 3) := by decide +kernel
theorem dX12_builtOf_34 : decode cX12_builtOf 34 = .ok (.iload 4, 2) := by decide +kernel
theorem dX12_builtOf_36 : decode cX12_builtOf 36 = .ok (.aload_n 0, 1) := by decide +kernel
theorem dX12_builtOf_37 : decode cX12_builtOf 37 = .ok (.getfield 279, 3) := by decide +kernel
theorem dX12_builtOf_40 : decode cX12_builtOf 40 = .ok (.if_icmp .ge 18, 3) := by decide +kernel
theorem dX12_builtOf_43 : decode cX12_builtOf 43 = .ok (.iload_n 1, 1) := by decide +kernel
theorem dX12_builtOf_44 : decode cX12_builtOf 44 = .ok (.iload 4, 2) := by decide +kernel
theorem dX12_builtOf_46 : decode cX12_builtOf 46 = .ok (.ishr, 1) := by decide +kernel
theorem dX12_builtOf_47 : decode cX12_builtOf 47 = .ok (.iconst 1, 1) := by decide +kernel
theorem dX12_builtOf_48 : decode cX12_builtOf 48 = .ok (.iand, 1) := by decide +kernel
theorem dX12_builtOf_49 : decode cX12_builtOf 49 = .ok (.ifCond .ne 9, 3) := by decide +kernel
theorem dX12_builtOf_52 : decode cX12_builtOf 52 = .ok (.iinc 3 1, 3) := by decide +kernel
theorem dX12_builtOf_55 : decode cX12_builtOf 55 = .ok (.goto 89, 3) := by decide +kernel
theorem dX12_builtOf_58 : decode cX12_builtOf 58 = .ok (.iconst 0, 1) := by decide +kernel
theorem dX12_builtOf_59 : decode cX12_builtOf 59 = .ok (.istore 5, 2) := by decide +kernel
theorem dX12_builtOf_61 : decode cX12_builtOf 61 = .ok (.iload 5, 2) := by decide +kernel
theorem dX12_builtOf_63 : decode cX12_builtOf 63 = .ok (.iload_n 2, 1) := by decide +kernel
theorem dX12_builtOf_64 : decode cX12_builtOf 64 = .ok (.if_icmp .ge 76, 3) := by decide +kernel
theorem dX12_builtOf_67 : decode cX12_builtOf 67 = .ok (.aload_n 0, 1) := by decide +kernel
theorem dX12_builtOf_68 : decode cX12_builtOf 68 = .ok (.getfield 73, 3) := by decide +kernel
theorem dX12_builtOf_71 : decode cX12_builtOf 71 = .ok (.iload 5, 2) := by decide +kernel
theorem dX12_builtOf_73 : decode cX12_builtOf 73 = .ok (.iload_n 2, 1) := by decide +kernel
theorem dX12_builtOf_74 : decode cX12_builtOf 74 = .ok (.iadd, 1) := by decide +kernel
theorem dX12_builtOf_75 : decode cX12_builtOf 75 = .ok (.aload_n 0, 1) := by decide +kernel
theorem dX12_builtOf_76 : decode cX12_builtOf 76 = .ok (.getfield 73, 3) := by decide +kernel
theorem dX12_builtOf_79 : decode cX12_builtOf 79 = .ok (.iload 5, 2) := by decide +kernel
theorem dX12_builtOf_81 : decode cX12_builtOf 81 = .ok (.laload, 1) := by decide +kernel
theorem dX12_builtOf_82 : decode cX12_builtOf 82 = .ok (.aload_n 0, 1) := by decide +kernel
theorem dX12_builtOf_83 : decode cX12_builtOf 83 = .ok (.getfield 57, 3) := by decide +kernel
theorem dX12_builtOf_86 : decode cX12_builtOf 86 = .ok (.iload 4, 2) := by decide +kernel
theorem dX12_builtOf_88 : decode cX12_builtOf 88 = .ok (.iaload, 1) := by decide +kernel
theorem dX12_builtOf_89 : decode cX12_builtOf 89 = .ok (.i2l, 1) := by decide +kernel
theorem dX12_builtOf_90 : decode cX12_builtOf 90 = .ok (.lmul, 1) := by decide +kernel
theorem dX12_builtOf_91 : decode cX12_builtOf 91 = .ok (.lastore, 1) := by decide +kernel
theorem dX12_builtOf_92 : decode cX12_builtOf 92 = .ok (.aload_n 0, 1) := by decide +kernel
theorem dX12_builtOf_93 : decode cX12_builtOf 93 = .ok (.getfield 104, 3) := by decide +kernel
theorem dX12_builtOf_96 : decode cX12_builtOf 96 = .ok (.iload 5, 2) := by decide +kernel
theorem dX12_builtOf_98 : decode cX12_builtOf 98 = .ok (.iload_n 2, 1) := by decide +kernel
theorem dX12_builtOf_99 : decode cX12_builtOf 99 = .ok (.iadd, 1) := by decide +kernel
theorem dX12_builtOf_100 : decode cX12_builtOf 100 = .ok (.aload_n 0, 1) := by decide +kernel
theorem dX12_builtOf_101 : decode cX12_builtOf 101 = .ok (.getfield 104, 3) := by decide +kernel
theorem dX12_builtOf_104 : decode cX12_builtOf 104 = .ok (.iload 5, 2) := by decide +kernel
theorem dX12_builtOf_106 : decode cX12_builtOf 106 = .ok (.iaload, 1) := by decide +kernel
theorem dX12_builtOf_107 : decode cX12_builtOf 107 = .ok (.iconst 1, 1) := by decide +kernel
theorem dX12_builtOf_108 : decode cX12_builtOf 108 = .ok (.iload 4, 2) := by decide +kernel
theorem dX12_builtOf_110 : decode cX12_builtOf 110 = .ok (.ishl, 1) := by decide +kernel
theorem dX12_builtOf_111 : decode cX12_builtOf 111 = .ok (.ior, 1) := by decide +kernel
theorem dX12_builtOf_112 : decode cX12_builtOf 112 = .ok (.iastore, 1) := by decide +kernel
theorem dX12_builtOf_113 : decode cX12_builtOf 113 = .ok (.aload_n 0, 1) := by decide +kernel
theorem dX12_builtOf_114 : decode cX12_builtOf 114 = .ok (.getfield 73, 3) := by decide +kernel
theorem dX12_builtOf_117 : decode cX12_builtOf 117 = .ok (.iload 5, 2) := by decide +kernel
theorem dX12_builtOf_119 : decode cX12_builtOf 119 = .ok (.dup2, 1) := by decide +kernel
theorem dX12_builtOf_120 : decode cX12_builtOf 120 = .ok (.laload, 1) := by decide +kernel
theorem dX12_builtOf_121 : decode cX12_builtOf 121 = .ok (.bipush 16, 2) := by decide +kernel
theorem dX12_builtOf_123 : decode cX12_builtOf 123 = .ok (.aload_n 0, 1) := by decide +kernel
theorem dX12_builtOf_124 : decode cX12_builtOf 124 = .ok (.getfield 57, 3) := by decide +kernel
theorem dX12_builtOf_127 : decode cX12_builtOf 127 = .ok (.iload 4, 2) := by decide +kernel
theorem dX12_builtOf_129 : decode cX12_builtOf 129 = .ok (.iaload, 1) := by decide +kernel
theorem dX12_builtOf_130 : decode cX12_builtOf 130 = .ok (.isub, 1) := by decide +kernel
theorem dX12_builtOf_131 : decode cX12_builtOf 131 = .ok (.i2l, 1) := by decide +kernel
theorem dX12_builtOf_132 : decode cX12_builtOf 132 = .ok (.lmul, 1) := by decide +kernel
theorem dX12_builtOf_133 : decode cX12_builtOf 133 = .ok (.lastore, 1) := by decide +kernel
theorem dX12_builtOf_134 : decode cX12_builtOf 134 = .ok (.iinc 5 1, 3) := by decide +kernel
theorem dX12_builtOf_137 : decode cX12_builtOf 137 = .ok (.goto (-76), 3) := by decide +kernel
theorem dX12_builtOf_140 : decode cX12_builtOf 140 = .ok (.iload_n 2, 1) := by decide +kernel
theorem dX12_builtOf_141 : decode cX12_builtOf 141 = .ok (.iconst 2, 1) := by decide +kernel
theorem dX12_builtOf_142 : decode cX12_builtOf 142 = .ok (.imul, 1) := by decide +kernel
theorem dX12_builtOf_143 : decode cX12_builtOf 143 = .ok (.istore_n 2, 1) := by decide +kernel
theorem dX12_builtOf_144 : decode cX12_builtOf 144 = .ok (.iinc 4 1, 3) := by decide +kernel
theorem dX12_builtOf_147 : decode cX12_builtOf 147 = .ok (.goto (-122), 3) := by decide +kernel
theorem dX12_builtOf_150 : decode cX12_builtOf 150 = .ok (.lconst 0, 1) := by decide +kernel
theorem dX12_builtOf_151 : decode cX12_builtOf 151 = .ok (.lstore 4, 2) := by decide +kernel
theorem dX12_builtOf_153 : decode cX12_builtOf 153 = .ok (.iconst 0, 1) := by decide +kernel
theorem dX12_builtOf_154 : decode cX12_builtOf 154 = .ok (.istore 6, 2) := by decide +kernel
theorem dX12_builtOf_156 : decode cX12_builtOf 156 = .ok (.iload 6, 2) := by decide +kernel
theorem dX12_builtOf_158 : decode cX12_builtOf 158 = .ok (.iload_n 2, 1) := by decide +kernel
theorem dX12_builtOf_159 : decode cX12_builtOf 159 = .ok (.if_icmp .ge 40, 3) := by decide +kernel
theorem dX12_builtOf_162 : decode cX12_builtOf 162 = .ok (.lload 4, 2) := by decide +kernel
theorem dX12_builtOf_164 : decode cX12_builtOf 164 = .ok (.aload_n 0, 1) := by decide +kernel
theorem dX12_builtOf_165 : decode cX12_builtOf 165 = .ok (.getfield 70, 3) := by decide +kernel
theorem dX12_builtOf_168 : decode cX12_builtOf 168 = .ok (.aload_n 0, 1) := by decide +kernel
theorem dX12_builtOf_169 : decode cX12_builtOf 169 = .ok (.getfield 104, 3) := by decide +kernel
theorem dX12_builtOf_172 : decode cX12_builtOf 172 = .ok (.iload 6, 2) := by decide +kernel
theorem dX12_builtOf_174 : decode cX12_builtOf 174 = .ok (.iaload, 1) := by decide +kernel
theorem dX12_builtOf_175 : decode cX12_builtOf 175 = .ok (.baload, 1) := by decide +kernel
theorem dX12_builtOf_176 : decode cX12_builtOf 176 = .ok (.ifCond .eq 13, 3) := by decide +kernel
theorem dX12_builtOf_179 : decode cX12_builtOf 179 = .ok (.aload_n 0, 1) := by decide +kernel
theorem dX12_builtOf_180 : decode cX12_builtOf 180 = .ok (.getfield 73, 3) := by decide +kernel
theorem dX12_builtOf_183 : decode cX12_builtOf 183 = .ok (.iload 6, 2) := by decide +kernel
theorem dX12_builtOf_185 : decode cX12_builtOf 185 = .ok (.laload, 1) := by decide +kernel
theorem dX12_builtOf_186 : decode cX12_builtOf 186 = .ok (.goto 4, 3) := by decide +kernel
theorem dX12_builtOf_189 : decode cX12_builtOf 189 = .ok (.lconst 0, 1) := by decide +kernel
theorem dX12_builtOf_190 : decode cX12_builtOf 190 = .ok (.ladd, 1) := by decide +kernel
theorem dX12_builtOf_191 : decode cX12_builtOf 191 = .ok (.lstore 4, 2) := by decide +kernel
theorem dX12_builtOf_193 : decode cX12_builtOf 193 = .ok (.iinc 6 1, 3) := by decide +kernel
theorem dX12_builtOf_196 : decode cX12_builtOf 196 = .ok (.goto (-40), 3) := by decide +kernel
theorem dX12_builtOf_199 : decode cX12_builtOf 199 = .ok (.lload 4, 2) := by decide +kernel
theorem dX12_builtOf_201 : decode cX12_builtOf 201 = .ok (.aload_n 0, 1) := by decide +kernel
theorem dX12_builtOf_202 : decode cX12_builtOf 202 = .ok (.iload_n 3, 1) := by decide +kernel
theorem dX12_builtOf_203 : decode cX12_builtOf 203 = .ok (.invokevirtual 369, 3) := by decide +kernel
theorem dX12_builtOf_206 : decode cX12_builtOf 206 = .ok (.lmul, 1) := by decide +kernel
theorem dX12_builtOf_207 : decode cX12_builtOf 207 = .ok (.lreturn, 1) := by decide +kernel
abbrev o_X12_builtOf : Type := Int64 × Int32 × Int32 × Int32 × (Nat → Int32) × (Nat → Int32) × (Nat → Int32) × (Nat → Int32) × (Nat → Int32) × (Nat → Int64)
def f_X12_builtOf_L156 (o1 : o_X12_lays) (x6 : Int32) (a8 : Nat → Int32) (a9 : Nat → Int64) (k199_12 : (Int64) → (Option o_X12_builtOf)) (r16 : (Int64) → (Int32) → (Option o_X12_builtOf)) (x14 : Int64) (x15 : Int32) : Option o_X12_builtOf :=
if x6 ≤ x15 then (
k199_12 x14) else (
gd (okx x15 32768) <|
gd (okx (a8 x15.toNatClampNeg) 32768) <|
lk (fun x19 x20 =>
lz (x20 + x19) fun x22 =>
r16 x22 (x15 + (1 : Int32))) fun k190_21 =>
if (o1.2.2.2.2.2.2 (a8 x15.toNatClampNeg).toNatClampNeg) = 0 then (
k190_21 (0 : Int64) x14) else (
gd (okx x15 32768) <|
k190_21 (a9 x15.toNatClampNeg) x14))
def f_X12_builtOf_L61 (S : wd_W) (x27 : Int32) (x29 : Int32) (k140_41 : (Nat → Int32) → (Nat → Int64) → (Option o_X12_builtOf)) (r46 : (Int32) → (Nat → Int32) → (Nat → Int64) → (Option o_X12_builtOf)) (x43 : Int32) (a44 : Nat → Int32) (a45 : Nat → Int64) : Option o_X12_builtOf :=
if x27 ≤ x43 then (
k140_41 a44 a45) else (
gd (okx x43 32768) <|
gd (okx x29 15) <|
lz ((a45 x43.toNatClampNeg) * (((S.2.2.1 16) x29.toNatClampNeg).toInt64)) fun x49 =>
gd (okx (x43 + x27) 32768) <|
lz (vp_updL a45 (x43 + x27).toNatClampNeg x49) fun a51 =>
gd (okx x43 32768) <|
lz ((a44 x43.toNatClampNeg) ||| ((1 : Int32) <<< (x29 &&& 31))) fun x53 =>
gd (okx (x43 + x27) 32768) <|
lz (upd a44 (x43 + x27).toNatClampNeg x53) fun a55 =>
gd (okx x43 32768) <|
gd (okx x29 15) <|
lz ((a51 x43.toNatClampNeg) * (((16 : Int32) - ((S.2.2.1 16) x29.toNatClampNeg)).toInt64)) fun x58 =>
gd (okx x43 32768) <|
lz (vp_updL a51 x43.toNatClampNeg x58) fun a60 =>
r46 (x43 + (1 : Int32)) a55 a60)
def f_X12_builtOf_L25 (S : wd_W) (p1 : Int32) (k150_10 : (Int32) → (Int32) → (Nat → Int32) → (Nat → Int64) → (Option o_X12_builtOf)) (r32 : (Int32) → (Int32) → (Int32) → (Nat → Int32) → (Nat → Int64) → (Option o_X12_builtOf)) (x27 : Int32) (x28 : Int32) (x29 : Int32) (a30 : Nat → Int32) (a31 : Nat → Int64) : Option o_X12_builtOf :=
if (S.1 32) ≤ x29 then (
k150_10 x27 x28 a30 a31) else (
lk (fun x33 x34 a35 a36 =>
r32 x33 x34 (x29 + (1 : Int32)) a35 a36) fun k144_37 =>
lk (lk (fun a39 a40 =>
lz (x27 * (2 : Int32)) fun x42 =>
k144_37 x42 x28 a39 a40) fun k140_41 =>
it3 (f_X12_builtOf_L61 S x27 x29 k140_41) fuel (0 : Int32) a30 a31) fun k58_38 =>
if (S.1 21) ≤ x29 then (
k58_38) else (
if ((p1 >>> (x29 &&& 31)) &&& (1 : Int32)) = 0 then (
k144_37 x27 (x28 + (1 : Int32)) a30 a31) else (
k58_38)))
def f_X12_builtOf (S : wd_W) (p1 : Int32) : Option o_X12_builtOf :=
bd (f_X12_lays (wd_o S [(38, (S.1 38)), (39, (S.1 39)), (44, (S.1 44))] [] [(17, (S.2.2.1 17)), (18, (S.2.2.1 18)), (19, (S.2.2.1 19)), (20, (S.2.2.1 20)), (31, (S.2.2.1 31))] [(21, (S.2.2.2.1 21))] [])) fun o1 =>
gd (okx (0 : Int32) 32768) <|
lz (vp_updL (S.2.2.2.1 21) (0 : Int32).toNatClampNeg (1 : Int64)) fun a3 =>
gd (okx (0 : Int32) 32768) <|
lz (upd (S.2.2.1 31) (0 : Int32).toNatClampNeg (0 : Int32)) fun a5 =>
lk (fun x6 x7 a8 a9 =>
lk (fun x11 =>
bd (f_X12_power x7) fun o13 =>
some (x11 * o13, o1.1, o1.2.1, o1.2.2.1, o1.2.2.2.1, o1.2.2.2.2.1, o1.2.2.2.2.2.1, o1.2.2.2.2.2.2, a8, a9)) fun k199_12 =>
it2 (f_X12_builtOf_L156 o1 x6 a8 a9 k199_12) fuel (0 : Int64) (0 : Int32)) fun k150_10 =>
it5 (f_X12_builtOf_L25 S p1 k150_10) fuel (1 : Int32) (0 : Int32) (0 : Int32) a5 a3
set_option maxRecDepth 100000 in
set_option maxHeartbeats 4000000 in
theorem c_X12_builtOf (l : Launch) (D : va_G) (q g : Nat → Nat) (cy : Nat → ClassId) (z : (Nat → Nat) × (Nat → Nat) × Nat) (S : wd_W) (p1 : Int32) (o : o_X12_builtOf) (hf : f_X12_builtOf S p1 = some o) : MX layM l yX12_builtOf cX12_builtOf 7 (some .long) ({ frames := 5, cells := 0, slots := 0, locals := 115 } : Room) D q g cy z [.ref (q 0), .int p1] S (some (.long o.1)) (wd_o S [(38, o.2.1), (39, o.2.2.1), (44, o.2.2.2.1)] [] [(17, o.2.2.2.2.1), (18, o.2.2.2.2.2.1), (19, o.2.2.2.2.2.2.1), (20, o.2.2.2.2.2.2.2.1), (31, o.2.2.2.2.2.2.2.2.1)] [(21, o.2.2.2.2.2.2.2.2.2)] []) 0 0 := by
  refine mx_of (own := RX12) (lc := [(0, .ref (q 0)), (1, .int p1)]) (by decide +kernel) rfl layM_ok (Nat.le_of_ble_eq_true rfl) rfl ?_
  intro X hXl hXq hXS hC hQ
  subst hXl; subst hXq; subst hXS
  unfold f_X12_builtOf at hf
  refine go_keys (L1 := [(38, ((x_S X).1 38)), (39, ((x_S X).1 39)), (44, ((x_S X).1 44))]) (L2 := []) (L3 := [(17, ((x_S X).2.2.1 17)), (18, ((x_S X).2.2.1 18)), (19, ((x_S X).2.2.1 19)), (20, ((x_S X).2.2.1 20)), (31, ((x_S X).2.2.1 31))]) (L4 := [(21, ((x_S X).2.2.2.1 21))]) (L5 := []) [38, 39, 44] [] [17, 18, 19, 20, 31] [21] [] rfl rfl rfl rfl rfl ?_
  refine go_aload_n (pc' := 1) hC dX12_builtOf_0 rfl rfl ?_
  obtain ⟨o1, ho1, hf⟩ := bd_e hf
  refine go_callV (pc' := 4) (As := []) (st := []) (st' := []) (L1' := [(38, o1.1), (39, o1.2.1), (44, o1.2.2.1)]) (L2' := []) (L3' := [(17, o1.2.2.2.1), (18, o1.2.2.2.2.1), (19, o1.2.2.2.2.2.1), (20, o1.2.2.2.2.2.2), (31, ((x_S X).2.2.1 31))]) (L4' := [(21, ((x_S X).2.2.2.1 21))]) (L5' := []) (cells' := 0) (slots' := 0) (b := 0) hC dX12_builtOf_1 ⟨mw_860, mw_863, mw_5, yd_yX12_lays, yp_yX12_lays, Nat.le_of_ble_eq_true rfl, Nat.le_of_ble_eq_true rfl, Nat.le_of_ble_eq_true rfl, Nat.le_of_ble_eq_true rfl⟩ mw_861 mw_862 layM_0 rfl rfl rfl (Nat.le_of_ble_eq_true rfl) (c_X12_lays (x_l X) (x_D X) (x_q X) g (x_cy X) (x_z X) _  o1 ho1) rfl rfl rfl rfl rfl rfl rfl rfl rfl rfl rfl rfl rfl rfl (fun g => ?_)
  refine go_aload_n (pc' := 5) hC dX12_builtOf_4 rfl rfl ?_
  refine go_getq (pc' := 8) hC 0 45 layM_0 rfl rfl inlX12 (Nat.le_of_ble_eq_true rfl) mw_202 rfl dX12_builtOf_5 rfl ?_
  refine go_iconst (pc' := 9) hC dX12_builtOf_8 ki_0 rfl ?_
  refine go_lconst (pc' := 10) hC dX12_builtOf_9 kl_1 rfl ?_
  obtain ⟨h2, hf⟩ := gd_e hf
  refine go_last (f := ((x_S X).2.2.2.1 21)) (pc' := 11) hC 21 layM_21 rfl rfl dX12_builtOf_10 (okx_in h2) rfl rfl (fun a3 ha L4' hL => ?_)
  have hf := lz_r ha hf
  clear ha
  obtain rfl : L4' = [(21, a3)] := hL.symm
  refine go_aload_n (pc' := 12) hC dX12_builtOf_11 rfl rfl ?_
  refine go_getq (pc' := 15) hC 0 59 layM_0 rfl rfl inlX12 (Nat.le_of_ble_eq_true rfl) mw_212 rfl dX12_builtOf_12 rfl ?_
  refine go_iconst (pc' := 16) hC dX12_builtOf_15 ki_0 rfl ?_
  refine go_iconst (pc' := 17) hC dX12_builtOf_16 ki_0 rfl ?_
  obtain ⟨h4, hf⟩ := gd_e hf
  refine go_iast (f := ((x_S X).2.2.1 31)) (pc' := 18) hC 31 layM_31 rfl rfl dX12_builtOf_17 (okx_in h4) rfl rfl (fun a5 ha L3' hL => ?_)
  have hf := lz_r ha hf
  clear ha
  obtain rfl : L3' = [(17, o1.2.2.2.1), (18, o1.2.2.2.2.1), (19, o1.2.2.2.2.2.1), (20, o1.2.2.2.2.2.2), (31, a5)] := hL.symm
  refine go_iconst (pc' := 19) hC dX12_builtOf_18 ki_1 rfl ?_
  refine go_istore_n (lc' := [(0, .ref (x_q X 0)), (1, .int p1), (2, .int (1 : Int32))]) (pc' := 20) hC dX12_builtOf_19 (Nat.le_of_ble_eq_true rfl) rfl rfl ?_
  refine go_iconst (pc' := 21) hC dX12_builtOf_20 ki_0 rfl ?_
  refine go_istore_n (lc' := [(0, .ref (x_q X 0)), (1, .int p1), (2, .int (1 : Int32)), (3, .int (0 : Int32))]) (pc' := 22) hC dX12_builtOf_21 (Nat.le_of_ble_eq_true rfl) rfl rfl ?_
  refine go_iconst (pc' := 23) hC dX12_builtOf_22 ki_0 rfl ?_
  refine go_istore (lc' := [(0, .ref (x_q X 0)), (1, .int p1), (2, .int (1 : Int32)), (3, .int (0 : Int32)), (4, .int (0 : Int32))]) (pc' := 25) hC dX12_builtOf_23 (Nat.le_of_ble_eq_true rfl) rfl rfl ?_
  obtain ⟨k150_10, hk150_10, hf⟩ := lk_e4 hf
  have jk150_10 : ∀ (x6 : Int32) (x7 : Int32) (a8 : Nat → Int32) (a9 : Nat → Int64) (g : Nat → Nat), k150_10 x6 x7 a8 a9 = some o → Go X layM 150 [(0, .ref (x_q X 0)), (2, .int x6), (3, .int x7)] [] g [(38, o1.1), (39, o1.2.1), (44, o1.2.2.1)] [] [(17, o1.2.2.2.1), (18, o1.2.2.2.2.1), (19, o1.2.2.2.2.2.1), (20, o1.2.2.2.2.2.2), (31, a8)] [(21, a9)] [] 0 0 := by
    intro x6 x7 a8 a9 g hf
    have hf := hk150_10 x6 x7 a8 a9 hf
    clear hk150_10
    refine go_lconst (pc' := 151) hC dX12_builtOf_150 kl_0 rfl ?_
    refine go_lstore (lc' := [(0, .ref (x_q X 0)), (2, .int x6), (3, .int x7), (4, .long (0 : Int64))]) (pc' := 153) hC dX12_builtOf_151 (Nat.le_of_ble_eq_true rfl) rfl rfl ?_
    refine go_iconst (pc' := 154) hC dX12_builtOf_153 ki_0 rfl ?_
    refine go_istore (lc' := [(0, .ref (x_q X 0)), (2, .int x6), (3, .int x7), (4, .long (0 : Int64)), (6, .int (0 : Int32))]) (pc' := 156) hC dX12_builtOf_154 (Nat.le_of_ble_eq_true rfl) rfl rfl ?_
    obtain ⟨k199_12, hk199_12, hf⟩ := lk_e1 hf
    have jk199_12 : ∀ (x11 : Int64) (g : Nat → Nat), k199_12 x11 = some o → Go X layM 199 [(0, .ref (x_q X 0)), (3, .int x7), (4, .long x11)] [] g [(38, o1.1), (39, o1.2.1), (44, o1.2.2.1)] [] [(17, o1.2.2.2.1), (18, o1.2.2.2.2.1), (19, o1.2.2.2.2.2.1), (20, o1.2.2.2.2.2.2), (31, a8)] [(21, a9)] [] 0 0 := by
      intro x11 g hf
      have hf := hk199_12 x11 hf
      clear hk199_12
      refine go_lload (pc' := 201) hC dX12_builtOf_199 rfl rfl ?_
      refine go_aload_n (pc' := 202) hC dX12_builtOf_201 rfl rfl ?_
      refine go_iload_n (pc' := 203) hC dX12_builtOf_202 rfl rfl ?_
      obtain ⟨o13, ho13, hf⟩ := bd_e hf
      refine go_callV0 (pc' := 206) (As := [.int x7]) (st := [.long x11]) (st' := [.long o13, .long x11])   (b := 0) hC dX12_builtOf_203 ⟨mw_923, mw_926, mw_5, yd_yX12_power, yp_yX12_power, Nat.le_of_ble_eq_true rfl, Nat.le_of_ble_eq_true rfl, Nat.le_of_ble_eq_true rfl, Nat.le_of_ble_eq_true rfl⟩ mw_924 mw_925 layM_0 rfl rfl rfl (Nat.le_of_ble_eq_true rfl) (c_X12_power (x_l X) (x_D X) (x_q X) g (x_cy X) (x_z X) _ x7 o13 ho13) rfl rfl (fun g => ?_)
      refine go_lmul (pc' := 207) hC dX12_builtOf_206 rfl ?_
      obtain rfl := Option.some.inj hf
      exact go_lret hC hQ dX12_builtOf_207 rfl rfl rfl rfl rfl
    clear hk199_12
    have l156_26 : ∀ (nn : Nat) (x14 : Int64) (x15 : Int32) (g : Nat → Nat), it2 (f_X12_builtOf_L156 o1 x6 a8 a9 k199_12) nn x14 x15 = some o → Go X layM 156 [(0, .ref (x_q X 0)), (2, .int x6), (3, .int x7), (4, .long x14), (6, .int x15)] [] g [(38, o1.1), (39, o1.2.1), (44, o1.2.2.1)] [] [(17, o1.2.2.2.1), (18, o1.2.2.2.2.1), (19, o1.2.2.2.2.2.1), (20, o1.2.2.2.2.2.2), (31, a8)] [(21, a9)] [] 0 0 := by
      intro nn
      induction nn with
      | zero =>
        intro x14 x15 g hf
        exact none_no hf
      | succ nn ih =>
        intro x14 x15 g hf
        have hf : f_X12_builtOf_L156 o1 x6 a8 a9 k199_12 (it2 (f_X12_builtOf_L156 o1 x6 a8 a9 k199_12) nn) x14 x15 = some o := hf
        generalize it2 (f_X12_builtOf_L156 o1 x6 a8 a9 k199_12) nn = r16 at ih hf
        unfold f_X12_builtOf_L156 at hf
        refine go_iload (pc' := 158) hC dX12_builtOf_156 rfl rfl ?_
        refine go_iload_n (pc' := 159) hC dX12_builtOf_158 rfl rfl ?_
        refine go_icmp_ge (tgt := 199) (pc' := 162) hC dX12_builtOf_159 (by decide) rfl (fun h25 => ?_) (fun h25 => ?_)
        · have hf := ite_t h25 hf
          refine go_sub [0, 3, 4] rfl ?_
          exact jk199_12 x14 g hf
        · have hf := ite_f h25 hf
          refine go_lload (pc' := 164) hC dX12_builtOf_162 rfl rfl ?_
          refine go_aload_n (pc' := 165) hC dX12_builtOf_164 rfl rfl ?_
          refine go_getq (pc' := 168) hC 0 43 layM_0 rfl rfl inlX12 (Nat.le_of_ble_eq_true rfl) mw_201 rfl dX12_builtOf_165 rfl ?_
          refine go_aload_n (pc' := 169) hC dX12_builtOf_168 rfl rfl ?_
          refine go_getq (pc' := 172) hC 0 59 layM_0 rfl rfl inlX12 (Nat.le_of_ble_eq_true rfl) mw_212 rfl dX12_builtOf_169 rfl ?_
          refine go_iload (pc' := 174) hC dX12_builtOf_172 rfl rfl ?_
          obtain ⟨h17, hf⟩ := gd_e hf
          refine go_iald (f := a8) (pc' := 175) hC 31 layM_31 rfl rfl dX12_builtOf_174 (okx_in h17) rfl ?_
          obtain ⟨h18, hf⟩ := gd_e hf
          refine go_zald (f := o1.2.2.2.2.2.2) (pc' := 176) hC 20 layM_20 rfl rfl dX12_builtOf_175 (okx_in h18) rfl ?_
          obtain ⟨k190_21, hk190_21, hf⟩ := lk_e2 hf
          have jk190_21 : ∀ (x19 : Int64) (x20 : Int64) (g : Nat → Nat), k190_21 x19 x20 = some o → Go X layM 190 [(0, .ref (x_q X 0)), (2, .int x6), (3, .int x7), (6, .int x15)] [.long x19, .long x20] g [(38, o1.1), (39, o1.2.1), (44, o1.2.2.1)] [] [(17, o1.2.2.2.1), (18, o1.2.2.2.2.1), (19, o1.2.2.2.2.2.1), (20, o1.2.2.2.2.2.2), (31, a8)] [(21, a9)] [] 0 0 := by
            intro x19 x20 g hf
            have hf := hk190_21 x19 x20 hf
            clear hk190_21
            refine go_ladd (pc' := 191) hC dX12_builtOf_190 rfl ?_
            refine go_namel (fun x22 hx => ?_)
            have hf := lz_r hx hf
            clear hx
            refine go_lstore (lc' := [(0, .ref (x_q X 0)), (2, .int x6), (3, .int x7), (4, .long x22), (6, .int x15)]) (pc' := 193) hC dX12_builtOf_191 (Nat.le_of_ble_eq_true rfl) rfl rfl ?_
            refine go_iinc (lc' := [(0, .ref (x_q X 0)), (2, .int x6), (3, .int x7), (4, .long x22), (6, .int (x15 + (1 : Int32)))]) (pc' := 196) hC dX12_builtOf_193 rfl ki_1 (Nat.le_of_ble_eq_true rfl) rfl rfl ?_
            refine go_goto (tgt := 156) hC dX12_builtOf_196 (by decide) ?_
            exact ih x22 (x15 + (1 : Int32)) g hf
          clear hk190_21
          refine go_if_eq (tgt := 189) (pc' := 179) hC dX12_builtOf_176 (by decide) rfl (fun h24 => ?_) (fun h24 => ?_)
          · have hf := ite_t h24 hf
            refine go_lconst (pc' := 190) hC dX12_builtOf_189 kl_0 rfl ?_
            refine go_sub [0, 2, 3, 6] rfl ?_
            exact jk190_21 (0 : Int64) x14 g hf
          · have hf := ite_f h24 hf
            refine go_aload_n (pc' := 180) hC dX12_builtOf_179 rfl rfl ?_
            refine go_getq (pc' := 183) hC 0 45 layM_0 rfl rfl inlX12 (Nat.le_of_ble_eq_true rfl) mw_202 rfl dX12_builtOf_180 rfl ?_
            refine go_iload (pc' := 185) hC dX12_builtOf_183 rfl rfl ?_
            obtain ⟨h23, hf⟩ := gd_e hf
            refine go_lald (f := a9) (pc' := 186) hC 21 layM_21 rfl rfl dX12_builtOf_185 (okx_in h23) rfl ?_
            refine go_goto (tgt := 190) hC dX12_builtOf_186 (by decide) ?_
            refine go_sub [0, 2, 3, 6] rfl ?_
            exact jk190_21 (a9 x15.toNatClampNeg) x14 g hf
    exact l156_26 fuel (0 : Int64) (0 : Int32) g hf
  clear hk150_10
  have l25_66 : ∀ (nn : Nat) (x27 : Int32) (x28 : Int32) (x29 : Int32) (a30 : Nat → Int32) (a31 : Nat → Int64) (g : Nat → Nat), it5 (f_X12_builtOf_L25 (x_S X) p1 k150_10) nn x27 x28 x29 a30 a31 = some o → Go X layM 25 [(0, .ref (x_q X 0)), (1, .int p1), (2, .int x27), (3, .int x28), (4, .int x29)] [] g [(38, o1.1), (39, o1.2.1), (44, o1.2.2.1)] [] [(17, o1.2.2.2.1), (18, o1.2.2.2.2.1), (19, o1.2.2.2.2.2.1), (20, o1.2.2.2.2.2.2), (31, a30)] [(21, a31)] [] 0 0 := by
    intro nn
    induction nn with
    | zero =>
      intro x27 x28 x29 a30 a31 g hf
      exact none_no hf
    | succ nn ih =>
      intro x27 x28 x29 a30 a31 g hf
      have hf : f_X12_builtOf_L25 (x_S X) p1 k150_10 (it5 (f_X12_builtOf_L25 (x_S X) p1 k150_10) nn) x27 x28 x29 a30 a31 = some o := hf
      generalize it5 (f_X12_builtOf_L25 (x_S X) p1 k150_10) nn = r32 at ih hf
      unfold f_X12_builtOf_L25 at hf
      refine go_iload (pc' := 27) hC dX12_builtOf_25 rfl rfl ?_
      refine go_aload_n (pc' := 28) hC dX12_builtOf_27 rfl rfl ?_
      refine go_geti (v := ((x_S X).1 32)) (pc' := 31) hC 0 32 layM_0 rfl rfl inlX12 (Nat.le_of_ble_eq_true rfl) mw_250 rfl dX12_builtOf_28 rfl rfl ?_
      refine go_icmp_ge (tgt := 150) (pc' := 34) hC dX12_builtOf_31 (by decide) rfl (fun h65 => ?_) (fun h65 => ?_)
      · have hf := ite_t h65 hf
        refine go_sub [0, 2, 3] rfl ?_
        exact jk150_10 x27 x28 a30 a31 g hf
      · have hf := ite_f h65 hf
        refine go_iload (pc' := 36) hC dX12_builtOf_34 rfl rfl ?_
        refine go_aload_n (pc' := 37) hC dX12_builtOf_36 rfl rfl ?_
        refine go_geti (v := ((x_S X).1 21)) (pc' := 40) hC 0 21 layM_0 rfl rfl inlX12 (Nat.le_of_ble_eq_true rfl) mw_247 rfl dX12_builtOf_37 rfl rfl ?_
        obtain ⟨k144_37, hk144_37, hf⟩ := lk_e4 hf
        have jk144_37 : ∀ (x33 : Int32) (x34 : Int32) (a35 : Nat → Int32) (a36 : Nat → Int64) (g : Nat → Nat), k144_37 x33 x34 a35 a36 = some o → Go X layM 144 [(0, .ref (x_q X 0)), (1, .int p1), (2, .int x33), (3, .int x34), (4, .int x29)] [] g [(38, o1.1), (39, o1.2.1), (44, o1.2.2.1)] [] [(17, o1.2.2.2.1), (18, o1.2.2.2.2.1), (19, o1.2.2.2.2.2.1), (20, o1.2.2.2.2.2.2), (31, a35)] [(21, a36)] [] 0 0 := by
          intro x33 x34 a35 a36 g hf
          have hf := hk144_37 x33 x34 a35 a36 hf
          clear hk144_37
          refine go_iinc (lc' := [(0, .ref (x_q X 0)), (1, .int p1), (2, .int x33), (3, .int x34), (4, .int (x29 + (1 : Int32)))]) (pc' := 147) hC dX12_builtOf_144 rfl ki_1 (Nat.le_of_ble_eq_true rfl) rfl rfl ?_
          refine go_goto (tgt := 25) hC dX12_builtOf_147 (by decide) ?_
          exact ih x33 x34 (x29 + (1 : Int32)) a35 a36 g hf
        clear hk144_37
        obtain ⟨k58_38, hk58_38, hf⟩ := lk_e0 hf
        have jk58_38 : ∀ (g : Nat → Nat), k58_38 = some o → Go X layM 58 [(0, .ref (x_q X 0)), (1, .int p1), (2, .int x27), (3, .int x28), (4, .int x29)] [] g [(38, o1.1), (39, o1.2.1), (44, o1.2.2.1)] [] [(17, o1.2.2.2.1), (18, o1.2.2.2.2.1), (19, o1.2.2.2.2.2.1), (20, o1.2.2.2.2.2.2), (31, a30)] [(21, a31)] [] 0 0 := by
          intro  g hf
          have hf := hk58_38 hf
          clear hk58_38
          refine go_iconst (pc' := 59) hC dX12_builtOf_58 ki_0 rfl ?_
          refine go_istore (lc' := [(0, .ref (x_q X 0)), (1, .int p1), (2, .int x27), (3, .int x28), (4, .int x29), (5, .int (0 : Int32))]) (pc' := 61) hC dX12_builtOf_59 (Nat.le_of_ble_eq_true rfl) rfl rfl ?_
          obtain ⟨k140_41, hk140_41, hf⟩ := lk_e2 hf
          have jk140_41 : ∀ (a39 : Nat → Int32) (a40 : Nat → Int64) (g : Nat → Nat), k140_41 a39 a40 = some o → Go X layM 140 [(0, .ref (x_q X 0)), (1, .int p1), (2, .int x27), (3, .int x28), (4, .int x29)] [] g [(38, o1.1), (39, o1.2.1), (44, o1.2.2.1)] [] [(17, o1.2.2.2.1), (18, o1.2.2.2.2.1), (19, o1.2.2.2.2.2.1), (20, o1.2.2.2.2.2.2), (31, a39)] [(21, a40)] [] 0 0 := by
            intro a39 a40 g hf
            have hf := hk140_41 a39 a40 hf
            clear hk140_41
            refine go_iload_n (pc' := 141) hC dX12_builtOf_140 rfl rfl ?_
            refine go_iconst (pc' := 142) hC dX12_builtOf_141 ki_2 rfl ?_
            refine go_imul (pc' := 143) hC dX12_builtOf_142 rfl ?_
            refine go_namei (fun x42 hx => ?_)
            have hf := lz_r hx hf
            clear hx
            refine go_istore_n (lc' := [(0, .ref (x_q X 0)), (1, .int p1), (2, .int x42), (3, .int x28), (4, .int x29)]) (pc' := 144) hC dX12_builtOf_143 (Nat.le_of_ble_eq_true rfl) rfl rfl ?_
            exact jk144_37 x42 x28 a39 a40 g hf
          clear hk140_41
          have l61_62 : ∀ (nn : Nat) (x43 : Int32) (a44 : Nat → Int32) (a45 : Nat → Int64) (g : Nat → Nat), it3 (f_X12_builtOf_L61 (x_S X) x27 x29 k140_41) nn x43 a44 a45 = some o → Go X layM 61 [(0, .ref (x_q X 0)), (1, .int p1), (2, .int x27), (3, .int x28), (4, .int x29), (5, .int x43)] [] g [(38, o1.1), (39, o1.2.1), (44, o1.2.2.1)] [] [(17, o1.2.2.2.1), (18, o1.2.2.2.2.1), (19, o1.2.2.2.2.2.1), (20, o1.2.2.2.2.2.2), (31, a44)] [(21, a45)] [] 0 0 := by
            intro nn
            induction nn with
            | zero =>
              intro x43 a44 a45 g hf
              exact none_no hf
            | succ nn ih =>
              intro x43 a44 a45 g hf
              have hf : f_X12_builtOf_L61 (x_S X) x27 x29 k140_41 (it3 (f_X12_builtOf_L61 (x_S X) x27 x29 k140_41) nn) x43 a44 a45 = some o := hf
              generalize it3 (f_X12_builtOf_L61 (x_S X) x27 x29 k140_41) nn = r46 at ih hf
              unfold f_X12_builtOf_L61 at hf
              refine go_iload (pc' := 63) hC dX12_builtOf_61 rfl rfl ?_
              refine go_iload_n (pc' := 64) hC dX12_builtOf_63 rfl rfl ?_
              refine go_icmp_ge (tgt := 140) (pc' := 67) hC dX12_builtOf_64 (by decide) rfl (fun h61 => ?_) (fun h61 => ?_)
              · have hf := ite_t h61 hf
                refine go_sub [0, 1, 2, 3, 4] rfl ?_
                exact jk140_41 a44 a45 g hf
              · have hf := ite_f h61 hf
                refine go_aload_n (pc' := 68) hC dX12_builtOf_67 rfl rfl ?_
                refine go_getq (pc' := 71) hC 0 45 layM_0 rfl rfl inlX12 (Nat.le_of_ble_eq_true rfl) mw_202 rfl dX12_builtOf_68 rfl ?_
                refine go_iload (pc' := 73) hC dX12_builtOf_71 rfl rfl ?_
                refine go_iload_n (pc' := 74) hC dX12_builtOf_73 rfl rfl ?_
                refine go_iadd (pc' := 75) hC dX12_builtOf_74 rfl ?_
                refine go_aload_n (pc' := 76) hC dX12_builtOf_75 rfl rfl ?_
                refine go_getq (pc' := 79) hC 0 45 layM_0 rfl rfl inlX12 (Nat.le_of_ble_eq_true rfl) mw_202 rfl dX12_builtOf_76 rfl ?_
                refine go_iload (pc' := 81) hC dX12_builtOf_79 rfl rfl ?_
                obtain ⟨h47, hf⟩ := gd_e hf
                refine go_lald (f := a45) (pc' := 82) hC 21 layM_21 rfl rfl dX12_builtOf_81 (okx_in h47) rfl ?_
                refine go_aload_n (pc' := 83) hC dX12_builtOf_82 rfl rfl ?_
                refine go_getq (pc' := 86) hC 0 33 layM_0 rfl rfl inlX12 (Nat.le_of_ble_eq_true rfl) mw_196 rfl dX12_builtOf_83 rfl ?_
                refine go_iload (pc' := 88) hC dX12_builtOf_86 rfl rfl ?_
                obtain ⟨h48, hf⟩ := gd_e hf
                refine go_iald (f := ((x_S X).2.2.1 16)) (pc' := 89) hC 16 layM_16 rfl rfl dX12_builtOf_88 (okx_in h48) rfl ?_
                refine go_i2l (pc' := 90) hC dX12_builtOf_89 rfl ?_
                refine go_lmul (pc' := 91) hC dX12_builtOf_90 rfl ?_
                refine go_namel (fun x49 hx => ?_)
                have hf := lz_r hx hf
                clear hx
                obtain ⟨h50, hf⟩ := gd_e hf
                refine go_last (f := a45) (pc' := 92) hC 21 layM_21 rfl rfl dX12_builtOf_91 (okx_in h50) rfl rfl (fun a51 ha L4' hL => ?_)
                have hf := lz_r ha hf
                clear ha
                obtain rfl : L4' = [(21, a51)] := hL.symm
                refine go_aload_n (pc' := 93) hC dX12_builtOf_92 rfl rfl ?_
                refine go_getq (pc' := 96) hC 0 59 layM_0 rfl rfl inlX12 (Nat.le_of_ble_eq_true rfl) mw_212 rfl dX12_builtOf_93 rfl ?_
                refine go_iload (pc' := 98) hC dX12_builtOf_96 rfl rfl ?_
                refine go_iload_n (pc' := 99) hC dX12_builtOf_98 rfl rfl ?_
                refine go_iadd (pc' := 100) hC dX12_builtOf_99 rfl ?_
                refine go_aload_n (pc' := 101) hC dX12_builtOf_100 rfl rfl ?_
                refine go_getq (pc' := 104) hC 0 59 layM_0 rfl rfl inlX12 (Nat.le_of_ble_eq_true rfl) mw_212 rfl dX12_builtOf_101 rfl ?_
                refine go_iload (pc' := 106) hC dX12_builtOf_104 rfl rfl ?_
                obtain ⟨h52, hf⟩ := gd_e hf
                refine go_iald (f := a44) (pc' := 107) hC 31 layM_31 rfl rfl dX12_builtOf_106 (okx_in h52) rfl ?_
                refine go_iconst (pc' := 108) hC dX12_builtOf_107 ki_1 rfl ?_
                refine go_iload (pc' := 110) hC dX12_builtOf_108 rfl rfl ?_
                refine go_ishl (pc' := 111) hC dX12_builtOf_110 rfl ?_
                refine go_ior (pc' := 112) hC dX12_builtOf_111 rfl ?_
                refine go_namei (fun x53 hx => ?_)
                have hf := lz_r hx hf
                clear hx
                obtain ⟨h54, hf⟩ := gd_e hf
                refine go_iast (f := a44) (pc' := 113) hC 31 layM_31 rfl rfl dX12_builtOf_112 (okx_in h54) rfl rfl (fun a55 ha L3' hL => ?_)
                have hf := lz_r ha hf
                clear ha
                obtain rfl : L3' = [(17, o1.2.2.2.1), (18, o1.2.2.2.2.1), (19, o1.2.2.2.2.2.1), (20, o1.2.2.2.2.2.2), (31, a55)] := hL.symm
                refine go_aload_n (pc' := 114) hC dX12_builtOf_113 rfl rfl ?_
                refine go_getq (pc' := 117) hC 0 45 layM_0 rfl rfl inlX12 (Nat.le_of_ble_eq_true rfl) mw_202 rfl dX12_builtOf_114 rfl ?_
                refine go_iload (pc' := 119) hC dX12_builtOf_117 rfl rfl ?_
                refine go_dup2 (pc' := 120) hC dX12_builtOf_119 rfl rfl rfl ?_
                obtain ⟨h56, hf⟩ := gd_e hf
                refine go_lald (f := a51) (pc' := 121) hC 21 layM_21 rfl rfl dX12_builtOf_120 (okx_in h56) rfl ?_
                refine go_bipush (pc' := 123) hC dX12_builtOf_121 kb_16 rfl ?_
                refine go_aload_n (pc' := 124) hC dX12_builtOf_123 rfl rfl ?_
                refine go_getq (pc' := 127) hC 0 33 layM_0 rfl rfl inlX12 (Nat.le_of_ble_eq_true rfl) mw_196 rfl dX12_builtOf_124 rfl ?_
                refine go_iload (pc' := 129) hC dX12_builtOf_127 rfl rfl ?_
                obtain ⟨h57, hf⟩ := gd_e hf
                refine go_iald (f := ((x_S X).2.2.1 16)) (pc' := 130) hC 16 layM_16 rfl rfl dX12_builtOf_129 (okx_in h57) rfl ?_
                refine go_isub (pc' := 131) hC dX12_builtOf_130 rfl ?_
                refine go_i2l (pc' := 132) hC dX12_builtOf_131 rfl ?_
                refine go_lmul (pc' := 133) hC dX12_builtOf_132 rfl ?_
                refine go_namel (fun x58 hx => ?_)
                have hf := lz_r hx hf
                clear hx
                obtain ⟨h59, hf⟩ := gd_e hf
                refine go_last (f := a51) (pc' := 134) hC 21 layM_21 rfl rfl dX12_builtOf_133 (okx_in h59) rfl rfl (fun a60 ha L4' hL => ?_)
                have hf := lz_r ha hf
                clear ha
                obtain rfl : L4' = [(21, a60)] := hL.symm
                refine go_iinc (lc' := [(0, .ref (x_q X 0)), (1, .int p1), (2, .int x27), (3, .int x28), (4, .int x29), (5, .int (x43 + (1 : Int32)))]) (pc' := 137) hC dX12_builtOf_134 rfl ki_1 (Nat.le_of_ble_eq_true rfl) rfl rfl ?_
                refine go_goto (tgt := 61) hC dX12_builtOf_137 (by decide) ?_
                exact ih (x43 + (1 : Int32)) a55 a60 g hf
          exact l61_62 fuel (0 : Int32) a30 a31 g hf
        clear hk58_38
        refine go_icmp_ge (tgt := 58) (pc' := 43) hC dX12_builtOf_40 (by decide) rfl (fun h64 => ?_) (fun h64 => ?_)
        · have hf := ite_t h64 hf
          exact jk58_38 g hf
        · have hf := ite_f h64 hf
          refine go_iload_n (pc' := 44) hC dX12_builtOf_43 rfl rfl ?_
          refine go_iload (pc' := 46) hC dX12_builtOf_44 rfl rfl ?_
          refine go_ishr (pc' := 47) hC dX12_builtOf_46 rfl ?_
          refine go_iconst (pc' := 48) hC dX12_builtOf_47 ki_1 rfl ?_
          refine go_iand (pc' := 49) hC dX12_builtOf_48 rfl ?_
          refine go_if_ne (tgt := 58) (pc' := 52) hC dX12_builtOf_49 (by decide) rfl (fun h63 => ?_) (fun h63 => ?_)
          · have hf := ite_f h63 hf
            exact jk58_38 g hf
          · have hf := ite_t h63 hf
            refine go_iinc (lc' := [(0, .ref (x_q X 0)), (1, .int p1), (2, .int x27), (3, .int (x28 + (1 : Int32))), (4, .int x29)]) (pc' := 55) hC dX12_builtOf_52 rfl ki_1 (Nat.le_of_ble_eq_true rfl) rfl rfl ?_
            refine go_goto (tgt := 144) hC dX12_builtOf_55 (by decide) ?_
            exact jk144_37 x27 (x28 + (1 : Int32)) a30 a31 g hf
  exact l25_66 fuel (1 : Int32) (0 : Int32) (0 : Int32) a5 a3 g hf
theorem dX12_judge_0 : decode cX12_judge 0 = .ok (.iload_n 1, 1) := by decide +kernel
theorem dX12_judge_1 : decode cX12_judge 1 = .ok (.i2l, 1) := by decide +kernel
theorem dX12_judge_2 : decode cX12_judge 2 = .ok (.lconst 0, 1) := by decide +kernel
theorem dX12_judge_3 : decode cX12_judge 3 = .ok (.iconst 1, 1) := by decide +kernel
theorem dX12_judge_4 : decode cX12_judge 4 = .ok (.aload_n 0, 1) := by decide +kernel
theorem dX12_judge_5 : decode cX12_judge 5 = .ok (.getfield 279, 3) := by decide +kernel
theorem dX12_judge_8 : decode cX12_judge 8 = .ok (.ishl, 1) := by decide +kernel
theorem dX12_judge_9 : decode cX12_judge 9 = .ok (.iconst 1, 1) := by decide +kernel
theorem dX12_judge_10 : decode cX12_judge 10 = .ok (.isub, 1) := by decide +kernel
theorem dX12_judge_11 : decode cX12_judge 11 = .ok (.i2l, 1) := by decide +kernel
theorem dX12_judge_12 : decode cX12_judge 12 = .ok (.invokestatic 218, 3) := by decide +kernel
theorem dX12_judge_15 : decode cX12_judge 15 = .ok (.ifCond .eq 11, 3) := by decide +kernel
theorem dX12_judge_18 : decode cX12_judge 18 = .ok (.aload_n 0, 1) := by decide +kernel
theorem dX12_judge_19 : decode cX12_judge 19 = .ok (.iload_n 1, 1) := by decide +kernel
theorem dX12_judge_20 : decode cX12_judge 20 = .ok (.invokevirtual 436, 3) := by decide +kernel
theorem dX12_judge_23 : decode cX12_judge 23 = .ok (.goto 6, 3) := by decide +kernel
theorem dX12_judge_26 : decode cX12_judge 26 = .ok (.ldc2_w 373, 3) := by decide +kernel
theorem dX12_judge_29 : decode cX12_judge 29 = .ok (.lreturn, 1) := by decide +kernel
abbrev o_X12_judge : Type := Int64 × Int32 × Int32 × Int32 × (Nat → Int32) × (Nat → Int32) × (Nat → Int32) × (Nat → Int32) × (Nat → Int32) × (Nat → Int64)
def f_X12_judge (S : wd_W) (p1 : Int32) : Option o_X12_judge :=
bd (f_X12_in p1.toInt64 (0 : Int64) ((((1 : Int32) <<< ((S.1 21) &&& 31)) - (1 : Int32)).toInt64)) fun o1 =>
if o1 = 0 then (
some ((-1 : Int64), (S.1 38), (S.1 39), (S.1 44), (S.2.2.1 17), (S.2.2.1 18), (S.2.2.1 19), (S.2.2.1 20), (S.2.2.1 31), (S.2.2.2.1 21))) else (
bd (f_X12_builtOf (wd_o S [(38, (S.1 38)), (39, (S.1 39)), (44, (S.1 44))] [] [(17, (S.2.2.1 17)), (18, (S.2.2.1 18)), (19, (S.2.2.1 19)), (20, (S.2.2.1 20)), (31, (S.2.2.1 31))] [(21, (S.2.2.2.1 21))] []) p1) fun o2 =>
some (o2.1, o2.2.1, o2.2.2.1, o2.2.2.2.1, o2.2.2.2.2.1, o2.2.2.2.2.2.1, o2.2.2.2.2.2.2.1, o2.2.2.2.2.2.2.2.1, o2.2.2.2.2.2.2.2.2.1, o2.2.2.2.2.2.2.2.2.2))
set_option maxRecDepth 100000 in
set_option maxHeartbeats 4000000 in
theorem c_X12_judge (l : Launch) (D : va_G) (q g : Nat → Nat) (cy : Nat → ClassId) (z : (Nat → Nat) × (Nat → Nat) × Nat) (S : wd_W) (p1 : Int32) (o : o_X12_judge) (hf : f_X12_judge S p1 = some o) : MX layM l yX12_judge cX12_judge 2 (some .long) ({ frames := 6, cells := 0, slots := 0, locals := 141 } : Room) D q g cy z [.ref (q 0), .int p1] S (some (.long o.1)) (wd_o S [(38, o.2.1), (39, o.2.2.1), (44, o.2.2.2.1)] [] [(17, o.2.2.2.2.1), (18, o.2.2.2.2.2.1), (19, o.2.2.2.2.2.2.1), (20, o.2.2.2.2.2.2.2.1), (31, o.2.2.2.2.2.2.2.2.1)] [(21, o.2.2.2.2.2.2.2.2.2)] []) 0 0 := by
  refine mx_of (own := RX12) (lc := [(0, .ref (q 0)), (1, .int p1)]) (by decide +kernel) rfl layM_ok (Nat.le_of_ble_eq_true rfl) rfl ?_
  intro X hXl hXq hXS hC hQ
  subst hXl; subst hXq; subst hXS
  unfold f_X12_judge at hf
  refine go_keys (L1 := [(38, ((x_S X).1 38)), (39, ((x_S X).1 39)), (44, ((x_S X).1 44))]) (L2 := []) (L3 := [(17, ((x_S X).2.2.1 17)), (18, ((x_S X).2.2.1 18)), (19, ((x_S X).2.2.1 19)), (20, ((x_S X).2.2.1 20)), (31, ((x_S X).2.2.1 31))]) (L4 := [(21, ((x_S X).2.2.2.1 21))]) (L5 := []) [38, 39, 44] [] [17, 18, 19, 20, 31] [21] [] rfl rfl rfl rfl rfl ?_
  refine go_iload_n (pc' := 1) hC dX12_judge_0 rfl rfl ?_
  refine go_i2l (pc' := 2) hC dX12_judge_1 rfl ?_
  refine go_lconst (pc' := 3) hC dX12_judge_2 kl_0 rfl ?_
  refine go_iconst (pc' := 4) hC dX12_judge_3 ki_1 rfl ?_
  refine go_aload_n (pc' := 5) hC dX12_judge_4 rfl rfl ?_
  refine go_geti (v := ((x_S X).1 21)) (pc' := 8) hC 0 21 layM_0 rfl rfl inlX12 (Nat.le_of_ble_eq_true rfl) mw_247 rfl dX12_judge_5 rfl rfl ?_
  refine go_ishl (pc' := 9) hC dX12_judge_8 rfl ?_
  refine go_iconst (pc' := 10) hC dX12_judge_9 ki_1 rfl ?_
  refine go_isub (pc' := 11) hC dX12_judge_10 rfl ?_
  refine go_i2l (pc' := 12) hC dX12_judge_11 rfl ?_
  obtain ⟨o1, ho1, hf⟩ := bd_e hf
  refine go_callS0 (pc' := 15) (As := [.long p1.toInt64, .long (0 : Int64), .long ((((1 : Int32) <<< (((x_S X).1 21) &&& 31)) - (1 : Int32)).toInt64)]) (st := []) (st' := [.int o1])   hC dX12_judge_12 ⟨mw_525, mw_527, mw_5, yd_yX12_in, yp_yX12_in, Nat.le_of_ble_eq_true rfl, Nat.le_of_ble_eq_true rfl, Nat.le_of_ble_eq_true rfl, Nat.le_of_ble_eq_true rfl⟩ mw_526 rfl rfl (Nat.le_of_ble_eq_true rfl) (c_X12_in (x_l X) (x_D X) (x_q X) g (x_cy X) (x_z X) _ p1.toInt64 (0 : Int64) ((((1 : Int32) <<< (((x_S X).1 21) &&& 31)) - (1 : Int32)).toInt64) o1 ho1) rfl rfl (fun g => ?_)
  refine go_if_eq (tgt := 26) (pc' := 18) hC dX12_judge_15 (by decide) rfl (fun h3 => ?_) (fun h3 => ?_)
  · have hf := ite_t h3 hf
    refine go_ldc2 (pc' := 29) hC dX12_judge_26 mw_922 rfl ?_
    obtain rfl := Option.some.inj hf
    exact go_lret hC hQ dX12_judge_29 rfl rfl rfl rfl rfl
  · have hf := ite_f h3 hf
    refine go_aload_n (pc' := 19) hC dX12_judge_18 rfl rfl ?_
    refine go_iload_n (pc' := 20) hC dX12_judge_19 rfl rfl ?_
    obtain ⟨o2, ho2, hf⟩ := bd_e hf
    refine go_callV (pc' := 23) (As := [.int p1]) (st := []) (st' := [.long o2.1]) (L1' := [(38, o2.2.1), (39, o2.2.2.1), (44, o2.2.2.2.1)]) (L2' := []) (L3' := [(17, o2.2.2.2.2.1), (18, o2.2.2.2.2.2.1), (19, o2.2.2.2.2.2.2.1), (20, o2.2.2.2.2.2.2.2.1), (31, o2.2.2.2.2.2.2.2.2.1)]) (L4' := [(21, o2.2.2.2.2.2.2.2.2.2)]) (L5' := []) (cells' := 0) (slots' := 0) (b := 0) hC dX12_judge_20 ⟨mw_1205, mw_1208, mw_5, yd_yX12_builtOf, yp_yX12_builtOf, Nat.le_of_ble_eq_true rfl, Nat.le_of_ble_eq_true rfl, Nat.le_of_ble_eq_true rfl, Nat.le_of_ble_eq_true rfl⟩ mw_1206 mw_1207 layM_0 rfl rfl rfl (Nat.le_of_ble_eq_true rfl) (c_X12_builtOf (x_l X) (x_D X) (x_q X) g (x_cy X) (x_z X) _ p1 o2 ho2) rfl rfl rfl rfl rfl rfl rfl rfl rfl rfl rfl rfl rfl rfl (fun g => ?_)
    refine go_goto (tgt := 29) hC dX12_judge_23 (by decide) ?_
    obtain rfl := Option.some.inj hf
    exact go_lret hC hQ dX12_judge_29 rfl rfl rfl rfl rfl
theorem dX12_lengthOf_0 : decode cX12_lengthOf 0 = .ok (.iconst 0, 1) := by decide +kernel
theorem dX12_lengthOf_1 : decode cX12_lengthOf 1 = .ok (.istore_n 2, 1) := by decide +kernel
theorem dX12_lengthOf_2 : decode cX12_lengthOf 2 = .ok (.iconst 0, 1) := by decide +kernel
theorem dX12_lengthOf_3 : decode cX12_lengthOf 3 = .ok (.istore_n 3, 1) := by decide +kernel
theorem dX12_lengthOf_4 : decode cX12_lengthOf 4 = .ok (.iload_n 3, 1) := by decide +kernel
theorem dX12_lengthOf_5 : decode cX12_lengthOf 5 = .ok (.aload_n 0, 1) := by decide +kernel
theorem dX12_lengthOf_6 : decode cX12_lengthOf 6 = .ok (.getfield 279, 3) := by decide +kernel
theorem dX12_lengthOf_9 : decode cX12_lengthOf 9 = .ok (.if_icmp .ge 31, 3) := by decide +kernel
theorem dX12_lengthOf_12 : decode cX12_lengthOf 12 = .ok (.iload_n 2, 1) := by decide +kernel
theorem dX12_lengthOf_13 : decode cX12_lengthOf 13 = .ok (.iload_n 1, 1) := by decide +kernel
theorem dX12_lengthOf_14 : decode cX12_lengthOf 14 = .ok (.iload_n 3, 1) := by decide +kernel
theorem dX12_lengthOf_15 : decode cX12_lengthOf 15 = .ok (.ishr, 1) := by decide +kernel
theorem dX12_lengthOf_16 : decode cX12_lengthOf 16 = .ok (.iconst 1, 1) := by decide +kernel
theorem dX12_lengthOf_17 : decode cX12_lengthOf 17 = .ok (.iand, 1) := by decide +kernel
theorem dX12_lengthOf_18 : decode cX12_lengthOf 18 = .ok (.iconst 1, 1) := by decide +kernel
theorem dX12_lengthOf_19 : decode cX12_lengthOf 19 = .ok (.if_icmp .ne 12, 3) := by decide +kernel
theorem dX12_lengthOf_22 : decode cX12_lengthOf 22 = .ok (.aload_n 0, 1) := by decide +kernel
theorem dX12_lengthOf_23 : decode cX12_lengthOf 23 = .ok (.getfield 45, 3) := by decide +kernel
theorem dX12_lengthOf_26 : decode cX12_lengthOf 26 = .ok (.iload_n 3, 1) := by decide +kernel
theorem dX12_lengthOf_27 : decode cX12_lengthOf 27 = .ok (.iaload, 1) := by decide +kernel
theorem dX12_lengthOf_28 : decode cX12_lengthOf 28 = .ok (.goto 4, 3) := by decide +kernel
theorem dX12_lengthOf_31 : decode cX12_lengthOf 31 = .ok (.iconst 0, 1) := by decide +kernel
theorem dX12_lengthOf_32 : decode cX12_lengthOf 32 = .ok (.iadd, 1) := by decide +kernel
theorem dX12_lengthOf_33 : decode cX12_lengthOf 33 = .ok (.istore_n 2, 1) := by decide +kernel
theorem dX12_lengthOf_34 : decode cX12_lengthOf 34 = .ok (.iinc 3 1, 3) := by decide +kernel
theorem dX12_lengthOf_37 : decode cX12_lengthOf 37 = .ok (.goto (-33), 3) := by decide +kernel
theorem dX12_lengthOf_40 : decode cX12_lengthOf 40 = .ok (.iload_n 2, 1) := by decide +kernel
theorem dX12_lengthOf_41 : decode cX12_lengthOf 41 = .ok (.ireturn, 1) := by decide +kernel
abbrev o_X12_lengthOf : Type := Int32
def f_X12_lengthOf_L4 (S : wd_W) (p1 : Int32) (r3 : (Int32) → (Int32) → (Option o_X12_lengthOf)) (x1 : Int32) (x2 : Int32) : Option o_X12_lengthOf :=
if (S.1 21) ≤ x2 then (
some x1) else (
lk (fun x4 x5 =>
lz (x5 + x4) fun x7 =>
r3 x7 (x2 + (1 : Int32))) fun k32_6 =>
if ((p1 >>> (x2 &&& 31)) &&& (1 : Int32)) = (1 : Int32) then (
gd (okx x2 13) <|
k32_6 ((S.2.2.1 12) x2.toNatClampNeg) x1) else (
k32_6 (0 : Int32) x1))
def f_X12_lengthOf (S : wd_W) (p1 : Int32) : Option o_X12_lengthOf :=
it2 (f_X12_lengthOf_L4 S p1) fuel (0 : Int32) (0 : Int32)
set_option maxRecDepth 100000 in
set_option maxHeartbeats 4000000 in
theorem c_X12_lengthOf (l : Launch) (D : va_G) (q g : Nat → Nat) (cy : Nat → ClassId) (z : (Nat → Nat) × (Nat → Nat) × Nat) (S : wd_W) (p1 : Int32) (o : o_X12_lengthOf) (hf : f_X12_lengthOf S p1 = some o) : MX layM l yX12_lengthOf cX12_lengthOf 4 (some .int) ({ frames := 0, cells := 0, slots := 0, locals := 0 } : Room) D q g cy z [.ref (q 0), .int p1] S (some (.int o)) (wd_o S [] [] [] [] []) 0 0 := by
  refine mx_of (own := RX12) (lc := [(0, .ref (q 0)), (1, .int p1)]) (by decide +kernel) rfl layM_ok (Nat.le_of_ble_eq_true rfl) rfl ?_
  intro X hXl hXq hXS hC hQ
  subst hXl; subst hXq; subst hXS
  unfold f_X12_lengthOf at hf
  refine go_iconst (pc' := 1) hC dX12_lengthOf_0 ki_0 rfl ?_
  refine go_istore_n (lc' := [(0, .ref (x_q X 0)), (1, .int p1), (2, .int (0 : Int32))]) (pc' := 2) hC dX12_lengthOf_1 (Nat.le_of_ble_eq_true rfl) rfl rfl ?_
  refine go_iconst (pc' := 3) hC dX12_lengthOf_2 ki_0 rfl ?_
  refine go_istore_n (lc' := [(0, .ref (x_q X 0)), (1, .int p1), (2, .int (0 : Int32)), (3, .int (0 : Int32))]) (pc' := 4) hC dX12_lengthOf_3 (Nat.le_of_ble_eq_true rfl) rfl rfl ?_
  have l4_11 : ∀ (nn : Nat) (x1 : Int32) (x2 : Int32) (g : Nat → Nat), it2 (f_X12_lengthOf_L4 (x_S X) p1) nn x1 x2 = some o → Go X layM 4 [(0, .ref (x_q X 0)), (1, .int p1), (2, .int x1), (3, .int x2)] [] g [] [] [] [] [] 0 0 := by
    intro nn
    induction nn with
    | zero =>
      intro x1 x2 g hf
      exact none_no hf
    | succ nn ih =>
      intro x1 x2 g hf
      have hf : f_X12_lengthOf_L4 (x_S X) p1 (it2 (f_X12_lengthOf_L4 (x_S X) p1) nn) x1 x2 = some o := hf
      generalize it2 (f_X12_lengthOf_L4 (x_S X) p1) nn = r3 at ih hf
      unfold f_X12_lengthOf_L4 at hf
      refine go_iload_n (pc' := 5) hC dX12_lengthOf_4 rfl rfl ?_
      refine go_aload_n (pc' := 6) hC dX12_lengthOf_5 rfl rfl ?_
      refine go_geti (v := ((x_S X).1 21)) (pc' := 9) hC 0 21 layM_0 rfl rfl inlX12 (Nat.le_of_ble_eq_true rfl) mw_247 rfl dX12_lengthOf_6 rfl rfl ?_
      refine go_icmp_ge (tgt := 40) (pc' := 12) hC dX12_lengthOf_9 (by decide) rfl (fun h10 => ?_) (fun h10 => ?_)
      · have hf := ite_t h10 hf
        refine go_iload_n (pc' := 41) hC dX12_lengthOf_40 rfl rfl ?_
        obtain rfl := Option.some.inj hf
        exact go_iret hC hQ dX12_lengthOf_41 rfl rfl rfl rfl rfl rfl
      · have hf := ite_f h10 hf
        refine go_iload_n (pc' := 13) hC dX12_lengthOf_12 rfl rfl ?_
        refine go_iload_n (pc' := 14) hC dX12_lengthOf_13 rfl rfl ?_
        refine go_iload_n (pc' := 15) hC dX12_lengthOf_14 rfl rfl ?_
        refine go_ishr (pc' := 16) hC dX12_lengthOf_15 rfl ?_
        refine go_iconst (pc' := 17) hC dX12_lengthOf_16 ki_1 rfl ?_
        refine go_iand (pc' := 18) hC dX12_lengthOf_17 rfl ?_
        refine go_iconst (pc' := 19) hC dX12_lengthOf_18 ki_1 rfl ?_
        obtain ⟨k32_6, hk32_6, hf⟩ := lk_e2 hf
        have jk32_6 : ∀ (x4 : Int32) (x5 : Int32) (g : Nat → Nat), k32_6 x4 x5 = some o → Go X layM 32 [(0, .ref (x_q X 0)), (1, .int p1), (3, .int x2)] [.int x4, .int x5] g [] [] [] [] [] 0 0 := by
          intro x4 x5 g hf
          have hf := hk32_6 x4 x5 hf
          clear hk32_6
          refine go_iadd (pc' := 33) hC dX12_lengthOf_32 rfl ?_
          refine go_namei (fun x7 hx => ?_)
          have hf := lz_r hx hf
          clear hx
          refine go_istore_n (lc' := [(0, .ref (x_q X 0)), (1, .int p1), (2, .int x7), (3, .int x2)]) (pc' := 34) hC dX12_lengthOf_33 (Nat.le_of_ble_eq_true rfl) rfl rfl ?_
          refine go_iinc (lc' := [(0, .ref (x_q X 0)), (1, .int p1), (2, .int x7), (3, .int (x2 + (1 : Int32)))]) (pc' := 37) hC dX12_lengthOf_34 rfl ki_1 (Nat.le_of_ble_eq_true rfl) rfl rfl ?_
          refine go_goto (tgt := 4) hC dX12_lengthOf_37 (by decide) ?_
          exact ih x7 (x2 + (1 : Int32)) g hf
        clear hk32_6
        refine go_icmp_ne (tgt := 31) (pc' := 22) hC dX12_lengthOf_19 (by decide) rfl (fun h9 => ?_) (fun h9 => ?_)
        · have hf := ite_f h9 hf
          refine go_iconst (pc' := 32) hC dX12_lengthOf_31 ki_0 rfl ?_
          refine go_sub [0, 1, 3] rfl ?_
          exact jk32_6 (0 : Int32) x1 g hf
        · have hf := ite_t h9 hf
          refine go_aload_n (pc' := 23) hC dX12_lengthOf_22 rfl rfl ?_
          refine go_getq (pc' := 26) hC 0 26 layM_0 rfl rfl inlX12 (Nat.le_of_ble_eq_true rfl) mw_192 rfl dX12_lengthOf_23 rfl ?_
          refine go_iload_n (pc' := 27) hC dX12_lengthOf_26 rfl rfl ?_
          obtain ⟨h8, hf⟩ := gd_e hf
          refine go_iald (f := ((x_S X).2.2.1 12)) (pc' := 28) hC 12 layM_12 rfl rfl dX12_lengthOf_27 (okx_in h8) rfl ?_
          refine go_goto (tgt := 32) hC dX12_lengthOf_28 (by decide) ?_
          refine go_sub [0, 1, 3] rfl ?_
          exact jk32_6 (((x_S X).2.2.1 12) x2.toNatClampNeg) x1 g hf
  exact l4_11 fuel (0 : Int32) (0 : Int32) g hf
