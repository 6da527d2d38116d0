theorem dX9_readLine_0 : decode cX9_readLine 0 = .ok (.aload_n 0, 1) := by decide +kernel
theorem dX9_readLine_1 : decode cX9_readLine 1 = .ok (.aload_n 0, 1) := by decide +kernel
theorem dX9_readLine_2 : decode cX9_readLine 2 = .ok (.getfield 15, 3) := by decide +kernel
theorem dX9_readLine_5 : decode cX9_readLine 5 = .ok (.getfield 111, 3) := by decide +kernel
theorem dX9_readLine_8 : decode cX9_readLine 8 = .ok (.bipush 12, 2) := by decide +kernel
theorem dX9_readLine_10 : decode cX9_readLine 10 = .ok (.if_icmp .lt 7, 3) := by decide +kernel
theorem dX9_readLine_13 : decode cX9_readLine 13 = .ok (.iconst 1, 1) := by decide +kernel
theorem dX9_readLine_14 : decode cX9_readLine 14 = .ok (.goto 4, 3) := by decide +kernel
theorem dX9_readLine_17 : decode cX9_readLine 17 = .ok (.iconst 0, 1) := by decide +kernel
theorem dX9_readLine_18 : decode cX9_readLine 18 = .ok (.invokevirtual 114, 3) := by decide +kernel
theorem dX9_readLine_21 : decode cX9_readLine 21 = .ok (.aload_n 0, 1) := by decide +kernel
theorem dX9_readLine_22 : decode cX9_readLine 22 = .ok (.iconst (-1), 1) := by decide +kernel
theorem dX9_readLine_23 : decode cX9_readLine 23 = .ok (.invokevirtual 118, 3) := by decide +kernel
theorem dX9_readLine_26 : decode cX9_readLine 26 = .ok (.istore_n 1, 1) := by decide +kernel
theorem dX9_readLine_27 : decode cX9_readLine 27 = .ok (.aload_n 0, 1) := by decide +kernel
theorem dX9_readLine_28 : decode cX9_readLine 28 = .ok (.iload_n 1, 1) := by decide +kernel
theorem dX9_readLine_29 : decode cX9_readLine 29 = .ok (.invokevirtual 118, 3) := by decide +kernel
theorem dX9_readLine_32 : decode cX9_readLine 32 = .ok (.istore_n 2, 1) := by decide +kernel
theorem dX9_readLine_33 : decode cX9_readLine 33 = .ok (.aload_n 0, 1) := by decide +kernel
theorem dX9_readLine_34 : decode cX9_readLine 34 = .ok (.iconst 0, 1) := by decide +kernel
theorem dX9_readLine_35 : decode cX9_readLine 35 = .ok (.bipush 16, 2) := by decide +kernel
theorem dX9_readLine_37 : decode cX9_readLine 37 = .ok (.invokevirtual 77, 3) := by decide +kernel
theorem dX9_readLine_40 : decode cX9_readLine 40 = .ok (.istore_n 3, 1) := by decide +kernel
theorem dX9_readLine_41 : decode cX9_readLine 41 = .ok (.iconst 0, 1) := by decide +kernel
theorem dX9_readLine_42 : decode cX9_readLine 42 = .ok (.istore 4, 2) := by decide +kernel
theorem dX9_readLine_44 : decode cX9_readLine 44 = .ok (.iconst 0, 1) := by decide +kernel
theorem dX9_readLine_45 : decode cX9_readLine 45 = .ok (.istore 5, 2) := by decide +kernel
theorem dX9_readLine_47 : decode cX9_readLine 47 = .ok (.iconst 0, 1) := by decide +kernel
theorem dX9_readLine_48 : decode cX9_readLine 48 = .ok (.istore 6, 2) := by decide +kernel
theorem dX9_readLine_50 : decode cX9_readLine 50 = .ok (.iload 6, 2) := by decide +kernel
theorem dX9_readLine_52 : decode cX9_readLine 52 = .ok (.sipush 400, 3) := by decide +kernel
theorem dX9_readLine_55 : decode cX9_readLine 55 = .ok (.if_icmp .ge 75, 3) := by decide +kernel
theorem dX9_readLine_58 : decode cX9_readLine 58 = .ok (.aload_n 0, 1) := by decide +kernel
theorem dX9_readLine_59 : decode cX9_readLine 59 = .ok (.invokevirtual 122, 3) := by decide +kernel
theorem dX9_readLine_62 : decode cX9_readLine 62 = .ok (.ifCond .eq 68, 3) := by decide +kernel
theorem dX9_readLine_65 : decode cX9_readLine 65 = .ok (.aload_n 0, 1) := by decide +kernel
theorem dX9_readLine_66 : decode cX9_readLine 66 = .ok (.invokevirtual 80, 3) := by decide +kernel
theorem dX9_readLine_69 : decode cX9_readLine 69 = .ok (.aload_n 0, 1) := by decide +kernel
theorem dX9_readLine_70 : decode cX9_readLine 70 = .ok (.ldc 125, 2) := by decide +kernel
theorem dX9_readLine_72 : decode cX9_readLine 72 = .ok (.invokevirtual 84, 3) := by decide +kernel
theorem dX9_readLine_75 : decode cX9_readLine 75 = .ok (.ifCond .eq 14, 3) := by decide +kernel
theorem dX9_readLine_78 : decode cX9_readLine 78 = .ok (.iload 4, 2) := by decide +kernel
theorem dX9_readLine_80 : decode cX9_readLine 80 = .ok (.ifCond .ne 9, 3) := by decide +kernel
theorem dX9_readLine_83 : decode cX9_readLine 83 = .ok (.iconst 1, 1) := by decide +kernel
theorem dX9_readLine_84 : decode cX9_readLine 84 = .ok (.istore 4, 2) := by decide +kernel
theorem dX9_readLine_86 : decode cX9_readLine 86 = .ok (.goto 38, 3) := by decide +kernel
theorem dX9_readLine_89 : decode cX9_readLine 89 = .ok (.aload_n 0, 1) := by decide +kernel
theorem dX9_readLine_90 : decode cX9_readLine 90 = .ok (.ldc 127, 2) := by decide +kernel
theorem dX9_readLine_92 : decode cX9_readLine 92 = .ok (.invokevirtual 84, 3) := by decide +kernel
theorem dX9_readLine_95 : decode cX9_readLine 95 = .ok (.ifCond .eq 20, 3) := by decide +kernel
theorem dX9_readLine_98 : decode cX9_readLine 98 = .ok (.iload 5, 2) := by decide +kernel
theorem dX9_readLine_100 : decode cX9_readLine 100 = .ok (.ifCond .ne 15, 3) := by decide +kernel
theorem dX9_readLine_103 : decode cX9_readLine 103 = .ok (.aload_n 0, 1) := by decide +kernel
theorem dX9_readLine_104 : decode cX9_readLine 104 = .ok (.iconst 1, 1) := by decide +kernel
theorem dX9_readLine_105 : decode cX9_readLine 105 = .ok (.bipush 9, 2) := by decide +kernel
theorem dX9_readLine_107 : decode cX9_readLine 107 = .ok (.invokevirtual 77, 3) := by decide +kernel
theorem dX9_readLine_110 : decode cX9_readLine 110 = .ok (.istore 5, 2) := by decide +kernel
theorem dX9_readLine_112 : decode cX9_readLine 112 = .ok (.goto 12, 3) := by decide +kernel
theorem dX9_readLine_115 : decode cX9_readLine 115 = .ok (.aload_n 0, 1) := by decide +kernel
theorem dX9_readLine_116 : decode cX9_readLine 116 = .ok (.aload_n 0, 1) := by decide +kernel
theorem dX9_readLine_117 : decode cX9_readLine 117 = .ok (.getfield 55, 3) := by decide +kernel
theorem dX9_readLine_120 : decode cX9_readLine 120 = .ok (.iconst 0, 1) := by decide +kernel
theorem dX9_readLine_121 : decode cX9_readLine 121 = .ok (.invokevirtual 45, 3) := by decide +kernel
theorem dX9_readLine_124 : decode cX9_readLine 124 = .ok (.iinc 6 1, 3) := by decide +kernel
theorem dX9_readLine_127 : decode cX9_readLine 127 = .ok (.goto (-77), 3) := by decide +kernel
theorem dX9_readLine_130 : decode cX9_readLine 130 = .ok (.aload_n 0, 1) := by decide +kernel
theorem dX9_readLine_131 : decode cX9_readLine 131 = .ok (.getfield 31, 3) := by decide +kernel
theorem dX9_readLine_134 : decode cX9_readLine 134 = .ok (.ifCond .ne 26, 3) := by decide +kernel
theorem dX9_readLine_137 : decode cX9_readLine 137 = .ok (.aload_n 0, 1) := by decide +kernel
theorem dX9_readLine_138 : decode cX9_readLine 138 = .ok (.getfield 15, 3) := by decide +kernel
theorem dX9_readLine_141 : decode cX9_readLine 141 = .ok (.iload_n 1, 1) := by decide +kernel
theorem dX9_readLine_142 : decode cX9_readLine 142 = .ok (.iload_n 2, 1) := by decide +kernel
theorem dX9_readLine_143 : decode cX9_readLine 143 = .ok (.iload_n 3, 1) := by decide +kernel
theorem dX9_readLine_144 : decode cX9_readLine 144 = .ok (.iload 4, 2) := by decide +kernel
theorem dX9_readLine_146 : decode cX9_readLine 146 = .ok (.iload 5, 2) := by decide +kernel
theorem dX9_readLine_148 : decode cX9_readLine 148 = .ok (.ifCond .ne 7, 3) := by decide +kernel
theorem dX9_readLine_151 : decode cX9_readLine 151 = .ok (.iconst 1, 1) := by decide +kernel
theorem dX9_readLine_152 : decode cX9_readLine 152 = .ok (.goto 5, 3) := by decide +kernel
theorem dX9_readLine_155 : decode cX9_readLine 155 = .ok (.iload 5, 2) := by decide +kernel
theorem dX9_readLine_157 : decode cX9_readLine 157 = .ok (.invokevirtual 129, 3) := by decide +kernel
theorem dX9_readLine_160 : decode cX9_readLine 160 = .ok (.return_, 1) := by decide +kernel
abbrev o_X9_readLine_q14 : Type := Int32 × Int32 × Int32 × Int32 × (Nat → Int32) × (Nat → Int32) × (Nat → Int32) × (Nat → Int32) × (Nat → Int32)
def f_X9_readLine_q14_L50 (S : wd_W) (k130_12 : (Int32) → (Int32) → (Int32) → (Int32) → (Int32) → (Option o_X9_readLine_q14)) (r28 : (Int32) → (Int32) → (Int32) → (Int32) → (Int32) → (Int32) → (Option o_X9_readLine_q14)) (x22 : Int32) (x23 : Int32) (x24 : Int32) (x25 : Int32) (x26 : Int32) (x27 : Int32) : Option o_X9_readLine_q14 :=
if (400 : Int32) ≤ x24 then (
k130_12 x22 x23 x25 x26 x27) else (
bd (f_X9_clauseGoesOn_q14 (wd_o S [(301, (S.1 301)), (1402, x25), (1403, x26), (1404, x27)] [] [(4, (S.2.2.1 4)), (5, (S.2.2.1 5)), (6, (S.2.2.1 6)), (7, (S.2.2.1 7)), (8, (S.2.2.1 8))] [] [])) fun o29 =>
if o29.1 = 0 then (
k130_12 x22 x23 o29.2 x26 x27) else (
bd (f_X9_readWord_q14 (wd_o S [(301, (S.1 301)), (1402, o29.2), (1403, x26), (1404, x27)] [] [(4, (S.2.2.1 4)), (5, (S.2.2.1 5)), (6, (S.2.2.1 6)), (7, (S.2.2.1 7)), (8, (S.2.2.1 8))] [] [])) fun o30 =>
bd (f_X9_isWord_q14_str2 (wd_o S [(301, (S.1 301)), (1402, o30.1), (1403, o30.2), (1404, x27)] [] [(4, (S.2.2.1 4)), (5, (S.2.2.1 5)), (6, (S.2.2.1 6)), (7, (S.2.2.1 7)), (8, (S.2.2.1 8))] [] [])) fun o31 =>
lk (fun x32 x33 x34 x35 x36 =>
r28 x32 x33 (x24 + (1 : Int32)) x34 x35 x36) fun k124_37 =>
lk (bd (f_X9_isWord_q14_str3 (wd_o S [(301, (S.1 301)), (1402, o30.1), (1403, o30.2), (1404, x27)] [] [(4, (S.2.2.1 4)), (5, (S.2.2.1 5)), (6, (S.2.2.1 6)), (7, (S.2.2.1 7)), (8, (S.2.2.1 8))] [] [])) fun o39 =>
lk (bd (f_X9_blame_q14 (wd_o S [(301, (S.1 301)), (1402, o30.1), (1403, o30.2), (1404, x27)] [] [(4, (S.2.2.1 4)), (5, (S.2.2.1 5)), (6, (S.2.2.1 6)), (7, (S.2.2.1 7)), (8, (S.2.2.1 8))] [] []) o30.2 (0 : Int32)) fun o41 =>
k124_37 x22 x23 o30.1 o30.2 o41) fun k115_40 =>
if o39 = 0 then (
k115_40) else (
if x23 = 0 then (
bd (f_X9_readNumber_q14 (wd_o S [(301, (S.1 301)), (1402, o30.1), (1403, o30.2), (1404, x27)] [] [(4, (S.2.2.1 4)), (5, (S.2.2.1 5)), (6, (S.2.2.1 6)), (7, (S.2.2.1 7)), (8, (S.2.2.1 8))] [] []) (1 : Int32) (9 : Int32)) fun o42 =>
k124_37 x22 o42.1 o42.2.1 o42.2.2.1 o42.2.2.2) else (
k115_40))) fun k89_38 =>
if o31 = 0 then (
k89_38) else (
if x22 = 0 then (
k124_37 (1 : Int32) x23 o30.1 o30.2 x27) else (
k89_38))))
def f_X9_readLine_q14 (S : wd_W) : Option o_X9_readLine_q14 :=
lk (fun x1 =>
bd (f_X9_refuseIf_q14 (wd_o S [(301, (S.1 301)), (1402, (S.1 1402)), (1403, (S.1 1403)), (1404, (S.1 1404))] [] [(4, (S.2.2.1 4)), (5, (S.2.2.1 5)), (6, (S.2.2.1 6)), (7, (S.2.2.1 7)), (8, (S.2.2.1 8))] [] []) x1) fun o3 =>
bd (f_X9_readPlace_q14 (wd_o S [(301, (S.1 301)), (1402, (S.1 1402)), (1403, (S.1 1403)), (1404, o3)] [] [(4, (S.2.2.1 4)), (5, (S.2.2.1 5)), (6, (S.2.2.1 6)), (7, (S.2.2.1 7)), (8, (S.2.2.1 8))] [] []) (-1 : Int32)) fun o4 =>
bd (f_X9_readPlace_q14 (wd_o S [(301, (S.1 301)), (1402, o4.2.1), (1403, o4.2.2.1), (1404, o4.2.2.2)] [] [(4, (S.2.2.1 4)), (5, (S.2.2.1 5)), (6, (S.2.2.1 6)), (7, (S.2.2.1 7)), (8, (S.2.2.1 8))] [] []) o4.1) fun o5 =>
bd (f_X9_readNumber_q14 (wd_o S [(301, (S.1 301)), (1402, o5.2.1), (1403, o5.2.2.1), (1404, o5.2.2.2)] [] [(4, (S.2.2.1 4)), (5, (S.2.2.1 5)), (6, (S.2.2.1 6)), (7, (S.2.2.1 7)), (8, (S.2.2.1 8))] [] []) (0 : Int32) (16 : Int32)) fun o6 =>
lk (fun x7 x8 x9 x10 x11 =>
if x11 = 0 then (
lk (fun x13 x14 x15 x16 x17 =>
bd (f_X2_addLine_q3 (wd_o S [(301, (S.1 301)), (1402, x9), (1403, x10), (1404, x11)] [] [(4, (S.2.2.1 4)), (5, (S.2.2.1 5)), (6, (S.2.2.1 6)), (7, (S.2.2.1 7)), (8, (S.2.2.1 8))] [] []) x17 x16 x15 x14 x13) fun o19 =>
some (o19.1, x9, x10, x11, o19.2.1, o19.2.2.1, o19.2.2.2.1, o19.2.2.2.2.1, o19.2.2.2.2.2)) fun k157_18 =>
if x8 = 0 then (
k157_18 (1 : Int32) x7 o6.1 o5.1 o4.1) else (
k157_18 x8 x7 o6.1 o5.1 o4.1)) else (
some ((S.1 301), x9, x10, x11, (S.2.2.1 4), (S.2.2.1 5), (S.2.2.1 6), (S.2.2.1 7), (S.2.2.1 8)))) fun k130_12 =>
it6 (f_X9_readLine_q14_L50 S k130_12) fuel (0 : Int32) (0 : Int32) (0 : Int32) o6.2.1 o6.2.2.1 o6.2.2.2) fun k18_2 =>
if (S.1 301) < (12 : Int32) then (
k18_2 (0 : Int32)) else (
k18_2 (1 : Int32))
set_option maxRecDepth 100000 in
set_option maxHeartbeats 4000000 in
theorem c_X9_readLine_q14 (l : Launch) (D : va_G) (q g : Nat → Nat) (cy : Nat → ClassId) (z : (Nat → Nat) × (Nat → Nat) × Nat) (S : wd_W) (o : o_X9_readLine_q14) (hf : f_X9_readLine_q14 S = some o) : MX layX l yX9_readLine cX9_readLine 7 none ({ frames := 5, cells := 0, slots := 0, locals := 107 } : Room) D q g cy z [.ref (q 14)] S false (none) (wd_o S [(301, o.1), (1402, o.2.1), (1403, o.2.2.1), (1404, o.2.2.2.1)] [] [(4, o.2.2.2.2.1), (5, o.2.2.2.2.2.1), (6, o.2.2.2.2.2.2.1), (7, o.2.2.2.2.2.2.2.1), (8, o.2.2.2.2.2.2.2.2)] [] []) 0 0 := by
  refine mx_of (own := RX9) (lc := [(0, .ref (q 14))]) (by decide +kernel) rfl layX_ok (Nat.le_of_ble_eq_true rfl) rfl ?_
  intro X hXl hXq hXz hC hQ
  subst hXl; subst hXq; subst hXz
  unfold f_X9_readLine_q14 at hf
  refine go_keys (L1 := [(301, (S.1 301)), (1402, (S.1 1402)), (1403, (S.1 1403)), (1404, (S.1 1404))]) (L2 := []) (L3 := [(4, (S.2.2.1 4)), (5, (S.2.2.1 5)), (6, (S.2.2.1 6)), (7, (S.2.2.1 7)), (8, (S.2.2.1 8))]) (L4 := []) (L5 := []) [301, 1402, 1403, 1404] [] [4, 5, 6, 7, 8] [] [] rfl rfl rfl rfl rfl ?_
  refine go_aload_n (pc' := 1) hC dX9_readLine_0 rfl rfl ?_
  refine go_aload_n (pc' := 2) hC dX9_readLine_1 rfl rfl ?_
  refine go_getq (pc' := 5) hC 14 6 layX_14 rfl rfl inlX9 (Nat.le_of_ble_eq_true rfl) mw_76 rfl dX9_readLine_2 rfl ?_
  refine go_geti (v := (S.1 301)) (pc' := 8) hC 3 1 layX_3 rfl rfl inlX2 (Nat.le_of_ble_eq_true rfl) mw_410 rfl dX9_readLine_5 rfl rfl ?_
  refine go_bipush (pc' := 10) hC dX9_readLine_8 kb_12 rfl ?_
  obtain ⟨k18_2, hk18_2, hf⟩ := lk_e1 hf
  have jk18_2 : ∀ (x1 : Int32), k18_2 x1 = some o → Go X layX S 18 [(0, .ref (x_q X 14))] [.int x1, .ref (x_q X 14)] g [(301, (S.1 301)), (1402, (S.1 1402)), (1403, (S.1 1403)), (1404, (S.1 1404))] [] [(4, (S.2.2.1 4)), (5, (S.2.2.1 5)), (6, (S.2.2.1 6)), (7, (S.2.2.1 7)), (8, (S.2.2.1 8))] [] [] 0 0 := by
    intro x1 hf
    have hf := hk18_2 x1 hf
    clear hk18_2
    obtain ⟨o3, ho3, hf⟩ := bd_e hf
    refine go_callV1 (pc' := 21) (As := [.int x1]) (st := []) (st' := []) (L1' := [(301, (S.1 301)), (1402, (S.1 1402)), (1403, (S.1 1403)), (1404, o3)]) (L2' := []) (L3' := [(4, (S.2.2.1 4)), (5, (S.2.2.1 5)), (6, (S.2.2.1 6)), (7, (S.2.2.1 7)), (8, (S.2.2.1 8))]) (L4' := []) (L5' := []) (cells' := 0) (slots' := 0)  (b := 14) hC dX9_readLine_18 ⟨mw_411, mw_414, mw_18, yd_yX9_refuseIf, yp_yX9_refuseIf, Nat.le_of_ble_eq_true rfl, Nat.le_of_ble_eq_true rfl, (Nat.le_of_ble_eq_true rfl), (Nat.le_of_ble_eq_true rfl)⟩ mw_412 mw_413 layX_14 rfl rfl rfl (Nat.le_of_ble_eq_true rfl) (c_X9_refuseIf_q14 (x_l X) (x_D X) (x_q X) g (x_cy X) (x_z X) _ x1 o3 ho3) rfl rfl rfl rfl rfl rfl rfl rfl rfl rfl rfl rfl rfl rfl ?_
    refine go_aload_n (pc' := 22) hC dX9_readLine_21 rfl rfl ?_
    refine go_iconst (pc' := 23) hC dX9_readLine_22 ki_m1 rfl ?_
    obtain ⟨o4, ho4, hf⟩ := bd_e hf
    refine go_callV1 (pc' := 26) (As := [.int (-1 : Int32)]) (st := []) (st' := [.int o4.1]) (L1' := [(301, (S.1 301)), (1402, o4.2.1), (1403, o4.2.2.1), (1404, o4.2.2.2)]) (L2' := []) (L3' := [(4, (S.2.2.1 4)), (5, (S.2.2.1 5)), (6, (S.2.2.1 6)), (7, (S.2.2.1 7)), (8, (S.2.2.1 8))]) (L4' := []) (L5' := []) (cells' := 0) (slots' := 0)  (b := 14) hC dX9_readLine_23 ⟨mw_419, mw_422, mw_18, yd_yX9_readPlace, yp_yX9_readPlace, Nat.le_of_ble_eq_true rfl, Nat.le_of_ble_eq_true rfl, (Nat.le_of_ble_eq_true rfl), (Nat.le_of_ble_eq_true rfl)⟩ mw_420 mw_421 layX_14 rfl rfl rfl (Nat.le_of_ble_eq_true rfl) (c_X9_readPlace_q14 (x_l X) (x_D X) (x_q X) g (x_cy X) (x_z X) _ (-1 : Int32) o4 ho4) rfl rfl rfl rfl rfl rfl rfl rfl rfl rfl rfl rfl rfl rfl ?_
    refine go_istore_n (lc' := [(0, .ref (x_q X 14)), (1, .int o4.1)]) (pc' := 27) hC dX9_readLine_26 (Nat.le_of_ble_eq_true rfl) rfl rfl ?_
    refine go_aload_n (pc' := 28) hC dX9_readLine_27 rfl rfl ?_
    refine go_iload_n (pc' := 29) hC dX9_readLine_28 rfl rfl ?_
    obtain ⟨o5, ho5, hf⟩ := bd_e hf
    refine go_callV1 (pc' := 32) (As := [.int o4.1]) (st := []) (st' := [.int o5.1]) (L1' := [(301, (S.1 301)), (1402, o5.2.1), (1403, o5.2.2.1), (1404, o5.2.2.2)]) (L2' := []) (L3' := [(4, (S.2.2.1 4)), (5, (S.2.2.1 5)), (6, (S.2.2.1 6)), (7, (S.2.2.1 7)), (8, (S.2.2.1 8))]) (L4' := []) (L5' := []) (cells' := 0) (slots' := 0)  (b := 14) hC dX9_readLine_29 ⟨mw_419, mw_422, mw_18, yd_yX9_readPlace, yp_yX9_readPlace, Nat.le_of_ble_eq_true rfl, Nat.le_of_ble_eq_true rfl, (Nat.le_of_ble_eq_true rfl), (Nat.le_of_ble_eq_true rfl)⟩ mw_420 mw_421 layX_14 rfl rfl rfl (Nat.le_of_ble_eq_true rfl) (c_X9_readPlace_q14 (x_l X) (x_D X) (x_q X) g (x_cy X) (x_z X) _ o4.1 o5 ho5) rfl rfl rfl rfl rfl rfl rfl rfl rfl rfl rfl rfl rfl rfl ?_
    refine go_istore_n (lc' := [(0, .ref (x_q X 14)), (1, .int o4.1), (2, .int o5.1)]) (pc' := 33) hC dX9_readLine_32 (Nat.le_of_ble_eq_true rfl) rfl rfl ?_
    refine go_aload_n (pc' := 34) hC dX9_readLine_33 rfl rfl ?_
    refine go_iconst (pc' := 35) hC dX9_readLine_34 ki_0 rfl ?_
    refine go_bipush (pc' := 37) hC dX9_readLine_35 kb_16 rfl ?_
    obtain ⟨o6, ho6, hf⟩ := bd_e hf
    refine go_callV1 (pc' := 40) (As := [.int (0 : Int32), .int (16 : Int32)]) (st := []) (st' := [.int o6.1]) (L1' := [(301, (S.1 301)), (1402, o6.2.1), (1403, o6.2.2.1), (1404, o6.2.2.2)]) (L2' := []) (L3' := [(4, (S.2.2.1 4)), (5, (S.2.2.1 5)), (6, (S.2.2.1 6)), (7, (S.2.2.1 7)), (8, (S.2.2.1 8))]) (L4' := []) (L5' := []) (cells' := 0) (slots' := 0)  (b := 14) hC dX9_readLine_37 ⟨mw_390, mw_393, mw_18, yd_yX9_readNumber, yp_yX9_readNumber, Nat.le_of_ble_eq_true rfl, Nat.le_of_ble_eq_true rfl, (Nat.le_of_ble_eq_true rfl), (Nat.le_of_ble_eq_true rfl)⟩ mw_391 mw_392 layX_14 rfl rfl rfl (Nat.le_of_ble_eq_true rfl) (c_X9_readNumber_q14 (x_l X) (x_D X) (x_q X) g (x_cy X) (x_z X) _ (0 : Int32) (16 : Int32) o6 ho6) rfl rfl rfl rfl rfl rfl rfl rfl rfl rfl rfl rfl rfl rfl ?_
    refine go_istore_n (lc' := [(0, .ref (x_q X 14)), (1, .int o4.1), (2, .int o5.1), (3, .int o6.1)]) (pc' := 41) hC dX9_readLine_40 (Nat.le_of_ble_eq_true rfl) rfl rfl ?_
    refine go_iconst (pc' := 42) hC dX9_readLine_41 ki_0 rfl ?_
    refine go_istore (lc' := [(0, .ref (x_q X 14)), (1, .int o4.1), (2, .int o5.1), (3, .int o6.1), (4, .int (0 : Int32))]) (pc' := 44) hC dX9_readLine_42 (Nat.le_of_ble_eq_true rfl) rfl rfl ?_
    refine go_iconst (pc' := 45) hC dX9_readLine_44 ki_0 rfl ?_
    refine go_istore (lc' := [(0, .ref (x_q X 14)), (1, .int o4.1), (2, .int o5.1), (3, .int o6.1), (4, .int (0 : Int32)), (5, .int (0 : Int32))]) (pc' := 47) hC dX9_readLine_45 (Nat.le_of_ble_eq_true rfl) rfl rfl ?_
    refine go_iconst (pc' := 48) hC dX9_readLine_47 ki_0 rfl ?_
    refine go_istore (lc' := [(0, .ref (x_q X 14)), (1, .int o4.1), (2, .int o5.1), (3, .int o6.1), (4, .int (0 : Int32)), (5, .int (0 : Int32)), (6, .int (0 : Int32))]) (pc' := 50) hC dX9_readLine_48 (Nat.le_of_ble_eq_true rfl) rfl rfl ?_
    obtain ⟨k130_12, hk130_12, hf⟩ := lk_e5 hf
    have jk130_12 : ∀ (x7 : Int32) (x8 : Int32) (x9 : Int32) (x10 : Int32) (x11 : Int32), k130_12 x7 x8 x9 x10 x11 = some o → Go X layX S 130 [(0, .ref (x_q X 14)), (1, .int o4.1), (2, .int o5.1), (3, .int o6.1), (4, .int x7), (5, .int x8)] [] g [(301, (S.1 301)), (1402, x9), (1403, x10), (1404, x11)] [] [(4, (S.2.2.1 4)), (5, (S.2.2.1 5)), (6, (S.2.2.1 6)), (7, (S.2.2.1 7)), (8, (S.2.2.1 8))] [] [] 0 0 := by
      intro x7 x8 x9 x10 x11 hf
      have hf := hk130_12 x7 x8 x9 x10 x11 hf
      clear hk130_12
      refine go_aload_n (pc' := 131) hC dX9_readLine_130 rfl rfl ?_
      refine go_geti (v := x11) (pc' := 134) hC 14 4 layX_14 rfl rfl inlX9 (Nat.le_of_ble_eq_true rfl) mw_303 rfl dX9_readLine_131 rfl rfl ?_
      refine go_if_ne (tgt := 160) (pc' := 137) hC dX9_readLine_134 (by decide) rfl (fun h21 => ?_) (fun h21 => ?_)
      · have hf := ite_f h21 hf
        obtain rfl := Option.some.inj hf
        exact go_vret hC hQ dX9_readLine_160 rfl rfl rfl (fun _ => rfl) rfl rfl
      · have hf := ite_t h21 hf
        refine go_aload_n (pc' := 138) hC dX9_readLine_137 rfl rfl ?_
        refine go_getq (pc' := 141) hC 14 6 layX_14 rfl rfl inlX9 (Nat.le_of_ble_eq_true rfl) mw_76 rfl dX9_readLine_138 rfl ?_
        refine go_iload_n (pc' := 142) hC dX9_readLine_141 rfl rfl ?_
        refine go_iload_n (pc' := 143) hC dX9_readLine_142 rfl rfl ?_
        refine go_iload_n (pc' := 144) hC dX9_readLine_143 rfl rfl ?_
        refine go_iload (pc' := 146) hC dX9_readLine_144 rfl rfl ?_
        refine go_iload (pc' := 148) hC dX9_readLine_146 rfl rfl ?_
        obtain ⟨k157_18, hk157_18, hf⟩ := lk_e5 hf
        have jk157_18 : ∀ (x13 : Int32) (x14 : Int32) (x15 : Int32) (x16 : Int32) (x17 : Int32), k157_18 x13 x14 x15 x16 x17 = some o → Go X layX S 157 [] [.int x13, .int x14, .int x15, .int x16, .int x17, .ref (x_q X 3)] g [(301, (S.1 301)), (1402, x9), (1403, x10), (1404, x11)] [] [(4, (S.2.2.1 4)), (5, (S.2.2.1 5)), (6, (S.2.2.1 6)), (7, (S.2.2.1 7)), (8, (S.2.2.1 8))] [] [] 0 0 := by
          intro x13 x14 x15 x16 x17 hf
          have hf := hk157_18 x13 x14 x15 x16 x17 hf
          clear hk157_18
          obtain ⟨o19, ho19, hf⟩ := bd_e hf
          refine go_callV1 (pc' := 160) (As := [.int x17, .int x16, .int x15, .int x14, .int x13]) (st := []) (st' := []) (L1' := [(301, o19.1), (1402, x9), (1403, x10), (1404, x11)]) (L2' := []) (L3' := [(4, o19.2.1), (5, o19.2.2.1), (6, o19.2.2.2.1), (7, o19.2.2.2.2.1), (8, o19.2.2.2.2.2)]) (L4' := []) (L5' := []) (cells' := 0) (slots' := 0)  (b := 3) hC dX9_readLine_157 ⟨mw_427, mw_430, mw_14, yd_yX2_addLine, yp_yX2_addLine, Nat.le_of_ble_eq_true rfl, Nat.le_of_ble_eq_true rfl, (Nat.le_of_ble_eq_true rfl), (Nat.le_of_ble_eq_true rfl)⟩ mw_428 mw_429 layX_3 rfl rfl rfl (Nat.le_of_ble_eq_true rfl) (c_X2_addLine_q3 (x_l X) (x_D X) (x_q X) g (x_cy X) (x_z X) _ x17 x16 x15 x14 x13 o19 ho19) rfl rfl rfl rfl rfl rfl rfl rfl rfl rfl rfl rfl rfl rfl ?_
          obtain rfl := Option.some.inj hf
          exact go_vret hC hQ dX9_readLine_160 rfl rfl rfl (fun _ => rfl) rfl rfl
        clear hk157_18
        refine go_if_ne (tgt := 155) (pc' := 151) hC dX9_readLine_148 (by decide) rfl (fun h20 => ?_) (fun h20 => ?_)
        · have hf := ite_f h20 hf
          refine go_iload (pc' := 157) hC dX9_readLine_155 rfl rfl ?_
          refine go_sub [] rfl ?_
          exact jk157_18 x8 x7 o6.1 o5.1 o4.1 hf
        · have hf := ite_t h20 hf
          refine go_iconst (pc' := 152) hC dX9_readLine_151 ki_1 rfl ?_
          refine go_goto (tgt := 157) hC dX9_readLine_152 (by decide) ?_
          refine go_sub [] rfl ?_
          exact jk157_18 (1 : Int32) x7 o6.1 o5.1 o4.1 hf
    clear hk130_12
    have l50_49 : ∀ (nn : Nat) (x22 : Int32) (x23 : Int32) (x24 : Int32) (x25 : Int32) (x26 : Int32) (x27 : Int32), it6 (f_X9_readLine_q14_L50 S k130_12) nn x22 x23 x24 x25 x26 x27 = some o → Go X layX S 50 [(0, .ref (x_q X 14)), (1, .int o4.1), (2, .int o5.1), (3, .int o6.1), (4, .int x22), (5, .int x23), (6, .int x24)] [] g [(301, (S.1 301)), (1402, x25), (1403, x26), (1404, x27)] [] [(4, (S.2.2.1 4)), (5, (S.2.2.1 5)), (6, (S.2.2.1 6)), (7, (S.2.2.1 7)), (8, (S.2.2.1 8))] [] [] 0 0 := by
      intro nn
      induction nn with
      | zero =>
        intro x22 x23 x24 x25 x26 x27 hf
        exact none_no hf
      | succ nn ih =>
        intro x22 x23 x24 x25 x26 x27 hf
        have hf : f_X9_readLine_q14_L50 S k130_12 (it6 (f_X9_readLine_q14_L50 S k130_12) nn) x22 x23 x24 x25 x26 x27 = some o := hf
        generalize it6 (f_X9_readLine_q14_L50 S k130_12) nn = r28 at ih hf
        unfold f_X9_readLine_q14_L50 at hf
        refine go_iload (pc' := 52) hC dX9_readLine_50 rfl rfl ?_
        refine go_sipush (pc' := 55) hC dX9_readLine_52 ks_400 rfl ?_
        refine go_icmp_ge (tgt := 130) (pc' := 58) hC dX9_readLine_55 (by decide) rfl (fun h48 => ?_) (fun h48 => ?_)
        · have hf := ite_t h48 hf
          refine go_sub [0, 1, 2, 3, 4, 5] rfl ?_
          exact jk130_12 x22 x23 x25 x26 x27 hf
        · have hf := ite_f h48 hf
          refine go_aload_n (pc' := 59) hC dX9_readLine_58 rfl rfl ?_
          obtain ⟨o29, ho29, hf⟩ := bd_e hf
          refine go_callV1 (pc' := 62) (As := []) (st := []) (st' := [.int o29.1]) (L1' := [(301, (S.1 301)), (1402, o29.2), (1403, x26), (1404, x27)]) (L2' := []) (L3' := [(4, (S.2.2.1 4)), (5, (S.2.2.1 5)), (6, (S.2.2.1 6)), (7, (S.2.2.1 7)), (8, (S.2.2.1 8))]) (L4' := []) (L5' := []) (cells' := 0) (slots' := 0)  (b := 14) hC dX9_readLine_59 ⟨mw_423, mw_426, mw_18, yd_yX9_clauseGoesOn, yp_yX9_clauseGoesOn, Nat.le_of_ble_eq_true rfl, Nat.le_of_ble_eq_true rfl, (Nat.le_of_ble_eq_true rfl), (Nat.le_of_ble_eq_true rfl)⟩ mw_424 mw_425 layX_14 rfl rfl rfl (Nat.le_of_ble_eq_true rfl) (c_X9_clauseGoesOn_q14 (x_l X) (x_D X) (x_q X) g (x_cy X) (x_z X) _  o29 ho29) rfl rfl rfl rfl rfl rfl rfl rfl rfl rfl rfl rfl rfl rfl ?_
          refine go_if_eq (tgt := 130) (pc' := 65) hC dX9_readLine_62 (by decide) rfl (fun h47 => ?_) (fun h47 => ?_)
          · have hf := ite_t h47 hf
            refine go_sub [0, 1, 2, 3, 4, 5] rfl ?_
            exact jk130_12 x22 x23 o29.2 x26 x27 hf
          · have hf := ite_f h47 hf
            refine go_aload_n (pc' := 66) hC dX9_readLine_65 rfl rfl ?_
            obtain ⟨o30, ho30, hf⟩ := bd_e hf
            refine go_callV1 (pc' := 69) (As := []) (st := []) (st' := []) (L1' := [(301, (S.1 301)), (1402, o30.1), (1403, o30.2), (1404, x27)]) (L2' := []) (L3' := [(4, (S.2.2.1 4)), (5, (S.2.2.1 5)), (6, (S.2.2.1 6)), (7, (S.2.2.1 7)), (8, (S.2.2.1 8))]) (L4' := []) (L5' := []) (cells' := 0) (slots' := 0)  (b := 14) hC dX9_readLine_66 ⟨mw_325, mw_328, mw_18, yd_yX9_readWord, yp_yX9_readWord, Nat.le_of_ble_eq_true rfl, Nat.le_of_ble_eq_true rfl, (Nat.le_of_ble_eq_true rfl), (Nat.le_of_ble_eq_true rfl)⟩ mw_326 mw_327 layX_14 rfl rfl rfl (Nat.le_of_ble_eq_true rfl) (c_X9_readWord_q14 (x_l X) (x_D X) (x_q X) g (x_cy X) (x_z X) _  o30 ho30) rfl rfl rfl rfl rfl rfl rfl rfl rfl rfl rfl rfl rfl rfl ?_
            refine go_aload_n (pc' := 70) hC dX9_readLine_69 rfl rfl ?_
            refine go_ldcS (pc' := 72) hC 2 dX9_readLine_70 rfl rfl rfl ?_
            obtain ⟨o31, ho31, hf⟩ := bd_e hf
            refine go_callV0 (pc' := 75) (As := [.ref ((x_z X).1 2)]) (st := []) (st' := [.int o31])    (b := 14) hC dX9_readLine_72 ⟨mw_333, mw_336, mw_18, yd_yX9_isWord, yp_yX9_isWord, Nat.le_of_ble_eq_true rfl, Nat.le_of_ble_eq_true rfl, (Nat.le_of_ble_eq_true rfl), (Nat.le_of_ble_eq_true rfl)⟩ mw_334 mw_335 layX_14 rfl rfl rfl (Nat.le_of_ble_eq_true rfl) (c_X9_isWord_q14_str2 (x_l X) (x_D X) (x_q X) g (x_cy X) (x_z X) _  o31 ho31) rfl rfl ?_
            obtain ⟨k124_37, hk124_37, hf⟩ := lk_e5 hf
            have jk124_37 : ∀ (x32 : Int32) (x33 : Int32) (x34 : Int32) (x35 : Int32) (x36 : Int32), k124_37 x32 x33 x34 x35 x36 = some o → Go X layX S 124 [(0, .ref (x_q X 14)), (1, .int o4.1), (2, .int o5.1), (3, .int o6.1), (4, .int x32), (5, .int x33), (6, .int x24)] [] g [(301, (S.1 301)), (1402, x34), (1403, x35), (1404, x36)] [] [(4, (S.2.2.1 4)), (5, (S.2.2.1 5)), (6, (S.2.2.1 6)), (7, (S.2.2.1 7)), (8, (S.2.2.1 8))] [] [] 0 0 := by
              intro x32 x33 x34 x35 x36 hf
              have hf := hk124_37 x32 x33 x34 x35 x36 hf
              clear hk124_37
              refine go_iinc (lc' := [(0, .ref (x_q X 14)), (1, .int o4.1), (2, .int o5.1), (3, .int o6.1), (4, .int x32), (5, .int x33), (6, .int (x24 + (1 : Int32)))]) (pc' := 127) hC dX9_readLine_124 rfl ki_1 (Nat.le_of_ble_eq_true rfl) rfl rfl ?_
              refine go_goto (tgt := 50) hC dX9_readLine_127 (by decide) ?_
              exact ih x32 x33 (x24 + (1 : Int32)) x34 x35 x36 hf
            clear hk124_37
            obtain ⟨k89_38, hk89_38, hf⟩ := lk_e0 hf
            have jk89_38 : ∀ (_ : Unit), k89_38 = some o → Go X layX S 89 [(0, .ref (x_q X 14)), (1, .int o4.1), (2, .int o5.1), (3, .int o6.1), (4, .int x22), (5, .int x23), (6, .int x24)] [] g [(301, (S.1 301)), (1402, o30.1), (1403, o30.2), (1404, x27)] [] [(4, (S.2.2.1 4)), (5, (S.2.2.1 5)), (6, (S.2.2.1 6)), (7, (S.2.2.1 7)), (8, (S.2.2.1 8))] [] [] 0 0 := by
              intro _ hf
              have hf := hk89_38 hf
              clear hk89_38
              refine go_aload_n (pc' := 90) hC dX9_readLine_89 rfl rfl ?_
              refine go_ldcS (pc' := 92) hC 3 dX9_readLine_90 rfl rfl rfl ?_
              obtain ⟨o39, ho39, hf⟩ := bd_e hf
              refine go_callV0 (pc' := 95) (As := [.ref ((x_z X).1 3)]) (st := []) (st' := [.int o39])    (b := 14) hC dX9_readLine_92 ⟨mw_333, mw_336, mw_18, yd_yX9_isWord, yp_yX9_isWord, Nat.le_of_ble_eq_true rfl, Nat.le_of_ble_eq_true rfl, (Nat.le_of_ble_eq_true rfl), (Nat.le_of_ble_eq_true rfl)⟩ mw_334 mw_335 layX_14 rfl rfl rfl (Nat.le_of_ble_eq_true rfl) (c_X9_isWord_q14_str3 (x_l X) (x_D X) (x_q X) g (x_cy X) (x_z X) _  o39 ho39) rfl rfl ?_
              obtain ⟨k115_40, hk115_40, hf⟩ := lk_e0 hf
              have jk115_40 : ∀ (_ : Unit), k115_40 = some o → Go X layX S 115 [(0, .ref (x_q X 14)), (1, .int o4.1), (2, .int o5.1), (3, .int o6.1), (4, .int x22), (5, .int x23), (6, .int x24)] [] g [(301, (S.1 301)), (1402, o30.1), (1403, o30.2), (1404, x27)] [] [(4, (S.2.2.1 4)), (5, (S.2.2.1 5)), (6, (S.2.2.1 6)), (7, (S.2.2.1 7)), (8, (S.2.2.1 8))] [] [] 0 0 := by
                intro _ hf
                have hf := hk115_40 hf
                clear hk115_40
                refine go_aload_n (pc' := 116) hC dX9_readLine_115 rfl rfl ?_
                refine go_aload_n (pc' := 117) hC dX9_readLine_116 rfl rfl ?_
                refine go_geti (v := o30.2) (pc' := 120) hC 14 3 layX_14 rfl rfl inlX9 (Nat.le_of_ble_eq_true rfl) mw_323 rfl dX9_readLine_117 rfl rfl ?_
                refine go_iconst (pc' := 121) hC dX9_readLine_120 ki_0 rfl ?_
                obtain ⟨o41, ho41, hf⟩ := bd_e hf
                refine go_callV1 (pc' := 124) (As := [.int o30.2, .int (0 : Int32)]) (st := []) (st' := []) (L1' := [(301, (S.1 301)), (1402, o30.1), (1403, o30.2), (1404, o41)]) (L2' := []) (L3' := [(4, (S.2.2.1 4)), (5, (S.2.2.1 5)), (6, (S.2.2.1 6)), (7, (S.2.2.1 7)), (8, (S.2.2.1 8))]) (L4' := []) (L5' := []) (cells' := 0) (slots' := 0)  (b := 14) hC dX9_readLine_121 ⟨mw_386, mw_389, mw_18, yd_yX9_blame, yp_yX9_blame, Nat.le_of_ble_eq_true rfl, Nat.le_of_ble_eq_true rfl, (Nat.le_of_ble_eq_true rfl), (Nat.le_of_ble_eq_true rfl)⟩ mw_387 mw_388 layX_14 rfl rfl rfl (Nat.le_of_ble_eq_true rfl) (c_X9_blame_q14 (x_l X) (x_D X) (x_q X) g (x_cy X) (x_z X) _ o30.2 (0 : Int32) o41 ho41) rfl rfl rfl rfl rfl rfl rfl rfl rfl rfl rfl rfl rfl rfl ?_
                exact jk124_37 x22 x23 o30.1 o30.2 o41 hf
              clear hk115_40
              refine go_if_eq (tgt := 115) (pc' := 98) hC dX9_readLine_95 (by decide) rfl (fun h44 => ?_) (fun h44 => ?_)
              · have hf := ite_t h44 hf
                exact jk115_40 () hf
              · have hf := ite_f h44 hf
                refine go_iload (pc' := 100) hC dX9_readLine_98 rfl rfl ?_
                refine go_if_ne (tgt := 115) (pc' := 103) hC dX9_readLine_100 (by decide) rfl (fun h43 => ?_) (fun h43 => ?_)
                · have hf := ite_f h43 hf
                  exact jk115_40 () hf
                · have hf := ite_t h43 hf
                  refine go_aload_n (pc' := 104) hC dX9_readLine_103 rfl rfl ?_
                  refine go_iconst (pc' := 105) hC dX9_readLine_104 ki_1 rfl ?_
                  refine go_bipush (pc' := 107) hC dX9_readLine_105 kb_9 rfl ?_
                  obtain ⟨o42, ho42, hf⟩ := bd_e hf
                  refine go_callV1 (pc' := 110) (As := [.int (1 : Int32), .int (9 : Int32)]) (st := []) (st' := [.int o42.1]) (L1' := [(301, (S.1 301)), (1402, o42.2.1), (1403, o42.2.2.1), (1404, o42.2.2.2)]) (L2' := []) (L3' := [(4, (S.2.2.1 4)), (5, (S.2.2.1 5)), (6, (S.2.2.1 6)), (7, (S.2.2.1 7)), (8, (S.2.2.1 8))]) (L4' := []) (L5' := []) (cells' := 0) (slots' := 0)  (b := 14) hC dX9_readLine_107 ⟨mw_390, mw_393, mw_18, yd_yX9_readNumber, yp_yX9_readNumber, Nat.le_of_ble_eq_true rfl, Nat.le_of_ble_eq_true rfl, (Nat.le_of_ble_eq_true rfl), (Nat.le_of_ble_eq_true rfl)⟩ mw_391 mw_392 layX_14 rfl rfl rfl (Nat.le_of_ble_eq_true rfl) (c_X9_readNumber_q14 (x_l X) (x_D X) (x_q X) g (x_cy X) (x_z X) _ (1 : Int32) (9 : Int32) o42 ho42) rfl rfl rfl rfl rfl rfl rfl rfl rfl rfl rfl rfl rfl rfl ?_
                  refine go_istore (lc' := [(0, .ref (x_q X 14)), (1, .int o4.1), (2, .int o5.1), (3, .int o6.1), (4, .int x22), (5, .int o42.1), (6, .int x24)]) (pc' := 112) hC dX9_readLine_110 (Nat.le_of_ble_eq_true rfl) rfl rfl ?_
                  refine go_goto (tgt := 124) hC dX9_readLine_112 (by decide) ?_
                  exact jk124_37 x22 o42.1 o42.2.1 o42.2.2.1 o42.2.2.2 hf
            clear hk89_38
            refine go_if_eq (tgt := 89) (pc' := 78) hC dX9_readLine_75 (by decide) rfl (fun h46 => ?_) (fun h46 => ?_)
            · have hf := ite_t h46 hf
              exact jk89_38 () hf
            · have hf := ite_f h46 hf
              refine go_iload (pc' := 80) hC dX9_readLine_78 rfl rfl ?_
              refine go_if_ne (tgt := 89) (pc' := 83) hC dX9_readLine_80 (by decide) rfl (fun h45 => ?_) (fun h45 => ?_)
              · have hf := ite_f h45 hf
                exact jk89_38 () hf
              · have hf := ite_t h45 hf
                refine go_iconst (pc' := 84) hC dX9_readLine_83 ki_1 rfl ?_
                refine go_istore (lc' := [(0, .ref (x_q X 14)), (1, .int o4.1), (2, .int o5.1), (3, .int o6.1), (4, .int (1 : Int32)), (5, .int x23), (6, .int x24)]) (pc' := 86) hC dX9_readLine_84 (Nat.le_of_ble_eq_true rfl) rfl rfl ?_
                refine go_goto (tgt := 124) hC dX9_readLine_86 (by decide) ?_
                exact jk124_37 (1 : Int32) x23 o30.1 o30.2 x27 hf
    exact l50_49 fuel (0 : Int32) (0 : Int32) (0 : Int32) o6.2.1 o6.2.2.1 o6.2.2.2 hf
  clear hk18_2
  refine go_icmp_lt (tgt := 17) (pc' := 13) hC dX9_readLine_10 (by decide) rfl (fun h50 => ?_) (fun h50 => ?_)
  · have hf := ite_t h50 hf
    refine go_iconst (pc' := 18) hC dX9_readLine_17 ki_0 rfl ?_
    exact jk18_2 (0 : Int32) hf
  · have hf := ite_f h50 hf
    refine go_iconst (pc' := 14) hC dX9_readLine_13 ki_1 rfl ?_
    refine go_goto (tgt := 18) hC dX9_readLine_14 (by decide) ?_
    exact jk18_2 (1 : Int32) hf
abbrev o_X9_isWord_q14_str4 : Type := Int32
def f_X9_isWord_q14_str4_L20 (S : wd_W) (r2 : (Int32) → (Option o_X9_isWord_q14_str4)) (x1 : Int32) : Option o_X9_isWord_q14_str4 :=
if (4 : Int32) ≤ x1 then (
some (1 : Int32)) else (
gd (okx ((S.1 1403) + x1) 400) <|
gd (okx x1 4) <|
if ((S.2.2.1 15) ((S.1 1403) + x1).toNatClampNeg) = (st_ch 4 x1) then (
r2 (x1 + (1 : Int32))) else (
some (0 : Int32)))
def f_X9_isWord_q14_str4 (S : wd_W) : Option o_X9_isWord_q14_str4 :=
if ((S.1 1402) - (S.1 1403)) = (4 : Int32) then (
it1 (f_X9_isWord_q14_str4_L20 S) fuel (0 : Int32)) else (
some (0 : Int32))
set_option maxRecDepth 100000 in
set_option maxHeartbeats 4000000 in
theorem c_X9_isWord_q14_str4 (l : Launch) (D : va_G) (q g : Nat → Nat) (cy : Nat → ClassId) (z : (Nat → Nat) × (Nat → Nat) × Nat) (S : wd_W) (o : o_X9_isWord_q14_str4) (hf : f_X9_isWord_q14_str4 S = some o) : MX layX l yX9_isWord cX9_isWord 3 (some .boolean) ({ frames := 4, cells := 0, slots := 0, locals := 85 } : Room) D q g cy z [.ref (q 14), .ref (z.1 4)] S false (some (.int o)) (wd_o S [] [] [] [] []) 0 0 := by
  refine mx_of (own := RX9) (lc := [(0, .ref (q 14)), (1, .ref (z.1 4))]) (by decide +kernel) rfl layX_ok (Nat.le_of_ble_eq_true rfl) rfl ?_
  intro X hXl hXq hXz hC hQ
  subst hXl; subst hXq; subst hXz
  unfold f_X9_isWord_q14_str4 at hf
  refine go_aload_n (pc' := 1) hC dX9_isWord_0 rfl rfl ?_
  refine go_geti (v := (S.1 1402)) (pc' := 4) hC 14 2 layX_14 rfl rfl inlX9 (Nat.le_of_ble_eq_true rfl) mw_302 rfl dX9_isWord_1 rfl rfl ?_
  refine go_aload_n (pc' := 5) hC dX9_isWord_4 rfl rfl ?_
  refine go_geti (v := (S.1 1403)) (pc' := 8) hC 14 3 layX_14 rfl rfl inlX9 (Nat.le_of_ble_eq_true rfl) mw_323 rfl dX9_isWord_5 rfl rfl ?_
  refine go_isub (pc' := 9) hC dX9_isWord_8 rfl ?_
  refine go_aload_n (pc' := 10) hC dX9_isWord_9 rfl rfl ?_
  refine go_callVs0 (pc' := 13) (As := []) (st := [.int ((S.1 1402) - (S.1 1403))]) (st' := [.int (4 : Int32), .int ((S.1 1402) - (S.1 1403))]) hC dX9_isWord_10 ⟨mw_337, mw_341, mw_340, yd_yJ0_length_8abf5, yp_yJ0_length_8abf5, Nat.le_of_ble_eq_true rfl, Nat.le_of_ble_eq_true rfl, Nat.le_of_ble_eq_true rfl, Nat.le_of_ble_eq_true rfl⟩ mw_338 mw_339 (by decide : 4 < 11) rfl rfl (Nat.le_of_ble_eq_true rfl) (c_strlen (x_l X) (x_D X) (x_q X) g (x_cy X) (x_z X) _ layX layX_ok (by decide : 4 < 11) (by decide : Int32.ofNat (st_len.getD 4 0) >>> ((0 : Int32) &&& 31) = 4)) rfl rfl ?_
  refine go_icmp_eq (tgt := 18) (pc' := 16) hC dX9_isWord_13 (by decide) rfl (fun h8 => ?_) (fun h8 => ?_)
  · have hf := ite_t h8 hf
    refine go_iconst (pc' := 19) hC dX9_isWord_18 ki_0 rfl ?_
    refine go_istore_n (lc' := [(0, .ref (x_q X 14)), (1, .ref ((x_z X).1 4)), (2, .int (0 : Int32))]) (pc' := 20) hC dX9_isWord_19 (Nat.le_of_ble_eq_true rfl) rfl rfl ?_
    have l20_7 : ∀ (nn : Nat) (x1 : Int32), it1 (f_X9_isWord_q14_str4_L20 S) nn x1 = some o → Go X layX S 20 [(0, .ref (x_q X 14)), (1, .ref ((x_z X).1 4)), (2, .int x1)] [] g [] [] [] [] [] 0 0 := by
      intro nn
      induction nn with
      | zero =>
        intro x1 hf
        exact none_no hf
      | succ nn ih =>
        intro x1 hf
        have hf : f_X9_isWord_q14_str4_L20 S (it1 (f_X9_isWord_q14_str4_L20 S) nn) x1 = some o := hf
        generalize it1 (f_X9_isWord_q14_str4_L20 S) nn = r2 at ih hf
        unfold f_X9_isWord_q14_str4_L20 at hf
        refine go_iload_n (pc' := 21) hC dX9_isWord_20 rfl rfl ?_
        refine go_aload_n (pc' := 22) hC dX9_isWord_21 rfl rfl ?_
        refine go_callVs0 (pc' := 25) (As := []) (st := [.int x1]) (st' := [.int (4 : Int32), .int x1]) hC dX9_isWord_22 ⟨mw_337, mw_341, mw_340, yd_yJ0_length_8abf5, yp_yJ0_length_8abf5, Nat.le_of_ble_eq_true rfl, Nat.le_of_ble_eq_true rfl, Nat.le_of_ble_eq_true rfl, Nat.le_of_ble_eq_true rfl⟩ mw_338 mw_339 (by decide : 4 < 11) rfl rfl (Nat.le_of_ble_eq_true rfl) (c_strlen (x_l X) (x_D X) (x_q X) g (x_cy X) (x_z X) _ layX layX_ok (by decide : 4 < 11) (by decide : Int32.ofNat (st_len.getD 4 0) >>> ((0 : Int32) &&& 31) = 4)) rfl rfl ?_
        refine go_icmp_ge (tgt := 55) (pc' := 28) hC dX9_isWord_25 (by decide) rfl (fun h6 => ?_) (fun h6 => ?_)
        · have hf := ite_t h6 hf
          refine go_iconst (pc' := 56) hC dX9_isWord_55 ki_1 rfl ?_
          obtain rfl := Option.some.inj hf
          exact go_iret hC hQ dX9_isWord_56 rfl rfl rfl rfl (fun _ => rfl) rfl rfl
        · have hf := ite_f h6 hf
          refine go_aload_n (pc' := 29) hC dX9_isWord_28 rfl rfl ?_
          refine go_getq (pc' := 32) hC 14 1 layX_14 rfl rfl inlX9 (Nat.le_of_ble_eq_true rfl) mw_75 rfl dX9_isWord_29 rfl ?_
          refine go_aload_n (pc' := 33) hC dX9_isWord_32 rfl rfl ?_
          refine go_geti (v := (S.1 1403)) (pc' := 36) hC 14 3 layX_14 rfl rfl inlX9 (Nat.le_of_ble_eq_true rfl) mw_323 rfl dX9_isWord_33 rfl rfl ?_
          refine go_iload_n (pc' := 37) hC dX9_isWord_36 rfl rfl ?_
          refine go_iadd (pc' := 38) hC dX9_isWord_37 rfl ?_
          obtain ⟨h3, hf⟩ := gd_e hf
          refine go_iald (f := (S.2.2.1 15)) (pc' := 39) hC 15 layX_15 rfl rfl dX9_isWord_38 (okx_in h3) rfl ?_
          refine go_aload_n (pc' := 40) hC dX9_isWord_39 rfl rfl ?_
          refine go_iload_n (pc' := 41) hC dX9_isWord_40 rfl rfl ?_
          obtain ⟨h4, hf⟩ := gd_e hf
          refine go_callVs0 (pc' := 44) (As := [.int x1]) (st := [.int ((S.2.2.1 15) ((S.1 1403) + x1).toNatClampNeg)]) (st' := [.int (st_ch 4 x1), .int ((S.2.2.1 15) ((S.1 1403) + x1).toNatClampNeg)]) hC dX9_isWord_41 ⟨mw_349, mw_352, mw_340, yd_yJ0_charAt_5068e, yp_yJ0_charAt_5068e, Nat.le_of_ble_eq_true rfl, Nat.le_of_ble_eq_true rfl, Nat.le_of_ble_eq_true rfl, Nat.le_of_ble_eq_true rfl⟩ mw_350 mw_351 (by decide : 4 < 11) rfl rfl (Nat.le_of_ble_eq_true rfl) (c_charAt (x_l X) (x_D X) (x_q X) g (x_cy X) (x_z X) _ layX layX_ok (by decide : 4 < 11) h4) rfl rfl ?_
          refine go_icmp_eq (tgt := 49) (pc' := 47) hC dX9_isWord_44 (by decide) rfl (fun h5 => ?_) (fun h5 => ?_)
          · have hf := ite_t h5 hf
            refine go_iinc (lc' := [(0, .ref (x_q X 14)), (1, .ref ((x_z X).1 4)), (2, .int (x1 + (1 : Int32)))]) (pc' := 52) hC dX9_isWord_49 rfl ki_1 (Nat.le_of_ble_eq_true rfl) rfl rfl ?_
            refine go_goto (tgt := 20) hC dX9_isWord_52 (by decide) ?_
            exact ih (x1 + (1 : Int32)) hf
          · have hf := ite_f h5 hf
            refine go_iconst (pc' := 48) hC dX9_isWord_47 ki_0 rfl ?_
            obtain rfl := Option.some.inj hf
            exact go_iret hC hQ dX9_isWord_48 rfl rfl rfl rfl (fun _ => rfl) rfl rfl
    exact l20_7 fuel (0 : Int32) hf
  · have hf := ite_f h8 hf
    refine go_iconst (pc' := 17) hC dX9_isWord_16 ki_0 rfl ?_
    obtain rfl := Option.some.inj hf
    exact go_iret hC hQ dX9_isWord_17 rfl rfl rfl rfl (fun _ => rfl) rfl rfl
theorem dX2_keeperOf_0 : decode cX2_keeperOf 0 = .ok (.iconst 0, 1) := by decide +kernel
theorem dX2_keeperOf_1 : decode cX2_keeperOf 1 = .ok (.istore_n 2, 1) := by decide +kernel
theorem dX2_keeperOf_2 : decode cX2_keeperOf 2 = .ok (.iload_n 2, 1) := by decide +kernel
theorem dX2_keeperOf_3 : decode cX2_keeperOf 3 = .ok (.aload_n 0, 1) := by decide +kernel
theorem dX2_keeperOf_4 : decode cX2_keeperOf 4 = .ok (.getfield 52, 3) := by decide +kernel
theorem dX2_keeperOf_7 : decode cX2_keeperOf 7 = .ok (.if_icmp .ge 21, 3) := by decide +kernel
theorem dX2_keeperOf_10 : decode cX2_keeperOf 10 = .ok (.aload_n 0, 1) := by decide +kernel
theorem dX2_keeperOf_11 : decode cX2_keeperOf 11 = .ok (.getfield 31, 3) := by decide +kernel
theorem dX2_keeperOf_14 : decode cX2_keeperOf 14 = .ok (.iload_n 2, 1) := by decide +kernel
theorem dX2_keeperOf_15 : decode cX2_keeperOf 15 = .ok (.iaload, 1) := by decide +kernel
theorem dX2_keeperOf_16 : decode cX2_keeperOf 16 = .ok (.iload_n 1, 1) := by decide +kernel
theorem dX2_keeperOf_17 : decode cX2_keeperOf 17 = .ok (.if_icmp .ne 5, 3) := by decide +kernel
theorem dX2_keeperOf_20 : decode cX2_keeperOf 20 = .ok (.iload_n 2, 1) := by decide +kernel
theorem dX2_keeperOf_21 : decode cX2_keeperOf 21 = .ok (.ireturn, 1) := by decide +kernel
theorem dX2_keeperOf_22 : decode cX2_keeperOf 22 = .ok (.iinc 2 1, 3) := by decide +kernel
theorem dX2_keeperOf_25 : decode cX2_keeperOf 25 = .ok (.goto (-23), 3) := by decide +kernel
theorem dX2_keeperOf_28 : decode cX2_keeperOf 28 = .ok (.iconst (-1), 1) := by decide +kernel
theorem dX2_keeperOf_29 : decode cX2_keeperOf 29 = .ok (.ireturn, 1) := by decide +kernel
abbrev o_X2_keeperOf_q3 : Type := Int32
def f_X2_keeperOf_q3_L2 (S : wd_W) (p1 : Int32) (r2 : (Int32) → (Option o_X2_keeperOf_q3)) (x1 : Int32) : Option o_X2_keeperOf_q3 :=
if (S.1 307) ≤ x1 then (
some (-1 : Int32)) else (
gd (okx x1 10) <|
if ((S.2.2.1 9) x1.toNatClampNeg) = p1 then (
some x1) else (
r2 (x1 + (1 : Int32))))
def f_X2_keeperOf_q3 (S : wd_W) (p1 : Int32) : Option o_X2_keeperOf_q3 :=
it1 (f_X2_keeperOf_q3_L2 S p1) fuel (0 : Int32)
set_option maxRecDepth 100000 in
set_option maxHeartbeats 4000000 in
theorem c_X2_keeperOf_q3 (l : Launch) (D : va_G) (q g : Nat → Nat) (cy : Nat → ClassId) (z : (Nat → Nat) × (Nat → Nat) × Nat) (S : wd_W) (p1 : Int32) (o : o_X2_keeperOf_q3) (hf : f_X2_keeperOf_q3 S p1 = some o) : MX layX l yX2_keeperOf cX2_keeperOf 3 (some .int) ({ frames := 0, cells := 0, slots := 0, locals := 0 } : Room) D q g cy z [.ref (q 3), .int p1] S false (some (.int o)) (wd_o S [] [] [] [] []) 0 0 := by
  refine mx_of (own := RX2) (lc := [(0, .ref (q 3)), (1, .int p1)]) (by decide +kernel) rfl layX_ok (Nat.le_of_ble_eq_true rfl) rfl ?_
  intro X hXl hXq hXz hC hQ
  subst hXl; subst hXq; subst hXz
  unfold f_X2_keeperOf_q3 at hf
  refine go_iconst (pc' := 1) hC dX2_keeperOf_0 ki_0 rfl ?_
  refine go_istore_n (lc' := [(0, .ref (x_q X 3)), (1, .int p1), (2, .int (0 : Int32))]) (pc' := 2) hC dX2_keeperOf_1 (Nat.le_of_ble_eq_true rfl) rfl rfl ?_
  have l2_6 : ∀ (nn : Nat) (x1 : Int32), it1 (f_X2_keeperOf_q3_L2 S p1) nn x1 = some o → Go X layX S 2 [(0, .ref (x_q X 3)), (1, .int p1), (2, .int x1)] [] g [] [] [] [] [] 0 0 := by
    intro nn
    induction nn with
    | zero =>
      intro x1 hf
      exact none_no hf
    | succ nn ih =>
      intro x1 hf
      have hf : f_X2_keeperOf_q3_L2 S p1 (it1 (f_X2_keeperOf_q3_L2 S p1) nn) x1 = some o := hf
      generalize it1 (f_X2_keeperOf_q3_L2 S p1) nn = r2 at ih hf
      unfold f_X2_keeperOf_q3_L2 at hf
      refine go_iload_n (pc' := 3) hC dX2_keeperOf_2 rfl rfl ?_
      refine go_aload_n (pc' := 4) hC dX2_keeperOf_3 rfl rfl ?_
      refine go_geti (v := (S.1 307)) (pc' := 7) hC 3 7 layX_3 rfl rfl inlX2 (Nat.le_of_ble_eq_true rfl) mw_310 rfl dX2_keeperOf_4 rfl rfl ?_
      refine go_icmp_ge (tgt := 28) (pc' := 10) hC dX2_keeperOf_7 (by decide) rfl (fun h5 => ?_) (fun h5 => ?_)
      · have hf := ite_t h5 hf
        refine go_iconst (pc' := 29) hC dX2_keeperOf_28 ki_m1 rfl ?_
        obtain rfl := Option.some.inj hf
        exact go_iret hC hQ dX2_keeperOf_29 rfl rfl rfl rfl (fun _ => rfl) rfl rfl
      · have hf := ite_f h5 hf
        refine go_aload_n (pc' := 11) hC dX2_keeperOf_10 rfl rfl ?_
        refine go_getq (pc' := 14) hC 3 8 layX_3 rfl rfl inlX2 (Nat.le_of_ble_eq_true rfl) mw_65 rfl dX2_keeperOf_11 rfl ?_
        refine go_iload_n (pc' := 15) hC dX2_keeperOf_14 rfl rfl ?_
        obtain ⟨h3, hf⟩ := gd_e hf
        refine go_iald (f := (S.2.2.1 9)) (pc' := 16) hC 9 layX_9 rfl rfl dX2_keeperOf_15 (okx_in h3) rfl ?_
        refine go_iload_n (pc' := 17) hC dX2_keeperOf_16 rfl rfl ?_
        refine go_icmp_ne (tgt := 22) (pc' := 20) hC dX2_keeperOf_17 (by decide) rfl (fun h4 => ?_) (fun h4 => ?_)
        · have hf := ite_f h4 hf
          refine go_iinc (lc' := [(0, .ref (x_q X 3)), (1, .int p1), (2, .int (x1 + (1 : Int32)))]) (pc' := 25) hC dX2_keeperOf_22 rfl ki_1 (Nat.le_of_ble_eq_true rfl) rfl rfl ?_
          refine go_goto (tgt := 2) hC dX2_keeperOf_25 (by decide) ?_
          exact ih (x1 + (1 : Int32)) hf
        · have hf := ite_t h4 hf
          refine go_iload_n (pc' := 21) hC dX2_keeperOf_20 rfl rfl ?_
          obtain rfl := Option.some.inj hf
          exact go_iret hC hQ dX2_keeperOf_21 rfl rfl rfl rfl (fun _ => rfl) rfl rfl
  exact l2_6 fuel (0 : Int32) hf
theorem dX2_addKeeper_0 : decode cX2_addKeeper 0 = .ok (.aload_n 0, 1) := by decide +kernel
theorem dX2_addKeeper_1 : decode cX2_addKeeper 1 = .ok (.getfield 52, 3) := by decide +kernel
theorem dX2_addKeeper_4 : decode cX2_addKeeper 4 = .ok (.aload_n 0, 1) := by decide +kernel
theorem dX2_addKeeper_5 : decode cX2_addKeeper 5 = .ok (.getfield 31, 3) := by decide +kernel
theorem dX2_addKeeper_8 : decode cX2_addKeeper 8 = .ok (.arraylength, 1) := by decide +kernel
theorem dX2_addKeeper_9 : decode cX2_addKeeper 9 = .ok (.if_icmp .ge 33, 3) := by decide +kernel
theorem dX2_addKeeper_12 : decode cX2_addKeeper 12 = .ok (.aload_n 0, 1) := by decide +kernel
theorem dX2_addKeeper_13 : decode cX2_addKeeper 13 = .ok (.getfield 31, 3) := by decide +kernel
theorem dX2_addKeeper_16 : decode cX2_addKeeper 16 = .ok (.aload_n 0, 1) := by decide +kernel
theorem dX2_addKeeper_17 : decode cX2_addKeeper 17 = .ok (.getfield 52, 3) := by decide +kernel
theorem dX2_addKeeper_20 : decode cX2_addKeeper 20 = .ok (.iload_n 1, 1) := by decide +kernel
theorem dX2_addKeeper_21 : decode cX2_addKeeper 21 = .ok (.iastore, 1) := by decide +kernel
theorem dX2_addKeeper_22 : decode cX2_addKeeper 22 = .ok (.aload_n 0, 1) := by decide +kernel
theorem dX2_addKeeper_23 : decode cX2_addKeeper 23 = .ok (.getfield 34, 3) := by decide +kernel
theorem dX2_addKeeper_26 : decode cX2_addKeeper 26 = .ok (.aload_n 0, 1) := by decide +kernel
theorem dX2_addKeeper_27 : decode cX2_addKeeper 27 = .ok (.getfield 52, 3) := by decide +kernel
theorem dX2_addKeeper_30 : decode cX2_addKeeper 30 = .ok (.iload_n 2, 1) := by decide +kernel
theorem dX2_addKeeper_31 : decode cX2_addKeeper 31 = .ok (.iastore, 1) := by decide +kernel
theorem dX2_addKeeper_32 : decode cX2_addKeeper 32 = .ok (.aload_n 0, 1) := by decide +kernel
theorem dX2_addKeeper_33 : decode cX2_addKeeper 33 = .ok (.dup, 1) := by decide +kernel
theorem dX2_addKeeper_34 : decode cX2_addKeeper 34 = .ok (.getfield 52, 3) := by decide +kernel
theorem dX2_addKeeper_37 : decode cX2_addKeeper 37 = .ok (.iconst 1, 1) := by decide +kernel
theorem dX2_addKeeper_38 : decode cX2_addKeeper 38 = .ok (.iadd, 1) := by decide +kernel
theorem dX2_addKeeper_39 : decode cX2_addKeeper 39 = .ok (.putfield 52, 3) := by decide +kernel
theorem dX2_addKeeper_42 : decode cX2_addKeeper 42 = .ok (.return_, 1) := by decide +kernel
abbrev o_X2_addKeeper_q3 : Type := Int32 × (Nat → Int32) × (Nat → Int32)
def f_X2_addKeeper_q3 (S : wd_W) (p1 : Int32) (p2 : Int32) : Option o_X2_addKeeper_q3 :=
if (10 : Int32) ≤ (S.1 307) then (
some ((S.1 307), (S.2.2.1 9), (S.2.2.1 10))) else (
gd (okx (S.1 307) 10) <|
lz (upd (S.2.2.1 9) (S.1 307).toNatClampNeg p1) fun a2 =>
gd (okx (S.1 307) 10) <|
lz (upd (S.2.2.1 10) (S.1 307).toNatClampNeg p2) fun a4 =>
lz ((S.1 307) + (1 : Int32)) fun x5 =>
some (x5, a2, a4))
set_option maxRecDepth 100000 in
set_option maxHeartbeats 4000000 in
theorem c_X2_addKeeper_q3 (l : Launch) (D : va_G) (q g : Nat → Nat) (cy : Nat → ClassId) (z : (Nat → Nat) × (Nat → Nat) × Nat) (S : wd_W) (p1 : Int32) (p2 : Int32) (o : o_X2_addKeeper_q3) (hf : f_X2_addKeeper_q3 S p1 p2 = some o) : MX layX l yX2_addKeeper cX2_addKeeper 3 none ({ frames := 0, cells := 0, slots := 0, locals := 0 } : Room) D q g cy z [.ref (q 3), .int p1, .int p2] S false (none) (wd_o S [(307, o.1)] [] [(9, o.2.1), (10, o.2.2)] [] []) 0 0 := by
  refine mx_of (own := RX2) (lc := [(0, .ref (q 3)), (1, .int p1), (2, .int p2)]) (by decide +kernel) rfl layX_ok (Nat.le_of_ble_eq_true rfl) rfl ?_
  intro X hXl hXq hXz hC hQ
  subst hXl; subst hXq; subst hXz
  unfold f_X2_addKeeper_q3 at hf
  refine go_keys (L1 := [(307, (S.1 307))]) (L2 := []) (L3 := [(9, (S.2.2.1 9)), (10, (S.2.2.1 10))]) (L4 := []) (L5 := []) [307] [] [9, 10] [] [] rfl rfl rfl rfl rfl ?_
  refine go_aload_n (pc' := 1) hC dX2_addKeeper_0 rfl rfl ?_
  refine go_geti (v := (S.1 307)) (pc' := 4) hC 3 7 layX_3 rfl rfl inlX2 (Nat.le_of_ble_eq_true rfl) mw_310 rfl dX2_addKeeper_1 rfl rfl ?_
  refine go_aload_n (pc' := 5) hC dX2_addKeeper_4 rfl rfl ?_
  refine go_getq (pc' := 8) hC 3 8 layX_3 rfl rfl inlX2 (Nat.le_of_ble_eq_true rfl) mw_65 rfl dX2_addKeeper_5 rfl ?_
  refine go_alen (v := (10 : Int32)) (pc' := 9) hC 9 layX_9 rfl (Nat.le_of_ble_eq_true rfl) kn_10 dX2_addKeeper_8 rfl ?_
  refine go_icmp_ge (tgt := 42) (pc' := 12) hC dX2_addKeeper_9 (by decide) rfl (fun h6 => ?_) (fun h6 => ?_)
  · have hf := ite_t h6 hf
    obtain rfl := Option.some.inj hf
    exact go_vret hC hQ dX2_addKeeper_42 rfl rfl rfl (fun _ => rfl) rfl rfl
  · have hf := ite_f h6 hf
    refine go_aload_n (pc' := 13) hC dX2_addKeeper_12 rfl rfl ?_
    refine go_getq (pc' := 16) hC 3 8 layX_3 rfl rfl inlX2 (Nat.le_of_ble_eq_true rfl) mw_65 rfl dX2_addKeeper_13 rfl ?_
    refine go_aload_n (pc' := 17) hC dX2_addKeeper_16 rfl rfl ?_
    refine go_geti (v := (S.1 307)) (pc' := 20) hC 3 7 layX_3 rfl rfl inlX2 (Nat.le_of_ble_eq_true rfl) mw_310 rfl dX2_addKeeper_17 rfl rfl ?_
    refine go_iload_n (pc' := 21) hC dX2_addKeeper_20 rfl rfl ?_
    obtain ⟨h1, hf⟩ := gd_e hf
    refine go_iast (f := (S.2.2.1 9)) (pc' := 22) hC 9 layX_9 rfl rfl dX2_addKeeper_21 (okx_in h1) rfl rfl (fun a2 ha L3' hL => ?_)
    have hf := lz_r ha hf
    clear ha
    obtain rfl : L3' = [(9, a2), (10, (S.2.2.1 10))] := hL.symm
    refine go_aload_n (pc' := 23) hC dX2_addKeeper_22 rfl rfl ?_
    refine go_getq (pc' := 26) hC 3 9 layX_3 rfl rfl inlX2 (Nat.le_of_ble_eq_true rfl) mw_66 rfl dX2_addKeeper_23 rfl ?_
    refine go_aload_n (pc' := 27) hC dX2_addKeeper_26 rfl rfl ?_
    refine go_geti (v := (S.1 307)) (pc' := 30) hC 3 7 layX_3 rfl rfl inlX2 (Nat.le_of_ble_eq_true rfl) mw_310 rfl dX2_addKeeper_27 rfl rfl ?_
    refine go_iload_n (pc' := 31) hC dX2_addKeeper_30 rfl rfl ?_
    obtain ⟨h3, hf⟩ := gd_e hf
    refine go_iast (f := (S.2.2.1 10)) (pc' := 32) hC 10 layX_10 rfl rfl dX2_addKeeper_31 (okx_in h3) rfl rfl (fun a4 ha L3' hL => ?_)
    have hf := lz_r ha hf
    clear ha
    obtain rfl : L3' = [(9, a2), (10, a4)] := hL.symm
    refine go_aload_n (pc' := 33) hC dX2_addKeeper_32 rfl rfl ?_
    refine go_dup (pc' := 34) hC dX2_addKeeper_33 rfl rfl ?_
    refine go_geti (v := (S.1 307)) (pc' := 37) hC 3 7 layX_3 rfl rfl inlX2 (Nat.le_of_ble_eq_true rfl) mw_310 rfl dX2_addKeeper_34 rfl rfl ?_
    refine go_iconst (pc' := 38) hC dX2_addKeeper_37 ki_1 rfl ?_
    refine go_iadd (pc' := 39) hC dX2_addKeeper_38 rfl ?_
    refine go_namei (fun x5 hx => ?_)
    have hf := lz_r hx hf
    clear hx
    refine go_puti (L1' := [(307, x5)]) (pc' := 42) hC 3 7 layX_3 rfl rfl inlX2 tyX2_ok nmX2 (Nat.le_of_ble_eq_true rfl) mw_310 rfl rfl rfl rfl dX2_addKeeper_39 rfl rfl rfl ?_
    obtain rfl := Option.some.inj hf
    exact go_vret hC hQ dX2_addKeeper_42 rfl rfl rfl (fun _ => rfl) rfl rfl
theorem dX9_readKeeper_0 : decode cX9_readKeeper 0 = .ok (.aload_n 0, 1) := by decide +kernel
theorem dX9_readKeeper_1 : decode cX9_readKeeper 1 = .ok (.iconst 0, 1) := by decide +kernel
theorem dX9_readKeeper_2 : decode cX9_readKeeper 2 = .ok (.invokevirtual 114, 3) := by decide +kernel
theorem dX9_readKeeper_5 : decode cX9_readKeeper 5 = .ok (.aload_n 0, 1) := by decide +kernel
theorem dX9_readKeeper_6 : decode cX9_readKeeper 6 = .ok (.iconst (-1), 1) := by decide +kernel
theorem dX9_readKeeper_7 : decode cX9_readKeeper 7 = .ok (.invokevirtual 118, 3) := by decide +kernel
theorem dX9_readKeeper_10 : decode cX9_readKeeper 10 = .ok (.istore_n 1, 1) := by decide +kernel
theorem dX9_readKeeper_11 : decode cX9_readKeeper 11 = .ok (.aload_n 0, 1) := by decide +kernel
theorem dX9_readKeeper_12 : decode cX9_readKeeper 12 = .ok (.getfield 15, 3) := by decide +kernel
theorem dX9_readKeeper_15 : decode cX9_readKeeper 15 = .ok (.iload_n 1, 1) := by decide +kernel
theorem dX9_readKeeper_16 : decode cX9_readKeeper 16 = .ok (.invokevirtual 133, 3) := by decide +kernel
theorem dX9_readKeeper_19 : decode cX9_readKeeper 19 = .ok (.iconst (-1), 1) := by decide +kernel
theorem dX9_readKeeper_20 : decode cX9_readKeeper 20 = .ok (.if_icmp .eq 12, 3) := by decide +kernel
theorem dX9_readKeeper_23 : decode cX9_readKeeper 23 = .ok (.aload_n 0, 1) := by decide +kernel
theorem dX9_readKeeper_24 : decode cX9_readKeeper 24 = .ok (.aload_n 0, 1) := by decide +kernel
theorem dX9_readKeeper_25 : decode cX9_readKeeper 25 = .ok (.getfield 55, 3) := by decide +kernel
theorem dX9_readKeeper_28 : decode cX9_readKeeper 28 = .ok (.iconst 2, 1) := by decide +kernel
theorem dX9_readKeeper_29 : decode cX9_readKeeper 29 = .ok (.invokevirtual 45, 3) := by decide +kernel
theorem dX9_readKeeper_32 : decode cX9_readKeeper 32 = .ok (.aload_n 0, 1) := by decide +kernel
theorem dX9_readKeeper_33 : decode cX9_readKeeper 33 = .ok (.iconst 0, 1) := by decide +kernel
theorem dX9_readKeeper_34 : decode cX9_readKeeper 34 = .ok (.bipush 16, 2) := by decide +kernel
theorem dX9_readKeeper_36 : decode cX9_readKeeper 36 = .ok (.invokevirtual 77, 3) := by decide +kernel
theorem dX9_readKeeper_39 : decode cX9_readKeeper 39 = .ok (.istore_n 2, 1) := by decide +kernel
theorem dX9_readKeeper_40 : decode cX9_readKeeper 40 = .ok (.aload_n 0, 1) := by decide +kernel
theorem dX9_readKeeper_41 : decode cX9_readKeeper 41 = .ok (.getfield 31, 3) := by decide +kernel
theorem dX9_readKeeper_44 : decode cX9_readKeeper 44 = .ok (.ifCond .ne 12, 3) := by decide +kernel
theorem dX9_readKeeper_47 : decode cX9_readKeeper 47 = .ok (.aload_n 0, 1) := by decide +kernel
theorem dX9_readKeeper_48 : decode cX9_readKeeper 48 = .ok (.getfield 15, 3) := by decide +kernel
theorem dX9_readKeeper_51 : decode cX9_readKeeper 51 = .ok (.iload_n 1, 1) := by decide +kernel
theorem dX9_readKeeper_52 : decode cX9_readKeeper 52 = .ok (.iload_n 2, 1) := by decide +kernel
theorem dX9_readKeeper_53 : decode cX9_readKeeper 53 = .ok (.invokevirtual 136, 3) := by decide +kernel
theorem dX9_readKeeper_56 : decode cX9_readKeeper 56 = .ok (.return_, 1) := by decide +kernel
abbrev o_X9_readKeeper_q14 : Type := Int32 × Int32 × Int32 × Int32 × (Nat → Int32) × (Nat → Int32)
def f_X9_readKeeper_q14 (S : wd_W) : Option o_X9_readKeeper_q14 :=
bd (f_X9_refuseIf_q14 (wd_o S [(307, (S.1 307)), (1402, (S.1 1402)), (1403, (S.1 1403)), (1404, (S.1 1404))] [] [(9, (S.2.2.1 9)), (10, (S.2.2.1 10))] [] []) (0 : Int32)) fun o1 =>
bd (f_X9_readPlace_q14 (wd_o S [(307, (S.1 307)), (1402, (S.1 1402)), (1403, (S.1 1403)), (1404, o1)] [] [(9, (S.2.2.1 9)), (10, (S.2.2.1 10))] [] []) (-1 : Int32)) fun o2 =>
bd (f_X2_keeperOf_q3 (wd_o S [(307, (S.1 307)), (1402, o2.2.1), (1403, o2.2.2.1), (1404, o2.2.2.2)] [] [(9, (S.2.2.1 9)), (10, (S.2.2.1 10))] [] []) o2.1) fun o3 =>
lk (fun x4 =>
bd (f_X9_readNumber_q14 (wd_o S [(307, (S.1 307)), (1402, o2.2.1), (1403, o2.2.2.1), (1404, x4)] [] [(9, (S.2.2.1 9)), (10, (S.2.2.1 10))] [] []) (0 : Int32) (16 : Int32)) fun o6 =>
if o6.2.2.2 = 0 then (
bd (f_X2_addKeeper_q3 (wd_o S [(307, (S.1 307)), (1402, o6.2.1), (1403, o6.2.2.1), (1404, o6.2.2.2)] [] [(9, (S.2.2.1 9)), (10, (S.2.2.1 10))] [] []) o2.1 o6.1) fun o7 =>
some (o7.1, o6.2.1, o6.2.2.1, o6.2.2.2, o7.2.1, o7.2.2)) else (
some ((S.1 307), o6.2.1, o6.2.2.1, o6.2.2.2, (S.2.2.1 9), (S.2.2.1 10)))) fun k32_5 =>
if o3 = (-1 : Int32) then (
k32_5 o2.2.2.2) else (
bd (f_X9_blame_q14 (wd_o S [(307, (S.1 307)), (1402, o2.2.1), (1403, o2.2.2.1), (1404, o2.2.2.2)] [] [(9, (S.2.2.1 9)), (10, (S.2.2.1 10))] [] []) o2.2.2.1 (2 : Int32)) fun o9 =>
k32_5 o9)
set_option maxRecDepth 100000 in
set_option maxHeartbeats 4000000 in
theorem c_X9_readKeeper_q14 (l : Launch) (D : va_G) (q g : Nat → Nat) (cy : Nat → ClassId) (z : (Nat → Nat) × (Nat → Nat) × Nat) (S : wd_W) (o : o_X9_readKeeper_q14) (hf : f_X9_readKeeper_q14 S = some o) : MX layX l yX9_readKeeper cX9_readKeeper 3 none ({ frames := 3, cells := 0, slots := 0, locals := 67 } : Room) D q g cy z [.ref (q 14)] S false (none) (wd_o S [(307, o.1), (1402, o.2.1), (1403, o.2.2.1), (1404, o.2.2.2.1)] [] [(9, o.2.2.2.2.1), (10, o.2.2.2.2.2)] [] []) 0 0 := by
  refine mx_of (own := RX9) (lc := [(0, .ref (q 14))]) (by decide +kernel) rfl layX_ok (Nat.le_of_ble_eq_true rfl) rfl ?_
  intro X hXl hXq hXz hC hQ
  subst hXl; subst hXq; subst hXz
  unfold f_X9_readKeeper_q14 at hf
  refine go_keys (L1 := [(307, (S.1 307)), (1402, (S.1 1402)), (1403, (S.1 1403)), (1404, (S.1 1404))]) (L2 := []) (L3 := [(9, (S.2.2.1 9)), (10, (S.2.2.1 10))]) (L4 := []) (L5 := []) [307, 1402, 1403, 1404] [] [9, 10] [] [] rfl rfl rfl rfl rfl ?_
  refine go_aload_n (pc' := 1) hC dX9_readKeeper_0 rfl rfl ?_
  refine go_iconst (pc' := 2) hC dX9_readKeeper_1 ki_0 rfl ?_
  obtain ⟨o1, ho1, hf⟩ := bd_e hf
  refine go_callV1 (pc' := 5) (As := [.int (0 : Int32)]) (st := []) (st' := []) (L1' := [(307, (S.1 307)), (1402, (S.1 1402)), (1403, (S.1 1403)), (1404, o1)]) (L2' := []) (L3' := [(9, (S.2.2.1 9)), (10, (S.2.2.1 10))]) (L4' := []) (L5' := []) (cells' := 0) (slots' := 0)  (b := 14) hC dX9_readKeeper_2 ⟨mw_411, mw_414, mw_18, yd_yX9_refuseIf, yp_yX9_refuseIf, Nat.le_of_ble_eq_true rfl, Nat.le_of_ble_eq_true rfl, (Nat.le_of_ble_eq_true rfl), (Nat.le_of_ble_eq_true rfl)⟩ mw_412 mw_413 layX_14 rfl rfl rfl (Nat.le_of_ble_eq_true rfl) (c_X9_refuseIf_q14 (x_l X) (x_D X) (x_q X) g (x_cy X) (x_z X) _ (0 : Int32) o1 ho1) rfl rfl rfl rfl rfl rfl rfl rfl rfl rfl rfl rfl rfl rfl ?_
  refine go_aload_n (pc' := 6) hC dX9_readKeeper_5 rfl rfl ?_
  refine go_iconst (pc' := 7) hC dX9_readKeeper_6 ki_m1 rfl ?_
  obtain ⟨o2, ho2, hf⟩ := bd_e hf
  refine go_callV1 (pc' := 10) (As := [.int (-1 : Int32)]) (st := []) (st' := [.int o2.1]) (L1' := [(307, (S.1 307)), (1402, o2.2.1), (1403, o2.2.2.1), (1404, o2.2.2.2)]) (L2' := []) (L3' := [(9, (S.2.2.1 9)), (10, (S.2.2.1 10))]) (L4' := []) (L5' := []) (cells' := 0) (slots' := 0)  (b := 14) hC dX9_readKeeper_7 ⟨mw_419, mw_422, mw_18, yd_yX9_readPlace, yp_yX9_readPlace, Nat.le_of_ble_eq_true rfl, Nat.le_of_ble_eq_true rfl, (Nat.le_of_ble_eq_true rfl), (Nat.le_of_ble_eq_true rfl)⟩ mw_420 mw_421 layX_14 rfl rfl rfl (Nat.le_of_ble_eq_true rfl) (c_X9_readPlace_q14 (x_l X) (x_D X) (x_q X) g (x_cy X) (x_z X) _ (-1 : Int32) o2 ho2) rfl rfl rfl rfl rfl rfl rfl rfl rfl rfl rfl rfl rfl rfl ?_
  refine go_istore_n (lc' := [(0, .ref (x_q X 14)), (1, .int o2.1)]) (pc' := 11) hC dX9_readKeeper_10 (Nat.le_of_ble_eq_true rfl) rfl rfl ?_
  refine go_aload_n (pc' := 12) hC dX9_readKeeper_11 rfl rfl ?_
  refine go_getq (pc' := 15) hC 14 6 layX_14 rfl rfl inlX9 (Nat.le_of_ble_eq_true rfl) mw_76 rfl dX9_readKeeper_12 rfl ?_
  refine go_iload_n (pc' := 16) hC dX9_readKeeper_15 rfl rfl ?_
  obtain ⟨o3, ho3, hf⟩ := bd_e hf
  refine go_callV0 (pc' := 19) (As := [.int o2.1]) (st := []) (st' := [.int o3])    (b := 3) hC dX9_readKeeper_16 ⟨mw_435, mw_438, mw_14, yd_yX2_keeperOf, yp_yX2_keeperOf, Nat.le_of_ble_eq_true rfl, Nat.le_of_ble_eq_true rfl, (Nat.le_of_ble_eq_true rfl), (Nat.le_of_ble_eq_true rfl)⟩ mw_436 mw_437 layX_3 rfl rfl rfl (Nat.le_of_ble_eq_true rfl) (c_X2_keeperOf_q3 (x_l X) (x_D X) (x_q X) g (x_cy X) (x_z X) _ o2.1 o3 ho3) rfl rfl ?_
  refine go_iconst (pc' := 20) hC dX9_readKeeper_19 ki_m1 rfl ?_
  obtain ⟨k32_5, hk32_5, hf⟩ := lk_e1 hf
  have jk32_5 : ∀ (x4 : Int32), k32_5 x4 = some o → Go X layX S 32 [(0, .ref (x_q X 14)), (1, .int o2.1)] [] g [(307, (S.1 307)), (1402, o2.2.1), (1403, o2.2.2.1), (1404, x4)] [] [(9, (S.2.2.1 9)), (10, (S.2.2.1 10))] [] [] 0 0 := by
    intro x4 hf
    have hf := hk32_5 x4 hf
    clear hk32_5
    refine go_aload_n (pc' := 33) hC dX9_readKeeper_32 rfl rfl ?_
    refine go_iconst (pc' := 34) hC dX9_readKeeper_33 ki_0 rfl ?_
    refine go_bipush (pc' := 36) hC dX9_readKeeper_34 kb_16 rfl ?_
    obtain ⟨o6, ho6, hf⟩ := bd_e hf
    refine go_callV1 (pc' := 39) (As := [.int (0 : Int32), .int (16 : Int32)]) (st := []) (st' := [.int o6.1]) (L1' := [(307, (S.1 307)), (1402, o6.2.1), (1403, o6.2.2.1), (1404, o6.2.2.2)]) (L2' := []) (L3' := [(9, (S.2.2.1 9)), (10, (S.2.2.1 10))]) (L4' := []) (L5' := []) (cells' := 0) (slots' := 0)  (b := 14) hC dX9_readKeeper_36 ⟨mw_390, mw_393, mw_18, yd_yX9_readNumber, yp_yX9_readNumber, Nat.le_of_ble_eq_true rfl, Nat.le_of_ble_eq_true rfl, (Nat.le_of_ble_eq_true rfl), (Nat.le_of_ble_eq_true rfl)⟩ mw_391 mw_392 layX_14 rfl rfl rfl (Nat.le_of_ble_eq_true rfl) (c_X9_readNumber_q14 (x_l X) (x_D X) (x_q X) g (x_cy X) (x_z X) _ (0 : Int32) (16 : Int32) o6 ho6) rfl rfl rfl rfl rfl rfl rfl rfl rfl rfl rfl rfl rfl rfl ?_
    refine go_istore_n (lc' := [(0, .ref (x_q X 14)), (1, .int o2.1), (2, .int o6.1)]) (pc' := 40) hC dX9_readKeeper_39 (Nat.le_of_ble_eq_true rfl) rfl rfl ?_
    refine go_aload_n (pc' := 41) hC dX9_readKeeper_40 rfl rfl ?_
    refine go_geti (v := o6.2.2.2) (pc' := 44) hC 14 4 layX_14 rfl rfl inlX9 (Nat.le_of_ble_eq_true rfl) mw_303 rfl dX9_readKeeper_41 rfl rfl ?_
    refine go_if_ne (tgt := 56) (pc' := 47) hC dX9_readKeeper_44 (by decide) rfl (fun h8 => ?_) (fun h8 => ?_)
    · have hf := ite_f h8 hf
      obtain rfl := Option.some.inj hf
      exact go_vret hC hQ dX9_readKeeper_56 rfl rfl rfl (fun _ => rfl) rfl rfl
    · have hf := ite_t h8 hf
      refine go_aload_n (pc' := 48) hC dX9_readKeeper_47 rfl rfl ?_
      refine go_getq (pc' := 51) hC 14 6 layX_14 rfl rfl inlX9 (Nat.le_of_ble_eq_true rfl) mw_76 rfl dX9_readKeeper_48 rfl ?_
      refine go_iload_n (pc' := 52) hC dX9_readKeeper_51 rfl rfl ?_
      refine go_iload_n (pc' := 53) hC dX9_readKeeper_52 rfl rfl ?_
      obtain ⟨o7, ho7, hf⟩ := bd_e hf
      refine go_callV1 (pc' := 56) (As := [.int o2.1, .int o6.1]) (st := []) (st' := []) (L1' := [(307, o7.1), (1402, o6.2.1), (1403, o6.2.2.1), (1404, o6.2.2.2)]) (L2' := []) (L3' := [(9, o7.2.1), (10, o7.2.2)]) (L4' := []) (L5' := []) (cells' := 0) (slots' := 0)  (b := 3) hC dX9_readKeeper_53 ⟨mw_439, mw_442, mw_14, yd_yX2_addKeeper, yp_yX2_addKeeper, Nat.le_of_ble_eq_true rfl, Nat.le_of_ble_eq_true rfl, (Nat.le_of_ble_eq_true rfl), (Nat.le_of_ble_eq_true rfl)⟩ mw_440 mw_441 layX_3 rfl rfl rfl (Nat.le_of_ble_eq_true rfl) (c_X2_addKeeper_q3 (x_l X) (x_D X) (x_q X) g (x_cy X) (x_z X) _ o2.1 o6.1 o7 ho7) rfl rfl rfl rfl rfl rfl rfl rfl rfl rfl rfl rfl rfl rfl ?_
      obtain rfl := Option.some.inj hf
      exact go_vret hC hQ dX9_readKeeper_56 rfl rfl rfl (fun _ => rfl) rfl rfl
  clear hk32_5
  refine go_icmp_eq (tgt := 32) (pc' := 23) hC dX9_readKeeper_20 (by decide) rfl (fun h10 => ?_) (fun h10 => ?_)
  · have hf := ite_t h10 hf
    exact jk32_5 o2.2.2.2 hf
  · have hf := ite_f h10 hf
    refine go_aload_n (pc' := 24) hC dX9_readKeeper_23 rfl rfl ?_
    refine go_aload_n (pc' := 25) hC dX9_readKeeper_24 rfl rfl ?_
    refine go_geti (v := o2.2.2.1) (pc' := 28) hC 14 3 layX_14 rfl rfl inlX9 (Nat.le_of_ble_eq_true rfl) mw_323 rfl dX9_readKeeper_25 rfl rfl ?_
    refine go_iconst (pc' := 29) hC dX9_readKeeper_28 ki_2 rfl ?_
    obtain ⟨o9, ho9, hf⟩ := bd_e hf
    refine go_callV1 (pc' := 32) (As := [.int o2.2.2.1, .int (2 : Int32)]) (st := []) (st' := []) (L1' := [(307, (S.1 307)), (1402, o2.2.1), (1403, o2.2.2.1), (1404, o9)]) (L2' := []) (L3' := [(9, (S.2.2.1 9)), (10, (S.2.2.1 10))]) (L4' := []) (L5' := []) (cells' := 0) (slots' := 0)  (b := 14) hC dX9_readKeeper_29 ⟨mw_386, mw_389, mw_18, yd_yX9_blame, yp_yX9_blame, Nat.le_of_ble_eq_true rfl, Nat.le_of_ble_eq_true rfl, (Nat.le_of_ble_eq_true rfl), (Nat.le_of_ble_eq_true rfl)⟩ mw_387 mw_388 layX_14 rfl rfl rfl (Nat.le_of_ble_eq_true rfl) (c_X9_blame_q14 (x_l X) (x_D X) (x_q X) g (x_cy X) (x_z X) _ o2.2.2.1 (2 : Int32) o9 ho9) rfl rfl rfl rfl rfl rfl rfl rfl rfl rfl rfl rfl rfl rfl ?_
    exact jk32_5 o9 hf
abbrev o_X9_isWord_q14_str5 : Type := Int32
def f_X9_isWord_q14_str5_L20 (S : wd_W) (r2 : (Int32) → (Option o_X9_isWord_q14_str5)) (x1 : Int32) : Option o_X9_isWord_q14_str5 :=
if (5 : Int32) ≤ x1 then (
some (1 : Int32)) else (
gd (okx ((S.1 1403) + x1) 400) <|
gd (okx x1 5) <|
if ((S.2.2.1 15) ((S.1 1403) + x1).toNatClampNeg) = (st_ch 5 x1) then (
r2 (x1 + (1 : Int32))) else (
some (0 : Int32)))
def f_X9_isWord_q14_str5 (S : wd_W) : Option o_X9_isWord_q14_str5 :=
if ((S.1 1402) - (S.1 1403)) = (5 : Int32) then (
it1 (f_X9_isWord_q14_str5_L20 S) fuel (0 : Int32)) else (
some (0 : Int32))
set_option maxRecDepth 100000 in
set_option maxHeartbeats 4000000 in
theorem c_X9_isWord_q14_str5 (l : Launch) (D : va_G) (q g : Nat → Nat) (cy : Nat → ClassId) (z : (Nat → Nat) × (Nat → Nat) × Nat) (S : wd_W) (o : o_X9_isWord_q14_str5) (hf : f_X9_isWord_q14_str5 S = some o) : MX layX l yX9_isWord cX9_isWord 3 (some .boolean) ({ frames := 4, cells := 0, slots := 0, locals := 85 } : Room) D q g cy z [.ref (q 14), .ref (z.1 5)] S false (some (.int o)) (wd_o S [] [] [] [] []) 0 0 := by
  refine mx_of (own := RX9) (lc := [(0, .ref (q 14)), (1, .ref (z.1 5))]) (by decide +kernel) rfl layX_ok (Nat.le_of_ble_eq_true rfl) rfl ?_
  intro X hXl hXq hXz hC hQ
  subst hXl; subst hXq; subst hXz
  unfold f_X9_isWord_q14_str5 at hf
  refine go_aload_n (pc' := 1) hC dX9_isWord_0 rfl rfl ?_
  refine go_geti (v := (S.1 1402)) (pc' := 4) hC 14 2 layX_14 rfl rfl inlX9 (Nat.le_of_ble_eq_true rfl) mw_302 rfl dX9_isWord_1 rfl rfl ?_
  refine go_aload_n (pc' := 5) hC dX9_isWord_4 rfl rfl ?_
  refine go_geti (v := (S.1 1403)) (pc' := 8) hC 14 3 layX_14 rfl rfl inlX9 (Nat.le_of_ble_eq_true rfl) mw_323 rfl dX9_isWord_5 rfl rfl ?_
  refine go_isub (pc' := 9) hC dX9_isWord_8 rfl ?_
  refine go_aload_n (pc' := 10) hC dX9_isWord_9 rfl rfl ?_
  refine go_callVs0 (pc' := 13) (As := []) (st := [.int ((S.1 1402) - (S.1 1403))]) (st' := [.int (5 : Int32), .int ((S.1 1402) - (S.1 1403))]) hC dX9_isWord_10 ⟨mw_337, mw_341, mw_340, yd_yJ0_length_8abf5, yp_yJ0_length_8abf5, Nat.le_of_ble_eq_true rfl, Nat.le_of_ble_eq_true rfl, Nat.le_of_ble_eq_true rfl, Nat.le_of_ble_eq_true rfl⟩ mw_338 mw_339 (by decide : 5 < 11) rfl rfl (Nat.le_of_ble_eq_true rfl) (c_strlen (x_l X) (x_D X) (x_q X) g (x_cy X) (x_z X) _ layX layX_ok (by decide : 5 < 11) (by decide : Int32.ofNat (st_len.getD 5 0) >>> ((0 : Int32) &&& 31) = 5)) rfl rfl ?_
  refine go_icmp_eq (tgt := 18) (pc' := 16) hC dX9_isWord_13 (by decide) rfl (fun h8 => ?_) (fun h8 => ?_)
  · have hf := ite_t h8 hf
    refine go_iconst (pc' := 19) hC dX9_isWord_18 ki_0 rfl ?_
    refine go_istore_n (lc' := [(0, .ref (x_q X 14)), (1, .ref ((x_z X).1 5)), (2, .int (0 : Int32))]) (pc' := 20) hC dX9_isWord_19 (Nat.le_of_ble_eq_true rfl) rfl rfl ?_
    have l20_7 : ∀ (nn : Nat) (x1 : Int32), it1 (f_X9_isWord_q14_str5_L20 S) nn x1 = some o → Go X layX S 20 [(0, .ref (x_q X 14)), (1, .ref ((x_z X).1 5)), (2, .int x1)] [] g [] [] [] [] [] 0 0 := by
      intro nn
      induction nn with
      | zero =>
        intro x1 hf
        exact none_no hf
      | succ nn ih =>
        intro x1 hf
        have hf : f_X9_isWord_q14_str5_L20 S (it1 (f_X9_isWord_q14_str5_L20 S) nn) x1 = some o := hf
        generalize it1 (f_X9_isWord_q14_str5_L20 S) nn = r2 at ih hf
        unfold f_X9_isWord_q14_str5_L20 at hf
        refine go_iload_n (pc' := 21) hC dX9_isWord_20 rfl rfl ?_
        refine go_aload_n (pc' := 22) hC dX9_isWord_21 rfl rfl ?_
        refine go_callVs0 (pc' := 25) (As := []) (st := [.int x1]) (st' := [.int (5 : Int32), .int x1]) hC dX9_isWord_22 ⟨mw_337, mw_341, mw_340, yd_yJ0_length_8abf5, yp_yJ0_length_8abf5, Nat.le_of_ble_eq_true rfl, Nat.le_of_ble_eq_true rfl, Nat.le_of_ble_eq_true rfl, Nat.le_of_ble_eq_true rfl⟩ mw_338 mw_339 (by decide : 5 < 11) rfl rfl (Nat.le_of_ble_eq_true rfl) (c_strlen (x_l X) (x_D X) (x_q X) g (x_cy X) (x_z X) _ layX layX_ok (by decide : 5 < 11) (by decide : Int32.ofNat (st_len.getD 5 0) >>> ((0 : Int32) &&& 31) = 5)) rfl rfl ?_
        refine go_icmp_ge (tgt := 55) (pc' := 28) hC dX9_isWord_25 (by decide) rfl (fun h6 => ?_) (fun h6 => ?_)
        · have hf := ite_t h6 hf
          refine go_iconst (pc' := 56) hC dX9_isWord_55 ki_1 rfl ?_
          obtain rfl := Option.some.inj hf
          exact go_iret hC hQ dX9_isWord_56 rfl rfl rfl rfl (fun _ => rfl) rfl rfl
        · have hf := ite_f h6 hf
          refine go_aload_n (pc' := 29) hC dX9_isWord_28 rfl rfl ?_
          refine go_getq (pc' := 32) hC 14 1 layX_14 rfl rfl inlX9 (Nat.le_of_ble_eq_true rfl) mw_75 rfl dX9_isWord_29 rfl ?_
          refine go_aload_n (pc' := 33) hC dX9_isWord_32 rfl rfl ?_
          refine go_geti (v := (S.1 1403)) (pc' := 36) hC 14 3 layX_14 rfl rfl inlX9 (Nat.le_of_ble_eq_true rfl) mw_323 rfl dX9_isWord_33 rfl rfl ?_
          refine go_iload_n (pc' := 37) hC dX9_isWord_36 rfl rfl ?_
          refine go_iadd (pc' := 38) hC dX9_isWord_37 rfl ?_
          obtain ⟨h3, hf⟩ := gd_e hf
          refine go_iald (f := (S.2.2.1 15)) (pc' := 39) hC 15 layX_15 rfl rfl dX9_isWord_38 (okx_in h3) rfl ?_
          refine go_aload_n (pc' := 40) hC dX9_isWord_39 rfl rfl ?_
          refine go_iload_n (pc' := 41) hC dX9_isWord_40 rfl rfl ?_
          obtain ⟨h4, hf⟩ := gd_e hf
          refine go_callVs0 (pc' := 44) (As := [.int x1]) (st := [.int ((S.2.2.1 15) ((S.1 1403) + x1).toNatClampNeg)]) (st' := [.int (st_ch 5 x1), .int ((S.2.2.1 15) ((S.1 1403) + x1).toNatClampNeg)]) hC dX9_isWord_41 ⟨mw_349, mw_352, mw_340, yd_yJ0_charAt_5068e, yp_yJ0_charAt_5068e, Nat.le_of_ble_eq_true rfl, Nat.le_of_ble_eq_true rfl, Nat.le_of_ble_eq_true rfl, Nat.le_of_ble_eq_true rfl⟩ mw_350 mw_351 (by decide : 5 < 11) rfl rfl (Nat.le_of_ble_eq_true rfl) (c_charAt (x_l X) (x_D X) (x_q X) g (x_cy X) (x_z X) _ layX layX_ok (by decide : 5 < 11) h4) rfl rfl ?_
          refine go_icmp_eq (tgt := 49) (pc' := 47) hC dX9_isWord_44 (by decide) rfl (fun h5 => ?_) (fun h5 => ?_)
          · have hf := ite_t h5 hf
            refine go_iinc (lc' := [(0, .ref (x_q X 14)), (1, .ref ((x_z X).1 5)), (2, .int (x1 + (1 : Int32)))]) (pc' := 52) hC dX9_isWord_49 rfl ki_1 (Nat.le_of_ble_eq_true rfl) rfl rfl ?_
            refine go_goto (tgt := 20) hC dX9_isWord_52 (by decide) ?_
            exact ih (x1 + (1 : Int32)) hf
          · have hf := ite_f h5 hf
            refine go_iconst (pc' := 48) hC dX9_isWord_47 ki_0 rfl ?_
            obtain rfl := Option.some.inj hf
            exact go_iret hC hQ dX9_isWord_48 rfl rfl rfl rfl (fun _ => rfl) rfl rfl
    exact l20_7 fuel (0 : Int32) hf
  · have hf := ite_f h8 hf
    refine go_iconst (pc' := 17) hC dX9_isWord_16 ki_0 rfl ?_
    obtain rfl := Option.some.inj hf
    exact go_iret hC hQ dX9_isWord_17 rfl rfl rfl rfl (fun _ => rfl) rfl rfl
abbrev o_X9_isWord_q14_str6 : Type := Int32
def f_X9_isWord_q14_str6_L20 (S : wd_W) (r2 : (Int32) → (Option o_X9_isWord_q14_str6)) (x1 : Int32) : Option o_X9_isWord_q14_str6 :=
if (5 : Int32) ≤ x1 then (
some (1 : Int32)) else (
gd (okx ((S.1 1403) + x1) 400) <|
gd (okx x1 5) <|
if ((S.2.2.1 15) ((S.1 1403) + x1).toNatClampNeg) = (st_ch 6 x1) then (
r2 (x1 + (1 : Int32))) else (
some (0 : Int32)))
def f_X9_isWord_q14_str6 (S : wd_W) : Option o_X9_isWord_q14_str6 :=
if ((S.1 1402) - (S.1 1403)) = (5 : Int32) then (
it1 (f_X9_isWord_q14_str6_L20 S) fuel (0 : Int32)) else (
some (0 : Int32))
set_option maxRecDepth 100000 in
set_option maxHeartbeats 4000000 in
theorem c_X9_isWord_q14_str6 (l : Launch) (D : va_G) (q g : Nat → Nat) (cy : Nat → ClassId) (z : (Nat → Nat) × (Nat → Nat) × Nat) (S : wd_W) (o : o_X9_isWord_q14_str6) (hf : f_X9_isWord_q14_str6 S = some o) : MX layX l yX9_isWord cX9_isWord 3 (some .boolean) ({ frames := 4, cells := 0, slots := 0, locals := 85 } : Room) D q g cy z [.ref (q 14), .ref (z.1 6)] S false (some (.int o)) (wd_o S [] [] [] [] []) 0 0 := by
  refine mx_of (own := RX9) (lc := [(0, .ref (q 14)), (1, .ref (z.1 6))]) (by decide +kernel) rfl layX_ok (Nat.le_of_ble_eq_true rfl) rfl ?_
  intro X hXl hXq hXz hC hQ
  subst hXl; subst hXq; subst hXz
  unfold f_X9_isWord_q14_str6 at hf
  refine go_aload_n (pc' := 1) hC dX9_isWord_0 rfl rfl ?_
  refine go_geti (v := (S.1 1402)) (pc' := 4) hC 14 2 layX_14 rfl rfl inlX9 (Nat.le_of_ble_eq_true rfl) mw_302 rfl dX9_isWord_1 rfl rfl ?_
  refine go_aload_n (pc' := 5) hC dX9_isWord_4 rfl rfl ?_
  refine go_geti (v := (S.1 1403)) (pc' := 8) hC 14 3 layX_14 rfl rfl inlX9 (Nat.le_of_ble_eq_true rfl) mw_323 rfl dX9_isWord_5 rfl rfl ?_
  refine go_isub (pc' := 9) hC dX9_isWord_8 rfl ?_
  refine go_aload_n (pc' := 10) hC dX9_isWord_9 rfl rfl ?_
  refine go_callVs0 (pc' := 13) (As := []) (st := [.int ((S.1 1402) - (S.1 1403))]) (st' := [.int (5 : Int32), .int ((S.1 1402) - (S.1 1403))]) hC dX9_isWord_10 ⟨mw_337, mw_341, mw_340, yd_yJ0_length_8abf5, yp_yJ0_length_8abf5, Nat.le_of_ble_eq_true rfl, Nat.le_of_ble_eq_true rfl, Nat.le_of_ble_eq_true rfl, Nat.le_of_ble_eq_true rfl⟩ mw_338 mw_339 (by decide : 6 < 11) rfl rfl (Nat.le_of_ble_eq_true rfl) (c_strlen (x_l X) (x_D X) (x_q X) g (x_cy X) (x_z X) _ layX layX_ok (by decide : 6 < 11) (by decide : Int32.ofNat (st_len.getD 6 0) >>> ((0 : Int32) &&& 31) = 5)) rfl rfl ?_
  refine go_icmp_eq (tgt := 18) (pc' := 16) hC dX9_isWord_13 (by decide) rfl (fun h8 => ?_) (fun h8 => ?_)
  · have hf := ite_t h8 hf
    refine go_iconst (pc' := 19) hC dX9_isWord_18 ki_0 rfl ?_
    refine go_istore_n (lc' := [(0, .ref (x_q X 14)), (1, .ref ((x_z X).1 6)), (2, .int (0 : Int32))]) (pc' := 20) hC dX9_isWord_19 (Nat.le_of_ble_eq_true rfl) rfl rfl ?_
    have l20_7 : ∀ (nn : Nat) (x1 : Int32), it1 (f_X9_isWord_q14_str6_L20 S) nn x1 = some o → Go X layX S 20 [(0, .ref (x_q X 14)), (1, .ref ((x_z X).1 6)), (2, .int x1)] [] g [] [] [] [] [] 0 0 := by
      intro nn
      induction nn with
      | zero =>
        intro x1 hf
        exact none_no hf
      | succ nn ih =>
        intro x1 hf
        have hf : f_X9_isWord_q14_str6_L20 S (it1 (f_X9_isWord_q14_str6_L20 S) nn) x1 = some o := hf
        generalize it1 (f_X9_isWord_q14_str6_L20 S) nn = r2 at ih hf
        unfold f_X9_isWord_q14_str6_L20 at hf
        refine go_iload_n (pc' := 21) hC dX9_isWord_20 rfl rfl ?_
        refine go_aload_n (pc' := 22) hC dX9_isWord_21 rfl rfl ?_
        refine go_callVs0 (pc' := 25) (As := []) (st := [.int x1]) (st' := [.int (5 : Int32), .int x1]) hC dX9_isWord_22 ⟨mw_337, mw_341, mw_340, yd_yJ0_length_8abf5, yp_yJ0_length_8abf5, Nat.le_of_ble_eq_true rfl, Nat.le_of_ble_eq_true rfl, Nat.le_of_ble_eq_true rfl, Nat.le_of_ble_eq_true rfl⟩ mw_338 mw_339 (by decide : 6 < 11) rfl rfl (Nat.le_of_ble_eq_true rfl) (c_strlen (x_l X) (x_D X) (x_q X) g (x_cy X) (x_z X) _ layX layX_ok (by decide : 6 < 11) (by decide : Int32.ofNat (st_len.getD 6 0) >>> ((0 : Int32) &&& 31) = 5)) rfl rfl ?_
        refine go_icmp_ge (tgt := 55) (pc' := 28) hC dX9_isWord_25 (by decide) rfl (fun h6 => ?_) (fun h6 => ?_)
        · have hf := ite_t h6 hf
          refine go_iconst (pc' := 56) hC dX9_isWord_55 ki_1 rfl ?_
          obtain rfl := Option.some.inj hf
          exact go_iret hC hQ dX9_isWord_56 rfl rfl rfl rfl (fun _ => rfl) rfl rfl
        · have hf := ite_f h6 hf
          refine go_aload_n (pc' := 29) hC dX9_isWord_28 rfl rfl ?_
          refine go_getq (pc' := 32) hC 14 1 layX_14 rfl rfl inlX9 (Nat.le_of_ble_eq_true rfl) mw_75 rfl dX9_isWord_29 rfl ?_
          refine go_aload_n (pc' := 33) hC dX9_isWord_32 rfl rfl ?_
          refine go_geti (v := (S.1 1403)) (pc' := 36) hC 14 3 layX_14 rfl rfl inlX9 (Nat.le_of_ble_eq_true rfl) mw_323 rfl dX9_isWord_33 rfl rfl ?_
          refine go_iload_n (pc' := 37) hC dX9_isWord_36 rfl rfl ?_
          refine go_iadd (pc' := 38) hC dX9_isWord_37 rfl ?_
          obtain ⟨h3, hf⟩ := gd_e hf
          refine go_iald (f := (S.2.2.1 15)) (pc' := 39) hC 15 layX_15 rfl rfl dX9_isWord_38 (okx_in h3) rfl ?_
          refine go_aload_n (pc' := 40) hC dX9_isWord_39 rfl rfl ?_
          refine go_iload_n (pc' := 41) hC dX9_isWord_40 rfl rfl ?_
          obtain ⟨h4, hf⟩ := gd_e hf
          refine go_callVs0 (pc' := 44) (As := [.int x1]) (st := [.int ((S.2.2.1 15) ((S.1 1403) + x1).toNatClampNeg)]) (st' := [.int (st_ch 6 x1), .int ((S.2.2.1 15) ((S.1 1403) + x1).toNatClampNeg)]) hC dX9_isWord_41 ⟨mw_349, mw_352, mw_340, yd_yJ0_charAt_5068e, yp_yJ0_charAt_5068e, Nat.le_of_ble_eq_true rfl, Nat.le_of_ble_eq_true rfl, Nat.le_of_ble_eq_true rfl, Nat.le_of_ble_eq_true rfl⟩ mw_350 mw_351 (by decide : 6 < 11) rfl rfl (Nat.le_of_ble_eq_true rfl) (c_charAt (x_l X) (x_D X) (x_q X) g (x_cy X) (x_z X) _ layX layX_ok (by decide : 6 < 11) h4) rfl rfl ?_
          refine go_icmp_eq (tgt := 49) (pc' := 47) hC dX9_isWord_44 (by decide) rfl (fun h5 => ?_) (fun h5 => ?_)
          · have hf := ite_t h5 hf
            refine go_iinc (lc' := [(0, .ref (x_q X 14)), (1, .ref ((x_z X).1 6)), (2, .int (x1 + (1 : Int32)))]) (pc' := 52) hC dX9_isWord_49 rfl ki_1 (Nat.le_of_ble_eq_true rfl) rfl rfl ?_
            refine go_goto (tgt := 20) hC dX9_isWord_52 (by decide) ?_
            exact ih (x1 + (1 : Int32)) hf
          · have hf := ite_f h5 hf
            refine go_iconst (pc' := 48) hC dX9_isWord_47 ki_0 rfl ?_
            obtain rfl := Option.some.inj hf
            exact go_iret hC hQ dX9_isWord_48 rfl rfl rfl rfl (fun _ => rfl) rfl rfl
    exact l20_7 fuel (0 : Int32) hf
  · have hf := ite_f h8 hf
    refine go_iconst (pc' := 17) hC dX9_isWord_16 ki_0 rfl ?_
    obtain rfl := Option.some.inj hf
    exact go_iret hC hQ dX9_isWord_17 rfl rfl rfl rfl (fun _ => rfl) rfl rfl
theorem dX2_addCause_0 : decode cX2_addCause 0 = .ok (.aload_n 0, 1) := by decide +kernel
theorem dX2_addCause_1 : decode cX2_addCause 1 = .ok (.getfield 55, 3) := by decide +kernel
theorem dX2_addCause_4 : decode cX2_addCause 4 = .ok (.aload_n 0, 1) := by decide +kernel
theorem dX2_addCause_5 : decode cX2_addCause 5 = .ok (.getfield 37, 3) := by decide +kernel
theorem dX2_addCause_8 : decode cX2_addCause 8 = .ok (.arraylength, 1) := by decide +kernel
theorem dX2_addCause_9 : decode cX2_addCause 9 = .ok (.if_icmp .ge 43, 3) := by decide +kernel
theorem dX2_addCause_12 : decode cX2_addCause 12 = .ok (.aload_n 0, 1) := by decide +kernel
theorem dX2_addCause_13 : decode cX2_addCause 13 = .ok (.getfield 37, 3) := by decide +kernel
theorem dX2_addCause_16 : decode cX2_addCause 16 = .ok (.aload_n 0, 1) := by decide +kernel
theorem dX2_addCause_17 : decode cX2_addCause 17 = .ok (.getfield 55, 3) := by decide +kernel
theorem dX2_addCause_20 : decode cX2_addCause 20 = .ok (.iload_n 1, 1) := by decide +kernel
theorem dX2_addCause_21 : decode cX2_addCause 21 = .ok (.iastore, 1) := by decide +kernel
theorem dX2_addCause_22 : decode cX2_addCause 22 = .ok (.aload_n 0, 1) := by decide +kernel
theorem dX2_addCause_23 : decode cX2_addCause 23 = .ok (.getfield 40, 3) := by decide +kernel
theorem dX2_addCause_26 : decode cX2_addCause 26 = .ok (.aload_n 0, 1) := by decide +kernel
theorem dX2_addCause_27 : decode cX2_addCause 27 = .ok (.getfield 55, 3) := by decide +kernel
theorem dX2_addCause_30 : decode cX2_addCause 30 = .ok (.iload_n 2, 1) := by decide +kernel
theorem dX2_addCause_31 : decode cX2_addCause 31 = .ok (.iastore, 1) := by decide +kernel
theorem dX2_addCause_32 : decode cX2_addCause 32 = .ok (.aload_n 0, 1) := by decide +kernel
theorem dX2_addCause_33 : decode cX2_addCause 33 = .ok (.getfield 43, 3) := by decide +kernel
theorem dX2_addCause_36 : decode cX2_addCause 36 = .ok (.aload_n 0, 1) := by decide +kernel
theorem dX2_addCause_37 : decode cX2_addCause 37 = .ok (.getfield 55, 3) := by decide +kernel
theorem dX2_addCause_40 : decode cX2_addCause 40 = .ok (.iload_n 3, 1) := by decide +kernel
theorem dX2_addCause_41 : decode cX2_addCause 41 = .ok (.iastore, 1) := by decide +kernel
theorem dX2_addCause_42 : decode cX2_addCause 42 = .ok (.aload_n 0, 1) := by decide +kernel
theorem dX2_addCause_43 : decode cX2_addCause 43 = .ok (.dup, 1) := by decide +kernel
theorem dX2_addCause_44 : decode cX2_addCause 44 = .ok (.getfield 55, 3) := by decide +kernel
theorem dX2_addCause_47 : decode cX2_addCause 47 = .ok (.iconst 1, 1) := by decide +kernel
theorem dX2_addCause_48 : decode cX2_addCause 48 = .ok (.iadd, 1) := by decide +kernel
theorem dX2_addCause_49 : decode cX2_addCause 49 = .ok (.putfield 55, 3) := by decide +kernel
theorem dX2_addCause_52 : decode cX2_addCause 52 = .ok (.return_, 1) := by decide +kernel
abbrev o_X2_addCause_q3 : Type := Int32 × (Nat → Int32) × (Nat → Int32) × (Nat → Int32)
def f_X2_addCause_q3 (S : wd_W) (p1 : Int32) (p2 : Int32) (p3 : Int32) : Option o_X2_addCause_q3 :=
if (3 : Int32) ≤ (S.1 310) then (
some ((S.1 310), (S.2.2.1 11), (S.2.2.1 12), (S.2.2.1 13))) else (
gd (okx (S.1 310) 3) <|
lz (upd (S.2.2.1 11) (S.1 310).toNatClampNeg p1) fun a2 =>
gd (okx (S.1 310) 3) <|
lz (upd (S.2.2.1 12) (S.1 310).toNatClampNeg p2) fun a4 =>
gd (okx (S.1 310) 3) <|
lz (upd (S.2.2.1 13) (S.1 310).toNatClampNeg p3) fun a6 =>
lz ((S.1 310) + (1 : Int32)) fun x7 =>
some (x7, a2, a4, a6))
set_option maxRecDepth 100000 in
set_option maxHeartbeats 4000000 in
theorem c_X2_addCause_q3 (l : Launch) (D : va_G) (q g : Nat → Nat) (cy : Nat → ClassId) (z : (Nat → Nat) × (Nat → Nat) × Nat) (S : wd_W) (p1 : Int32) (p2 : Int32) (p3 : Int32) (o : o_X2_addCause_q3) (hf : f_X2_addCause_q3 S p1 p2 p3 = some o) : MX layX l yX2_addCause cX2_addCause 4 none ({ frames := 0, cells := 0, slots := 0, locals := 0 } : Room) D q g cy z [.ref (q 3), .int p1, .int p2, .int p3] S false (none) (wd_o S [(310, o.1)] [] [(11, o.2.1), (12, o.2.2.1), (13, o.2.2.2)] [] []) 0 0 := by
  refine mx_of (own := RX2) (lc := [(0, .ref (q 3)), (1, .int p1), (2, .int p2), (3, .int p3)]) (by decide +kernel) rfl layX_ok (Nat.le_of_ble_eq_true rfl) rfl ?_
  intro X hXl hXq hXz hC hQ
  subst hXl; subst hXq; subst hXz
  unfold f_X2_addCause_q3 at hf
  refine go_keys (L1 := [(310, (S.1 310))]) (L2 := []) (L3 := [(11, (S.2.2.1 11)), (12, (S.2.2.1 12)), (13, (S.2.2.1 13))]) (L4 := []) (L5 := []) [310] [] [11, 12, 13] [] [] rfl rfl rfl rfl rfl ?_
  refine go_aload_n (pc' := 1) hC dX2_addCause_0 rfl rfl ?_
  refine go_geti (v := (S.1 310)) (pc' := 4) hC 3 10 layX_3 rfl rfl inlX2 (Nat.le_of_ble_eq_true rfl) mw_311 rfl dX2_addCause_1 rfl rfl ?_
  refine go_aload_n (pc' := 5) hC dX2_addCause_4 rfl rfl ?_
  refine go_getq (pc' := 8) hC 3 11 layX_3 rfl rfl inlX2 (Nat.le_of_ble_eq_true rfl) mw_67 rfl dX2_addCause_5 rfl ?_
  refine go_alen (v := (3 : Int32)) (pc' := 9) hC 11 layX_11 rfl (Nat.le_of_ble_eq_true rfl) kn_3 dX2_addCause_8 rfl ?_
  refine go_icmp_ge (tgt := 52) (pc' := 12) hC dX2_addCause_9 (by decide) rfl (fun h8 => ?_) (fun h8 => ?_)
  · have hf := ite_t h8 hf
    obtain rfl := Option.some.inj hf
    exact go_vret hC hQ dX2_addCause_52 rfl rfl rfl (fun _ => rfl) rfl rfl
  · have hf := ite_f h8 hf
    refine go_aload_n (pc' := 13) hC dX2_addCause_12 rfl rfl ?_
    refine go_getq (pc' := 16) hC 3 11 layX_3 rfl rfl inlX2 (Nat.le_of_ble_eq_true rfl) mw_67 rfl dX2_addCause_13 rfl ?_
    refine go_aload_n (pc' := 17) hC dX2_addCause_16 rfl rfl ?_
    refine go_geti (v := (S.1 310)) (pc' := 20) hC 3 10 layX_3 rfl rfl inlX2 (Nat.le_of_ble_eq_true rfl) mw_311 rfl dX2_addCause_17 rfl rfl ?_
    refine go_iload_n (pc' := 21) hC dX2_addCause_20 rfl rfl ?_
    obtain ⟨h1, hf⟩ := gd_e hf
    refine go_iast (f := (S.2.2.1 11)) (pc' := 22) hC 11 layX_11 rfl rfl dX2_addCause_21 (okx_in h1) rfl rfl (fun a2 ha L3' hL => ?_)
    have hf := lz_r ha hf
    clear ha
    obtain rfl : L3' = [(11, a2), (12, (S.2.2.1 12)), (13, (S.2.2.1 13))] := hL.symm
    refine go_aload_n (pc' := 23) hC dX2_addCause_22 rfl rfl ?_
    refine go_getq (pc' := 26) hC 3 12 layX_3 rfl rfl inlX2 (Nat.le_of_ble_eq_true rfl) mw_68 rfl dX2_addCause_23 rfl ?_
    refine go_aload_n (pc' := 27) hC dX2_addCause_26 rfl rfl ?_
    refine go_geti (v := (S.1 310)) (pc' := 30) hC 3 10 layX_3 rfl rfl inlX2 (Nat.le_of_ble_eq_true rfl) mw_311 rfl dX2_addCause_27 rfl rfl ?_
    refine go_iload_n (pc' := 31) hC dX2_addCause_30 rfl rfl ?_
    obtain ⟨h3, hf⟩ := gd_e hf
    refine go_iast (f := (S.2.2.1 12)) (pc' := 32) hC 12 layX_12 rfl rfl dX2_addCause_31 (okx_in h3) rfl rfl (fun a4 ha L3' hL => ?_)
    have hf := lz_r ha hf
    clear ha
    obtain rfl : L3' = [(11, a2), (12, a4), (13, (S.2.2.1 13))] := hL.symm
    refine go_aload_n (pc' := 33) hC dX2_addCause_32 rfl rfl ?_
    refine go_getq (pc' := 36) hC 3 13 layX_3 rfl rfl inlX2 (Nat.le_of_ble_eq_true rfl) mw_69 rfl dX2_addCause_33 rfl ?_
    refine go_aload_n (pc' := 37) hC dX2_addCause_36 rfl rfl ?_
    refine go_geti (v := (S.1 310)) (pc' := 40) hC 3 10 layX_3 rfl rfl inlX2 (Nat.le_of_ble_eq_true rfl) mw_311 rfl dX2_addCause_37 rfl rfl ?_
    refine go_iload_n (pc' := 41) hC dX2_addCause_40 rfl rfl ?_
    obtain ⟨h5, hf⟩ := gd_e hf
    refine go_iast (f := (S.2.2.1 13)) (pc' := 42) hC 13 layX_13 rfl rfl dX2_addCause_41 (okx_in h5) rfl rfl (fun a6 ha L3' hL => ?_)
    have hf := lz_r ha hf
    clear ha
    obtain rfl : L3' = [(11, a2), (12, a4), (13, a6)] := hL.symm
    refine go_aload_n (pc' := 43) hC dX2_addCause_42 rfl rfl ?_
    refine go_dup (pc' := 44) hC dX2_addCause_43 rfl rfl ?_
    refine go_geti (v := (S.1 310)) (pc' := 47) hC 3 10 layX_3 rfl rfl inlX2 (Nat.le_of_ble_eq_true rfl) mw_311 rfl dX2_addCause_44 rfl rfl ?_
    refine go_iconst (pc' := 48) hC dX2_addCause_47 ki_1 rfl ?_
    refine go_iadd (pc' := 49) hC dX2_addCause_48 rfl ?_
    refine go_namei (fun x7 hx => ?_)
    have hf := lz_r hx hf
    clear hx
    refine go_puti (L1' := [(310, x7)]) (pc' := 52) hC 3 10 layX_3 rfl rfl inlX2 tyX2_ok nmX2 (Nat.le_of_ble_eq_true rfl) mw_311 rfl rfl rfl rfl dX2_addCause_49 rfl rfl rfl ?_
    obtain rfl := Option.some.inj hf
    exact go_vret hC hQ dX2_addCause_52 rfl rfl rfl (fun _ => rfl) rfl rfl
theorem dX9_readCause_0 : decode cX9_readCause 0 = .ok (.aload_n 0, 1) := by decide +kernel
theorem dX9_readCause_1 : decode cX9_readCause 1 = .ok (.aload_n 0, 1) := by decide +kernel
theorem dX9_readCause_2 : decode cX9_readCause 2 = .ok (.getfield 15, 3) := by decide +kernel
theorem dX9_readCause_5 : decode cX9_readCause 5 = .ok (.getfield 139, 3) := by decide +kernel
theorem dX9_readCause_8 : decode cX9_readCause 8 = .ok (.iconst 3, 1) := by decide +kernel
theorem dX9_readCause_9 : decode cX9_readCause 9 = .ok (.if_icmp .lt 7, 3) := by decide +kernel
theorem dX9_readCause_12 : decode cX9_readCause 12 = .ok (.iconst 1, 1) := by decide +kernel
theorem dX9_readCause_13 : decode cX9_readCause 13 = .ok (.goto 4, 3) := by decide +kernel
theorem dX9_readCause_16 : decode cX9_readCause 16 = .ok (.iconst 0, 1) := by decide +kernel
theorem dX9_readCause_17 : decode cX9_readCause 17 = .ok (.invokevirtual 114, 3) := by decide +kernel
theorem dX9_readCause_20 : decode cX9_readCause 20 = .ok (.aload_n 0, 1) := by decide +kernel
theorem dX9_readCause_21 : decode cX9_readCause 21 = .ok (.iconst 0, 1) := by decide +kernel
theorem dX9_readCause_22 : decode cX9_readCause 22 = .ok (.bipush 16, 2) := by decide +kernel
theorem dX9_readCause_24 : decode cX9_readCause 24 = .ok (.invokevirtual 77, 3) := by decide +kernel
theorem dX9_readCause_27 : decode cX9_readCause 27 = .ok (.istore_n 1, 1) := by decide +kernel
theorem dX9_readCause_28 : decode cX9_readCause 28 = .ok (.iconst 0, 1) := by decide +kernel
theorem dX9_readCause_29 : decode cX9_readCause 29 = .ok (.istore_n 2, 1) := by decide +kernel
theorem dX9_readCause_30 : decode cX9_readCause 30 = .ok (.iconst 0, 1) := by decide +kernel
theorem dX9_readCause_31 : decode cX9_readCause 31 = .ok (.istore_n 3, 1) := by decide +kernel
theorem dX9_readCause_32 : decode cX9_readCause 32 = .ok (.iconst 0, 1) := by decide +kernel
theorem dX9_readCause_33 : decode cX9_readCause 33 = .ok (.istore 4, 2) := by decide +kernel
theorem dX9_readCause_35 : decode cX9_readCause 35 = .ok (.iload 4, 2) := by decide +kernel
theorem dX9_readCause_37 : decode cX9_readCause 37 = .ok (.sipush 400, 3) := by decide +kernel
theorem dX9_readCause_40 : decode cX9_readCause 40 = .ok (.if_icmp .ge 87, 3) := by decide +kernel
theorem dX9_readCause_43 : decode cX9_readCause 43 = .ok (.iload 4, 2) := by decide +kernel
theorem dX9_readCause_45 : decode cX9_readCause 45 = .ok (.ifCond .eq 10, 3) := by decide +kernel
theorem dX9_readCause_48 : decode cX9_readCause 48 = .ok (.aload_n 0, 1) := by decide +kernel
theorem dX9_readCause_49 : decode cX9_readCause 49 = .ok (.invokevirtual 122, 3) := by decide +kernel
theorem dX9_readCause_52 : decode cX9_readCause 52 = .ok (.ifCond .eq 75, 3) := by decide +kernel
theorem dX9_readCause_55 : decode cX9_readCause 55 = .ok (.aload_n 0, 1) := by decide +kernel
theorem dX9_readCause_56 : decode cX9_readCause 56 = .ok (.invokevirtual 80, 3) := by decide +kernel
theorem dX9_readCause_59 : decode cX9_readCause 59 = .ok (.aload_n 0, 1) := by decide +kernel
theorem dX9_readCause_60 : decode cX9_readCause 60 = .ok (.ldc 88, 2) := by decide +kernel
theorem dX9_readCause_62 : decode cX9_readCause 62 = .ok (.invokevirtual 84, 3) := by decide +kernel
theorem dX9_readCause_65 : decode cX9_readCause 65 = .ok (.ifCond .eq 25, 3) := by decide +kernel
theorem dX9_readCause_68 : decode cX9_readCause 68 = .ok (.iload_n 2, 1) := by decide +kernel
theorem dX9_readCause_69 : decode cX9_readCause 69 = .ok (.iconst 1, 1) := by decide +kernel
theorem dX9_readCause_70 : decode cX9_readCause 70 = .ok (.aload_n 0, 1) := by decide +kernel
theorem dX9_readCause_71 : decode cX9_readCause 71 = .ok (.iconst 0, 1) := by decide +kernel
theorem dX9_readCause_72 : decode cX9_readCause 72 = .ok (.aload_n 0, 1) := by decide +kernel
theorem dX9_readCause_73 : decode cX9_readCause 73 = .ok (.getfield 15, 3) := by decide +kernel
theorem dX9_readCause_76 : decode cX9_readCause 76 = .ok (.getfield 111, 3) := by decide +kernel
theorem dX9_readCause_79 : decode cX9_readCause 79 = .ok (.iconst 1, 1) := by decide +kernel
theorem dX9_readCause_80 : decode cX9_readCause 80 = .ok (.isub, 1) := by decide +kernel
theorem dX9_readCause_81 : decode cX9_readCause 81 = .ok (.invokevirtual 77, 3) := by decide +kernel
theorem dX9_readCause_84 : decode cX9_readCause 84 = .ok (.ishl, 1) := by decide +kernel
theorem dX9_readCause_85 : decode cX9_readCause 85 = .ok (.ior, 1) := by decide +kernel
theorem dX9_readCause_86 : decode cX9_readCause 86 = .ok (.istore_n 2, 1) := by decide +kernel
theorem dX9_readCause_87 : decode cX9_readCause 87 = .ok (.goto 34, 3) := by decide +kernel
theorem dX9_readCause_90 : decode cX9_readCause 90 = .ok (.aload_n 0, 1) := by decide +kernel
theorem dX9_readCause_91 : decode cX9_readCause 91 = .ok (.ldc 142, 2) := by decide +kernel
theorem dX9_readCause_93 : decode cX9_readCause 93 = .ok (.invokevirtual 84, 3) := by decide +kernel
theorem dX9_readCause_96 : decode cX9_readCause 96 = .ok (.ifCond .eq 16, 3) := by decide +kernel
theorem dX9_readCause_99 : decode cX9_readCause 99 = .ok (.iload_n 3, 1) := by decide +kernel
theorem dX9_readCause_100 : decode cX9_readCause 100 = .ok (.iconst 1, 1) := by decide +kernel
theorem dX9_readCause_101 : decode cX9_readCause 101 = .ok (.aload_n 0, 1) := by decide +kernel
theorem dX9_readCause_102 : decode cX9_readCause 102 = .ok (.iconst (-1), 1) := by decide +kernel
theorem dX9_readCause_103 : decode cX9_readCause 103 = .ok (.invokevirtual 118, 3) := by decide +kernel
theorem dX9_readCause_106 : decode cX9_readCause 106 = .ok (.ishl, 1) := by decide +kernel
theorem dX9_readCause_107 : decode cX9_readCause 107 = .ok (.ior, 1) := by decide +kernel
theorem dX9_readCause_108 : decode cX9_readCause 108 = .ok (.istore_n 3, 1) := by decide +kernel
theorem dX9_readCause_109 : decode cX9_readCause 109 = .ok (.goto 12, 3) := by decide +kernel
theorem dX9_readCause_112 : decode cX9_readCause 112 = .ok (.aload_n 0, 1) := by decide +kernel
theorem dX9_readCause_113 : decode cX9_readCause 113 = .ok (.aload_n 0, 1) := by decide +kernel
theorem dX9_readCause_114 : decode cX9_readCause 114 = .ok (.getfield 55, 3) := by decide +kernel
theorem dX9_readCause_117 : decode cX9_readCause 117 = .ok (.iconst 0, 1) := by decide +kernel
theorem dX9_readCause_118 : decode cX9_readCause 118 = .ok (.invokevirtual 45, 3) := by decide +kernel
theorem dX9_readCause_121 : decode cX9_readCause 121 = .ok (.iinc 4 1, 3) := by decide +kernel
theorem dX9_readCause_124 : decode cX9_readCause 124 = .ok (.goto (-89), 3) := by decide +kernel
theorem dX9_readCause_127 : decode cX9_readCause 127 = .ok (.aload_n 0, 1) := by decide +kernel
theorem dX9_readCause_128 : decode cX9_readCause 128 = .ok (.getfield 31, 3) := by decide +kernel
theorem dX9_readCause_131 : decode cX9_readCause 131 = .ok (.ifCond .ne 13, 3) := by decide +kernel
theorem dX9_readCause_134 : decode cX9_readCause 134 = .ok (.aload_n 0, 1) := by decide +kernel
theorem dX9_readCause_135 : decode cX9_readCause 135 = .ok (.getfield 15, 3) := by decide +kernel
theorem dX9_readCause_138 : decode cX9_readCause 138 = .ok (.iload_n 1, 1) := by decide +kernel
theorem dX9_readCause_139 : decode cX9_readCause 139 = .ok (.iload_n 2, 1) := by decide +kernel
theorem dX9_readCause_140 : decode cX9_readCause 140 = .ok (.iload_n 3, 1) := by decide +kernel
theorem dX9_readCause_141 : decode cX9_readCause 141 = .ok (.invokevirtual 144, 3) := by decide +kernel
theorem dX9_readCause_144 : decode cX9_readCause 144 = .ok (.return_, 1) := by decide +kernel
abbrev o_X9_readCause_q14 : Type := Int32 × Int32 × Int32 × Int32 × (Nat → Int32) × (Nat → Int32) × (Nat → Int32)
def f_X9_readCause_q14_L35 (S : wd_W) (k127_10 : (Int32) → (Int32) → (Int32) → (Int32) → (Int32) → (Option o_X9_readCause_q14)) (r19 : (Int32) → (Int32) → (Int32) → (Int32) → (Int32) → (Int32) → (Option o_X9_readCause_q14)) (x13 : Int32) (x14 : Int32) (x15 : Int32) (x16 : Int32) (x17 : Int32) (x18 : Int32) : Option o_X9_readCause_q14 :=
if (400 : Int32) ≤ x15 then (
k127_10 x13 x14 x16 x17 x18) else (
lk (fun x20 =>
bd (f_X9_readWord_q14 (wd_o S [(310, (S.1 310)), (1402, x20), (1403, x17), (1404, x18)] [] [(11, (S.2.2.1 11)), (12, (S.2.2.1 12)), (13, (S.2.2.1 13))] [] [])) fun o22 =>
bd (f_X9_isWord_q14_str1 (wd_o S [(310, (S.1 310)), (1402, o22.1), (1403, o22.2), (1404, x18)] [] [(11, (S.2.2.1 11)), (12, (S.2.2.1 12)), (13, (S.2.2.1 13))] [] [])) fun o23 =>
lk (fun x24 x25 x26 x27 x28 =>
r19 x24 x25 (x15 + (1 : Int32)) x26 x27 x28) fun k121_29 =>
if o23 = 0 then (
bd (f_X9_isWord_q14_str6 (wd_o S [(310, (S.1 310)), (1402, o22.1), (1403, o22.2), (1404, x18)] [] [(11, (S.2.2.1 11)), (12, (S.2.2.1 12)), (13, (S.2.2.1 13))] [] [])) fun o30 =>
if o30 = 0 then (
bd (f_X9_blame_q14 (wd_o S [(310, (S.1 310)), (1402, o22.1), (1403, o22.2), (1404, x18)] [] [(11, (S.2.2.1 11)), (12, (S.2.2.1 12)), (13, (S.2.2.1 13))] [] []) o22.2 (0 : Int32)) fun o31 =>
k121_29 x13 x14 o22.1 o22.2 o31) else (
bd (f_X9_readPlace_q14 (wd_o S [(310, (S.1 310)), (1402, o22.1), (1403, o22.2), (1404, x18)] [] [(11, (S.2.2.1 11)), (12, (S.2.2.1 12)), (13, (S.2.2.1 13))] [] []) (-1 : Int32)) fun o32 =>
lz (x14 ||| ((1 : Int32) <<< (o32.1 &&& 31))) fun x33 =>
k121_29 x13 x33 o32.2.1 o32.2.2.1 o32.2.2.2)) else (
bd (f_X9_readNumber_q14 (wd_o S [(310, (S.1 310)), (1402, o22.1), (1403, o22.2), (1404, x18)] [] [(11, (S.2.2.1 11)), (12, (S.2.2.1 12)), (13, (S.2.2.1 13))] [] []) (0 : Int32) ((S.1 301) - (1 : Int32))) fun o35 =>
lz (x13 ||| ((1 : Int32) <<< (o35.1 &&& 31))) fun x36 =>
k121_29 x36 x14 o35.2.1 o35.2.2.1 o35.2.2.2)) fun k55_21 =>
if x15 = 0 then (
k55_21 x16) else (
bd (f_X9_clauseGoesOn_q14 (wd_o S [(310, (S.1 310)), (1402, x16), (1403, x17), (1404, x18)] [] [(11, (S.2.2.1 11)), (12, (S.2.2.1 12)), (13, (S.2.2.1 13))] [] [])) fun o38 =>
if o38.1 = 0 then (
k127_10 x13 x14 o38.2 x17 x18) else (
k55_21 o38.2)))
def f_X9_readCause_q14 (S : wd_W) : Option o_X9_readCause_q14 :=
lk (fun x1 =>
bd (f_X9_refuseIf_q14 (wd_o S [(310, (S.1 310)), (1402, (S.1 1402)), (1403, (S.1 1403)), (1404, (S.1 1404))] [] [(11, (S.2.2.1 11)), (12, (S.2.2.1 12)), (13, (S.2.2.1 13))] [] []) x1) fun o3 =>
bd (f_X9_readNumber_q14 (wd_o S [(310, (S.1 310)), (1402, (S.1 1402)), (1403, (S.1 1403)), (1404, o3)] [] [(11, (S.2.2.1 11)), (12, (S.2.2.1 12)), (13, (S.2.2.1 13))] [] []) (0 : Int32) (16 : Int32)) fun o4 =>
lk (fun x5 x6 x7 x8 x9 =>
if x9 = 0 then (
bd (f_X2_addCause_q3 (wd_o S [(310, (S.1 310)), (1402, x7), (1403, x8), (1404, x9)] [] [(11, (S.2.2.1 11)), (12, (S.2.2.1 12)), (13, (S.2.2.1 13))] [] []) o4.1 x5 x6) fun o11 =>
some (o11.1, x7, x8, x9, o11.2.1, o11.2.2.1, o11.2.2.2)) else (
some ((S.1 310), x7, x8, x9, (S.2.2.1 11), (S.2.2.1 12), (S.2.2.1 13)))) fun k127_10 =>
it6 (f_X9_readCause_q14_L35 S k127_10) fuel (0 : Int32) (0 : Int32) (0 : Int32) o4.2.1 o4.2.2.1 o4.2.2.2) fun k17_2 =>
if (S.1 310) < (3 : Int32) then (
k17_2 (0 : Int32)) else (
k17_2 (1 : Int32))
set_option maxRecDepth 100000 in
set_option maxHeartbeats 4000000 in
theorem c_X9_readCause_q14 (l : Launch) (D : va_G) (q g : Nat → Nat) (cy : Nat → ClassId) (z : (Nat → Nat) × (Nat → Nat) × Nat) (S : wd_W) (o : o_X9_readCause_q14) (hf : f_X9_readCause_q14 S = some o) : MX layX l yX9_readCause cX9_readCause 5 none ({ frames := 5, cells := 0, slots := 0, locals := 107 } : Room) D q g cy z [.ref (q 14)] S false (none) (wd_o S [(310, o.1), (1402, o.2.1), (1403, o.2.2.1), (1404, o.2.2.2.1)] [] [(11, o.2.2.2.2.1), (12, o.2.2.2.2.2.1), (13, o.2.2.2.2.2.2)] [] []) 0 0 := by
  refine mx_of (own := RX9) (lc := [(0, .ref (q 14))]) (by decide +kernel) rfl layX_ok (Nat.le_of_ble_eq_true rfl) rfl ?_
  intro X hXl hXq hXz hC hQ
  subst hXl; subst hXq; subst hXz
  unfold f_X9_readCause_q14 at hf
  refine go_keys (L1 := [(310, (S.1 310)), (1402, (S.1 1402)), (1403, (S.1 1403)), (1404, (S.1 1404))]) (L2 := []) (L3 := [(11, (S.2.2.1 11)), (12, (S.2.2.1 12)), (13, (S.2.2.1 13))]) (L4 := []) (L5 := []) [310, 1402, 1403, 1404] [] [11, 12, 13] [] [] rfl rfl rfl rfl rfl ?_
  refine go_aload_n (pc' := 1) hC dX9_readCause_0 rfl rfl ?_
  refine go_aload_n (pc' := 2) hC dX9_readCause_1 rfl rfl ?_
  refine go_getq (pc' := 5) hC 14 6 layX_14 rfl rfl inlX9 (Nat.le_of_ble_eq_true rfl) mw_76 rfl dX9_readCause_2 rfl ?_
  refine go_geti (v := (S.1 310)) (pc' := 8) hC 3 10 layX_3 rfl rfl inlX2 (Nat.le_of_ble_eq_true rfl) mw_447 rfl dX9_readCause_5 rfl rfl ?_
  refine go_iconst (pc' := 9) hC dX9_readCause_8 ki_3 rfl ?_
  obtain ⟨k17_2, hk17_2, hf⟩ := lk_e1 hf
  have jk17_2 : ∀ (x1 : Int32), k17_2 x1 = some o → Go X layX S 17 [(0, .ref (x_q X 14))] [.int x1, .ref (x_q X 14)] g [(310, (S.1 310)), (1402, (S.1 1402)), (1403, (S.1 1403)), (1404, (S.1 1404))] [] [(11, (S.2.2.1 11)), (12, (S.2.2.1 12)), (13, (S.2.2.1 13))] [] [] 0 0 := by
    intro x1 hf
    have hf := hk17_2 x1 hf
    clear hk17_2
    obtain ⟨o3, ho3, hf⟩ := bd_e hf
    refine go_callV1 (pc' := 20) (As := [.int x1]) (st := []) (st' := []) (L1' := [(310, (S.1 310)), (1402, (S.1 1402)), (1403, (S.1 1403)), (1404, o3)]) (L2' := []) (L3' := [(11, (S.2.2.1 11)), (12, (S.2.2.1 12)), (13, (S.2.2.1 13))]) (L4' := []) (L5' := []) (cells' := 0) (slots' := 0)  (b := 14) hC dX9_readCause_17 ⟨mw_411, mw_414, mw_18, yd_yX9_refuseIf, yp_yX9_refuseIf, Nat.le_of_ble_eq_true rfl, Nat.le_of_ble_eq_true rfl, (Nat.le_of_ble_eq_true rfl), (Nat.le_of_ble_eq_true rfl)⟩ mw_412 mw_413 layX_14 rfl rfl rfl (Nat.le_of_ble_eq_true rfl) (c_X9_refuseIf_q14 (x_l X) (x_D X) (x_q X) g (x_cy X) (x_z X) _ x1 o3 ho3) rfl rfl rfl rfl rfl rfl rfl rfl rfl rfl rfl rfl rfl rfl ?_
    refine go_aload_n (pc' := 21) hC dX9_readCause_20 rfl rfl ?_
    refine go_iconst (pc' := 22) hC dX9_readCause_21 ki_0 rfl ?_
    refine go_bipush (pc' := 24) hC dX9_readCause_22 kb_16 rfl ?_
    obtain ⟨o4, ho4, hf⟩ := bd_e hf
    refine go_callV1 (pc' := 27) (As := [.int (0 : Int32), .int (16 : Int32)]) (st := []) (st' := [.int o4.1]) (L1' := [(310, (S.1 310)), (1402, o4.2.1), (1403, o4.2.2.1), (1404, o4.2.2.2)]) (L2' := []) (L3' := [(11, (S.2.2.1 11)), (12, (S.2.2.1 12)), (13, (S.2.2.1 13))]) (L4' := []) (L5' := []) (cells' := 0) (slots' := 0)  (b := 14) hC dX9_readCause_24 ⟨mw_390, mw_393, mw_18, yd_yX9_readNumber, yp_yX9_readNumber, Nat.le_of_ble_eq_true rfl, Nat.le_of_ble_eq_true rfl, (Nat.le_of_ble_eq_true rfl), (Nat.le_of_ble_eq_true rfl)⟩ mw_391 mw_392 layX_14 rfl rfl rfl (Nat.le_of_ble_eq_true rfl) (c_X9_readNumber_q14 (x_l X) (x_D X) (x_q X) g (x_cy X) (x_z X) _ (0 : Int32) (16 : Int32) o4 ho4) rfl rfl rfl rfl rfl rfl rfl rfl rfl rfl rfl rfl rfl rfl ?_
    refine go_istore_n (lc' := [(0, .ref (x_q X 14)), (1, .int o4.1)]) (pc' := 28) hC dX9_readCause_27 (Nat.le_of_ble_eq_true rfl) rfl rfl ?_
    refine go_iconst (pc' := 29) hC dX9_readCause_28 ki_0 rfl ?_
    refine go_istore_n (lc' := [(0, .ref (x_q X 14)), (1, .int o4.1), (2, .int (0 : Int32))]) (pc' := 30) hC dX9_readCause_29 (Nat.le_of_ble_eq_true rfl) rfl rfl ?_
    refine go_iconst (pc' := 31) hC dX9_readCause_30 ki_0 rfl ?_
    refine go_istore_n (lc' := [(0, .ref (x_q X 14)), (1, .int o4.1), (2, .int (0 : Int32)), (3, .int (0 : Int32))]) (pc' := 32) hC dX9_readCause_31 (Nat.le_of_ble_eq_true rfl) rfl rfl ?_
    refine go_iconst (pc' := 33) hC dX9_readCause_32 ki_0 rfl ?_
    refine go_istore (lc' := [(0, .ref (x_q X 14)), (1, .int o4.1), (2, .int (0 : Int32)), (3, .int (0 : Int32)), (4, .int (0 : Int32))]) (pc' := 35) hC dX9_readCause_33 (Nat.le_of_ble_eq_true rfl) rfl rfl ?_
    obtain ⟨k127_10, hk127_10, hf⟩ := lk_e5 hf
    have jk127_10 : ∀ (x5 : Int32) (x6 : Int32) (x7 : Int32) (x8 : Int32) (x9 : Int32), k127_10 x5 x6 x7 x8 x9 = some o → Go X layX S 127 [(0, .ref (x_q X 14)), (1, .int o4.1), (2, .int x5), (3, .int x6)] [] g [(310, (S.1 310)), (1402, x7), (1403, x8), (1404, x9)] [] [(11, (S.2.2.1 11)), (12, (S.2.2.1 12)), (13, (S.2.2.1 13))] [] [] 0 0 := by
      intro x5 x6 x7 x8 x9 hf
      have hf := hk127_10 x5 x6 x7 x8 x9 hf
      clear hk127_10
      refine go_aload_n (pc' := 128) hC dX9_readCause_127 rfl rfl ?_
      refine go_geti (v := x9) (pc' := 131) hC 14 4 layX_14 rfl rfl inlX9 (Nat.le_of_ble_eq_true rfl) mw_303 rfl dX9_readCause_128 rfl rfl ?_
      refine go_if_ne (tgt := 144) (pc' := 134) hC dX9_readCause_131 (by decide) rfl (fun h12 => ?_) (fun h12 => ?_)
      · have hf := ite_f h12 hf
        obtain rfl := Option.some.inj hf
        exact go_vret hC hQ dX9_readCause_144 rfl rfl rfl (fun _ => rfl) rfl rfl
      · have hf := ite_t h12 hf
        refine go_aload_n (pc' := 135) hC dX9_readCause_134 rfl rfl ?_
        refine go_getq (pc' := 138) hC 14 6 layX_14 rfl rfl inlX9 (Nat.le_of_ble_eq_true rfl) mw_76 rfl dX9_readCause_135 rfl ?_
        refine go_iload_n (pc' := 139) hC dX9_readCause_138 rfl rfl ?_
        refine go_iload_n (pc' := 140) hC dX9_readCause_139 rfl rfl ?_
        refine go_iload_n (pc' := 141) hC dX9_readCause_140 rfl rfl ?_
        obtain ⟨o11, ho11, hf⟩ := bd_e hf
        refine go_callV1 (pc' := 144) (As := [.int o4.1, .int x5, .int x6]) (st := []) (st' := []) (L1' := [(310, o11.1), (1402, x7), (1403, x8), (1404, x9)]) (L2' := []) (L3' := [(11, o11.2.1), (12, o11.2.2.1), (13, o11.2.2.2)]) (L4' := []) (L5' := []) (cells' := 0) (slots' := 0)  (b := 3) hC dX9_readCause_141 ⟨mw_448, mw_451, mw_14, yd_yX2_addCause, yp_yX2_addCause, Nat.le_of_ble_eq_true rfl, Nat.le_of_ble_eq_true rfl, (Nat.le_of_ble_eq_true rfl), (Nat.le_of_ble_eq_true rfl)⟩ mw_449 mw_450 layX_3 rfl rfl rfl (Nat.le_of_ble_eq_true rfl) (c_X2_addCause_q3 (x_l X) (x_D X) (x_q X) g (x_cy X) (x_z X) _ o4.1 x5 x6 o11 ho11) rfl rfl rfl rfl rfl rfl rfl rfl rfl rfl rfl rfl rfl rfl ?_
        obtain rfl := Option.some.inj hf
        exact go_vret hC hQ dX9_readCause_144 rfl rfl rfl (fun _ => rfl) rfl rfl
    clear hk127_10
    have l35_42 : ∀ (nn : Nat) (x13 : Int32) (x14 : Int32) (x15 : Int32) (x16 : Int32) (x17 : Int32) (x18 : Int32), it6 (f_X9_readCause_q14_L35 S k127_10) nn x13 x14 x15 x16 x17 x18 = some o → Go X layX S 35 [(0, .ref (x_q X 14)), (1, .int o4.1), (2, .int x13), (3, .int x14), (4, .int x15)] [] g [(310, (S.1 310)), (1402, x16), (1403, x17), (1404, x18)] [] [(11, (S.2.2.1 11)), (12, (S.2.2.1 12)), (13, (S.2.2.1 13))] [] [] 0 0 := by
      intro nn
      induction nn with
      | zero =>
        intro x13 x14 x15 x16 x17 x18 hf
        exact none_no hf
      | succ nn ih =>
        intro x13 x14 x15 x16 x17 x18 hf
        have hf : f_X9_readCause_q14_L35 S k127_10 (it6 (f_X9_readCause_q14_L35 S k127_10) nn) x13 x14 x15 x16 x17 x18 = some o := hf
        generalize it6 (f_X9_readCause_q14_L35 S k127_10) nn = r19 at ih hf
        unfold f_X9_readCause_q14_L35 at hf
        refine go_iload (pc' := 37) hC dX9_readCause_35 rfl rfl ?_
        refine go_sipush (pc' := 40) hC dX9_readCause_37 ks_400 rfl ?_
        refine go_icmp_ge (tgt := 127) (pc' := 43) hC dX9_readCause_40 (by decide) rfl (fun h41 => ?_) (fun h41 => ?_)
        · have hf := ite_t h41 hf
          refine go_sub [0, 1, 2, 3] rfl ?_
          exact jk127_10 x13 x14 x16 x17 x18 hf
        · have hf := ite_f h41 hf
          refine go_iload (pc' := 45) hC dX9_readCause_43 rfl rfl ?_
          obtain ⟨k55_21, hk55_21, hf⟩ := lk_e1 hf
          have jk55_21 : ∀ (x20 : Int32), k55_21 x20 = some o → Go X layX S 55 [(0, .ref (x_q X 14)), (1, .int o4.1), (2, .int x13), (3, .int x14), (4, .int x15)] [] g [(310, (S.1 310)), (1402, x20), (1403, x17), (1404, x18)] [] [(11, (S.2.2.1 11)), (12, (S.2.2.1 12)), (13, (S.2.2.1 13))] [] [] 0 0 := by
            intro x20 hf
            have hf := hk55_21 x20 hf
            clear hk55_21
            refine go_aload_n (pc' := 56) hC dX9_readCause_55 rfl rfl ?_
            obtain ⟨o22, ho22, hf⟩ := bd_e hf
            refine go_callV1 (pc' := 59) (As := []) (st := []) (st' := []) (L1' := [(310, (S.1 310)), (1402, o22.1), (1403, o22.2), (1404, x18)]) (L2' := []) (L3' := [(11, (S.2.2.1 11)), (12, (S.2.2.1 12)), (13, (S.2.2.1 13))]) (L4' := []) (L5' := []) (cells' := 0) (slots' := 0)  (b := 14) hC dX9_readCause_56 ⟨mw_325, mw_328, mw_18, yd_yX9_readWord, yp_yX9_readWord, Nat.le_of_ble_eq_true rfl, Nat.le_of_ble_eq_true rfl, (Nat.le_of_ble_eq_true rfl), (Nat.le_of_ble_eq_true rfl)⟩ mw_326 mw_327 layX_14 rfl rfl rfl (Nat.le_of_ble_eq_true rfl) (c_X9_readWord_q14 (x_l X) (x_D X) (x_q X) g (x_cy X) (x_z X) _  o22 ho22) rfl rfl rfl rfl rfl rfl rfl rfl rfl rfl rfl rfl rfl rfl ?_
            refine go_aload_n (pc' := 60) hC dX9_readCause_59 rfl rfl ?_
            refine go_ldcS (pc' := 62) hC 1 dX9_readCause_60 rfl rfl rfl ?_
            obtain ⟨o23, ho23, hf⟩ := bd_e hf
            refine go_callV0 (pc' := 65) (As := [.ref ((x_z X).1 1)]) (st := []) (st' := [.int o23])    (b := 14) hC dX9_readCause_62 ⟨mw_333, mw_336, mw_18, yd_yX9_isWord, yp_yX9_isWord, Nat.le_of_ble_eq_true rfl, Nat.le_of_ble_eq_true rfl, (Nat.le_of_ble_eq_true rfl), (Nat.le_of_ble_eq_true rfl)⟩ mw_334 mw_335 layX_14 rfl rfl rfl (Nat.le_of_ble_eq_true rfl) (c_X9_isWord_q14_str1 (x_l X) (x_D X) (x_q X) g (x_cy X) (x_z X) _  o23 ho23) rfl rfl ?_
            obtain ⟨k121_29, hk121_29, hf⟩ := lk_e5 hf
            have jk121_29 : ∀ (x24 : Int32) (x25 : Int32) (x26 : Int32) (x27 : Int32) (x28 : Int32), k121_29 x24 x25 x26 x27 x28 = some o → Go X layX S 121 [(0, .ref (x_q X 14)), (1, .int o4.1), (2, .int x24), (3, .int x25), (4, .int x15)] [] g [(310, (S.1 310)), (1402, x26), (1403, x27), (1404, x28)] [] [(11, (S.2.2.1 11)), (12, (S.2.2.1 12)), (13, (S.2.2.1 13))] [] [] 0 0 := by
              intro x24 x25 x26 x27 x28 hf
              have hf := hk121_29 x24 x25 x26 x27 x28 hf
              clear hk121_29
              refine go_iinc (lc' := [(0, .ref (x_q X 14)), (1, .int o4.1), (2, .int x24), (3, .int x25), (4, .int (x15 + (1 : Int32)))]) (pc' := 124) hC dX9_readCause_121 rfl ki_1 (Nat.le_of_ble_eq_true rfl) rfl rfl ?_
              refine go_goto (tgt := 35) hC dX9_readCause_124 (by decide) ?_
              exact ih x24 x25 (x15 + (1 : Int32)) x26 x27 x28 hf
            clear hk121_29
            refine go_if_eq (tgt := 90) (pc' := 68) hC dX9_readCause_65 (by decide) rfl (fun h37 => ?_) (fun h37 => ?_)
            · have hf := ite_t h37 hf
              refine go_aload_n (pc' := 91) hC dX9_readCause_90 rfl rfl ?_
              refine go_ldcS (pc' := 93) hC 6 dX9_readCause_91 rfl rfl rfl ?_
              obtain ⟨o30, ho30, hf⟩ := bd_e hf
              refine go_callV0 (pc' := 96) (As := [.ref ((x_z X).1 6)]) (st := []) (st' := [.int o30])    (b := 14) hC dX9_readCause_93 ⟨mw_333, mw_336, mw_18, yd_yX9_isWord, yp_yX9_isWord, Nat.le_of_ble_eq_true rfl, Nat.le_of_ble_eq_true rfl, (Nat.le_of_ble_eq_true rfl), (Nat.le_of_ble_eq_true rfl)⟩ mw_334 mw_335 layX_14 rfl rfl rfl (Nat.le_of_ble_eq_true rfl) (c_X9_isWord_q14_str6 (x_l X) (x_D X) (x_q X) g (x_cy X) (x_z X) _  o30 ho30) rfl rfl ?_
              refine go_if_eq (tgt := 112) (pc' := 99) hC dX9_readCause_96 (by decide) rfl (fun h34 => ?_) (fun h34 => ?_)
              · have hf := ite_t h34 hf
                refine go_aload_n (pc' := 113) hC dX9_readCause_112 rfl rfl ?_
                refine go_aload_n (pc' := 114) hC dX9_readCause_113 rfl rfl ?_
                refine go_geti (v := o22.2) (pc' := 117) hC 14 3 layX_14 rfl rfl inlX9 (Nat.le_of_ble_eq_true rfl) mw_323 rfl dX9_readCause_114 rfl rfl ?_
                refine go_iconst (pc' := 118) hC dX9_readCause_117 ki_0 rfl ?_
                obtain ⟨o31, ho31, hf⟩ := bd_e hf
                refine go_callV1 (pc' := 121) (As := [.int o22.2, .int (0 : Int32)]) (st := []) (st' := []) (L1' := [(310, (S.1 310)), (1402, o22.1), (1403, o22.2), (1404, o31)]) (L2' := []) (L3' := [(11, (S.2.2.1 11)), (12, (S.2.2.1 12)), (13, (S.2.2.1 13))]) (L4' := []) (L5' := []) (cells' := 0) (slots' := 0)  (b := 14) hC dX9_readCause_118 ⟨mw_386, mw_389, mw_18, yd_yX9_blame, yp_yX9_blame, Nat.le_of_ble_eq_true rfl, Nat.le_of_ble_eq_true rfl, (Nat.le_of_ble_eq_true rfl), (Nat.le_of_ble_eq_true rfl)⟩ mw_387 mw_388 layX_14 rfl rfl rfl (Nat.le_of_ble_eq_true rfl) (c_X9_blame_q14 (x_l X) (x_D X) (x_q X) g (x_cy X) (x_z X) _ o22.2 (0 : Int32) o31 ho31) rfl rfl rfl rfl rfl rfl rfl rfl rfl rfl rfl rfl rfl rfl ?_
                exact jk121_29 x13 x14 o22.1 o22.2 o31 hf
              · have hf := ite_f h34 hf
                refine go_iload_n (pc' := 100) hC dX9_readCause_99 rfl rfl ?_
                refine go_iconst (pc' := 101) hC dX9_readCause_100 ki_1 rfl ?_
                refine go_aload_n (pc' := 102) hC dX9_readCause_101 rfl rfl ?_
                refine go_iconst (pc' := 103) hC dX9_readCause_102 ki_m1 rfl ?_
                obtain ⟨o32, ho32, hf⟩ := bd_e hf
                refine go_callV1 (pc' := 106) (As := [.int (-1 : Int32)]) (st := [.int (1 : Int32), .int x14]) (st' := [.int o32.1, .int (1 : Int32), .int x14]) (L1' := [(310, (S.1 310)), (1402, o32.2.1), (1403, o32.2.2.1), (1404, o32.2.2.2)]) (L2' := []) (L3' := [(11, (S.2.2.1 11)), (12, (S.2.2.1 12)), (13, (S.2.2.1 13))]) (L4' := []) (L5' := []) (cells' := 0) (slots' := 0)  (b := 14) hC dX9_readCause_103 ⟨mw_419, mw_422, mw_18, yd_yX9_readPlace, yp_yX9_readPlace, Nat.le_of_ble_eq_true rfl, Nat.le_of_ble_eq_true rfl, (Nat.le_of_ble_eq_true rfl), (Nat.le_of_ble_eq_true rfl)⟩ mw_420 mw_421 layX_14 rfl rfl rfl (Nat.le_of_ble_eq_true rfl) (c_X9_readPlace_q14 (x_l X) (x_D X) (x_q X) g (x_cy X) (x_z X) _ (-1 : Int32) o32 ho32) rfl rfl rfl rfl rfl rfl rfl rfl rfl rfl rfl rfl rfl rfl ?_
                refine go_ishl (pc' := 107) hC dX9_readCause_106 rfl ?_
                refine go_ior (pc' := 108) hC dX9_readCause_107 rfl ?_
                refine go_namei (fun x33 hx => ?_)
                have hf := lz_r hx hf
                clear hx
                refine go_istore_n (lc' := [(0, .ref (x_q X 14)), (1, .int o4.1), (2, .int x13), (3, .int x33), (4, .int x15)]) (pc' := 109) hC dX9_readCause_108 (Nat.le_of_ble_eq_true rfl) rfl rfl ?_
                refine go_goto (tgt := 121) hC dX9_readCause_109 (by decide) ?_
                exact jk121_29 x13 x33 o32.2.1 o32.2.2.1 o32.2.2.2 hf
            · have hf := ite_f h37 hf
              refine go_iload_n (pc' := 69) hC dX9_readCause_68 rfl rfl ?_
              refine go_iconst (pc' := 70) hC dX9_readCause_69 ki_1 rfl ?_
              refine go_aload_n (pc' := 71) hC dX9_readCause_70 rfl rfl ?_
              refine go_iconst (pc' := 72) hC dX9_readCause_71 ki_0 rfl ?_
              refine go_aload_n (pc' := 73) hC dX9_readCause_72 rfl rfl ?_
              refine go_getq (pc' := 76) hC 14 6 layX_14 rfl rfl inlX9 (Nat.le_of_ble_eq_true rfl) mw_76 rfl dX9_readCause_73 rfl ?_
              refine go_geti (v := (S.1 301)) (pc' := 79) hC 3 1 layX_3 rfl rfl inlX2 (Nat.le_of_ble_eq_true rfl) mw_410 rfl dX9_readCause_76 rfl rfl ?_
              refine go_iconst (pc' := 80) hC dX9_readCause_79 ki_1 rfl ?_
              refine go_isub (pc' := 81) hC dX9_readCause_80 rfl ?_
              obtain ⟨o35, ho35, hf⟩ := bd_e hf
              refine go_callV1 (pc' := 84) (As := [.int (0 : Int32), .int ((S.1 301) - (1 : Int32))]) (st := [.int (1 : Int32), .int x13]) (st' := [.int o35.1, .int (1 : Int32), .int x13]) (L1' := [(310, (S.1 310)), (1402, o35.2.1), (1403, o35.2.2.1), (1404, o35.2.2.2)]) (L2' := []) (L3' := [(11, (S.2.2.1 11)), (12, (S.2.2.1 12)), (13, (S.2.2.1 13))]) (L4' := []) (L5' := []) (cells' := 0) (slots' := 0)  (b := 14) hC dX9_readCause_81 ⟨mw_390, mw_393, mw_18, yd_yX9_readNumber, yp_yX9_readNumber, Nat.le_of_ble_eq_true rfl, Nat.le_of_ble_eq_true rfl, (Nat.le_of_ble_eq_true rfl), (Nat.le_of_ble_eq_true rfl)⟩ mw_391 mw_392 layX_14 rfl rfl rfl (Nat.le_of_ble_eq_true rfl) (c_X9_readNumber_q14 (x_l X) (x_D X) (x_q X) g (x_cy X) (x_z X) _ (0 : Int32) ((S.1 301) - (1 : Int32)) o35 ho35) rfl rfl rfl rfl rfl rfl rfl rfl rfl rfl rfl rfl rfl rfl ?_
              refine go_ishl (pc' := 85) hC dX9_readCause_84 rfl ?_
              refine go_ior (pc' := 86) hC dX9_readCause_85 rfl ?_
              refine go_namei (fun x36 hx => ?_)
              have hf := lz_r hx hf
              clear hx
              refine go_istore_n (lc' := [(0, .ref (x_q X 14)), (1, .int o4.1), (2, .int x36), (3, .int x14), (4, .int x15)]) (pc' := 87) hC dX9_readCause_86 (Nat.le_of_ble_eq_true rfl) rfl rfl ?_
              refine go_goto (tgt := 121) hC dX9_readCause_87 (by decide) ?_
              exact jk121_29 x36 x14 o35.2.1 o35.2.2.1 o35.2.2.2 hf
          clear hk55_21
          refine go_if_eq (tgt := 55) (pc' := 48) hC dX9_readCause_45 (by decide) rfl (fun h40 => ?_) (fun h40 => ?_)
          · have hf := ite_t h40 hf
            exact jk55_21 x16 hf
          · have hf := ite_f h40 hf
            refine go_aload_n (pc' := 49) hC dX9_readCause_48 rfl rfl ?_
            obtain ⟨o38, ho38, hf⟩ := bd_e hf
            refine go_callV1 (pc' := 52) (As := []) (st := []) (st' := [.int o38.1]) (L1' := [(310, (S.1 310)), (1402, o38.2), (1403, x17), (1404, x18)]) (L2' := []) (L3' := [(11, (S.2.2.1 11)), (12, (S.2.2.1 12)), (13, (S.2.2.1 13))]) (L4' := []) (L5' := []) (cells' := 0) (slots' := 0)  (b := 14) hC dX9_readCause_49 ⟨mw_423, mw_426, mw_18, yd_yX9_clauseGoesOn, yp_yX9_clauseGoesOn, Nat.le_of_ble_eq_true rfl, Nat.le_of_ble_eq_true rfl, (Nat.le_of_ble_eq_true rfl), (Nat.le_of_ble_eq_true rfl)⟩ mw_424 mw_425 layX_14 rfl rfl rfl (Nat.le_of_ble_eq_true rfl) (c_X9_clauseGoesOn_q14 (x_l X) (x_D X) (x_q X) g (x_cy X) (x_z X) _  o38 ho38) rfl rfl rfl rfl rfl rfl rfl rfl rfl rfl rfl rfl rfl rfl ?_
            refine go_if_eq (tgt := 127) (pc' := 55) hC dX9_readCause_52 (by decide) rfl (fun h39 => ?_) (fun h39 => ?_)
            · have hf := ite_t h39 hf
              refine go_sub [0, 1, 2, 3] rfl ?_
              exact jk127_10 x13 x14 o38.2 x17 x18 hf
            · have hf := ite_f h39 hf
              exact jk55_21 o38.2 hf
    exact l35_42 fuel (0 : Int32) (0 : Int32) (0 : Int32) o4.2.1 o4.2.2.1 o4.2.2.2 hf
  clear hk17_2
  refine go_icmp_lt (tgt := 16) (pc' := 12) hC dX9_readCause_9 (by decide) rfl (fun h43 => ?_) (fun h43 => ?_)
  · have hf := ite_t h43 hf
    refine go_iconst (pc' := 17) hC dX9_readCause_16 ki_0 rfl ?_
    exact jk17_2 (0 : Int32) hf
  · have hf := ite_f h43 hf
    refine go_iconst (pc' := 13) hC dX9_readCause_12 ki_1 rfl ?_
    refine go_goto (tgt := 17) hC dX9_readCause_13 (by decide) ?_
    exact jk17_2 (1 : Int32) hf
abbrev o_X9_isWord_q14_str7 : Type := Int32
def f_X9_isWord_q14_str7_L20 (S : wd_W) (r2 : (Int32) → (Option o_X9_isWord_q14_str7)) (x1 : Int32) : Option o_X9_isWord_q14_str7 :=
if (7 : Int32) ≤ x1 then (
some (1 : Int32)) else (
gd (okx ((S.1 1403) + x1) 400) <|
gd (okx x1 7) <|
if ((S.2.2.1 15) ((S.1 1403) + x1).toNatClampNeg) = (st_ch 7 x1) then (
r2 (x1 + (1 : Int32))) else (
some (0 : Int32)))
def f_X9_isWord_q14_str7 (S : wd_W) : Option o_X9_isWord_q14_str7 :=
if ((S.1 1402) - (S.1 1403)) = (7 : Int32) then (
it1 (f_X9_isWord_q14_str7_L20 S) fuel (0 : Int32)) else (
some (0 : Int32))
set_option maxRecDepth 100000 in
set_option maxHeartbeats 4000000 in
theorem c_X9_isWord_q14_str7 (l : Launch) (D : va_G) (q g : Nat → Nat) (cy : Nat → ClassId) (z : (Nat → Nat) × (Nat → Nat) × Nat) (S : wd_W) (o : o_X9_isWord_q14_str7) (hf : f_X9_isWord_q14_str7 S = some o) : MX layX l yX9_isWord cX9_isWord 3 (some .boolean) ({ frames := 4, cells := 0, slots := 0, locals := 85 } : Room) D q g cy z [.ref (q 14), .ref (z.1 7)] S false (some (.int o)) (wd_o S [] [] [] [] []) 0 0 := by
  refine mx_of (own := RX9) (lc := [(0, .ref (q 14)), (1, .ref (z.1 7))]) (by decide +kernel) rfl layX_ok (Nat.le_of_ble_eq_true rfl) rfl ?_
  intro X hXl hXq hXz hC hQ
  subst hXl; subst hXq; subst hXz
  unfold f_X9_isWord_q14_str7 at hf
  refine go_aload_n (pc' := 1) hC dX9_isWord_0 rfl rfl ?_
  refine go_geti (v := (S.1 1402)) (pc' := 4) hC 14 2 layX_14 rfl rfl inlX9 (Nat.le_of_ble_eq_true rfl) mw_302 rfl dX9_isWord_1 rfl rfl ?_
  refine go_aload_n (pc' := 5) hC dX9_isWord_4 rfl rfl ?_
  refine go_geti (v := (S.1 1403)) (pc' := 8) hC 14 3 layX_14 rfl rfl inlX9 (Nat.le_of_ble_eq_true rfl) mw_323 rfl dX9_isWord_5 rfl rfl ?_
  refine go_isub (pc' := 9) hC dX9_isWord_8 rfl ?_
  refine go_aload_n (pc' := 10) hC dX9_isWord_9 rfl rfl ?_
  refine go_callVs0 (pc' := 13) (As := []) (st := [.int ((S.1 1402) - (S.1 1403))]) (st' := [.int (7 : Int32), .int ((S.1 1402) - (S.1 1403))]) hC dX9_isWord_10 ⟨mw_337, mw_341, mw_340, yd_yJ0_length_8abf5, yp_yJ0_length_8abf5, Nat.le_of_ble_eq_true rfl, Nat.le_of_ble_eq_true rfl, Nat.le_of_ble_eq_true rfl, Nat.le_of_ble_eq_true rfl⟩ mw_338 mw_339 (by decide : 7 < 11) rfl rfl (Nat.le_of_ble_eq_true rfl) (c_strlen (x_l X) (x_D X) (x_q X) g (x_cy X) (x_z X) _ layX layX_ok (by decide : 7 < 11) (by decide : Int32.ofNat (st_len.getD 7 0) >>> ((0 : Int32) &&& 31) = 7)) rfl rfl ?_
  refine go_icmp_eq (tgt := 18) (pc' := 16) hC dX9_isWord_13 (by decide) rfl (fun h8 => ?_) (fun h8 => ?_)
  · have hf := ite_t h8 hf
    refine go_iconst (pc' := 19) hC dX9_isWord_18 ki_0 rfl ?_
    refine go_istore_n (lc' := [(0, .ref (x_q X 14)), (1, .ref ((x_z X).1 7)), (2, .int (0 : Int32))]) (pc' := 20) hC dX9_isWord_19 (Nat.le_of_ble_eq_true rfl) rfl rfl ?_
    have l20_7 : ∀ (nn : Nat) (x1 : Int32), it1 (f_X9_isWord_q14_str7_L20 S) nn x1 = some o → Go X layX S 20 [(0, .ref (x_q X 14)), (1, .ref ((x_z X).1 7)), (2, .int x1)] [] g [] [] [] [] [] 0 0 := by
      intro nn
      induction nn with
      | zero =>
        intro x1 hf
        exact none_no hf
      | succ nn ih =>
        intro x1 hf
        have hf : f_X9_isWord_q14_str7_L20 S (it1 (f_X9_isWord_q14_str7_L20 S) nn) x1 = some o := hf
        generalize it1 (f_X9_isWord_q14_str7_L20 S) nn = r2 at ih hf
        unfold f_X9_isWord_q14_str7_L20 at hf
        refine go_iload_n (pc' := 21) hC dX9_isWord_20 rfl rfl ?_
        refine go_aload_n (pc' := 22) hC dX9_isWord_21 rfl rfl ?_
        refine go_callVs0 (pc' := 25) (As := []) (st := [.int x1]) (st' := [.int (7 : Int32), .int x1]) hC dX9_isWord_22 ⟨mw_337, mw_341, mw_340, yd_yJ0_length_8abf5, yp_yJ0_length_8abf5, Nat.le_of_ble_eq_true rfl, Nat.le_of_ble_eq_true rfl, Nat.le_of_ble_eq_true rfl, Nat.le_of_ble_eq_true rfl⟩ mw_338 mw_339 (by decide : 7 < 11) rfl rfl (Nat.le_of_ble_eq_true rfl) (c_strlen (x_l X) (x_D X) (x_q X) g (x_cy X) (x_z X) _ layX layX_ok (by decide : 7 < 11) (by decide : Int32.ofNat (st_len.getD 7 0) >>> ((0 : Int32) &&& 31) = 7)) rfl rfl ?_
        refine go_icmp_ge (tgt := 55) (pc' := 28) hC dX9_isWord_25 (by decide) rfl (fun h6 => ?_) (fun h6 => ?_)
        · have hf := ite_t h6 hf
          refine go_iconst (pc' := 56) hC dX9_isWord_55 ki_1 rfl ?_
          obtain rfl := Option.some.inj hf
          exact go_iret hC hQ dX9_isWord_56 rfl rfl rfl rfl (fun _ => rfl) rfl rfl
        · have hf := ite_f h6 hf
          refine go_aload_n (pc' := 29) hC dX9_isWord_28 rfl rfl ?_
          refine go_getq (pc' := 32) hC 14 1 layX_14 rfl rfl inlX9 (Nat.le_of_ble_eq_true rfl) mw_75 rfl dX9_isWord_29 rfl ?_
          refine go_aload_n (pc' := 33) hC dX9_isWord_32 rfl rfl ?_
          refine go_geti (v := (S.1 1403)) (pc' := 36) hC 14 3 layX_14 rfl rfl inlX9 (Nat.le_of_ble_eq_true rfl) mw_323 rfl dX9_isWord_33 rfl rfl ?_
          refine go_iload_n (pc' := 37) hC dX9_isWord_36 rfl rfl ?_
          refine go_iadd (pc' := 38) hC dX9_isWord_37 rfl ?_
          obtain ⟨h3, hf⟩ := gd_e hf
          refine go_iald (f := (S.2.2.1 15)) (pc' := 39) hC 15 layX_15 rfl rfl dX9_isWord_38 (okx_in h3) rfl ?_
          refine go_aload_n (pc' := 40) hC dX9_isWord_39 rfl rfl ?_
          refine go_iload_n (pc' := 41) hC dX9_isWord_40 rfl rfl ?_
          obtain ⟨h4, hf⟩ := gd_e hf
          refine go_callVs0 (pc' := 44) (As := [.int x1]) (st := [.int ((S.2.2.1 15) ((S.1 1403) + x1).toNatClampNeg)]) (st' := [.int (st_ch 7 x1), .int ((S.2.2.1 15) ((S.1 1403) + x1).toNatClampNeg)]) hC dX9_isWord_41 ⟨mw_349, mw_352, mw_340, yd_yJ0_charAt_5068e, yp_yJ0_charAt_5068e, Nat.le_of_ble_eq_true rfl, Nat.le_of_ble_eq_true rfl, Nat.le_of_ble_eq_true rfl, Nat.le_of_ble_eq_true rfl⟩ mw_350 mw_351 (by decide : 7 < 11) rfl rfl (Nat.le_of_ble_eq_true rfl) (c_charAt (x_l X) (x_D X) (x_q X) g (x_cy X) (x_z X) _ layX layX_ok (by decide : 7 < 11) h4) rfl rfl ?_
          refine go_icmp_eq (tgt := 49) (pc' := 47) hC dX9_isWord_44 (by decide) rfl (fun h5 => ?_) (fun h5 => ?_)
          · have hf := ite_t h5 hf
            refine go_iinc (lc' := [(0, .ref (x_q X 14)), (1, .ref ((x_z X).1 7)), (2, .int (x1 + (1 : Int32)))]) (pc' := 52) hC dX9_isWord_49 rfl ki_1 (Nat.le_of_ble_eq_true rfl) rfl rfl ?_
            refine go_goto (tgt := 20) hC dX9_isWord_52 (by decide) ?_
            exact ih (x1 + (1 : Int32)) hf
          · have hf := ite_f h5 hf
            refine go_iconst (pc' := 48) hC dX9_isWord_47 ki_0 rfl ?_
            obtain rfl := Option.some.inj hf
            exact go_iret hC hQ dX9_isWord_48 rfl rfl rfl rfl (fun _ => rfl) rfl rfl
    exact l20_7 fuel (0 : Int32) hf
  · have hf := ite_f h8 hf
    refine go_iconst (pc' := 17) hC dX9_isWord_16 ki_0 rfl ?_
    obtain rfl := Option.some.inj hf
    exact go_iret hC hQ dX9_isWord_17 rfl rfl rfl rfl (fun _ => rfl) rfl rfl
abbrev o_X9_isWord_q14_str8 : Type := Int32
def f_X9_isWord_q14_str8_L20 (S : wd_W) (r2 : (Int32) → (Option o_X9_isWord_q14_str8)) (x1 : Int32) : Option o_X9_isWord_q14_str8 :=
if (4 : Int32) ≤ x1 then (
some (1 : Int32)) else (
gd (okx ((S.1 1403) + x1) 400) <|
gd (okx x1 4) <|
if ((S.2.2.1 15) ((S.1 1403) + x1).toNatClampNeg) = (st_ch 8 x1) then (
r2 (x1 + (1 : Int32))) else (
some (0 : Int32)))
def f_X9_isWord_q14_str8 (S : wd_W) : Option o_X9_isWord_q14_str8 :=
if ((S.1 1402) - (S.1 1403)) = (4 : Int32) then (
it1 (f_X9_isWord_q14_str8_L20 S) fuel (0 : Int32)) else (
some (0 : Int32))
set_option maxRecDepth 100000 in
set_option maxHeartbeats 4000000 in
theorem c_X9_isWord_q14_str8 (l : Launch) (D : va_G) (q g : Nat → Nat) (cy : Nat → ClassId) (z : (Nat → Nat) × (Nat → Nat) × Nat) (S : wd_W) (o : o_X9_isWord_q14_str8) (hf : f_X9_isWord_q14_str8 S = some o) : MX layX l yX9_isWord cX9_isWord 3 (some .boolean) ({ frames := 4, cells := 0, slots := 0, locals := 85 } : Room) D q g cy z [.ref (q 14), .ref (z.1 8)] S false (some (.int o)) (wd_o S [] [] [] [] []) 0 0 := by
  refine mx_of (own := RX9) (lc := [(0, .ref (q 14)), (1, .ref (z.1 8))]) (by decide +kernel) rfl layX_ok (Nat.le_of_ble_eq_true rfl) rfl ?_
  intro X hXl hXq hXz hC hQ
  subst hXl; subst hXq; subst hXz
  unfold f_X9_isWord_q14_str8 at hf
  refine go_aload_n (pc' := 1) hC dX9_isWord_0 rfl rfl ?_
  refine go_geti (v := (S.1 1402)) (pc' := 4) hC 14 2 layX_14 rfl rfl inlX9 (Nat.le_of_ble_eq_true rfl) mw_302 rfl dX9_isWord_1 rfl rfl ?_
  refine go_aload_n (pc' := 5) hC dX9_isWord_4 rfl rfl ?_
  refine go_geti (v := (S.1 1403)) (pc' := 8) hC 14 3 layX_14 rfl rfl inlX9 (Nat.le_of_ble_eq_true rfl) mw_323 rfl dX9_isWord_5 rfl rfl ?_
  refine go_isub (pc' := 9) hC dX9_isWord_8 rfl ?_
  refine go_aload_n (pc' := 10) hC dX9_isWord_9 rfl rfl ?_
  refine go_callVs0 (pc' := 13) (As := []) (st := [.int ((S.1 1402) - (S.1 1403))]) (st' := [.int (4 : Int32), .int ((S.1 1402) - (S.1 1403))]) hC dX9_isWord_10 ⟨mw_337, mw_341, mw_340, yd_yJ0_length_8abf5, yp_yJ0_length_8abf5, Nat.le_of_ble_eq_true rfl, Nat.le_of_ble_eq_true rfl, Nat.le_of_ble_eq_true rfl, Nat.le_of_ble_eq_true rfl⟩ mw_338 mw_339 (by decide : 8 < 11) rfl rfl (Nat.le_of_ble_eq_true rfl) (c_strlen (x_l X) (x_D X) (x_q X) g (x_cy X) (x_z X) _ layX layX_ok (by decide : 8 < 11) (by decide : Int32.ofNat (st_len.getD 8 0) >>> ((0 : Int32) &&& 31) = 4)) rfl rfl ?_
  refine go_icmp_eq (tgt := 18) (pc' := 16) hC dX9_isWord_13 (by decide) rfl (fun h8 => ?_) (fun h8 => ?_)
  · have hf := ite_t h8 hf
    refine go_iconst (pc' := 19) hC dX9_isWord_18 ki_0 rfl ?_
    refine go_istore_n (lc' := [(0, .ref (x_q X 14)), (1, .ref ((x_z X).1 8)), (2, .int (0 : Int32))]) (pc' := 20) hC dX9_isWord_19 (Nat.le_of_ble_eq_true rfl) rfl rfl ?_
    have l20_7 : ∀ (nn : Nat) (x1 : Int32), it1 (f_X9_isWord_q14_str8_L20 S) nn x1 = some o → Go X layX S 20 [(0, .ref (x_q X 14)), (1, .ref ((x_z X).1 8)), (2, .int x1)] [] g [] [] [] [] [] 0 0 := by
      intro nn
      induction nn with
      | zero =>
        intro x1 hf
        exact none_no hf
      | succ nn ih =>
        intro x1 hf
        have hf : f_X9_isWord_q14_str8_L20 S (it1 (f_X9_isWord_q14_str8_L20 S) nn) x1 = some o := hf
        generalize it1 (f_X9_isWord_q14_str8_L20 S) nn = r2 at ih hf
        unfold f_X9_isWord_q14_str8_L20 at hf
        refine go_iload_n (pc' := 21) hC dX9_isWord_20 rfl rfl ?_
        refine go_aload_n (pc' := 22) hC dX9_isWord_21 rfl rfl ?_
        refine go_callVs0 (pc' := 25) (As := []) (st := [.int x1]) (st' := [.int (4 : Int32), .int x1]) hC dX9_isWord_22 ⟨mw_337, mw_341, mw_340, yd_yJ0_length_8abf5, yp_yJ0_length_8abf5, Nat.le_of_ble_eq_true rfl, Nat.le_of_ble_eq_true rfl, Nat.le_of_ble_eq_true rfl, Nat.le_of_ble_eq_true rfl⟩ mw_338 mw_339 (by decide : 8 < 11) rfl rfl (Nat.le_of_ble_eq_true rfl) (c_strlen (x_l X) (x_D X) (x_q X) g (x_cy X) (x_z X) _ layX layX_ok (by decide : 8 < 11) (by decide : Int32.ofNat (st_len.getD 8 0) >>> ((0 : Int32) &&& 31) = 4)) rfl rfl ?_
        refine go_icmp_ge (tgt := 55) (pc' := 28) hC dX9_isWord_25 (by decide) rfl (fun h6 => ?_) (fun h6 => ?_)
        · have hf := ite_t h6 hf
          refine go_iconst (pc' := 56) hC dX9_isWord_55 ki_1 rfl ?_
          obtain rfl := Option.some.inj hf
          exact go_iret hC hQ dX9_isWord_56 rfl rfl rfl rfl (fun _ => rfl) rfl rfl
        · have hf := ite_f h6 hf
          refine go_aload_n (pc' := 29) hC dX9_isWord_28 rfl rfl ?_
          refine go_getq (pc' := 32) hC 14 1 layX_14 rfl rfl inlX9 (Nat.le_of_ble_eq_true rfl) mw_75 rfl dX9_isWord_29 rfl ?_
          refine go_aload_n (pc' := 33) hC dX9_isWord_32 rfl rfl ?_
          refine go_geti (v := (S.1 1403)) (pc' := 36) hC 14 3 layX_14 rfl rfl inlX9 (Nat.le_of_ble_eq_true rfl) mw_323 rfl dX9_isWord_33 rfl rfl ?_
          refine go_iload_n (pc' := 37) hC dX9_isWord_36 rfl rfl ?_
          refine go_iadd (pc' := 38) hC dX9_isWord_37 rfl ?_
          obtain ⟨h3, hf⟩ := gd_e hf
          refine go_iald (f := (S.2.2.1 15)) (pc' := 39) hC 15 layX_15 rfl rfl dX9_isWord_38 (okx_in h3) rfl ?_
          refine go_aload_n (pc' := 40) hC dX9_isWord_39 rfl rfl ?_
          refine go_iload_n (pc' := 41) hC dX9_isWord_40 rfl rfl ?_
          obtain ⟨h4, hf⟩ := gd_e hf
          refine go_callVs0 (pc' := 44) (As := [.int x1]) (st := [.int ((S.2.2.1 15) ((S.1 1403) + x1).toNatClampNeg)]) (st' := [.int (st_ch 8 x1), .int ((S.2.2.1 15) ((S.1 1403) + x1).toNatClampNeg)]) hC dX9_isWord_41 ⟨mw_349, mw_352, mw_340, yd_yJ0_charAt_5068e, yp_yJ0_charAt_5068e, Nat.le_of_ble_eq_true rfl, Nat.le_of_ble_eq_true rfl, Nat.le_of_ble_eq_true rfl, Nat.le_of_ble_eq_true rfl⟩ mw_350 mw_351 (by decide : 8 < 11) rfl rfl (Nat.le_of_ble_eq_true rfl) (c_charAt (x_l X) (x_D X) (x_q X) g (x_cy X) (x_z X) _ layX layX_ok (by decide : 8 < 11) h4) rfl rfl ?_
          refine go_icmp_eq (tgt := 49) (pc' := 47) hC dX9_isWord_44 (by decide) rfl (fun h5 => ?_) (fun h5 => ?_)
          · have hf := ite_t h5 hf
            refine go_iinc (lc' := [(0, .ref (x_q X 14)), (1, .ref ((x_z X).1 8)), (2, .int (x1 + (1 : Int32)))]) (pc' := 52) hC dX9_isWord_49 rfl ki_1 (Nat.le_of_ble_eq_true rfl) rfl rfl ?_
            refine go_goto (tgt := 20) hC dX9_isWord_52 (by decide) ?_
            exact ih (x1 + (1 : Int32)) hf
          · have hf := ite_f h5 hf
            refine go_iconst (pc' := 48) hC dX9_isWord_47 ki_0 rfl ?_
            obtain rfl := Option.some.inj hf
            exact go_iret hC hQ dX9_isWord_48 rfl rfl rfl rfl (fun _ => rfl) rfl rfl
    exact l20_7 fuel (0 : Int32) hf
  · have hf := ite_f h8 hf
    refine go_iconst (pc' := 17) hC dX9_isWord_16 ki_0 rfl ?_
    obtain rfl := Option.some.inj hf
    exact go_iret hC hQ dX9_isWord_17 rfl rfl rfl rfl (fun _ => rfl) rfl rfl
abbrev o_X9_isWord_q14_str9 : Type := Int32
def f_X9_isWord_q14_str9_L20 (S : wd_W) (r2 : (Int32) → (Option o_X9_isWord_q14_str9)) (x1 : Int32) : Option o_X9_isWord_q14_str9 :=
if (3 : Int32) ≤ x1 then (
some (1 : Int32)) else (
gd (okx ((S.1 1403) + x1) 400) <|
gd (okx x1 3) <|
if ((S.2.2.1 15) ((S.1 1403) + x1).toNatClampNeg) = (st_ch 9 x1) then (
r2 (x1 + (1 : Int32))) else (
some (0 : Int32)))
def f_X9_isWord_q14_str9 (S : wd_W) : Option o_X9_isWord_q14_str9 :=
if ((S.1 1402) - (S.1 1403)) = (3 : Int32) then (
it1 (f_X9_isWord_q14_str9_L20 S) fuel (0 : Int32)) else (
some (0 : Int32))
set_option maxRecDepth 100000 in
set_option maxHeartbeats 4000000 in
theorem c_X9_isWord_q14_str9 (l : Launch) (D : va_G) (q g : Nat → Nat) (cy : Nat → ClassId) (z : (Nat → Nat) × (Nat → Nat) × Nat) (S : wd_W) (o : o_X9_isWord_q14_str9) (hf : f_X9_isWord_q14_str9 S = some o) : MX layX l yX9_isWord cX9_isWord 3 (some .boolean) ({ frames := 4, cells := 0, slots := 0, locals := 85 } : Room) D q g cy z [.ref (q 14), .ref (z.1 9)] S false (some (.int o)) (wd_o S [] [] [] [] []) 0 0 := by
  refine mx_of (own := RX9) (lc := [(0, .ref (q 14)), (1, .ref (z.1 9))]) (by decide +kernel) rfl layX_ok (Nat.le_of_ble_eq_true rfl) rfl ?_
  intro X hXl hXq hXz hC hQ
  subst hXl; subst hXq; subst hXz
  unfold f_X9_isWord_q14_str9 at hf
  refine go_aload_n (pc' := 1) hC dX9_isWord_0 rfl rfl ?_
  refine go_geti (v := (S.1 1402)) (pc' := 4) hC 14 2 layX_14 rfl rfl inlX9 (Nat.le_of_ble_eq_true rfl) mw_302 rfl dX9_isWord_1 rfl rfl ?_
  refine go_aload_n (pc' := 5) hC dX9_isWord_4 rfl rfl ?_
  refine go_geti (v := (S.1 1403)) (pc' := 8) hC 14 3 layX_14 rfl rfl inlX9 (Nat.le_of_ble_eq_true rfl) mw_323 rfl dX9_isWord_5 rfl rfl ?_
  refine go_isub (pc' := 9) hC dX9_isWord_8 rfl ?_
  refine go_aload_n (pc' := 10) hC dX9_isWord_9 rfl rfl ?_
  refine go_callVs0 (pc' := 13) (As := []) (st := [.int ((S.1 1402) - (S.1 1403))]) (st' := [.int (3 : Int32), .int ((S.1 1402) - (S.1 1403))]) hC dX9_isWord_10 ⟨mw_337, mw_341, mw_340, yd_yJ0_length_8abf5, yp_yJ0_length_8abf5, Nat.le_of_ble_eq_true rfl, Nat.le_of_ble_eq_true rfl, Nat.le_of_ble_eq_true rfl, Nat.le_of_ble_eq_true rfl⟩ mw_338 mw_339 (by decide : 9 < 11) rfl rfl (Nat.le_of_ble_eq_true rfl) (c_strlen (x_l X) (x_D X) (x_q X) g (x_cy X) (x_z X) _ layX layX_ok (by decide : 9 < 11) (by decide : Int32.ofNat (st_len.getD 9 0) >>> ((0 : Int32) &&& 31) = 3)) rfl rfl ?_
  refine go_icmp_eq (tgt := 18) (pc' := 16) hC dX9_isWord_13 (by decide) rfl (fun h8 => ?_) (fun h8 => ?_)
  · have hf := ite_t h8 hf
    refine go_iconst (pc' := 19) hC dX9_isWord_18 ki_0 rfl ?_
    refine go_istore_n (lc' := [(0, .ref (x_q X 14)), (1, .ref ((x_z X).1 9)), (2, .int (0 : Int32))]) (pc' := 20) hC dX9_isWord_19 (Nat.le_of_ble_eq_true rfl) rfl rfl ?_
    have l20_7 : ∀ (nn : Nat) (x1 : Int32), it1 (f_X9_isWord_q14_str9_L20 S) nn x1 = some o → Go X layX S 20 [(0, .ref (x_q X 14)), (1, .ref ((x_z X).1 9)), (2, .int x1)] [] g [] [] [] [] [] 0 0 := by
      intro nn
      induction nn with
      | zero =>
        intro x1 hf
        exact none_no hf
      | succ nn ih =>
        intro x1 hf
        have hf : f_X9_isWord_q14_str9_L20 S (it1 (f_X9_isWord_q14_str9_L20 S) nn) x1 = some o := hf
        generalize it1 (f_X9_isWord_q14_str9_L20 S) nn = r2 at ih hf
        unfold f_X9_isWord_q14_str9_L20 at hf
        refine go_iload_n (pc' := 21) hC dX9_isWord_20 rfl rfl ?_
        refine go_aload_n (pc' := 22) hC dX9_isWord_21 rfl rfl ?_
        refine go_callVs0 (pc' := 25) (As := []) (st := [.int x1]) (st' := [.int (3 : Int32), .int x1]) hC dX9_isWord_22 ⟨mw_337, mw_341, mw_340, yd_yJ0_length_8abf5, yp_yJ0_length_8abf5, Nat.le_of_ble_eq_true rfl, Nat.le_of_ble_eq_true rfl, Nat.le_of_ble_eq_true rfl, Nat.le_of_ble_eq_true rfl⟩ mw_338 mw_339 (by decide : 9 < 11) rfl rfl (Nat.le_of_ble_eq_true rfl) (c_strlen (x_l X) (x_D X) (x_q X) g (x_cy X) (x_z X) _ layX layX_ok (by decide : 9 < 11) (by decide : Int32.ofNat (st_len.getD 9 0) >>> ((0 : Int32) &&& 31) = 3)) rfl rfl ?_
        refine go_icmp_ge (tgt := 55) (pc' := 28) hC dX9_isWord_25 (by decide) rfl (fun h6 => ?_) (fun h6 => ?_)
        · have hf := ite_t h6 hf
          refine go_iconst (pc' := 56) hC dX9_isWord_55 ki_1 rfl ?_
          obtain rfl := Option.some.inj hf
          exact go_iret hC hQ dX9_isWord_56 rfl rfl rfl rfl (fun _ => rfl) rfl rfl
        · have hf := ite_f h6 hf
          refine go_aload_n (pc' := 29) hC dX9_isWord_28 rfl rfl ?_
          refine go_getq (pc' := 32) hC 14 1 layX_14 rfl rfl inlX9 (Nat.le_of_ble_eq_true rfl) mw_75 rfl dX9_isWord_29 rfl ?_
          refine go_aload_n (pc' := 33) hC dX9_isWord_32 rfl rfl ?_
          refine go_geti (v := (S.1 1403)) (pc' := 36) hC 14 3 layX_14 rfl rfl inlX9 (Nat.le_of_ble_eq_true rfl) mw_323 rfl dX9_isWord_33 rfl rfl ?_
          refine go_iload_n (pc' := 37) hC dX9_isWord_36 rfl rfl ?_
          refine go_iadd (pc' := 38) hC dX9_isWord_37 rfl ?_
          obtain ⟨h3, hf⟩ := gd_e hf
          refine go_iald (f := (S.2.2.1 15)) (pc' := 39) hC 15 layX_15 rfl rfl dX9_isWord_38 (okx_in h3) rfl ?_
          refine go_aload_n (pc' := 40) hC dX9_isWord_39 rfl rfl ?_
          refine go_iload_n (pc' := 41) hC dX9_isWord_40 rfl rfl ?_
          obtain ⟨h4, hf⟩ := gd_e hf
          refine go_callVs0 (pc' := 44) (As := [.int x1]) (st := [.int ((S.2.2.1 15) ((S.1 1403) + x1).toNatClampNeg)]) (st' := [.int (st_ch 9 x1), .int ((S.2.2.1 15) ((S.1 1403) + x1).toNatClampNeg)]) hC dX9_isWord_41 ⟨mw_349, mw_352, mw_340, yd_yJ0_charAt_5068e, yp_yJ0_charAt_5068e, Nat.le_of_ble_eq_true rfl, Nat.le_of_ble_eq_true rfl, Nat.le_of_ble_eq_true rfl, Nat.le_of_ble_eq_true rfl⟩ mw_350 mw_351 (by decide : 9 < 11) rfl rfl (Nat.le_of_ble_eq_true rfl) (c_charAt (x_l X) (x_D X) (x_q X) g (x_cy X) (x_z X) _ layX layX_ok (by decide : 9 < 11) h4) rfl rfl ?_
          refine go_icmp_eq (tgt := 49) (pc' := 47) hC dX9_isWord_44 (by decide) rfl (fun h5 => ?_) (fun h5 => ?_)
          · have hf := ite_t h5 hf
            refine go_iinc (lc' := [(0, .ref (x_q X 14)), (1, .ref ((x_z X).1 9)), (2, .int (x1 + (1 : Int32)))]) (pc' := 52) hC dX9_isWord_49 rfl ki_1 (Nat.le_of_ble_eq_true rfl) rfl rfl ?_
            refine go_goto (tgt := 20) hC dX9_isWord_52 (by decide) ?_
            exact ih (x1 + (1 : Int32)) hf
          · have hf := ite_f h5 hf
            refine go_iconst (pc' := 48) hC dX9_isWord_47 ki_0 rfl ?_
            obtain rfl := Option.some.inj hf
            exact go_iret hC hQ dX9_isWord_48 rfl rfl rfl rfl (fun _ => rfl) rfl rfl
    exact l20_7 fuel (0 : Int32) hf
  · have hf := ite_f h8 hf
    refine go_iconst (pc' := 17) hC dX9_isWord_16 ki_0 rfl ?_
    obtain rfl := Option.some.inj hf
    exact go_iret hC hQ dX9_isWord_17 rfl rfl rfl rfl (fun _ => rfl) rfl rfl
abbrev o_X9_isWord_q14_str10 : Type := Int32
def f_X9_isWord_q14_str10_L20 (S : wd_W) (r2 : (Int32) → (Option o_X9_isWord_q14_str10)) (x1 : Int32) : Option o_X9_isWord_q14_str10 :=
if (3 : Int32) ≤ x1 then (
some (1 : Int32)) else (
gd (okx ((S.1 1403) + x1) 400) <|
gd (okx x1 3) <|
if ((S.2.2.1 15) ((S.1 1403) + x1).toNatClampNeg) = (st_ch 10 x1) then (
r2 (x1 + (1 : Int32))) else (
some (0 : Int32)))
def f_X9_isWord_q14_str10 (S : wd_W) : Option o_X9_isWord_q14_str10 :=
if ((S.1 1402) - (S.1 1403)) = (3 : Int32) then (
it1 (f_X9_isWord_q14_str10_L20 S) fuel (0 : Int32)) else (
some (0 : Int32))
set_option maxRecDepth 100000 in
set_option maxHeartbeats 4000000 in
theorem c_X9_isWord_q14_str10 (l : Launch) (D : va_G) (q g : Nat → Nat) (cy : Nat → ClassId) (z : (Nat → Nat) × (Nat → Nat) × Nat) (S : wd_W) (o : o_X9_isWord_q14_str10) (hf : f_X9_isWord_q14_str10 S = some o) : MX layX l yX9_isWord cX9_isWord 3 (some .boolean) ({ frames := 4, cells := 0, slots := 0, locals := 85 } : Room) D q g cy z [.ref (q 14), .ref (z.1 10)] S false (some (.int o)) (wd_o S [] [] [] [] []) 0 0 := by
  refine mx_of (own := RX9) (lc := [(0, .ref (q 14)), (1, .ref (z.1 10))]) (by decide +kernel) rfl layX_ok (Nat.le_of_ble_eq_true rfl) rfl ?_
  intro X hXl hXq hXz hC hQ
  subst hXl; subst hXq; subst hXz
  unfold f_X9_isWord_q14_str10 at hf
  refine go_aload_n (pc' := 1) hC dX9_isWord_0 rfl rfl ?_
  refine go_geti (v := (S.1 1402)) (pc' := 4) hC 14 2 layX_14 rfl rfl inlX9 (Nat.le_of_ble_eq_true rfl) mw_302 rfl dX9_isWord_1 rfl rfl ?_
  refine go_aload_n (pc' := 5) hC dX9_isWord_4 rfl rfl ?_
  refine go_geti (v := (S.1 1403)) (pc' := 8) hC 14 3 layX_14 rfl rfl inlX9 (Nat.le_of_ble_eq_true rfl) mw_323 rfl dX9_isWord_5 rfl rfl ?_
  refine go_isub (pc' := 9) hC dX9_isWord_8 rfl ?_
  refine go_aload_n (pc' := 10) hC dX9_isWord_9 rfl rfl ?_
  refine go_callVs0 (pc' := 13) (As := []) (st := [.int ((S.1 1402) - (S.1 1403))]) (st' := [.int (3 : Int32), .int ((S.1 1402) - (S.1 1403))]) hC dX9_isWord_10 ⟨mw_337, mw_341, mw_340, yd_yJ0_length_8abf5, yp_yJ0_length_8abf5, Nat.le_of_ble_eq_true rfl, Nat.le_of_ble_eq_true rfl, Nat.le_of_ble_eq_true rfl, Nat.le_of_ble_eq_true rfl⟩ mw_338 mw_339 (by decide : 10 < 11) rfl rfl (Nat.le_of_ble_eq_true rfl) (c_strlen (x_l X) (x_D X) (x_q X) g (x_cy X) (x_z X) _ layX layX_ok (by decide : 10 < 11) (by decide : Int32.ofNat (st_len.getD 10 0) >>> ((0 : Int32) &&& 31) = 3)) rfl rfl ?_
  refine go_icmp_eq (tgt := 18) (pc' := 16) hC dX9_isWord_13 (by decide) rfl (fun h8 => ?_) (fun h8 => ?_)
  · have hf := ite_t h8 hf
    refine go_iconst (pc' := 19) hC dX9_isWord_18 ki_0 rfl ?_
    refine go_istore_n (lc' := [(0, .ref (x_q X 14)), (1, .ref ((x_z X).1 10)), (2, .int (0 : Int32))]) (pc' := 20) hC dX9_isWord_19 (Nat.le_of_ble_eq_true rfl) rfl rfl ?_
    have l20_7 : ∀ (nn : Nat) (x1 : Int32), it1 (f_X9_isWord_q14_str10_L20 S) nn x1 = some o → Go X layX S 20 [(0, .ref (x_q X 14)), (1, .ref ((x_z X).1 10)), (2, .int x1)] [] g [] [] [] [] [] 0 0 := by
      intro nn
      induction nn with
      | zero =>
        intro x1 hf
        exact none_no hf
      | succ nn ih =>
        intro x1 hf
        have hf : f_X9_isWord_q14_str10_L20 S (it1 (f_X9_isWord_q14_str10_L20 S) nn) x1 = some o := hf
        generalize it1 (f_X9_isWord_q14_str10_L20 S) nn = r2 at ih hf
        unfold f_X9_isWord_q14_str10_L20 at hf
        refine go_iload_n (pc' := 21) hC dX9_isWord_20 rfl rfl ?_
        refine go_aload_n (pc' := 22) hC dX9_isWord_21 rfl rfl ?_
        refine go_callVs0 (pc' := 25) (As := []) (st := [.int x1]) (st' := [.int (3 : Int32), .int x1]) hC dX9_isWord_22 ⟨mw_337, mw_341, mw_340, yd_yJ0_length_8abf5, yp_yJ0_length_8abf5, Nat.le_of_ble_eq_true rfl, Nat.le_of_ble_eq_true rfl, Nat.le_of_ble_eq_true rfl, Nat.le_of_ble_eq_true rfl⟩ mw_338 mw_339 (by decide : 10 < 11) rfl rfl (Nat.le_of_ble_eq_true rfl) (c_strlen (x_l X) (x_D X) (x_q X) g (x_cy X) (x_z X) _ layX layX_ok (by decide : 10 < 11) (by decide : Int32.ofNat (st_len.getD 10 0) >>> ((0 : Int32) &&& 31) = 3)) rfl rfl ?_
        refine go_icmp_ge (tgt := 55) (pc' := 28) hC dX9_isWord_25 (by decide) rfl (fun h6 => ?_) (fun h6 => ?_)
        · have hf := ite_t h6 hf
          refine go_iconst (pc' := 56) hC dX9_isWord_55 ki_1 rfl ?_
          obtain rfl := Option.some.inj hf
          exact go_iret hC hQ dX9_isWord_56 rfl rfl rfl rfl (fun _ => rfl) rfl rfl
        · have hf := ite_f h6 hf
          refine go_aload_n (pc' := 29) hC dX9_isWord_28 rfl rfl ?_
          refine go_getq (pc' := 32) hC 14 1 layX_14 rfl rfl inlX9 (Nat.le_of_ble_eq_true rfl) mw_75 rfl dX9_isWord_29 rfl ?_
          refine go_aload_n (pc' := 33) hC dX9_isWord_32 rfl rfl ?_
          refine go_geti (v := (S.1 1403)) (pc' := 36) hC 14 3 layX_14 rfl rfl inlX9 (Nat.le_of_ble_eq_true rfl) mw_323 rfl dX9_isWord_33 rfl rfl ?_
          refine go_iload_n (pc' := 37) hC dX9_isWord_36 rfl rfl ?_
          refine go_iadd (pc' := 38) hC dX9_isWord_37 rfl ?_
          obtain ⟨h3, hf⟩ := gd_e hf
          refine go_iald (f := (S.2.2.1 15)) (pc' := 39) hC 15 layX_15 rfl rfl dX9_isWord_38 (okx_in h3) rfl ?_
          refine go_aload_n (pc' := 40) hC dX9_isWord_39 rfl rfl ?_
          refine go_iload_n (pc' := 41) hC dX9_isWord_40 rfl rfl ?_
          obtain ⟨h4, hf⟩ := gd_e hf
          refine go_callVs0 (pc' := 44) (As := [.int x1]) (st := [.int ((S.2.2.1 15) ((S.1 1403) + x1).toNatClampNeg)]) (st' := [.int (st_ch 10 x1), .int ((S.2.2.1 15) ((S.1 1403) + x1).toNatClampNeg)]) hC dX9_isWord_41 ⟨mw_349, mw_352, mw_340, yd_yJ0_charAt_5068e, yp_yJ0_charAt_5068e, Nat.le_of_ble_eq_true rfl, Nat.le_of_ble_eq_true rfl, Nat.le_of_ble_eq_true rfl, Nat.le_of_ble_eq_true rfl⟩ mw_350 mw_351 (by decide : 10 < 11) rfl rfl (Nat.le_of_ble_eq_true rfl) (c_charAt (x_l X) (x_D X) (x_q X) g (x_cy X) (x_z X) _ layX layX_ok (by decide : 10 < 11) h4) rfl rfl ?_
          refine go_icmp_eq (tgt := 49) (pc' := 47) hC dX9_isWord_44 (by decide) rfl (fun h5 => ?_) (fun h5 => ?_)
          · have hf := ite_t h5 hf
            refine go_iinc (lc' := [(0, .ref (x_q X 14)), (1, .ref ((x_z X).1 10)), (2, .int (x1 + (1 : Int32)))]) (pc' := 52) hC dX9_isWord_49 rfl ki_1 (Nat.le_of_ble_eq_true rfl) rfl rfl ?_
            refine go_goto (tgt := 20) hC dX9_isWord_52 (by decide) ?_
            exact ih (x1 + (1 : Int32)) hf
          · have hf := ite_f h5 hf
            refine go_iconst (pc' := 48) hC dX9_isWord_47 ki_0 rfl ?_
            obtain rfl := Option.some.inj hf
            exact go_iret hC hQ dX9_isWord_48 rfl rfl rfl rfl (fun _ => rfl) rfl rfl
    exact l20_7 fuel (0 : Int32) hf
  · have hf := ite_f h8 hf
    refine go_iconst (pc' := 17) hC dX9_isWord_16 ki_0 rfl ?_
    obtain rfl := Option.some.inj hf
    exact go_iret hC hQ dX9_isWord_17 rfl rfl rfl rfl (fun _ => rfl) rfl rfl
theorem dX9_readWhat_0 : decode cX9_readWhat 0 = .ok (.aload_n 0, 1) := by decide +kernel
theorem dX9_readWhat_1 : decode cX9_readWhat 1 = .ok (.invokevirtual 80, 3) := by decide +kernel
theorem dX9_readWhat_4 : decode cX9_readWhat 4 = .ok (.aload_n 0, 1) := by decide +kernel
theorem dX9_readWhat_5 : decode cX9_readWhat 5 = .ok (.ldc 125, 2) := by decide +kernel
theorem dX9_readWhat_7 : decode cX9_readWhat 7 = .ok (.invokevirtual 84, 3) := by decide +kernel
theorem dX9_readWhat_10 : decode cX9_readWhat 10 = .ok (.ifCond .eq 5, 3) := by decide +kernel
theorem dX9_readWhat_13 : decode cX9_readWhat 13 = .ok (.iconst 0, 1) := by decide +kernel
theorem dX9_readWhat_14 : decode cX9_readWhat 14 = .ok (.ireturn, 1) := by decide +kernel
theorem dX9_readWhat_15 : decode cX9_readWhat 15 = .ok (.aload_n 0, 1) := by decide +kernel
theorem dX9_readWhat_16 : decode cX9_readWhat 16 = .ok (.ldc 155, 2) := by decide +kernel
theorem dX9_readWhat_18 : decode cX9_readWhat 18 = .ok (.invokevirtual 84, 3) := by decide +kernel
theorem dX9_readWhat_21 : decode cX9_readWhat 21 = .ok (.ifCond .eq 5, 3) := by decide +kernel
theorem dX9_readWhat_24 : decode cX9_readWhat 24 = .ok (.iconst 2, 1) := by decide +kernel
theorem dX9_readWhat_25 : decode cX9_readWhat 25 = .ok (.ireturn, 1) := by decide +kernel
theorem dX9_readWhat_26 : decode cX9_readWhat 26 = .ok (.aload_n 0, 1) := by decide +kernel
theorem dX9_readWhat_27 : decode cX9_readWhat 27 = .ok (.ldc 127, 2) := by decide +kernel
theorem dX9_readWhat_29 : decode cX9_readWhat 29 = .ok (.invokevirtual 84, 3) := by decide +kernel
theorem dX9_readWhat_32 : decode cX9_readWhat 32 = .ok (.ifCond .eq 5, 3) := by decide +kernel
theorem dX9_readWhat_35 : decode cX9_readWhat 35 = .ok (.iconst 3, 1) := by decide +kernel
theorem dX9_readWhat_36 : decode cX9_readWhat 36 = .ok (.ireturn, 1) := by decide +kernel
theorem dX9_readWhat_37 : decode cX9_readWhat 37 = .ok (.aload_n 0, 1) := by decide +kernel
theorem dX9_readWhat_38 : decode cX9_readWhat 38 = .ok (.ldc 157, 2) := by decide +kernel
theorem dX9_readWhat_40 : decode cX9_readWhat 40 = .ok (.invokevirtual 84, 3) := by decide +kernel
theorem dX9_readWhat_43 : decode cX9_readWhat 43 = .ok (.ifCond .eq 5, 3) := by decide +kernel
theorem dX9_readWhat_46 : decode cX9_readWhat 46 = .ok (.iconst 4, 1) := by decide +kernel
theorem dX9_readWhat_47 : decode cX9_readWhat 47 = .ok (.ireturn, 1) := by decide +kernel
theorem dX9_readWhat_48 : decode cX9_readWhat 48 = .ok (.aload_n 0, 1) := by decide +kernel
theorem dX9_readWhat_49 : decode cX9_readWhat 49 = .ok (.ldc 159, 2) := by decide +kernel
theorem dX9_readWhat_51 : decode cX9_readWhat 51 = .ok (.invokevirtual 84, 3) := by decide +kernel
theorem dX9_readWhat_54 : decode cX9_readWhat 54 = .ok (.ifCond .ne 12, 3) := by decide +kernel
theorem dX9_readWhat_57 : decode cX9_readWhat 57 = .ok (.aload_n 0, 1) := by decide +kernel
theorem dX9_readWhat_58 : decode cX9_readWhat 58 = .ok (.aload_n 0, 1) := by decide +kernel
theorem dX9_readWhat_59 : decode cX9_readWhat 59 = .ok (.getfield 55, 3) := by decide +kernel
theorem dX9_readWhat_62 : decode cX9_readWhat 62 = .ok (.iconst 0, 1) := by decide +kernel
theorem dX9_readWhat_63 : decode cX9_readWhat 63 = .ok (.invokevirtual 45, 3) := by decide +kernel
theorem dX9_readWhat_66 : decode cX9_readWhat 66 = .ok (.iconst 1, 1) := by decide +kernel
theorem dX9_readWhat_67 : decode cX9_readWhat 67 = .ok (.ireturn, 1) := by decide +kernel
abbrev o_X9_readWhat_q14 : Type := Int32 × Int32 × Int32 × Int32
def f_X9_readWhat_q14 (S : wd_W) : Option o_X9_readWhat_q14 :=
bd (f_X9_readWord_q14 (wd_o S [(1402, (S.1 1402)), (1403, (S.1 1403)), (1404, (S.1 1404))] [] [] [] [])) fun o1 =>
bd (f_X9_isWord_q14_str2 (wd_o S [(1402, o1.1), (1403, o1.2), (1404, (S.1 1404))] [] [] [] [])) fun o2 =>
if o2 = 0 then (
bd (f_X9_isWord_q14_str8 (wd_o S [(1402, o1.1), (1403, o1.2), (1404, (S.1 1404))] [] [] [] [])) fun o3 =>
if o3 = 0 then (
bd (f_X9_isWord_q14_str3 (wd_o S [(1402, o1.1), (1403, o1.2), (1404, (S.1 1404))] [] [] [] [])) fun o4 =>
if o4 = 0 then (
bd (f_X9_isWord_q14_str9 (wd_o S [(1402, o1.1), (1403, o1.2), (1404, (S.1 1404))] [] [] [] [])) fun o5 =>
if o5 = 0 then (
bd (f_X9_isWord_q14_str10 (wd_o S [(1402, o1.1), (1403, o1.2), (1404, (S.1 1404))] [] [] [] [])) fun o6 =>
if o6 = 0 then (
bd (f_X9_blame_q14 (wd_o S [(1402, o1.1), (1403, o1.2), (1404, (S.1 1404))] [] [] [] []) o1.2 (0 : Int32)) fun o7 =>
some ((1 : Int32), o1.1, o1.2, o7)) else (
some ((1 : Int32), o1.1, o1.2, (S.1 1404)))) else (
some ((4 : Int32), o1.1, o1.2, (S.1 1404)))) else (
some ((3 : Int32), o1.1, o1.2, (S.1 1404)))) else (
some ((2 : Int32), o1.1, o1.2, (S.1 1404)))) else (
some ((0 : Int32), o1.1, o1.2, (S.1 1404)))
set_option maxRecDepth 100000 in
set_option maxHeartbeats 4000000 in
theorem c_X9_readWhat_q14 (l : Launch) (D : va_G) (q g : Nat → Nat) (cy : Nat → ClassId) (z : (Nat → Nat) × (Nat → Nat) × Nat) (S : wd_W) (o : o_X9_readWhat_q14) (hf : f_X9_readWhat_q14 S = some o) : MX layX l yX9_readWhat cX9_readWhat 1 (some .int) ({ frames := 5, cells := 0, slots := 0, locals := 107 } : Room) D q g cy z [.ref (q 14)] S false (some (.int o.1)) (wd_o S [(1402, o.2.1), (1403, o.2.2.1), (1404, o.2.2.2)] [] [] [] []) 0 0 := by
  refine mx_of (own := RX9) (lc := [(0, .ref (q 14))]) (by decide +kernel) rfl layX_ok (Nat.le_of_ble_eq_true rfl) rfl ?_
  intro X hXl hXq hXz hC hQ
  subst hXl; subst hXq; subst hXz
  unfold f_X9_readWhat_q14 at hf
  refine go_keys (L1 := [(1402, (S.1 1402)), (1403, (S.1 1403)), (1404, (S.1 1404))]) (L2 := []) (L3 := []) (L4 := []) (L5 := []) [1402, 1403, 1404] [] [] [] [] rfl rfl rfl rfl rfl ?_
  refine go_aload_n (pc' := 1) hC dX9_readWhat_0 rfl rfl ?_
  obtain ⟨o1, ho1, hf⟩ := bd_e hf
  refine go_callV1 (pc' := 4) (As := []) (st := []) (st' := []) (L1' := [(1402, o1.1), (1403, o1.2), (1404, (S.1 1404))]) (L2' := []) (L3' := []) (L4' := []) (L5' := []) (cells' := 0) (slots' := 0)  (b := 14) hC dX9_readWhat_1 ⟨mw_325, mw_328, mw_18, yd_yX9_readWord, yp_yX9_readWord, Nat.le_of_ble_eq_true rfl, Nat.le_of_ble_eq_true rfl, (Nat.le_of_ble_eq_true rfl), (Nat.le_of_ble_eq_true rfl)⟩ mw_326 mw_327 layX_14 rfl rfl rfl (Nat.le_of_ble_eq_true rfl) (c_X9_readWord_q14 (x_l X) (x_D X) (x_q X) g (x_cy X) (x_z X) _  o1 ho1) rfl rfl rfl rfl rfl rfl rfl rfl rfl rfl rfl rfl rfl rfl ?_
  refine go_aload_n (pc' := 5) hC dX9_readWhat_4 rfl rfl ?_
  refine go_ldcS (pc' := 7) hC 2 dX9_readWhat_5 rfl rfl rfl ?_
  obtain ⟨o2, ho2, hf⟩ := bd_e hf
  refine go_callV0 (pc' := 10) (As := [.ref ((x_z X).1 2)]) (st := []) (st' := [.int o2])    (b := 14) hC dX9_readWhat_7 ⟨mw_333, mw_336, mw_18, yd_yX9_isWord, yp_yX9_isWord, Nat.le_of_ble_eq_true rfl, Nat.le_of_ble_eq_true rfl, (Nat.le_of_ble_eq_true rfl), (Nat.le_of_ble_eq_true rfl)⟩ mw_334 mw_335 layX_14 rfl rfl rfl (Nat.le_of_ble_eq_true rfl) (c_X9_isWord_q14_str2 (x_l X) (x_D X) (x_q X) g (x_cy X) (x_z X) _  o2 ho2) rfl rfl ?_
  refine go_if_eq (tgt := 15) (pc' := 13) hC dX9_readWhat_10 (by decide) rfl (fun h12 => ?_) (fun h12 => ?_)
  · have hf := ite_t h12 hf
    refine go_aload_n (pc' := 16) hC dX9_readWhat_15 rfl rfl ?_
    refine go_ldcS (pc' := 18) hC 8 dX9_readWhat_16 rfl rfl rfl ?_
    obtain ⟨o3, ho3, hf⟩ := bd_e hf
    refine go_callV0 (pc' := 21) (As := [.ref ((x_z X).1 8)]) (st := []) (st' := [.int o3])    (b := 14) hC dX9_readWhat_18 ⟨mw_333, mw_336, mw_18, yd_yX9_isWord, yp_yX9_isWord, Nat.le_of_ble_eq_true rfl, Nat.le_of_ble_eq_true rfl, (Nat.le_of_ble_eq_true rfl), (Nat.le_of_ble_eq_true rfl)⟩ mw_334 mw_335 layX_14 rfl rfl rfl (Nat.le_of_ble_eq_true rfl) (c_X9_isWord_q14_str8 (x_l X) (x_D X) (x_q X) g (x_cy X) (x_z X) _  o3 ho3) rfl rfl ?_
    refine go_if_eq (tgt := 26) (pc' := 24) hC dX9_readWhat_21 (by decide) rfl (fun h11 => ?_) (fun h11 => ?_)
    · have hf := ite_t h11 hf
      refine go_aload_n (pc' := 27) hC dX9_readWhat_26 rfl rfl ?_
      refine go_ldcS (pc' := 29) hC 3 dX9_readWhat_27 rfl rfl rfl ?_
      obtain ⟨o4, ho4, hf⟩ := bd_e hf
      refine go_callV0 (pc' := 32) (As := [.ref ((x_z X).1 3)]) (st := []) (st' := [.int o4])    (b := 14) hC dX9_readWhat_29 ⟨mw_333, mw_336, mw_18, yd_yX9_isWord, yp_yX9_isWord, Nat.le_of_ble_eq_true rfl, Nat.le_of_ble_eq_true rfl, (Nat.le_of_ble_eq_true rfl), (Nat.le_of_ble_eq_true rfl)⟩ mw_334 mw_335 layX_14 rfl rfl rfl (Nat.le_of_ble_eq_true rfl) (c_X9_isWord_q14_str3 (x_l X) (x_D X) (x_q X) g (x_cy X) (x_z X) _  o4 ho4) rfl rfl ?_
      refine go_if_eq (tgt := 37) (pc' := 35) hC dX9_readWhat_32 (by decide) rfl (fun h10 => ?_) (fun h10 => ?_)
      · have hf := ite_t h10 hf
        refine go_aload_n (pc' := 38) hC dX9_readWhat_37 rfl rfl ?_
        refine go_ldcS (pc' := 40) hC 9 dX9_readWhat_38 rfl rfl rfl ?_
        obtain ⟨o5, ho5, hf⟩ := bd_e hf
        refine go_callV0 (pc' := 43) (As := [.ref ((x_z X).1 9)]) (st := []) (st' := [.int o5])    (b := 14) hC dX9_readWhat_40 ⟨mw_333, mw_336, mw_18, yd_yX9_isWord, yp_yX9_isWord, Nat.le_of_ble_eq_true rfl, Nat.le_of_ble_eq_true rfl, (Nat.le_of_ble_eq_true rfl), (Nat.le_of_ble_eq_true rfl)⟩ mw_334 mw_335 layX_14 rfl rfl rfl (Nat.le_of_ble_eq_true rfl) (c_X9_isWord_q14_str9 (x_l X) (x_D X) (x_q X) g (x_cy X) (x_z X) _  o5 ho5) rfl rfl ?_
        refine go_if_eq (tgt := 48) (pc' := 46) hC dX9_readWhat_43 (by decide) rfl (fun h9 => ?_) (fun h9 => ?_)
        · have hf := ite_t h9 hf
          refine go_aload_n (pc' := 49) hC dX9_readWhat_48 rfl rfl ?_
          refine go_ldcS (pc' := 51) hC 10 dX9_readWhat_49 rfl rfl rfl ?_
          obtain ⟨o6, ho6, hf⟩ := bd_e hf
          refine go_callV0 (pc' := 54) (As := [.ref ((x_z X).1 10)]) (st := []) (st' := [.int o6])    (b := 14) hC dX9_readWhat_51 ⟨mw_333, mw_336, mw_18, yd_yX9_isWord, yp_yX9_isWord, Nat.le_of_ble_eq_true rfl, Nat.le_of_ble_eq_true rfl, (Nat.le_of_ble_eq_true rfl), (Nat.le_of_ble_eq_true rfl)⟩ mw_334 mw_335 layX_14 rfl rfl rfl (Nat.le_of_ble_eq_true rfl) (c_X9_isWord_q14_str10 (x_l X) (x_D X) (x_q X) g (x_cy X) (x_z X) _  o6 ho6) rfl rfl ?_
          refine go_if_ne (tgt := 66) (pc' := 57) hC dX9_readWhat_54 (by decide) rfl (fun h8 => ?_) (fun h8 => ?_)
          · have hf := ite_f h8 hf
            refine go_iconst (pc' := 67) hC dX9_readWhat_66 ki_1 rfl ?_
            obtain rfl := Option.some.inj hf
            exact go_iret hC hQ dX9_readWhat_67 rfl rfl rfl rfl (fun _ => rfl) rfl rfl
          · have hf := ite_t h8 hf
            refine go_aload_n (pc' := 58) hC dX9_readWhat_57 rfl rfl ?_
            refine go_aload_n (pc' := 59) hC dX9_readWhat_58 rfl rfl ?_
            refine go_geti (v := o1.2) (pc' := 62) hC 14 3 layX_14 rfl rfl inlX9 (Nat.le_of_ble_eq_true rfl) mw_323 rfl dX9_readWhat_59 rfl rfl ?_
            refine go_iconst (pc' := 63) hC dX9_readWhat_62 ki_0 rfl ?_
            obtain ⟨o7, ho7, hf⟩ := bd_e hf
            refine go_callV1 (pc' := 66) (As := [.int o1.2, .int (0 : Int32)]) (st := []) (st' := []) (L1' := [(1402, o1.1), (1403, o1.2), (1404, o7)]) (L2' := []) (L3' := []) (L4' := []) (L5' := []) (cells' := 0) (slots' := 0)  (b := 14) hC dX9_readWhat_63 ⟨mw_386, mw_389, mw_18, yd_yX9_blame, yp_yX9_blame, Nat.le_of_ble_eq_true rfl, Nat.le_of_ble_eq_true rfl, (Nat.le_of_ble_eq_true rfl), (Nat.le_of_ble_eq_true rfl)⟩ mw_387 mw_388 layX_14 rfl rfl rfl (Nat.le_of_ble_eq_true rfl) (c_X9_blame_q14 (x_l X) (x_D X) (x_q X) g (x_cy X) (x_z X) _ o1.2 (0 : Int32) o7 ho7) rfl rfl rfl rfl rfl rfl rfl rfl rfl rfl rfl rfl rfl rfl ?_
            refine go_iconst (pc' := 67) hC dX9_readWhat_66 ki_1 rfl ?_
            obtain rfl := Option.some.inj hf
            exact go_iret hC hQ dX9_readWhat_67 rfl rfl rfl rfl (fun _ => rfl) rfl rfl
        · have hf := ite_f h9 hf
          refine go_iconst (pc' := 47) hC dX9_readWhat_46 ki_4 rfl ?_
          obtain rfl := Option.some.inj hf
          exact go_iret hC hQ dX9_readWhat_47 rfl rfl rfl rfl (fun _ => rfl) rfl rfl
      · have hf := ite_f h10 hf
        refine go_iconst (pc' := 36) hC dX9_readWhat_35 ki_3 rfl ?_
        obtain rfl := Option.some.inj hf
        exact go_iret hC hQ dX9_readWhat_36 rfl rfl rfl rfl (fun _ => rfl) rfl rfl
    · have hf := ite_f h11 hf
      refine go_iconst (pc' := 25) hC dX9_readWhat_24 ki_2 rfl ?_
      obtain rfl := Option.some.inj hf
      exact go_iret hC hQ dX9_readWhat_25 rfl rfl rfl rfl (fun _ => rfl) rfl rfl
  · have hf := ite_f h12 hf
    refine go_iconst (pc' := 14) hC dX9_readWhat_13 ki_0 rfl ?_
    obtain rfl := Option.some.inj hf
    exact go_iret hC hQ dX9_readWhat_14 rfl rfl rfl rfl (fun _ => rfl) rfl rfl
theorem dX9_readThrough_0 : decode cX9_readThrough 0 = .ok (.aload_n 0, 1) := by decide +kernel
theorem dX9_readThrough_1 : decode cX9_readThrough 1 = .ok (.getfield 34, 3) := by decide +kernel
theorem dX9_readThrough_4 : decode cX9_readThrough 4 = .ok (.ifCond .eq 12, 3) := by decide +kernel
theorem dX9_readThrough_7 : decode cX9_readThrough 7 = .ok (.aload_n 0, 1) := by decide +kernel
theorem dX9_readThrough_8 : decode cX9_readThrough 8 = .ok (.aload_n 0, 1) := by decide +kernel
theorem dX9_readThrough_9 : decode cX9_readThrough 9 = .ok (.getfield 55, 3) := by decide +kernel
theorem dX9_readThrough_12 : decode cX9_readThrough 12 = .ok (.iconst 2, 1) := by decide +kernel
theorem dX9_readThrough_13 : decode cX9_readThrough 13 = .ok (.invokevirtual 45, 3) := by decide +kernel
theorem dX9_readThrough_16 : decode cX9_readThrough 16 = .ok (.aload_n 0, 1) := by decide +kernel
theorem dX9_readThrough_17 : decode cX9_readThrough 17 = .ok (.iconst 1, 1) := by decide +kernel
theorem dX9_readThrough_18 : decode cX9_readThrough 18 = .ok (.putfield 34, 3) := by decide +kernel
theorem dX9_readThrough_21 : decode cX9_readThrough 21 = .ok (.aload_n 0, 1) := by decide +kernel
theorem dX9_readThrough_22 : decode cX9_readThrough 22 = .ok (.invokevirtual 148, 3) := by decide +kernel
theorem dX9_readThrough_25 : decode cX9_readThrough 25 = .ok (.istore_n 1, 1) := by decide +kernel
theorem dX9_readThrough_26 : decode cX9_readThrough 26 = .ok (.iconst 0, 1) := by decide +kernel
theorem dX9_readThrough_27 : decode cX9_readThrough 27 = .ok (.istore_n 2, 1) := by decide +kernel
theorem dX9_readThrough_28 : decode cX9_readThrough 28 = .ok (.iload_n 1, 1) := by decide +kernel
theorem dX9_readThrough_29 : decode cX9_readThrough 29 = .ok (.iconst 2, 1) := by decide +kernel
theorem dX9_readThrough_30 : decode cX9_readThrough 30 = .ok (.if_icmp .eq 8, 3) := by decide +kernel
theorem dX9_readThrough_33 : decode cX9_readThrough 33 = .ok (.iload_n 1, 1) := by decide +kernel
theorem dX9_readThrough_34 : decode cX9_readThrough 34 = .ok (.iconst 3, 1) := by decide +kernel
theorem dX9_readThrough_35 : decode cX9_readThrough 35 = .ok (.if_icmp .ne 26, 3) := by decide +kernel
theorem dX9_readThrough_38 : decode cX9_readThrough 38 = .ok (.aload_n 0, 1) := by decide +kernel
theorem dX9_readThrough_39 : decode cX9_readThrough 39 = .ok (.iconst 1, 1) := by decide +kernel
theorem dX9_readThrough_40 : decode cX9_readThrough 40 = .ok (.iload_n 1, 1) := by decide +kernel
theorem dX9_readThrough_41 : decode cX9_readThrough 41 = .ok (.iconst 2, 1) := by decide +kernel
theorem dX9_readThrough_42 : decode cX9_readThrough 42 = .ok (.if_icmp .ne 13, 3) := by decide +kernel
theorem dX9_readThrough_45 : decode cX9_readThrough 45 = .ok (.aload_n 0, 1) := by decide +kernel
theorem dX9_readThrough_46 : decode cX9_readThrough 46 = .ok (.getfield 15, 3) := by decide +kernel
theorem dX9_readThrough_49 : decode cX9_readThrough 49 = .ok (.getfield 74, 3) := by decide +kernel
theorem dX9_readThrough_52 : decode cX9_readThrough 52 = .ok (.goto 5, 3) := by decide +kernel
theorem dX9_readThrough_55 : decode cX9_readThrough 55 = .ok (.bipush 99, 2) := by decide +kernel
theorem dX9_readThrough_57 : decode cX9_readThrough 57 = .ok (.invokevirtual 77, 3) := by decide +kernel
theorem dX9_readThrough_60 : decode cX9_readThrough 60 = .ok (.istore_n 2, 1) := by decide +kernel
theorem dX9_readThrough_61 : decode cX9_readThrough 61 = .ok (.iload_n 1, 1) := by decide +kernel
theorem dX9_readThrough_62 : decode cX9_readThrough 62 = .ok (.iconst 1, 1) := by decide +kernel
theorem dX9_readThrough_63 : decode cX9_readThrough 63 = .ok (.if_icmp .ne 7, 3) := by decide +kernel
theorem dX9_readThrough_66 : decode cX9_readThrough 66 = .ok (.iconst 0, 1) := by decide +kernel
theorem dX9_readThrough_67 : decode cX9_readThrough 67 = .ok (.goto 8, 3) := by decide +kernel
theorem dX9_readThrough_70 : decode cX9_readThrough 70 = .ok (.aload_n 0, 1) := by decide +kernel
theorem dX9_readThrough_71 : decode cX9_readThrough 71 = .ok (.iconst (-1), 1) := by decide +kernel
theorem dX9_readThrough_72 : decode cX9_readThrough 72 = .ok (.invokevirtual 118, 3) := by decide +kernel
theorem dX9_readThrough_75 : decode cX9_readThrough 75 = .ok (.istore_n 3, 1) := by decide +kernel
theorem dX9_readThrough_76 : decode cX9_readThrough 76 = .ok (.iload_n 1, 1) := by decide +kernel
theorem dX9_readThrough_77 : decode cX9_readThrough 77 = .ok (.iconst 1, 1) := by decide +kernel
theorem dX9_readThrough_78 : decode cX9_readThrough 78 = .ok (.if_icmp .eq 8, 3) := by decide +kernel
theorem dX9_readThrough_81 : decode cX9_readThrough 81 = .ok (.iload_n 1, 1) := by decide +kernel
theorem dX9_readThrough_82 : decode cX9_readThrough 82 = .ok (.iconst 2, 1) := by decide +kernel
theorem dX9_readThrough_83 : decode cX9_readThrough 83 = .ok (.if_icmp .ne 7, 3) := by decide +kernel
theorem dX9_readThrough_86 : decode cX9_readThrough 86 = .ok (.iconst 0, 1) := by decide +kernel
theorem dX9_readThrough_87 : decode cX9_readThrough 87 = .ok (.goto 8, 3) := by decide +kernel
theorem dX9_readThrough_90 : decode cX9_readThrough 90 = .ok (.aload_n 0, 1) := by decide +kernel
theorem dX9_readThrough_91 : decode cX9_readThrough 91 = .ok (.iload_n 3, 1) := by decide +kernel
theorem dX9_readThrough_92 : decode cX9_readThrough 92 = .ok (.invokevirtual 118, 3) := by decide +kernel
theorem dX9_readThrough_95 : decode cX9_readThrough 95 = .ok (.istore 4, 2) := by decide +kernel
theorem dX9_readThrough_97 : decode cX9_readThrough 97 = .ok (.aload_n 0, 1) := by decide +kernel
theorem dX9_readThrough_98 : decode cX9_readThrough 98 = .ok (.getfield 15, 3) := by decide +kernel
theorem dX9_readThrough_101 : decode cX9_readThrough 101 = .ok (.iload_n 1, 1) := by decide +kernel
theorem dX9_readThrough_102 : decode cX9_readThrough 102 = .ok (.iload_n 2, 1) := by decide +kernel
theorem dX9_readThrough_103 : decode cX9_readThrough 103 = .ok (.iload_n 3, 1) := by decide +kernel
theorem dX9_readThrough_104 : decode cX9_readThrough 104 = .ok (.iload 4, 2) := by decide +kernel
theorem dX9_readThrough_106 : decode cX9_readThrough 106 = .ok (.invokevirtual 151, 3) := by decide +kernel
theorem dX9_readThrough_109 : decode cX9_readThrough 109 = .ok (.return_, 1) := by decide +kernel
abbrev o_X9_readThrough_q14 : Type := Int32 × Int32 × Int32 × Int32 × Int32 × Int32 × Int32 × Int32
def f_X9_readThrough_q14 (S : wd_W) : Option o_X9_readThrough_q14 :=
lk (fun x1 =>
bd (f_X9_readWhat_q14 (wd_o S [(314, (S.1 314)), (315, (S.1 315)), (316, (S.1 316)), (317, (S.1 317)), (1402, (S.1 1402)), (1403, (S.1 1403)), (1404, x1), (1405, (1 : Int32))] [] [] [] [])) fun o3 =>
lk (fun x4 x5 x6 x7 =>
lk (fun x9 x10 x11 x12 =>
lk (fun x14 x15 x16 x17 =>
bd (f_X2_countBy_q3 (wd_o S [(314, (S.1 314)), (315, (S.1 315)), (316, (S.1 316)), (317, (S.1 317)), (1402, x15), (1403, x16), (1404, x17), (1405, (1 : Int32))] [] [] [] []) o3.1 x4 x9 x14) fun o19 =>
some (o19.1, o19.2.1, o19.2.2.1, o19.2.2.2, x15, x16, x17, (1 : Int32))) fun k95_18 =>
lk (k95_18 (0 : Int32) x10 x11 x12) fun k86_20 =>
if o3.1 = (1 : Int32) then (
k86_20) else (
if o3.1 = (2 : Int32) then (
k86_20) else (
bd (f_X9_readPlace_q14 (wd_o S [(314, (S.1 314)), (315, (S.1 315)), (316, (S.1 316)), (317, (S.1 317)), (1402, x10), (1403, x11), (1404, x12), (1405, (1 : Int32))] [] [] [] []) x9) fun o21 =>
k95_18 o21.1 o21.2.1 o21.2.2.1 o21.2.2.2))) fun k75_13 =>
if o3.1 = (1 : Int32) then (
k75_13 (0 : Int32) x5 x6 x7) else (
bd (f_X9_readPlace_q14 (wd_o S [(314, (S.1 314)), (315, (S.1 315)), (316, (S.1 316)), (317, (S.1 317)), (1402, x5), (1403, x6), (1404, x7), (1405, (1 : Int32))] [] [] [] []) (-1 : Int32)) fun o24 =>
k75_13 o24.1 o24.2.1 o24.2.2.1 o24.2.2.2)) fun k61_8 =>
lk (lk (fun x27 x28 =>
bd (f_X9_readNumber_q14 (wd_o S [(314, (S.1 314)), (315, (S.1 315)), (316, (S.1 316)), (317, (S.1 317)), (1402, o3.2.1), (1403, o3.2.2.1), (1404, o3.2.2.2), (1405, (1 : Int32))] [] [] [] []) x28 x27) fun o30 =>
k61_8 o30.1 o30.2.1 o30.2.2.1 o30.2.2.2) fun k57_29 =>
if o3.1 = (2 : Int32) then (
k57_29 (S.1 300) (1 : Int32)) else (
k57_29 (99 : Int32) (1 : Int32))) fun k38_26 =>
if o3.1 = (2 : Int32) then (
k38_26) else (
if o3.1 = (3 : Int32) then (
k38_26) else (
k61_8 (0 : Int32) o3.2.1 o3.2.2.1 o3.2.2.2))) fun k16_2 =>
if (S.1 1405) = 0 then (
k16_2 (S.1 1404)) else (
bd (f_X9_blame_q14 (wd_o S [(314, (S.1 314)), (315, (S.1 315)), (316, (S.1 316)), (317, (S.1 317)), (1402, (S.1 1402)), (1403, (S.1 1403)), (1404, (S.1 1404)), (1405, (S.1 1405))] [] [] [] []) (S.1 1403) (2 : Int32)) fun o34 =>
k16_2 o34)
set_option maxRecDepth 100000 in
set_option maxHeartbeats 4000000 in
theorem c_X9_readThrough_q14 (l : Launch) (D : va_G) (q g : Nat → Nat) (cy : Nat → ClassId) (z : (Nat → Nat) × (Nat → Nat) × Nat) (S : wd_W) (o : o_X9_readThrough_q14) (hf : f_X9_readThrough_q14 S = some o) : MX layX l yX9_readThrough cX9_readThrough 5 none ({ frames := 6, cells := 0, slots := 0, locals := 127 } : Room) D q g cy z [.ref (q 14)] S false (none) (wd_o S [(314, o.1), (315, o.2.1), (316, o.2.2.1), (317, o.2.2.2.1), (1402, o.2.2.2.2.1), (1403, o.2.2.2.2.2.1), (1404, o.2.2.2.2.2.2.1), (1405, o.2.2.2.2.2.2.2)] [] [] [] []) 0 0 := by
  refine mx_of (own := RX9) (lc := [(0, .ref (q 14))]) (by decide +kernel) rfl layX_ok (Nat.le_of_ble_eq_true rfl) rfl ?_
  intro X hXl hXq hXz hC hQ
  subst hXl; subst hXq; subst hXz
  unfold f_X9_readThrough_q14 at hf
  refine go_keys (L1 := [(314, (S.1 314)), (315, (S.1 315)), (316, (S.1 316)), (317, (S.1 317)), (1402, (S.1 1402)), (1403, (S.1 1403)), (1404, (S.1 1404)), (1405, (S.1 1405))]) (L2 := []) (L3 := []) (L4 := []) (L5 := []) [314, 315, 316, 317, 1402, 1403, 1404, 1405] [] [] [] [] rfl rfl rfl rfl rfl ?_
  refine go_aload_n (pc' := 1) hC dX9_readThrough_0 rfl rfl ?_
  refine go_geti (v := (S.1 1405)) (pc' := 4) hC 14 5 layX_14 rfl rfl inlX9 (Nat.le_of_ble_eq_true rfl) mw_304 rfl dX9_readThrough_1 rfl rfl ?_
  obtain ⟨k16_2, hk16_2, hf⟩ := lk_e1 hf
  have jk16_2 : ∀ (x1 : Int32), k16_2 x1 = some o → Go X layX S 16 [(0, .ref (x_q X 14))] [] g [(314, (S.1 314)), (315, (S.1 315)), (316, (S.1 316)), (317, (S.1 317)), (1402, (S.1 1402)), (1403, (S.1 1403)), (1404, x1), (1405, (S.1 1405))] [] [] [] [] 0 0 := by
    intro x1 hf
    have hf := hk16_2 x1 hf
    clear hk16_2
    refine go_aload_n (pc' := 17) hC dX9_readThrough_16 rfl rfl ?_
    refine go_iconst (pc' := 18) hC dX9_readThrough_17 ki_1 rfl ?_
    refine go_puti (L1' := [(314, (S.1 314)), (315, (S.1 315)), (316, (S.1 316)), (317, (S.1 317)), (1402, (S.1 1402)), (1403, (S.1 1403)), (1404, x1), (1405, (1 : Int32))]) (pc' := 21) hC 14 5 layX_14 rfl rfl inlX9 tyX9_ok nmX9 (Nat.le_of_ble_eq_true rfl) mw_304 rfl rfl rfl rfl dX9_readThrough_18 rfl rfl rfl ?_
    refine go_aload_n (pc' := 22) hC dX9_readThrough_21 rfl rfl ?_
    obtain ⟨o3, ho3, hf⟩ := bd_e hf
    refine go_callV1 (pc' := 25) (As := []) (st := []) (st' := [.int o3.1]) (L1' := [(314, (S.1 314)), (315, (S.1 315)), (316, (S.1 316)), (317, (S.1 317)), (1402, o3.2.1), (1403, o3.2.2.1), (1404, o3.2.2.2), (1405, (1 : Int32))]) (L2' := []) (L3' := []) (L4' := []) (L5' := []) (cells' := 0) (slots' := 0)  (b := 14) hC dX9_readThrough_22 ⟨mw_456, mw_459, mw_18, yd_yX9_readWhat, yp_yX9_readWhat, Nat.le_of_ble_eq_true rfl, Nat.le_of_ble_eq_true rfl, (Nat.le_of_ble_eq_true rfl), (Nat.le_of_ble_eq_true rfl)⟩ mw_457 mw_458 layX_14 rfl rfl rfl (Nat.le_of_ble_eq_true rfl) (c_X9_readWhat_q14 (x_l X) (x_D X) (x_q X) g (x_cy X) (x_z X) _  o3 ho3) rfl rfl rfl rfl rfl rfl rfl rfl rfl rfl rfl rfl rfl rfl ?_
    refine go_istore_n (lc' := [(0, .ref (x_q X 14)), (1, .int o3.1)]) (pc' := 26) hC dX9_readThrough_25 (Nat.le_of_ble_eq_true rfl) rfl rfl ?_
    refine go_iconst (pc' := 27) hC dX9_readThrough_26 ki_0 rfl ?_
    refine go_istore_n (lc' := [(0, .ref (x_q X 14)), (1, .int o3.1), (2, .int (0 : Int32))]) (pc' := 28) hC dX9_readThrough_27 (Nat.le_of_ble_eq_true rfl) rfl rfl ?_
    refine go_iload_n (pc' := 29) hC dX9_readThrough_28 rfl rfl ?_
    refine go_iconst (pc' := 30) hC dX9_readThrough_29 ki_2 rfl ?_
    obtain ⟨k61_8, hk61_8, hf⟩ := lk_e4 hf
    have jk61_8 : ∀ (x4 : Int32) (x5 : Int32) (x6 : Int32) (x7 : Int32), k61_8 x4 x5 x6 x7 = some o → Go X layX S 61 [(0, .ref (x_q X 14)), (1, .int o3.1), (2, .int x4)] [] g [(314, (S.1 314)), (315, (S.1 315)), (316, (S.1 316)), (317, (S.1 317)), (1402, x5), (1403, x6), (1404, x7), (1405, (1 : Int32))] [] [] [] [] 0 0 := by
      intro x4 x5 x6 x7 hf
      have hf := hk61_8 x4 x5 x6 x7 hf
      clear hk61_8
      refine go_iload_n (pc' := 62) hC dX9_readThrough_61 rfl rfl ?_
      refine go_iconst (pc' := 63) hC dX9_readThrough_62 ki_1 rfl ?_
      obtain ⟨k75_13, hk75_13, hf⟩ := lk_e4 hf
      have jk75_13 : ∀ (x9 : Int32) (x10 : Int32) (x11 : Int32) (x12 : Int32), k75_13 x9 x10 x11 x12 = some o → Go X layX S 75 [(0, .ref (x_q X 14)), (1, .int o3.1), (2, .int x4)] [.int x9] g [(314, (S.1 314)), (315, (S.1 315)), (316, (S.1 316)), (317, (S.1 317)), (1402, x10), (1403, x11), (1404, x12), (1405, (1 : Int32))] [] [] [] [] 0 0 := by
        intro x9 x10 x11 x12 hf
        have hf := hk75_13 x9 x10 x11 x12 hf
        clear hk75_13
        refine go_istore_n (lc' := [(0, .ref (x_q X 14)), (1, .int o3.1), (2, .int x4), (3, .int x9)]) (pc' := 76) hC dX9_readThrough_75 (Nat.le_of_ble_eq_true rfl) rfl rfl ?_
        refine go_iload_n (pc' := 77) hC dX9_readThrough_76 rfl rfl ?_
        refine go_iconst (pc' := 78) hC dX9_readThrough_77 ki_1 rfl ?_
        obtain ⟨k95_18, hk95_18, hf⟩ := lk_e4 hf
        have jk95_18 : ∀ (x14 : Int32) (x15 : Int32) (x16 : Int32) (x17 : Int32), k95_18 x14 x15 x16 x17 = some o → Go X layX S 95 [(0, .ref (x_q X 14)), (1, .int o3.1), (2, .int x4), (3, .int x9)] [.int x14] g [(314, (S.1 314)), (315, (S.1 315)), (316, (S.1 316)), (317, (S.1 317)), (1402, x15), (1403, x16), (1404, x17), (1405, (1 : Int32))] [] [] [] [] 0 0 := by
          intro x14 x15 x16 x17 hf
          have hf := hk95_18 x14 x15 x16 x17 hf
          clear hk95_18
          refine go_istore (lc' := [(0, .ref (x_q X 14)), (1, .int o3.1), (2, .int x4), (3, .int x9), (4, .int x14)]) (pc' := 97) hC dX9_readThrough_95 (Nat.le_of_ble_eq_true rfl) rfl rfl ?_
          refine go_aload_n (pc' := 98) hC dX9_readThrough_97 rfl rfl ?_
          refine go_getq (pc' := 101) hC 14 6 layX_14 rfl rfl inlX9 (Nat.le_of_ble_eq_true rfl) mw_76 rfl dX9_readThrough_98 rfl ?_
          refine go_iload_n (pc' := 102) hC dX9_readThrough_101 rfl rfl ?_
          refine go_iload_n (pc' := 103) hC dX9_readThrough_102 rfl rfl ?_
          refine go_iload_n (pc' := 104) hC dX9_readThrough_103 rfl rfl ?_
          refine go_iload (pc' := 106) hC dX9_readThrough_104 rfl rfl ?_
          obtain ⟨o19, ho19, hf⟩ := bd_e hf
          refine go_callV1 (pc' := 109) (As := [.int o3.1, .int x4, .int x9, .int x14]) (st := []) (st' := []) (L1' := [(314, o19.1), (315, o19.2.1), (316, o19.2.2.1), (317, o19.2.2.2), (1402, x15), (1403, x16), (1404, x17), (1405, (1 : Int32))]) (L2' := []) (L3' := []) (L4' := []) (L5' := []) (cells' := 0) (slots' := 0)  (b := 3) hC dX9_readThrough_106 ⟨mw_460, mw_315, mw_14, yd_yX2_countBy, yp_yX2_countBy, Nat.le_of_ble_eq_true rfl, Nat.le_of_ble_eq_true rfl, (Nat.le_of_ble_eq_true rfl), (Nat.le_of_ble_eq_true rfl)⟩ mw_313 mw_314 layX_3 rfl rfl rfl (Nat.le_of_ble_eq_true rfl) (c_X2_countBy_q3 (x_l X) (x_D X) (x_q X) g (x_cy X) (x_z X) _ o3.1 x4 x9 x14 o19 ho19) rfl rfl rfl rfl rfl rfl rfl rfl rfl rfl rfl rfl rfl rfl ?_
          obtain rfl := Option.some.inj hf
          exact go_vret hC hQ dX9_readThrough_109 rfl rfl rfl (fun _ => rfl) rfl rfl
        clear hk95_18
        obtain ⟨k86_20, hk86_20, hf⟩ := lk_e0 hf
        have jk86_20 : ∀ (_ : Unit), k86_20 = some o → Go X layX S 86 [(0, .ref (x_q X 14)), (1, .int o3.1), (2, .int x4), (3, .int x9)] [] g [(314, (S.1 314)), (315, (S.1 315)), (316, (S.1 316)), (317, (S.1 317)), (1402, x10), (1403, x11), (1404, x12), (1405, (1 : Int32))] [] [] [] [] 0 0 := by
          intro _ hf
          have hf := hk86_20 hf
          clear hk86_20
          refine go_iconst (pc' := 87) hC dX9_readThrough_86 ki_0 rfl ?_
          refine go_goto (tgt := 95) hC dX9_readThrough_87 (by decide) ?_
          exact jk95_18 (0 : Int32) x10 x11 x12 hf
        clear hk86_20
        refine go_icmp_eq (tgt := 86) (pc' := 81) hC dX9_readThrough_78 (by decide) rfl (fun h23 => ?_) (fun h23 => ?_)
        · have hf := ite_t h23 hf
          exact jk86_20 () hf
        · have hf := ite_f h23 hf
          refine go_iload_n (pc' := 82) hC dX9_readThrough_81 rfl rfl ?_
          refine go_iconst (pc' := 83) hC dX9_readThrough_82 ki_2 rfl ?_
          refine go_icmp_ne (tgt := 90) (pc' := 86) hC dX9_readThrough_83 (by decide) rfl (fun h22 => ?_) (fun h22 => ?_)
          · have hf := ite_f h22 hf
            refine go_aload_n (pc' := 91) hC dX9_readThrough_90 rfl rfl ?_
            refine go_iload_n (pc' := 92) hC dX9_readThrough_91 rfl rfl ?_
            obtain ⟨o21, ho21, hf⟩ := bd_e hf
            refine go_callV1 (pc' := 95) (As := [.int x9]) (st := []) (st' := [.int o21.1]) (L1' := [(314, (S.1 314)), (315, (S.1 315)), (316, (S.1 316)), (317, (S.1 317)), (1402, o21.2.1), (1403, o21.2.2.1), (1404, o21.2.2.2), (1405, (1 : Int32))]) (L2' := []) (L3' := []) (L4' := []) (L5' := []) (cells' := 0) (slots' := 0)  (b := 14) hC dX9_readThrough_92 ⟨mw_419, mw_422, mw_18, yd_yX9_readPlace, yp_yX9_readPlace, Nat.le_of_ble_eq_true rfl, Nat.le_of_ble_eq_true rfl, (Nat.le_of_ble_eq_true rfl), (Nat.le_of_ble_eq_true rfl)⟩ mw_420 mw_421 layX_14 rfl rfl rfl (Nat.le_of_ble_eq_true rfl) (c_X9_readPlace_q14 (x_l X) (x_D X) (x_q X) g (x_cy X) (x_z X) _ x9 o21 ho21) rfl rfl rfl rfl rfl rfl rfl rfl rfl rfl rfl rfl rfl rfl ?_
            exact jk95_18 o21.1 o21.2.1 o21.2.2.1 o21.2.2.2 hf
          · have hf := ite_t h22 hf
            exact jk86_20 () hf
      clear hk75_13
      refine go_icmp_ne (tgt := 70) (pc' := 66) hC dX9_readThrough_63 (by decide) rfl (fun h25 => ?_) (fun h25 => ?_)
      · have hf := ite_f h25 hf
        refine go_aload_n (pc' := 71) hC dX9_readThrough_70 rfl rfl ?_
        refine go_iconst (pc' := 72) hC dX9_readThrough_71 ki_m1 rfl ?_
        obtain ⟨o24, ho24, hf⟩ := bd_e hf
        refine go_callV1 (pc' := 75) (As := [.int (-1 : Int32)]) (st := []) (st' := [.int o24.1]) (L1' := [(314, (S.1 314)), (315, (S.1 315)), (316, (S.1 316)), (317, (S.1 317)), (1402, o24.2.1), (1403, o24.2.2.1), (1404, o24.2.2.2), (1405, (1 : Int32))]) (L2' := []) (L3' := []) (L4' := []) (L5' := []) (cells' := 0) (slots' := 0)  (b := 14) hC dX9_readThrough_72 ⟨mw_419, mw_422, mw_18, yd_yX9_readPlace, yp_yX9_readPlace, Nat.le_of_ble_eq_true rfl, Nat.le_of_ble_eq_true rfl, (Nat.le_of_ble_eq_true rfl), (Nat.le_of_ble_eq_true rfl)⟩ mw_420 mw_421 layX_14 rfl rfl rfl (Nat.le_of_ble_eq_true rfl) (c_X9_readPlace_q14 (x_l X) (x_D X) (x_q X) g (x_cy X) (x_z X) _ (-1 : Int32) o24 ho24) rfl rfl rfl rfl rfl rfl rfl rfl rfl rfl rfl rfl rfl rfl ?_
        exact jk75_13 o24.1 o24.2.1 o24.2.2.1 o24.2.2.2 hf
      · have hf := ite_t h25 hf
        refine go_iconst (pc' := 67) hC dX9_readThrough_66 ki_0 rfl ?_
        refine go_goto (tgt := 75) hC dX9_readThrough_67 (by decide) ?_
        exact jk75_13 (0 : Int32) x5 x6 x7 hf
    clear hk61_8
    obtain ⟨k38_26, hk38_26, hf⟩ := lk_e0 hf
    have jk38_26 : ∀ (_ : Unit), k38_26 = some o → Go X layX S 38 [(0, .ref (x_q X 14)), (1, .int o3.1)] [] g [(314, (S.1 314)), (315, (S.1 315)), (316, (S.1 316)), (317, (S.1 317)), (1402, o3.2.1), (1403, o3.2.2.1), (1404, o3.2.2.2), (1405, (1 : Int32))] [] [] [] [] 0 0 := by
      intro _ hf
      have hf := hk38_26 hf
      clear hk38_26
      refine go_aload_n (pc' := 39) hC dX9_readThrough_38 rfl rfl ?_
      refine go_iconst (pc' := 40) hC dX9_readThrough_39 ki_1 rfl ?_
      refine go_iload_n (pc' := 41) hC dX9_readThrough_40 rfl rfl ?_
      refine go_iconst (pc' := 42) hC dX9_readThrough_41 ki_2 rfl ?_
      obtain ⟨k57_29, hk57_29, hf⟩ := lk_e2 hf
      have jk57_29 : ∀ (x27 : Int32) (x28 : Int32), k57_29 x27 x28 = some o → Go X layX S 57 [(0, .ref (x_q X 14)), (1, .int o3.1)] [.int x27, .int x28, .ref (x_q X 14)] g [(314, (S.1 314)), (315, (S.1 315)), (316, (S.1 316)), (317, (S.1 317)), (1402, o3.2.1), (1403, o3.2.2.1), (1404, o3.2.2.2), (1405, (1 : Int32))] [] [] [] [] 0 0 := by
        intro x27 x28 hf
        have hf := hk57_29 x27 x28 hf
        clear hk57_29
        obtain ⟨o30, ho30, hf⟩ := bd_e hf
        refine go_callV1 (pc' := 60) (As := [.int x28, .int x27]) (st := []) (st' := [.int o30.1]) (L1' := [(314, (S.1 314)), (315, (S.1 315)), (316, (S.1 316)), (317, (S.1 317)), (1402, o30.2.1), (1403, o30.2.2.1), (1404, o30.2.2.2), (1405, (1 : Int32))]) (L2' := []) (L3' := []) (L4' := []) (L5' := []) (cells' := 0) (slots' := 0)  (b := 14) hC dX9_readThrough_57 ⟨mw_390, mw_393, mw_18, yd_yX9_readNumber, yp_yX9_readNumber, Nat.le_of_ble_eq_true rfl, Nat.le_of_ble_eq_true rfl, (Nat.le_of_ble_eq_true rfl), (Nat.le_of_ble_eq_true rfl)⟩ mw_391 mw_392 layX_14 rfl rfl rfl (Nat.le_of_ble_eq_true rfl) (c_X9_readNumber_q14 (x_l X) (x_D X) (x_q X) g (x_cy X) (x_z X) _ x28 x27 o30 ho30) rfl rfl rfl rfl rfl rfl rfl rfl rfl rfl rfl rfl rfl rfl ?_
        refine go_istore_n (lc' := [(0, .ref (x_q X 14)), (1, .int o3.1), (2, .int o30.1)]) (pc' := 61) hC dX9_readThrough_60 (Nat.le_of_ble_eq_true rfl) rfl rfl ?_
        exact jk61_8 o30.1 o30.2.1 o30.2.2.1 o30.2.2.2 hf
      clear hk57_29
      refine go_icmp_ne (tgt := 55) (pc' := 45) hC dX9_readThrough_42 (by decide) rfl (fun h31 => ?_) (fun h31 => ?_)
      · have hf := ite_f h31 hf
        refine go_bipush (pc' := 57) hC dX9_readThrough_55 kb_99 rfl ?_
        exact jk57_29 (99 : Int32) (1 : Int32) hf
      · have hf := ite_t h31 hf
        refine go_aload_n (pc' := 46) hC dX9_readThrough_45 rfl rfl ?_
        refine go_getq (pc' := 49) hC 14 6 layX_14 rfl rfl inlX9 (Nat.le_of_ble_eq_true rfl) mw_76 rfl dX9_readThrough_46 rfl ?_
        refine go_geti (v := (S.1 300)) (pc' := 52) hC 3 0 layX_3 rfl rfl inlX2 (Nat.le_of_ble_eq_true rfl) mw_324 rfl dX9_readThrough_49 rfl rfl ?_
        refine go_goto (tgt := 57) hC dX9_readThrough_52 (by decide) ?_
        exact jk57_29 (S.1 300) (1 : Int32) hf
    clear hk38_26
    refine go_icmp_eq (tgt := 38) (pc' := 33) hC dX9_readThrough_30 (by decide) rfl (fun h33 => ?_) (fun h33 => ?_)
    · have hf := ite_t h33 hf
      refine go_sub [0, 1] rfl ?_
      exact jk38_26 () hf
    · have hf := ite_f h33 hf
      refine go_iload_n (pc' := 34) hC dX9_readThrough_33 rfl rfl ?_
      refine go_iconst (pc' := 35) hC dX9_readThrough_34 ki_3 rfl ?_
      refine go_icmp_ne (tgt := 61) (pc' := 38) hC dX9_readThrough_35 (by decide) rfl (fun h32 => ?_) (fun h32 => ?_)
      · have hf := ite_f h32 hf
        exact jk61_8 (0 : Int32) o3.2.1 o3.2.2.1 o3.2.2.2 hf
      · have hf := ite_t h32 hf
        refine go_sub [0, 1] rfl ?_
        exact jk38_26 () hf
  clear hk16_2
  refine go_if_eq (tgt := 16) (pc' := 7) hC dX9_readThrough_4 (by decide) rfl (fun h35 => ?_) (fun h35 => ?_)
  · have hf := ite_t h35 hf
    exact jk16_2 (S.1 1404) hf
  · have hf := ite_f h35 hf
    refine go_aload_n (pc' := 8) hC dX9_readThrough_7 rfl rfl ?_
    refine go_aload_n (pc' := 9) hC dX9_readThrough_8 rfl rfl ?_
    refine go_geti (v := (S.1 1403)) (pc' := 12) hC 14 3 layX_14 rfl rfl inlX9 (Nat.le_of_ble_eq_true rfl) mw_323 rfl dX9_readThrough_9 rfl rfl ?_
    refine go_iconst (pc' := 13) hC dX9_readThrough_12 ki_2 rfl ?_
    obtain ⟨o34, ho34, hf⟩ := bd_e hf
    refine go_callV1 (pc' := 16) (As := [.int (S.1 1403), .int (2 : Int32)]) (st := []) (st' := []) (L1' := [(314, (S.1 314)), (315, (S.1 315)), (316, (S.1 316)), (317, (S.1 317)), (1402, (S.1 1402)), (1403, (S.1 1403)), (1404, o34), (1405, (S.1 1405))]) (L2' := []) (L3' := []) (L4' := []) (L5' := []) (cells' := 0) (slots' := 0)  (b := 14) hC dX9_readThrough_13 ⟨mw_386, mw_389, mw_18, yd_yX9_blame, yp_yX9_blame, Nat.le_of_ble_eq_true rfl, Nat.le_of_ble_eq_true rfl, (Nat.le_of_ble_eq_true rfl), (Nat.le_of_ble_eq_true rfl)⟩ mw_387 mw_388 layX_14 rfl rfl rfl (Nat.le_of_ble_eq_true rfl) (c_X9_blame_q14 (x_l X) (x_D X) (x_q X) g (x_cy X) (x_z X) _ (S.1 1403) (2 : Int32) o34 ho34) rfl rfl rfl rfl rfl rfl rfl rfl rfl rfl rfl rfl rfl rfl ?_
    exact jk16_2 o34 hf
