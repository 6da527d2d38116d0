abbrev o_X2_copyOf_q16_q67 : Type := Int32 × Int32 × Int32 × Int32 × Int32 × Int32 × Int32 × Int32 × (Nat → Int32) × (Nat → Int32) × (Nat → Int32) × (Nat → Int32) × (Nat → Int32) × (Nat → Int32) × (Nat → Int32) × (Nat → Int32) × (Nat → Int32) × (Nat → Int32)
def f_X2_copyOf_q16_q67 (S : wd_W) : Option o_X2_copyOf_q16_q67 :=
lz ((S.1 6700)) fun x1 =>
lz ((S.1 6701)) fun x2 =>
lz ((S.1 6707)) fun x3 =>
lz ((S.1 6710)) fun x4 =>
bd (f_X2_countBy_q16 (wd_o S [(1600, x1), (1601, x2), (1607, x3), (1610, x4), (1614, (S.1 1614)), (1615, (S.1 1615)), (1616, (S.1 1616)), (1617, (S.1 1617))] [] [(17, (S.2.2.1 17)), (18, (S.2.2.1 18)), (19, (S.2.2.1 19)), (20, (S.2.2.1 20)), (21, (S.2.2.1 21)), (22, (S.2.2.1 22)), (23, (S.2.2.1 23)), (24, (S.2.2.1 24)), (25, (S.2.2.1 25)), (26, (S.2.2.1 26))] [] []) (S.1 6714) (S.1 6715) (S.1 6716) (S.1 6717)) fun o5 =>
some (x1, x2, x3, x4, o5.1, o5.2.1, o5.2.2.1, o5.2.2.2, (va_cpy (S.2.2.1 68) (S.2.2.1 17) 0 0 13), (va_cpy (S.2.2.1 69) (S.2.2.1 18) 0 0 13), (va_cpy (S.2.2.1 70) (S.2.2.1 19) 0 0 13), (va_cpy (S.2.2.1 71) (S.2.2.1 20) 0 0 13), (va_cpy (S.2.2.1 72) (S.2.2.1 21) 0 0 13), (va_cpy (S.2.2.1 73) (S.2.2.1 22) 0 0 10), (va_cpy (S.2.2.1 74) (S.2.2.1 23) 0 0 10), (va_cpy (S.2.2.1 75) (S.2.2.1 24) 0 0 3), (va_cpy (S.2.2.1 76) (S.2.2.1 25) 0 0 3), (va_cpy (S.2.2.1 77) (S.2.2.1 26) 0 0 3))
set_option maxRecDepth 100000 in
set_option maxHeartbeats 4000000 in
theorem c_X2_copyOf_q16_q67 (l : Launch) (D : va_G) (q g : Nat → Nat) (cy : Nat → ClassId) (z : (Nat → Nat) × (Nat → Nat) × Nat) (S : wd_W) (o : o_X2_copyOf_q16_q67) (hf : f_X2_copyOf_q16_q67 S = some o) : MX layX l yX2_copyOf cX2_copyOf 2 none ({ frames := 2, cells := 0, slots := 0, locals := 81 } : Room) D q g cy z [.ref (q 16), .ref (q 67)] S false (none) (wd_o S [(1600, o.1), (1601, o.2.1), (1607, o.2.2.1), (1610, o.2.2.2.1), (1614, o.2.2.2.2.1), (1615, o.2.2.2.2.2.1), (1616, o.2.2.2.2.2.2.1), (1617, o.2.2.2.2.2.2.2.1)] [] [(17, o.2.2.2.2.2.2.2.2.1), (18, o.2.2.2.2.2.2.2.2.2.1), (19, o.2.2.2.2.2.2.2.2.2.2.1), (20, o.2.2.2.2.2.2.2.2.2.2.2.1), (21, o.2.2.2.2.2.2.2.2.2.2.2.2.1), (22, o.2.2.2.2.2.2.2.2.2.2.2.2.2.1), (23, o.2.2.2.2.2.2.2.2.2.2.2.2.2.2.1), (24, o.2.2.2.2.2.2.2.2.2.2.2.2.2.2.2.1), (25, o.2.2.2.2.2.2.2.2.2.2.2.2.2.2.2.2.1), (26, o.2.2.2.2.2.2.2.2.2.2.2.2.2.2.2.2.2)] [] []) 0 0 := by
  refine mx_of (own := RX2) (lc := [(0, .ref (q 16)), (1, .ref (q 67))]) (by decide +kernel) rfl layX_ok (Nat.le_of_ble_eq_true rfl) rfl ?_
  intro X hXl hXq hXz hC hQ
  subst hXl; subst hXq; subst hXz
  unfold f_X2_copyOf_q16_q67 at hf
  refine go_keys (L1 := [(1600, (S.1 1600)), (1601, (S.1 1601)), (1607, (S.1 1607)), (1610, (S.1 1610)), (1614, (S.1 1614)), (1615, (S.1 1615)), (1616, (S.1 1616)), (1617, (S.1 1617))]) (L2 := []) (L3 := [(17, (S.2.2.1 17)), (18, (S.2.2.1 18)), (19, (S.2.2.1 19)), (20, (S.2.2.1 20)), (21, (S.2.2.1 21)), (22, (S.2.2.1 22)), (23, (S.2.2.1 23)), (24, (S.2.2.1 24)), (25, (S.2.2.1 25)), (26, (S.2.2.1 26))]) (L4 := []) (L5 := []) [1600, 1601, 1607, 1610, 1614, 1615, 1616, 1617] [] [17, 18, 19, 20, 21, 22, 23, 24, 25, 26] [] [] rfl rfl rfl rfl rfl ?_
  refine go_aload_n (pc' := 1) hC dX2_copyOf_0 rfl rfl ?_
  refine go_aload_n (pc' := 2) hC dX2_copyOf_1 rfl rfl ?_
  refine go_geti (v := (S.1 6700)) (pc' := 5) hC 67 0 layX_67 rfl rfl inlX2 (Nat.le_of_ble_eq_true rfl) mw_58 rfl dX2_copyOf_2 rfl rfl ?_
  refine go_namei (fun x1 hx => ?_)
  have hf := lz_r hx hf
  clear hx
  refine go_puti (L1' := [(1600, x1), (1601, (S.1 1601)), (1607, (S.1 1607)), (1610, (S.1 1610)), (1614, (S.1 1614)), (1615, (S.1 1615)), (1616, (S.1 1616)), (1617, (S.1 1617))]) (pc' := 8) hC 16 0 layX_16 rfl rfl inlX2 tyX2_ok nmX2 (Nat.le_of_ble_eq_true rfl) mw_58 rfl rfl rfl rfl dX2_copyOf_5 rfl rfl rfl ?_
  refine go_aload_n (pc' := 9) hC dX2_copyOf_8 rfl rfl ?_
  refine go_aload_n (pc' := 10) hC dX2_copyOf_9 rfl rfl ?_
  refine go_geti (v := (S.1 6701)) (pc' := 13) hC 67 1 layX_67 rfl rfl inlX2 (Nat.le_of_ble_eq_true rfl) mw_309 rfl dX2_copyOf_10 rfl rfl ?_
  refine go_namei (fun x2 hx => ?_)
  have hf := lz_r hx hf
  clear hx
  refine go_puti (L1' := [(1600, x1), (1601, x2), (1607, (S.1 1607)), (1610, (S.1 1610)), (1614, (S.1 1614)), (1615, (S.1 1615)), (1616, (S.1 1616)), (1617, (S.1 1617))]) (pc' := 16) hC 16 1 layX_16 rfl rfl inlX2 tyX2_ok nmX2 (Nat.le_of_ble_eq_true rfl) mw_309 rfl rfl rfl rfl dX2_copyOf_13 rfl rfl rfl ?_
  refine go_aload_n (pc' := 17) hC dX2_copyOf_16 rfl rfl ?_
  refine go_aload_n (pc' := 18) hC dX2_copyOf_17 rfl rfl ?_
  refine go_geti (v := (S.1 6707)) (pc' := 21) hC 67 7 layX_67 rfl rfl inlX2 (Nat.le_of_ble_eq_true rfl) mw_310 rfl dX2_copyOf_18 rfl rfl ?_
  refine go_namei (fun x3 hx => ?_)
  have hf := lz_r hx hf
  clear hx
  refine go_puti (L1' := [(1600, x1), (1601, x2), (1607, x3), (1610, (S.1 1610)), (1614, (S.1 1614)), (1615, (S.1 1615)), (1616, (S.1 1616)), (1617, (S.1 1617))]) (pc' := 24) hC 16 7 layX_16 rfl rfl inlX2 tyX2_ok nmX2 (Nat.le_of_ble_eq_true rfl) mw_310 rfl rfl rfl rfl dX2_copyOf_21 rfl rfl rfl ?_
  refine go_aload_n (pc' := 25) hC dX2_copyOf_24 rfl rfl ?_
  refine go_aload_n (pc' := 26) hC dX2_copyOf_25 rfl rfl ?_
  refine go_geti (v := (S.1 6710)) (pc' := 29) hC 67 10 layX_67 rfl rfl inlX2 (Nat.le_of_ble_eq_true rfl) mw_311 rfl dX2_copyOf_26 rfl rfl ?_
  refine go_namei (fun x4 hx => ?_)
  have hf := lz_r hx hf
  clear hx
  refine go_puti (L1' := [(1600, x1), (1601, x2), (1607, x3), (1610, x4), (1614, (S.1 1614)), (1615, (S.1 1615)), (1616, (S.1 1616)), (1617, (S.1 1617))]) (pc' := 32) hC 16 10 layX_16 rfl rfl inlX2 tyX2_ok nmX2 (Nat.le_of_ble_eq_true rfl) mw_311 rfl rfl rfl rfl dX2_copyOf_29 rfl rfl rfl ?_
  refine go_aload_n (pc' := 33) hC dX2_copyOf_32 rfl rfl ?_
  refine go_aload_n (pc' := 34) hC dX2_copyOf_33 rfl rfl ?_
  refine go_geti (v := (S.1 6714)) (pc' := 37) hC 67 14 layX_67 rfl rfl inlX2 (Nat.le_of_ble_eq_true rfl) mw_70 rfl dX2_copyOf_34 rfl rfl ?_
  refine go_aload_n (pc' := 38) hC dX2_copyOf_37 rfl rfl ?_
  refine go_geti (v := (S.1 6715)) (pc' := 41) hC 67 15 layX_67 rfl rfl inlX2 (Nat.le_of_ble_eq_true rfl) mw_316 rfl dX2_copyOf_38 rfl rfl ?_
  refine go_aload_n (pc' := 42) hC dX2_copyOf_41 rfl rfl ?_
  refine go_geti (v := (S.1 6716)) (pc' := 45) hC 67 16 layX_67 rfl rfl inlX2 (Nat.le_of_ble_eq_true rfl) mw_317 rfl dX2_copyOf_42 rfl rfl ?_
  refine go_aload_n (pc' := 46) hC dX2_copyOf_45 rfl rfl ?_
  refine go_geti (v := (S.1 6717)) (pc' := 49) hC 67 17 layX_67 rfl rfl inlX2 (Nat.le_of_ble_eq_true rfl) mw_318 rfl dX2_copyOf_46 rfl rfl ?_
  obtain ⟨o5, ho5, hf⟩ := bd_e hf
  refine go_callV1 (pc' := 52) (As := [.int (S.1 6714), .int (S.1 6715), .int (S.1 6716), .int (S.1 6717)]) (st := []) (st' := []) (L1' := [(1600, x1), (1601, x2), (1607, x3), (1610, x4), (1614, o5.1), (1615, o5.2.1), (1616, o5.2.2.1), (1617, o5.2.2.2)]) (L2' := []) (L3' := [(17, (S.2.2.1 17)), (18, (S.2.2.1 18)), (19, (S.2.2.1 19)), (20, (S.2.2.1 20)), (21, (S.2.2.1 21)), (22, (S.2.2.1 22)), (23, (S.2.2.1 23)), (24, (S.2.2.1 24)), (25, (S.2.2.1 25)), (26, (S.2.2.1 26))]) (L4' := []) (L5' := []) (cells' := 0) (slots' := 0)  (b := 16) hC dX2_copyOf_49 ⟨mw_312, mw_315, mw_14, yd_yX2_countBy, yp_yX2_countBy, Nat.le_of_ble_eq_true rfl, Nat.le_of_ble_eq_true rfl, (Nat.le_of_ble_eq_true rfl), (Nat.le_of_ble_eq_true rfl)⟩ mw_313 mw_314 layX_16 rfl rfl rfl (Nat.le_of_ble_eq_true rfl) (c_X2_countBy_q16 (x_l X) (x_D X) (x_q X) g (x_cy X) (x_z X) _ (S.1 6714) (S.1 6715) (S.1 6716) (S.1 6717) o5 ho5) rfl rfl rfl rfl rfl rfl rfl rfl rfl rfl rfl rfl rfl rfl ?_
  refine go_aload_n (pc' := 53) hC dX2_copyOf_52 rfl rfl ?_
  refine go_getq (pc' := 56) hC 67 2 layX_67 rfl rfl inlX2 (Nat.le_of_ble_eq_true rfl) mw_60 rfl dX2_copyOf_53 rfl ?_
  refine go_aload_n (pc' := 57) hC dX2_copyOf_56 rfl rfl ?_
  refine go_getq (pc' := 60) hC 16 2 layX_16 rfl rfl inlX2 (Nat.le_of_ble_eq_true rfl) mw_60 rfl dX2_copyOf_57 rfl ?_
  refine go_callS1 (pc' := 63) (As := [.ref (x_q X 68), .ref (x_q X 17)]) (st := []) (st' := []) (L1' := [(1600, x1), (1601, x2), (1607, x3), (1610, x4), (1614, o5.1), (1615, o5.2.1), (1616, o5.2.2.1), (1617, o5.2.2.2)]) (L2' := []) (L3' := [(17, (va_cpy (S.2.2.1 68) (S.2.2.1 17) 0 0 13)), (18, (S.2.2.1 18)), (19, (S.2.2.1 19)), (20, (S.2.2.1 20)), (21, (S.2.2.1 21)), (22, (S.2.2.1 22)), (23, (S.2.2.1 23)), (24, (S.2.2.1 24)), (25, (S.2.2.1 25)), (26, (S.2.2.1 26))]) (L4' := []) (L5' := []) (cells' := 0) (slots' := 0) hC dX2_copyOf_60 ⟨mw_465, mw_467, mw_14, yd_yX2_copyRow, yp_yX2_copyRow, Nat.le_of_ble_eq_true rfl, Nat.le_of_ble_eq_true rfl, Nat.le_of_ble_eq_true rfl, Nat.le_of_ble_eq_true rfl⟩ mw_466 rfl rfl (Nat.le_of_ble_eq_true rfl) (c_copyRow (x_l X) (x_D X) (x_q X) g (x_cy X) (x_z X) _ layX layX_ok 68 17 13 layX_68 layX_17 (by decide)) rfl rfl rfl rfl rfl rfl rfl rfl rfl rfl rfl rfl rfl rfl ?_
  refine go_aload_n (pc' := 64) hC dX2_copyOf_63 rfl rfl ?_
  refine go_getq (pc' := 67) hC 67 3 layX_67 rfl rfl inlX2 (Nat.le_of_ble_eq_true rfl) mw_61 rfl dX2_copyOf_64 rfl ?_
  refine go_aload_n (pc' := 68) hC dX2_copyOf_67 rfl rfl ?_
  refine go_getq (pc' := 71) hC 16 3 layX_16 rfl rfl inlX2 (Nat.le_of_ble_eq_true rfl) mw_61 rfl dX2_copyOf_68 rfl ?_
  refine go_callS1 (pc' := 74) (As := [.ref (x_q X 69), .ref (x_q X 18)]) (st := []) (st' := []) (L1' := [(1600, x1), (1601, x2), (1607, x3), (1610, x4), (1614, o5.1), (1615, o5.2.1), (1616, o5.2.2.1), (1617, o5.2.2.2)]) (L2' := []) (L3' := [(17, (va_cpy (S.2.2.1 68) (S.2.2.1 17) 0 0 13)), (18, (va_cpy (S.2.2.1 69) (S.2.2.1 18) 0 0 13)), (19, (S.2.2.1 19)), (20, (S.2.2.1 20)), (21, (S.2.2.1 21)), (22, (S.2.2.1 22)), (23, (S.2.2.1 23)), (24, (S.2.2.1 24)), (25, (S.2.2.1 25)), (26, (S.2.2.1 26))]) (L4' := []) (L5' := []) (cells' := 0) (slots' := 0) hC dX2_copyOf_71 ⟨mw_465, mw_467, mw_14, yd_yX2_copyRow, yp_yX2_copyRow, Nat.le_of_ble_eq_true rfl, Nat.le_of_ble_eq_true rfl, Nat.le_of_ble_eq_true rfl, Nat.le_of_ble_eq_true rfl⟩ mw_466 rfl rfl (Nat.le_of_ble_eq_true rfl) (c_copyRow (x_l X) (x_D X) (x_q X) g (x_cy X) (x_z X) _ layX layX_ok 69 18 13 layX_69 layX_18 (by decide)) rfl rfl rfl rfl rfl rfl rfl rfl rfl rfl rfl rfl rfl rfl ?_
  refine go_aload_n (pc' := 75) hC dX2_copyOf_74 rfl rfl ?_
  refine go_getq (pc' := 78) hC 67 4 layX_67 rfl rfl inlX2 (Nat.le_of_ble_eq_true rfl) mw_62 rfl dX2_copyOf_75 rfl ?_
  refine go_aload_n (pc' := 79) hC dX2_copyOf_78 rfl rfl ?_
  refine go_getq (pc' := 82) hC 16 4 layX_16 rfl rfl inlX2 (Nat.le_of_ble_eq_true rfl) mw_62 rfl dX2_copyOf_79 rfl ?_
  refine go_callS1 (pc' := 85) (As := [.ref (x_q X 70), .ref (x_q X 19)]) (st := []) (st' := []) (L1' := [(1600, x1), (1601, x2), (1607, x3), (1610, x4), (1614, o5.1), (1615, o5.2.1), (1616, o5.2.2.1), (1617, o5.2.2.2)]) (L2' := []) (L3' := [(17, (va_cpy (S.2.2.1 68) (S.2.2.1 17) 0 0 13)), (18, (va_cpy (S.2.2.1 69) (S.2.2.1 18) 0 0 13)), (19, (va_cpy (S.2.2.1 70) (S.2.2.1 19) 0 0 13)), (20, (S.2.2.1 20)), (21, (S.2.2.1 21)), (22, (S.2.2.1 22)), (23, (S.2.2.1 23)), (24, (S.2.2.1 24)), (25, (S.2.2.1 25)), (26, (S.2.2.1 26))]) (L4' := []) (L5' := []) (cells' := 0) (slots' := 0) hC dX2_copyOf_82 ⟨mw_465, mw_467, mw_14, yd_yX2_copyRow, yp_yX2_copyRow, Nat.le_of_ble_eq_true rfl, Nat.le_of_ble_eq_true rfl, Nat.le_of_ble_eq_true rfl, Nat.le_of_ble_eq_true rfl⟩ mw_466 rfl rfl (Nat.le_of_ble_eq_true rfl) (c_copyRow (x_l X) (x_D X) (x_q X) g (x_cy X) (x_z X) _ layX layX_ok 70 19 13 layX_70 layX_19 (by decide)) rfl rfl rfl rfl rfl rfl rfl rfl rfl rfl rfl rfl rfl rfl ?_
  refine go_aload_n (pc' := 86) hC dX2_copyOf_85 rfl rfl ?_
  refine go_getq (pc' := 89) hC 67 5 layX_67 rfl rfl inlX2 (Nat.le_of_ble_eq_true rfl) mw_63 rfl dX2_copyOf_86 rfl ?_
  refine go_aload_n (pc' := 90) hC dX2_copyOf_89 rfl rfl ?_
  refine go_getq (pc' := 93) hC 16 5 layX_16 rfl rfl inlX2 (Nat.le_of_ble_eq_true rfl) mw_63 rfl dX2_copyOf_90 rfl ?_
  refine go_callS1 (pc' := 96) (As := [.ref (x_q X 71), .ref (x_q X 20)]) (st := []) (st' := []) (L1' := [(1600, x1), (1601, x2), (1607, x3), (1610, x4), (1614, o5.1), (1615, o5.2.1), (1616, o5.2.2.1), (1617, o5.2.2.2)]) (L2' := []) (L3' := [(17, (va_cpy (S.2.2.1 68) (S.2.2.1 17) 0 0 13)), (18, (va_cpy (S.2.2.1 69) (S.2.2.1 18) 0 0 13)), (19, (va_cpy (S.2.2.1 70) (S.2.2.1 19) 0 0 13)), (20, (va_cpy (S.2.2.1 71) (S.2.2.1 20) 0 0 13)), (21, (S.2.2.1 21)), (22, (S.2.2.1 22)), (23, (S.2.2.1 23)), (24, (S.2.2.1 24)), (25, (S.2.2.1 25)), (26, (S.2.2.1 26))]) (L4' := []) (L5' := []) (cells' := 0) (slots' := 0) hC dX2_copyOf_93 ⟨mw_465, mw_467, mw_14, yd_yX2_copyRow, yp_yX2_copyRow, Nat.le_of_ble_eq_true rfl, Nat.le_of_ble_eq_true rfl, Nat.le_of_ble_eq_true rfl, Nat.le_of_ble_eq_true rfl⟩ mw_466 rfl rfl (Nat.le_of_ble_eq_true rfl) (c_copyRow (x_l X) (x_D X) (x_q X) g (x_cy X) (x_z X) _ layX layX_ok 71 20 13 layX_71 layX_20 (by decide)) rfl rfl rfl rfl rfl rfl rfl rfl rfl rfl rfl rfl rfl rfl ?_
  refine go_aload_n (pc' := 97) hC dX2_copyOf_96 rfl rfl ?_
  refine go_getq (pc' := 100) hC 67 6 layX_67 rfl rfl inlX2 (Nat.le_of_ble_eq_true rfl) mw_64 rfl dX2_copyOf_97 rfl ?_
  refine go_aload_n (pc' := 101) hC dX2_copyOf_100 rfl rfl ?_
  refine go_getq (pc' := 104) hC 16 6 layX_16 rfl rfl inlX2 (Nat.le_of_ble_eq_true rfl) mw_64 rfl dX2_copyOf_101 rfl ?_
  refine go_callS1 (pc' := 107) (As := [.ref (x_q X 72), .ref (x_q X 21)]) (st := []) (st' := []) (L1' := [(1600, x1), (1601, x2), (1607, x3), (1610, x4), (1614, o5.1), (1615, o5.2.1), (1616, o5.2.2.1), (1617, o5.2.2.2)]) (L2' := []) (L3' := [(17, (va_cpy (S.2.2.1 68) (S.2.2.1 17) 0 0 13)), (18, (va_cpy (S.2.2.1 69) (S.2.2.1 18) 0 0 13)), (19, (va_cpy (S.2.2.1 70) (S.2.2.1 19) 0 0 13)), (20, (va_cpy (S.2.2.1 71) (S.2.2.1 20) 0 0 13)), (21, (va_cpy (S.2.2.1 72) (S.2.2.1 21) 0 0 13)), (22, (S.2.2.1 22)), (23, (S.2.2.1 23)), (24, (S.2.2.1 24)), (25, (S.2.2.1 25)), (26, (S.2.2.1 26))]) (L4' := []) (L5' := []) (cells' := 0) (slots' := 0) hC dX2_copyOf_104 ⟨mw_465, mw_467, mw_14, yd_yX2_copyRow, yp_yX2_copyRow, Nat.le_of_ble_eq_true rfl, Nat.le_of_ble_eq_true rfl, Nat.le_of_ble_eq_true rfl, Nat.le_of_ble_eq_true rfl⟩ mw_466 rfl rfl (Nat.le_of_ble_eq_true rfl) (c_copyRow (x_l X) (x_D X) (x_q X) g (x_cy X) (x_z X) _ layX layX_ok 72 21 13 layX_72 layX_21 (by decide)) rfl rfl rfl rfl rfl rfl rfl rfl rfl rfl rfl rfl rfl rfl ?_
  refine go_aload_n (pc' := 108) hC dX2_copyOf_107 rfl rfl ?_
  refine go_getq (pc' := 111) hC 67 8 layX_67 rfl rfl inlX2 (Nat.le_of_ble_eq_true rfl) mw_65 rfl dX2_copyOf_108 rfl ?_
  refine go_aload_n (pc' := 112) hC dX2_copyOf_111 rfl rfl ?_
  refine go_getq (pc' := 115) hC 16 8 layX_16 rfl rfl inlX2 (Nat.le_of_ble_eq_true rfl) mw_65 rfl dX2_copyOf_112 rfl ?_
  refine go_callS1 (pc' := 118) (As := [.ref (x_q X 73), .ref (x_q X 22)]) (st := []) (st' := []) (L1' := [(1600, x1), (1601, x2), (1607, x3), (1610, x4), (1614, o5.1), (1615, o5.2.1), (1616, o5.2.2.1), (1617, o5.2.2.2)]) (L2' := []) (L3' := [(17, (va_cpy (S.2.2.1 68) (S.2.2.1 17) 0 0 13)), (18, (va_cpy (S.2.2.1 69) (S.2.2.1 18) 0 0 13)), (19, (va_cpy (S.2.2.1 70) (S.2.2.1 19) 0 0 13)), (20, (va_cpy (S.2.2.1 71) (S.2.2.1 20) 0 0 13)), (21, (va_cpy (S.2.2.1 72) (S.2.2.1 21) 0 0 13)), (22, (va_cpy (S.2.2.1 73) (S.2.2.1 22) 0 0 10)), (23, (S.2.2.1 23)), (24, (S.2.2.1 24)), (25, (S.2.2.1 25)), (26, (S.2.2.1 26))]) (L4' := []) (L5' := []) (cells' := 0) (slots' := 0) hC dX2_copyOf_115 ⟨mw_465, mw_467, mw_14, yd_yX2_copyRow, yp_yX2_copyRow, Nat.le_of_ble_eq_true rfl, Nat.le_of_ble_eq_true rfl, Nat.le_of_ble_eq_true rfl, Nat.le_of_ble_eq_true rfl⟩ mw_466 rfl rfl (Nat.le_of_ble_eq_true rfl) (c_copyRow (x_l X) (x_D X) (x_q X) g (x_cy X) (x_z X) _ layX layX_ok 73 22 10 layX_73 layX_22 (by decide)) rfl rfl rfl rfl rfl rfl rfl rfl rfl rfl rfl rfl rfl rfl ?_
  refine go_aload_n (pc' := 119) hC dX2_copyOf_118 rfl rfl ?_
  refine go_getq (pc' := 122) hC 67 9 layX_67 rfl rfl inlX2 (Nat.le_of_ble_eq_true rfl) mw_66 rfl dX2_copyOf_119 rfl ?_
  refine go_aload_n (pc' := 123) hC dX2_copyOf_122 rfl rfl ?_
  refine go_getq (pc' := 126) hC 16 9 layX_16 rfl rfl inlX2 (Nat.le_of_ble_eq_true rfl) mw_66 rfl dX2_copyOf_123 rfl ?_
  refine go_callS1 (pc' := 129) (As := [.ref (x_q X 74), .ref (x_q X 23)]) (st := []) (st' := []) (L1' := [(1600, x1), (1601, x2), (1607, x3), (1610, x4), (1614, o5.1), (1615, o5.2.1), (1616, o5.2.2.1), (1617, o5.2.2.2)]) (L2' := []) (L3' := [(17, (va_cpy (S.2.2.1 68) (S.2.2.1 17) 0 0 13)), (18, (va_cpy (S.2.2.1 69) (S.2.2.1 18) 0 0 13)), (19, (va_cpy (S.2.2.1 70) (S.2.2.1 19) 0 0 13)), (20, (va_cpy (S.2.2.1 71) (S.2.2.1 20) 0 0 13)), (21, (va_cpy (S.2.2.1 72) (S.2.2.1 21) 0 0 13)), (22, (va_cpy (S.2.2.1 73) (S.2.2.1 22) 0 0 10)), (23, (va_cpy (S.2.2.1 74) (S.2.2.1 23) 0 0 10)), (24, (S.2.2.1 24)), (25, (S.2.2.1 25)), (26, (S.2.2.1 26))]) (L4' := []) (L5' := []) (cells' := 0) (slots' := 0) hC dX2_copyOf_126 ⟨mw_465, mw_467, mw_14, yd_yX2_copyRow, yp_yX2_copyRow, Nat.le_of_ble_eq_true rfl, Nat.le_of_ble_eq_true rfl, Nat.le_of_ble_eq_true rfl, Nat.le_of_ble_eq_true rfl⟩ mw_466 rfl rfl (Nat.le_of_ble_eq_true rfl) (c_copyRow (x_l X) (x_D X) (x_q X) g (x_cy X) (x_z X) _ layX layX_ok 74 23 10 layX_74 layX_23 (by decide)) rfl rfl rfl rfl rfl rfl rfl rfl rfl rfl rfl rfl rfl rfl ?_
  refine go_aload_n (pc' := 130) hC dX2_copyOf_129 rfl rfl ?_
  refine go_getq (pc' := 133) hC 67 11 layX_67 rfl rfl inlX2 (Nat.le_of_ble_eq_true rfl) mw_67 rfl dX2_copyOf_130 rfl ?_
  refine go_aload_n (pc' := 134) hC dX2_copyOf_133 rfl rfl ?_
  refine go_getq (pc' := 137) hC 16 11 layX_16 rfl rfl inlX2 (Nat.le_of_ble_eq_true rfl) mw_67 rfl dX2_copyOf_134 rfl ?_
  refine go_callS1 (pc' := 140) (As := [.ref (x_q X 75), .ref (x_q X 24)]) (st := []) (st' := []) (L1' := [(1600, x1), (1601, x2), (1607, x3), (1610, x4), (1614, o5.1), (1615, o5.2.1), (1616, o5.2.2.1), (1617, o5.2.2.2)]) (L2' := []) (L3' := [(17, (va_cpy (S.2.2.1 68) (S.2.2.1 17) 0 0 13)), (18, (va_cpy (S.2.2.1 69) (S.2.2.1 18) 0 0 13)), (19, (va_cpy (S.2.2.1 70) (S.2.2.1 19) 0 0 13)), (20, (va_cpy (S.2.2.1 71) (S.2.2.1 20) 0 0 13)), (21, (va_cpy (S.2.2.1 72) (S.2.2.1 21) 0 0 13)), (22, (va_cpy (S.2.2.1 73) (S.2.2.1 22) 0 0 10)), (23, (va_cpy (S.2.2.1 74) (S.2.2.1 23) 0 0 10)), (24, (va_cpy (S.2.2.1 75) (S.2.2.1 24) 0 0 3)), (25, (S.2.2.1 25)), (26, (S.2.2.1 26))]) (L4' := []) (L5' := []) (cells' := 0) (slots' := 0) hC dX2_copyOf_137 ⟨mw_465, mw_467, mw_14, yd_yX2_copyRow, yp_yX2_copyRow, Nat.le_of_ble_eq_true rfl, Nat.le_of_ble_eq_true rfl, Nat.le_of_ble_eq_true rfl, Nat.le_of_ble_eq_true rfl⟩ mw_466 rfl rfl (Nat.le_of_ble_eq_true rfl) (c_copyRow (x_l X) (x_D X) (x_q X) g (x_cy X) (x_z X) _ layX layX_ok 75 24 3 layX_75 layX_24 (by decide)) rfl rfl rfl rfl rfl rfl rfl rfl rfl rfl rfl rfl rfl rfl ?_
  refine go_aload_n (pc' := 141) hC dX2_copyOf_140 rfl rfl ?_
  refine go_getq (pc' := 144) hC 67 12 layX_67 rfl rfl inlX2 (Nat.le_of_ble_eq_true rfl) mw_68 rfl dX2_copyOf_141 rfl ?_
  refine go_aload_n (pc' := 145) hC dX2_copyOf_144 rfl rfl ?_
  refine go_getq (pc' := 148) hC 16 12 layX_16 rfl rfl inlX2 (Nat.le_of_ble_eq_true rfl) mw_68 rfl dX2_copyOf_145 rfl ?_
  refine go_callS1 (pc' := 151) (As := [.ref (x_q X 76), .ref (x_q X 25)]) (st := []) (st' := []) (L1' := [(1600, x1), (1601, x2), (1607, x3), (1610, x4), (1614, o5.1), (1615, o5.2.1), (1616, o5.2.2.1), (1617, o5.2.2.2)]) (L2' := []) (L3' := [(17, (va_cpy (S.2.2.1 68) (S.2.2.1 17) 0 0 13)), (18, (va_cpy (S.2.2.1 69) (S.2.2.1 18) 0 0 13)), (19, (va_cpy (S.2.2.1 70) (S.2.2.1 19) 0 0 13)), (20, (va_cpy (S.2.2.1 71) (S.2.2.1 20) 0 0 13)), (21, (va_cpy (S.2.2.1 72) (S.2.2.1 21) 0 0 13)), (22, (va_cpy (S.2.2.1 73) (S.2.2.1 22) 0 0 10)), (23, (va_cpy (S.2.2.1 74) (S.2.2.1 23) 0 0 10)), (24, (va_cpy (S.2.2.1 75) (S.2.2.1 24) 0 0 3)), (25, (va_cpy (S.2.2.1 76) (S.2.2.1 25) 0 0 3)), (26, (S.2.2.1 26))]) (L4' := []) (L5' := []) (cells' := 0) (slots' := 0) hC dX2_copyOf_148 ⟨mw_465, mw_467, mw_14, yd_yX2_copyRow, yp_yX2_copyRow, Nat.le_of_ble_eq_true rfl, Nat.le_of_ble_eq_true rfl, Nat.le_of_ble_eq_true rfl, Nat.le_of_ble_eq_true rfl⟩ mw_466 rfl rfl (Nat.le_of_ble_eq_true rfl) (c_copyRow (x_l X) (x_D X) (x_q X) g (x_cy X) (x_z X) _ layX layX_ok 76 25 3 layX_76 layX_25 (by decide)) rfl rfl rfl rfl rfl rfl rfl rfl rfl rfl rfl rfl rfl rfl ?_
  refine go_aload_n (pc' := 152) hC dX2_copyOf_151 rfl rfl ?_
  refine go_getq (pc' := 155) hC 67 13 layX_67 rfl rfl inlX2 (Nat.le_of_ble_eq_true rfl) mw_69 rfl dX2_copyOf_152 rfl ?_
  refine go_aload_n (pc' := 156) hC dX2_copyOf_155 rfl rfl ?_
  refine go_getq (pc' := 159) hC 16 13 layX_16 rfl rfl inlX2 (Nat.le_of_ble_eq_true rfl) mw_69 rfl dX2_copyOf_156 rfl ?_
  refine go_callS1 (pc' := 162) (As := [.ref (x_q X 77), .ref (x_q X 26)]) (st := []) (st' := []) (L1' := [(1600, x1), (1601, x2), (1607, x3), (1610, x4), (1614, o5.1), (1615, o5.2.1), (1616, o5.2.2.1), (1617, o5.2.2.2)]) (L2' := []) (L3' := [(17, (va_cpy (S.2.2.1 68) (S.2.2.1 17) 0 0 13)), (18, (va_cpy (S.2.2.1 69) (S.2.2.1 18) 0 0 13)), (19, (va_cpy (S.2.2.1 70) (S.2.2.1 19) 0 0 13)), (20, (va_cpy (S.2.2.1 71) (S.2.2.1 20) 0 0 13)), (21, (va_cpy (S.2.2.1 72) (S.2.2.1 21) 0 0 13)), (22, (va_cpy (S.2.2.1 73) (S.2.2.1 22) 0 0 10)), (23, (va_cpy (S.2.2.1 74) (S.2.2.1 23) 0 0 10)), (24, (va_cpy (S.2.2.1 75) (S.2.2.1 24) 0 0 3)), (25, (va_cpy (S.2.2.1 76) (S.2.2.1 25) 0 0 3)), (26, (va_cpy (S.2.2.1 77) (S.2.2.1 26) 0 0 3))]) (L4' := []) (L5' := []) (cells' := 0) (slots' := 0) hC dX2_copyOf_159 ⟨mw_465, mw_467, mw_14, yd_yX2_copyRow, yp_yX2_copyRow, Nat.le_of_ble_eq_true rfl, Nat.le_of_ble_eq_true rfl, Nat.le_of_ble_eq_true rfl, Nat.le_of_ble_eq_true rfl⟩ mw_466 rfl rfl (Nat.le_of_ble_eq_true rfl) (c_copyRow (x_l X) (x_D X) (x_q X) g (x_cy X) (x_z X) _ layX layX_ok 77 26 3 layX_77 layX_26 (by decide)) rfl rfl rfl rfl rfl rfl rfl rfl rfl rfl rfl rfl rfl rfl ?_
  obtain rfl := Option.some.inj hf
  exact go_vret hC hQ dX2_copyOf_162 rfl rfl rfl (fun _ => rfl) rfl rfl
abbrev o_X6_copyOf_q27_q99 : Type := Int32 × Int32 × (Nat → Int32) × (Nat → Int32) × (Nat → Int32) × (Nat → Int32) × (Nat → Int32) × (Nat → Int32)
def f_X6_copyOf_q27_q99 (S : wd_W) : Option o_X6_copyOf_q27_q99 :=
lz ((S.1 9900)) fun x1 =>
lz ((S.1 9904)) fun x2 =>
some (x1, x2, (va_cpy (S.2.2.1 100) (S.2.2.1 28) 0 0 9), (va_cpy (S.2.2.1 101) (S.2.2.1 29) 0 0 9), (va_cpy (S.2.2.1 102) (S.2.2.1 30) 0 0 9), (va_cpy (S.2.2.1 103) (S.2.2.1 31) 0 0 6), (va_cpy (S.2.2.1 104) (S.2.2.1 32) 0 0 6), (va_cpy (S.2.2.1 105) (S.2.2.1 33) 0 0 6))
set_option maxRecDepth 100000 in
set_option maxHeartbeats 4000000 in
theorem c_X6_copyOf_q27_q99 (l : Launch) (D : va_G) (q g : Nat → Nat) (cy : Nat → ClassId) (z : (Nat → Nat) × (Nat → Nat) × Nat) (S : wd_W) (o : o_X6_copyOf_q27_q99) (hf : f_X6_copyOf_q27_q99 S = some o) : MX layX l yX6_copyOf cX6_copyOf 2 none ({ frames := 2, cells := 0, slots := 0, locals := 81 } : Room) D q g cy z [.ref (q 27), .ref (q 99)] S false (none) (wd_o S [(2700, o.1), (2704, o.2.1)] [] [(28, o.2.2.1), (29, o.2.2.2.1), (30, o.2.2.2.2.1), (31, o.2.2.2.2.2.1), (32, o.2.2.2.2.2.2.1), (33, o.2.2.2.2.2.2.2)] [] []) 0 0 := by
  refine mx_of (own := RX6) (lc := [(0, .ref (q 27)), (1, .ref (q 99))]) (by decide +kernel) rfl layX_ok (Nat.le_of_ble_eq_true rfl) rfl ?_
  intro X hXl hXq hXz hC hQ
  subst hXl; subst hXq; subst hXz
  unfold f_X6_copyOf_q27_q99 at hf
  refine go_keys (L1 := [(2700, (S.1 2700)), (2704, (S.1 2704))]) (L2 := []) (L3 := [(28, (S.2.2.1 28)), (29, (S.2.2.1 29)), (30, (S.2.2.1 30)), (31, (S.2.2.1 31)), (32, (S.2.2.1 32)), (33, (S.2.2.1 33))]) (L4 := []) (L5 := []) [2700, 2704] [] [28, 29, 30, 31, 32, 33] [] [] rfl rfl rfl rfl rfl ?_
  refine go_aload_n (pc' := 1) hC dX6_copyOf_0 rfl rfl ?_
  refine go_aload_n (pc' := 2) hC dX6_copyOf_1 rfl rfl ?_
  refine go_geti (v := (S.1 9900)) (pc' := 5) hC 99 0 layX_99 rfl rfl inlX6 (Nat.le_of_ble_eq_true rfl) mw_477 rfl dX6_copyOf_2 rfl rfl ?_
  refine go_namei (fun x1 hx => ?_)
  have hf := lz_r hx hf
  clear hx
  refine go_puti (L1' := [(2700, x1), (2704, (S.1 2704))]) (pc' := 8) hC 27 0 layX_27 rfl rfl inlX6 tyX6_ok nmX6 (Nat.le_of_ble_eq_true rfl) mw_477 rfl rfl rfl rfl dX6_copyOf_5 rfl rfl rfl ?_
  refine go_aload_n (pc' := 9) hC dX6_copyOf_8 rfl rfl ?_
  refine go_aload_n (pc' := 10) hC dX6_copyOf_9 rfl rfl ?_
  refine go_geti (v := (S.1 9904)) (pc' := 13) hC 99 4 layX_99 rfl rfl inlX6 (Nat.le_of_ble_eq_true rfl) mw_478 rfl dX6_copyOf_10 rfl rfl ?_
  refine go_namei (fun x2 hx => ?_)
  have hf := lz_r hx hf
  clear hx
  refine go_puti (L1' := [(2700, x1), (2704, x2)]) (pc' := 16) hC 27 4 layX_27 rfl rfl inlX6 tyX6_ok nmX6 (Nat.le_of_ble_eq_true rfl) mw_478 rfl rfl rfl rfl dX6_copyOf_13 rfl rfl rfl ?_
  refine go_aload_n (pc' := 17) hC dX6_copyOf_16 rfl rfl ?_
  refine go_getq (pc' := 20) hC 99 1 layX_99 rfl rfl inlX6 (Nat.le_of_ble_eq_true rfl) mw_81 rfl dX6_copyOf_17 rfl ?_
  refine go_aload_n (pc' := 21) hC dX6_copyOf_20 rfl rfl ?_
  refine go_getq (pc' := 24) hC 27 1 layX_27 rfl rfl inlX6 (Nat.le_of_ble_eq_true rfl) mw_81 rfl dX6_copyOf_21 rfl ?_
  refine go_callS1 (pc' := 27) (As := [.ref (x_q X 100), .ref (x_q X 28)]) (st := []) (st' := []) (L1' := [(2700, x1), (2704, x2)]) (L2' := []) (L3' := [(28, (va_cpy (S.2.2.1 100) (S.2.2.1 28) 0 0 9)), (29, (S.2.2.1 29)), (30, (S.2.2.1 30)), (31, (S.2.2.1 31)), (32, (S.2.2.1 32)), (33, (S.2.2.1 33))]) (L4' := []) (L5' := []) (cells' := 0) (slots' := 0) hC dX6_copyOf_24 ⟨mw_1517, mw_467, mw_14, yd_yX2_copyRow, yp_yX2_copyRow, Nat.le_of_ble_eq_true rfl, Nat.le_of_ble_eq_true rfl, Nat.le_of_ble_eq_true rfl, Nat.le_of_ble_eq_true rfl⟩ mw_466 rfl rfl (Nat.le_of_ble_eq_true rfl) (c_copyRow (x_l X) (x_D X) (x_q X) g (x_cy X) (x_z X) _ layX layX_ok 100 28 9 layX_100 layX_28 (by decide)) rfl rfl rfl rfl rfl rfl rfl rfl rfl rfl rfl rfl rfl rfl ?_
  refine go_aload_n (pc' := 28) hC dX6_copyOf_27 rfl rfl ?_
  refine go_getq (pc' := 31) hC 99 2 layX_99 rfl rfl inlX6 (Nat.le_of_ble_eq_true rfl) mw_82 rfl dX6_copyOf_28 rfl ?_
  refine go_aload_n (pc' := 32) hC dX6_copyOf_31 rfl rfl ?_
  refine go_getq (pc' := 35) hC 27 2 layX_27 rfl rfl inlX6 (Nat.le_of_ble_eq_true rfl) mw_82 rfl dX6_copyOf_32 rfl ?_
  refine go_callS1 (pc' := 38) (As := [.ref (x_q X 101), .ref (x_q X 29)]) (st := []) (st' := []) (L1' := [(2700, x1), (2704, x2)]) (L2' := []) (L3' := [(28, (va_cpy (S.2.2.1 100) (S.2.2.1 28) 0 0 9)), (29, (va_cpy (S.2.2.1 101) (S.2.2.1 29) 0 0 9)), (30, (S.2.2.1 30)), (31, (S.2.2.1 31)), (32, (S.2.2.1 32)), (33, (S.2.2.1 33))]) (L4' := []) (L5' := []) (cells' := 0) (slots' := 0) hC dX6_copyOf_35 ⟨mw_1517, mw_467, mw_14, yd_yX2_copyRow, yp_yX2_copyRow, Nat.le_of_ble_eq_true rfl, Nat.le_of_ble_eq_true rfl, Nat.le_of_ble_eq_true rfl, Nat.le_of_ble_eq_true rfl⟩ mw_466 rfl rfl (Nat.le_of_ble_eq_true rfl) (c_copyRow (x_l X) (x_D X) (x_q X) g (x_cy X) (x_z X) _ layX layX_ok 101 29 9 layX_101 layX_29 (by decide)) rfl rfl rfl rfl rfl rfl rfl rfl rfl rfl rfl rfl rfl rfl ?_
  refine go_aload_n (pc' := 39) hC dX6_copyOf_38 rfl rfl ?_
  refine go_getq (pc' := 42) hC 99 3 layX_99 rfl rfl inlX6 (Nat.le_of_ble_eq_true rfl) mw_83 rfl dX6_copyOf_39 rfl ?_
  refine go_aload_n (pc' := 43) hC dX6_copyOf_42 rfl rfl ?_
  refine go_getq (pc' := 46) hC 27 3 layX_27 rfl rfl inlX6 (Nat.le_of_ble_eq_true rfl) mw_83 rfl dX6_copyOf_43 rfl ?_
  refine go_callS1 (pc' := 49) (As := [.ref (x_q X 102), .ref (x_q X 30)]) (st := []) (st' := []) (L1' := [(2700, x1), (2704, x2)]) (L2' := []) (L3' := [(28, (va_cpy (S.2.2.1 100) (S.2.2.1 28) 0 0 9)), (29, (va_cpy (S.2.2.1 101) (S.2.2.1 29) 0 0 9)), (30, (va_cpy (S.2.2.1 102) (S.2.2.1 30) 0 0 9)), (31, (S.2.2.1 31)), (32, (S.2.2.1 32)), (33, (S.2.2.1 33))]) (L4' := []) (L5' := []) (cells' := 0) (slots' := 0) hC dX6_copyOf_46 ⟨mw_1517, mw_467, mw_14, yd_yX2_copyRow, yp_yX2_copyRow, Nat.le_of_ble_eq_true rfl, Nat.le_of_ble_eq_true rfl, Nat.le_of_ble_eq_true rfl, Nat.le_of_ble_eq_true rfl⟩ mw_466 rfl rfl (Nat.le_of_ble_eq_true rfl) (c_copyRow (x_l X) (x_D X) (x_q X) g (x_cy X) (x_z X) _ layX layX_ok 102 30 9 layX_102 layX_30 (by decide)) rfl rfl rfl rfl rfl rfl rfl rfl rfl rfl rfl rfl rfl rfl ?_
  refine go_aload_n (pc' := 50) hC dX6_copyOf_49 rfl rfl ?_
  refine go_getq (pc' := 53) hC 99 5 layX_99 rfl rfl inlX6 (Nat.le_of_ble_eq_true rfl) mw_84 rfl dX6_copyOf_50 rfl ?_
  refine go_aload_n (pc' := 54) hC dX6_copyOf_53 rfl rfl ?_
  refine go_getq (pc' := 57) hC 27 5 layX_27 rfl rfl inlX6 (Nat.le_of_ble_eq_true rfl) mw_84 rfl dX6_copyOf_54 rfl ?_
  refine go_callS1 (pc' := 60) (As := [.ref (x_q X 103), .ref (x_q X 31)]) (st := []) (st' := []) (L1' := [(2700, x1), (2704, x2)]) (L2' := []) (L3' := [(28, (va_cpy (S.2.2.1 100) (S.2.2.1 28) 0 0 9)), (29, (va_cpy (S.2.2.1 101) (S.2.2.1 29) 0 0 9)), (30, (va_cpy (S.2.2.1 102) (S.2.2.1 30) 0 0 9)), (31, (va_cpy (S.2.2.1 103) (S.2.2.1 31) 0 0 6)), (32, (S.2.2.1 32)), (33, (S.2.2.1 33))]) (L4' := []) (L5' := []) (cells' := 0) (slots' := 0) hC dX6_copyOf_57 ⟨mw_1517, mw_467, mw_14, yd_yX2_copyRow, yp_yX2_copyRow, Nat.le_of_ble_eq_true rfl, Nat.le_of_ble_eq_true rfl, Nat.le_of_ble_eq_true rfl, Nat.le_of_ble_eq_true rfl⟩ mw_466 rfl rfl (Nat.le_of_ble_eq_true rfl) (c_copyRow (x_l X) (x_D X) (x_q X) g (x_cy X) (x_z X) _ layX layX_ok 103 31 6 layX_103 layX_31 (by decide)) rfl rfl rfl rfl rfl rfl rfl rfl rfl rfl rfl rfl rfl rfl ?_
  refine go_aload_n (pc' := 61) hC dX6_copyOf_60 rfl rfl ?_
  refine go_getq (pc' := 64) hC 99 6 layX_99 rfl rfl inlX6 (Nat.le_of_ble_eq_true rfl) mw_85 rfl dX6_copyOf_61 rfl ?_
  refine go_aload_n (pc' := 65) hC dX6_copyOf_64 rfl rfl ?_
  refine go_getq (pc' := 68) hC 27 6 layX_27 rfl rfl inlX6 (Nat.le_of_ble_eq_true rfl) mw_85 rfl dX6_copyOf_65 rfl ?_
  refine go_callS1 (pc' := 71) (As := [.ref (x_q X 104), .ref (x_q X 32)]) (st := []) (st' := []) (L1' := [(2700, x1), (2704, x2)]) (L2' := []) (L3' := [(28, (va_cpy (S.2.2.1 100) (S.2.2.1 28) 0 0 9)), (29, (va_cpy (S.2.2.1 101) (S.2.2.1 29) 0 0 9)), (30, (va_cpy (S.2.2.1 102) (S.2.2.1 30) 0 0 9)), (31, (va_cpy (S.2.2.1 103) (S.2.2.1 31) 0 0 6)), (32, (va_cpy (S.2.2.1 104) (S.2.2.1 32) 0 0 6)), (33, (S.2.2.1 33))]) (L4' := []) (L5' := []) (cells' := 0) (slots' := 0) hC dX6_copyOf_68 ⟨mw_1517, mw_467, mw_14, yd_yX2_copyRow, yp_yX2_copyRow, Nat.le_of_ble_eq_true rfl, Nat.le_of_ble_eq_true rfl, Nat.le_of_ble_eq_true rfl, Nat.le_of_ble_eq_true rfl⟩ mw_466 rfl rfl (Nat.le_of_ble_eq_true rfl) (c_copyRow (x_l X) (x_D X) (x_q X) g (x_cy X) (x_z X) _ layX layX_ok 104 32 6 layX_104 layX_32 (by decide)) rfl rfl rfl rfl rfl rfl rfl rfl rfl rfl rfl rfl rfl rfl ?_
  refine go_aload_n (pc' := 72) hC dX6_copyOf_71 rfl rfl ?_
  refine go_getq (pc' := 75) hC 99 7 layX_99 rfl rfl inlX6 (Nat.le_of_ble_eq_true rfl) mw_86 rfl dX6_copyOf_72 rfl ?_
  refine go_aload_n (pc' := 76) hC dX6_copyOf_75 rfl rfl ?_
  refine go_getq (pc' := 79) hC 27 7 layX_27 rfl rfl inlX6 (Nat.le_of_ble_eq_true rfl) mw_86 rfl dX6_copyOf_76 rfl ?_
  refine go_callS1 (pc' := 82) (As := [.ref (x_q X 105), .ref (x_q X 33)]) (st := []) (st' := []) (L1' := [(2700, x1), (2704, x2)]) (L2' := []) (L3' := [(28, (va_cpy (S.2.2.1 100) (S.2.2.1 28) 0 0 9)), (29, (va_cpy (S.2.2.1 101) (S.2.2.1 29) 0 0 9)), (30, (va_cpy (S.2.2.1 102) (S.2.2.1 30) 0 0 9)), (31, (va_cpy (S.2.2.1 103) (S.2.2.1 31) 0 0 6)), (32, (va_cpy (S.2.2.1 104) (S.2.2.1 32) 0 0 6)), (33, (va_cpy (S.2.2.1 105) (S.2.2.1 33) 0 0 6))]) (L4' := []) (L5' := []) (cells' := 0) (slots' := 0) hC dX6_copyOf_79 ⟨mw_1517, mw_467, mw_14, yd_yX2_copyRow, yp_yX2_copyRow, Nat.le_of_ble_eq_true rfl, Nat.le_of_ble_eq_true rfl, Nat.le_of_ble_eq_true rfl, Nat.le_of_ble_eq_true rfl⟩ mw_466 rfl rfl (Nat.le_of_ble_eq_true rfl) (c_copyRow (x_l X) (x_D X) (x_q X) g (x_cy X) (x_z X) _ layX layX_ok 105 33 6 layX_105 layX_33 (by decide)) rfl rfl rfl rfl rfl rfl rfl rfl rfl rfl rfl rfl rfl rfl ?_
  obtain rfl := Option.some.inj hf
  exact go_vret hC hQ dX6_copyOf_82 rfl rfl rfl (fun _ => rfl) rfl rfl
abbrev o_X2_copyOf_q16_q56 : Type := Int32 × Int32 × Int32 × Int32 × Int32 × Int32 × Int32 × Int32 × (Nat → Int32) × (Nat → Int32) × (Nat → Int32) × (Nat → Int32) × (Nat → Int32) × (Nat → Int32) × (Nat → Int32) × (Nat → Int32) × (Nat → Int32) × (Nat → Int32)
def f_X2_copyOf_q16_q56 (S : wd_W) : Option o_X2_copyOf_q16_q56 :=
lz ((S.1 5600)) fun x1 =>
lz ((S.1 5601)) fun x2 =>
lz ((S.1 5607)) fun x3 =>
lz ((S.1 5610)) fun x4 =>
bd (f_X2_countBy_q16 (wd_o S [(1600, x1), (1601, x2), (1607, x3), (1610, x4), (1614, (S.1 1614)), (1615, (S.1 1615)), (1616, (S.1 1616)), (1617, (S.1 1617))] [] [(17, (S.2.2.1 17)), (18, (S.2.2.1 18)), (19, (S.2.2.1 19)), (20, (S.2.2.1 20)), (21, (S.2.2.1 21)), (22, (S.2.2.1 22)), (23, (S.2.2.1 23)), (24, (S.2.2.1 24)), (25, (S.2.2.1 25)), (26, (S.2.2.1 26))] [] []) (S.1 5614) (S.1 5615) (S.1 5616) (S.1 5617)) fun o5 =>
some (x1, x2, x3, x4, o5.1, o5.2.1, o5.2.2.1, o5.2.2.2, (va_cpy (S.2.2.1 57) (S.2.2.1 17) 0 0 13), (va_cpy (S.2.2.1 58) (S.2.2.1 18) 0 0 13), (va_cpy (S.2.2.1 59) (S.2.2.1 19) 0 0 13), (va_cpy (S.2.2.1 60) (S.2.2.1 20) 0 0 13), (va_cpy (S.2.2.1 61) (S.2.2.1 21) 0 0 13), (va_cpy (S.2.2.1 62) (S.2.2.1 22) 0 0 10), (va_cpy (S.2.2.1 63) (S.2.2.1 23) 0 0 10), (va_cpy (S.2.2.1 64) (S.2.2.1 24) 0 0 3), (va_cpy (S.2.2.1 65) (S.2.2.1 25) 0 0 3), (va_cpy (S.2.2.1 66) (S.2.2.1 26) 0 0 3))
set_option maxRecDepth 100000 in
set_option maxHeartbeats 4000000 in
theorem c_X2_copyOf_q16_q56 (l : Launch) (D : va_G) (q g : Nat → Nat) (cy : Nat → ClassId) (z : (Nat → Nat) × (Nat → Nat) × Nat) (S : wd_W) (o : o_X2_copyOf_q16_q56) (hf : f_X2_copyOf_q16_q56 S = some o) : MX layX l yX2_copyOf cX2_copyOf 2 none ({ frames := 2, cells := 0, slots := 0, locals := 81 } : Room) D q g cy z [.ref (q 16), .ref (q 56)] S false (none) (wd_o S [(1600, o.1), (1601, o.2.1), (1607, o.2.2.1), (1610, o.2.2.2.1), (1614, o.2.2.2.2.1), (1615, o.2.2.2.2.2.1), (1616, o.2.2.2.2.2.2.1), (1617, o.2.2.2.2.2.2.2.1)] [] [(17, o.2.2.2.2.2.2.2.2.1), (18, o.2.2.2.2.2.2.2.2.2.1), (19, o.2.2.2.2.2.2.2.2.2.2.1), (20, o.2.2.2.2.2.2.2.2.2.2.2.1), (21, o.2.2.2.2.2.2.2.2.2.2.2.2.1), (22, o.2.2.2.2.2.2.2.2.2.2.2.2.2.1), (23, o.2.2.2.2.2.2.2.2.2.2.2.2.2.2.1), (24, o.2.2.2.2.2.2.2.2.2.2.2.2.2.2.2.1), (25, o.2.2.2.2.2.2.2.2.2.2.2.2.2.2.2.2.1), (26, o.2.2.2.2.2.2.2.2.2.2.2.2.2.2.2.2.2)] [] []) 0 0 := by
  refine mx_of (own := RX2) (lc := [(0, .ref (q 16)), (1, .ref (q 56))]) (by decide +kernel) rfl layX_ok (Nat.le_of_ble_eq_true rfl) rfl ?_
  intro X hXl hXq hXz hC hQ
  subst hXl; subst hXq; subst hXz
  unfold f_X2_copyOf_q16_q56 at hf
  refine go_keys (L1 := [(1600, (S.1 1600)), (1601, (S.1 1601)), (1607, (S.1 1607)), (1610, (S.1 1610)), (1614, (S.1 1614)), (1615, (S.1 1615)), (1616, (S.1 1616)), (1617, (S.1 1617))]) (L2 := []) (L3 := [(17, (S.2.2.1 17)), (18, (S.2.2.1 18)), (19, (S.2.2.1 19)), (20, (S.2.2.1 20)), (21, (S.2.2.1 21)), (22, (S.2.2.1 22)), (23, (S.2.2.1 23)), (24, (S.2.2.1 24)), (25, (S.2.2.1 25)), (26, (S.2.2.1 26))]) (L4 := []) (L5 := []) [1600, 1601, 1607, 1610, 1614, 1615, 1616, 1617] [] [17, 18, 19, 20, 21, 22, 23, 24, 25, 26] [] [] rfl rfl rfl rfl rfl ?_
  refine go_aload_n (pc' := 1) hC dX2_copyOf_0 rfl rfl ?_
  refine go_aload_n (pc' := 2) hC dX2_copyOf_1 rfl rfl ?_
  refine go_geti (v := (S.1 5600)) (pc' := 5) hC 56 0 layX_56 rfl rfl inlX2 (Nat.le_of_ble_eq_true rfl) mw_58 rfl dX2_copyOf_2 rfl rfl ?_
  refine go_namei (fun x1 hx => ?_)
  have hf := lz_r hx hf
  clear hx
  refine go_puti (L1' := [(1600, x1), (1601, (S.1 1601)), (1607, (S.1 1607)), (1610, (S.1 1610)), (1614, (S.1 1614)), (1615, (S.1 1615)), (1616, (S.1 1616)), (1617, (S.1 1617))]) (pc' := 8) hC 16 0 layX_16 rfl rfl inlX2 tyX2_ok nmX2 (Nat.le_of_ble_eq_true rfl) mw_58 rfl rfl rfl rfl dX2_copyOf_5 rfl rfl rfl ?_
  refine go_aload_n (pc' := 9) hC dX2_copyOf_8 rfl rfl ?_
  refine go_aload_n (pc' := 10) hC dX2_copyOf_9 rfl rfl ?_
  refine go_geti (v := (S.1 5601)) (pc' := 13) hC 56 1 layX_56 rfl rfl inlX2 (Nat.le_of_ble_eq_true rfl) mw_309 rfl dX2_copyOf_10 rfl rfl ?_
  refine go_namei (fun x2 hx => ?_)
  have hf := lz_r hx hf
  clear hx
  refine go_puti (L1' := [(1600, x1), (1601, x2), (1607, (S.1 1607)), (1610, (S.1 1610)), (1614, (S.1 1614)), (1615, (S.1 1615)), (1616, (S.1 1616)), (1617, (S.1 1617))]) (pc' := 16) hC 16 1 layX_16 rfl rfl inlX2 tyX2_ok nmX2 (Nat.le_of_ble_eq_true rfl) mw_309 rfl rfl rfl rfl dX2_copyOf_13 rfl rfl rfl ?_
  refine go_aload_n (pc' := 17) hC dX2_copyOf_16 rfl rfl ?_
  refine go_aload_n (pc' := 18) hC dX2_copyOf_17 rfl rfl ?_
  refine go_geti (v := (S.1 5607)) (pc' := 21) hC 56 7 layX_56 rfl rfl inlX2 (Nat.le_of_ble_eq_true rfl) mw_310 rfl dX2_copyOf_18 rfl rfl ?_
  refine go_namei (fun x3 hx => ?_)
  have hf := lz_r hx hf
  clear hx
  refine go_puti (L1' := [(1600, x1), (1601, x2), (1607, x3), (1610, (S.1 1610)), (1614, (S.1 1614)), (1615, (S.1 1615)), (1616, (S.1 1616)), (1617, (S.1 1617))]) (pc' := 24) hC 16 7 layX_16 rfl rfl inlX2 tyX2_ok nmX2 (Nat.le_of_ble_eq_true rfl) mw_310 rfl rfl rfl rfl dX2_copyOf_21 rfl rfl rfl ?_
  refine go_aload_n (pc' := 25) hC dX2_copyOf_24 rfl rfl ?_
  refine go_aload_n (pc' := 26) hC dX2_copyOf_25 rfl rfl ?_
  refine go_geti (v := (S.1 5610)) (pc' := 29) hC 56 10 layX_56 rfl rfl inlX2 (Nat.le_of_ble_eq_true rfl) mw_311 rfl dX2_copyOf_26 rfl rfl ?_
  refine go_namei (fun x4 hx => ?_)
  have hf := lz_r hx hf
  clear hx
  refine go_puti (L1' := [(1600, x1), (1601, x2), (1607, x3), (1610, x4), (1614, (S.1 1614)), (1615, (S.1 1615)), (1616, (S.1 1616)), (1617, (S.1 1617))]) (pc' := 32) hC 16 10 layX_16 rfl rfl inlX2 tyX2_ok nmX2 (Nat.le_of_ble_eq_true rfl) mw_311 rfl rfl rfl rfl dX2_copyOf_29 rfl rfl rfl ?_
  refine go_aload_n (pc' := 33) hC dX2_copyOf_32 rfl rfl ?_
  refine go_aload_n (pc' := 34) hC dX2_copyOf_33 rfl rfl ?_
  refine go_geti (v := (S.1 5614)) (pc' := 37) hC 56 14 layX_56 rfl rfl inlX2 (Nat.le_of_ble_eq_true rfl) mw_70 rfl dX2_copyOf_34 rfl rfl ?_
  refine go_aload_n (pc' := 38) hC dX2_copyOf_37 rfl rfl ?_
  refine go_geti (v := (S.1 5615)) (pc' := 41) hC 56 15 layX_56 rfl rfl inlX2 (Nat.le_of_ble_eq_true rfl) mw_316 rfl dX2_copyOf_38 rfl rfl ?_
  refine go_aload_n (pc' := 42) hC dX2_copyOf_41 rfl rfl ?_
  refine go_geti (v := (S.1 5616)) (pc' := 45) hC 56 16 layX_56 rfl rfl inlX2 (Nat.le_of_ble_eq_true rfl) mw_317 rfl dX2_copyOf_42 rfl rfl ?_
  refine go_aload_n (pc' := 46) hC dX2_copyOf_45 rfl rfl ?_
  refine go_geti (v := (S.1 5617)) (pc' := 49) hC 56 17 layX_56 rfl rfl inlX2 (Nat.le_of_ble_eq_true rfl) mw_318 rfl dX2_copyOf_46 rfl rfl ?_
  obtain ⟨o5, ho5, hf⟩ := bd_e hf
  refine go_callV1 (pc' := 52) (As := [.int (S.1 5614), .int (S.1 5615), .int (S.1 5616), .int (S.1 5617)]) (st := []) (st' := []) (L1' := [(1600, x1), (1601, x2), (1607, x3), (1610, x4), (1614, o5.1), (1615, o5.2.1), (1616, o5.2.2.1), (1617, o5.2.2.2)]) (L2' := []) (L3' := [(17, (S.2.2.1 17)), (18, (S.2.2.1 18)), (19, (S.2.2.1 19)), (20, (S.2.2.1 20)), (21, (S.2.2.1 21)), (22, (S.2.2.1 22)), (23, (S.2.2.1 23)), (24, (S.2.2.1 24)), (25, (S.2.2.1 25)), (26, (S.2.2.1 26))]) (L4' := []) (L5' := []) (cells' := 0) (slots' := 0)  (b := 16) hC dX2_copyOf_49 ⟨mw_312, mw_315, mw_14, yd_yX2_countBy, yp_yX2_countBy, Nat.le_of_ble_eq_true rfl, Nat.le_of_ble_eq_true rfl, (Nat.le_of_ble_eq_true rfl), (Nat.le_of_ble_eq_true rfl)⟩ mw_313 mw_314 layX_16 rfl rfl rfl (Nat.le_of_ble_eq_true rfl) (c_X2_countBy_q16 (x_l X) (x_D X) (x_q X) g (x_cy X) (x_z X) _ (S.1 5614) (S.1 5615) (S.1 5616) (S.1 5617) o5 ho5) rfl rfl rfl rfl rfl rfl rfl rfl rfl rfl rfl rfl rfl rfl ?_
  refine go_aload_n (pc' := 53) hC dX2_copyOf_52 rfl rfl ?_
  refine go_getq (pc' := 56) hC 56 2 layX_56 rfl rfl inlX2 (Nat.le_of_ble_eq_true rfl) mw_60 rfl dX2_copyOf_53 rfl ?_
  refine go_aload_n (pc' := 57) hC dX2_copyOf_56 rfl rfl ?_
  refine go_getq (pc' := 60) hC 16 2 layX_16 rfl rfl inlX2 (Nat.le_of_ble_eq_true rfl) mw_60 rfl dX2_copyOf_57 rfl ?_
  refine go_callS1 (pc' := 63) (As := [.ref (x_q X 57), .ref (x_q X 17)]) (st := []) (st' := []) (L1' := [(1600, x1), (1601, x2), (1607, x3), (1610, x4), (1614, o5.1), (1615, o5.2.1), (1616, o5.2.2.1), (1617, o5.2.2.2)]) (L2' := []) (L3' := [(17, (va_cpy (S.2.2.1 57) (S.2.2.1 17) 0 0 13)), (18, (S.2.2.1 18)), (19, (S.2.2.1 19)), (20, (S.2.2.1 20)), (21, (S.2.2.1 21)), (22, (S.2.2.1 22)), (23, (S.2.2.1 23)), (24, (S.2.2.1 24)), (25, (S.2.2.1 25)), (26, (S.2.2.1 26))]) (L4' := []) (L5' := []) (cells' := 0) (slots' := 0) hC dX2_copyOf_60 ⟨mw_465, mw_467, mw_14, yd_yX2_copyRow, yp_yX2_copyRow, Nat.le_of_ble_eq_true rfl, Nat.le_of_ble_eq_true rfl, Nat.le_of_ble_eq_true rfl, Nat.le_of_ble_eq_true rfl⟩ mw_466 rfl rfl (Nat.le_of_ble_eq_true rfl) (c_copyRow (x_l X) (x_D X) (x_q X) g (x_cy X) (x_z X) _ layX layX_ok 57 17 13 layX_57 layX_17 (by decide)) rfl rfl rfl rfl rfl rfl rfl rfl rfl rfl rfl rfl rfl rfl ?_
  refine go_aload_n (pc' := 64) hC dX2_copyOf_63 rfl rfl ?_
  refine go_getq (pc' := 67) hC 56 3 layX_56 rfl rfl inlX2 (Nat.le_of_ble_eq_true rfl) mw_61 rfl dX2_copyOf_64 rfl ?_
  refine go_aload_n (pc' := 68) hC dX2_copyOf_67 rfl rfl ?_
  refine go_getq (pc' := 71) hC 16 3 layX_16 rfl rfl inlX2 (Nat.le_of_ble_eq_true rfl) mw_61 rfl dX2_copyOf_68 rfl ?_
  refine go_callS1 (pc' := 74) (As := [.ref (x_q X 58), .ref (x_q X 18)]) (st := []) (st' := []) (L1' := [(1600, x1), (1601, x2), (1607, x3), (1610, x4), (1614, o5.1), (1615, o5.2.1), (1616, o5.2.2.1), (1617, o5.2.2.2)]) (L2' := []) (L3' := [(17, (va_cpy (S.2.2.1 57) (S.2.2.1 17) 0 0 13)), (18, (va_cpy (S.2.2.1 58) (S.2.2.1 18) 0 0 13)), (19, (S.2.2.1 19)), (20, (S.2.2.1 20)), (21, (S.2.2.1 21)), (22, (S.2.2.1 22)), (23, (S.2.2.1 23)), (24, (S.2.2.1 24)), (25, (S.2.2.1 25)), (26, (S.2.2.1 26))]) (L4' := []) (L5' := []) (cells' := 0) (slots' := 0) hC dX2_copyOf_71 ⟨mw_465, mw_467, mw_14, yd_yX2_copyRow, yp_yX2_copyRow, Nat.le_of_ble_eq_true rfl, Nat.le_of_ble_eq_true rfl, Nat.le_of_ble_eq_true rfl, Nat.le_of_ble_eq_true rfl⟩ mw_466 rfl rfl (Nat.le_of_ble_eq_true rfl) (c_copyRow (x_l X) (x_D X) (x_q X) g (x_cy X) (x_z X) _ layX layX_ok 58 18 13 layX_58 layX_18 (by decide)) rfl rfl rfl rfl rfl rfl rfl rfl rfl rfl rfl rfl rfl rfl ?_
  refine go_aload_n (pc' := 75) hC dX2_copyOf_74 rfl rfl ?_
  refine go_getq (pc' := 78) hC 56 4 layX_56 rfl rfl inlX2 (Nat.le_of_ble_eq_true rfl) mw_62 rfl dX2_copyOf_75 rfl ?_
  refine go_aload_n (pc' := 79) hC dX2_copyOf_78 rfl rfl ?_
  refine go_getq (pc' := 82) hC 16 4 layX_16 rfl rfl inlX2 (Nat.le_of_ble_eq_true rfl) mw_62 rfl dX2_copyOf_79 rfl ?_
  refine go_callS1 (pc' := 85) (As := [.ref (x_q X 59), .ref (x_q X 19)]) (st := []) (st' := []) (L1' := [(1600, x1), (1601, x2), (1607, x3), (1610, x4), (1614, o5.1), (1615, o5.2.1), (1616, o5.2.2.1), (1617, o5.2.2.2)]) (L2' := []) (L3' := [(17, (va_cpy (S.2.2.1 57) (S.2.2.1 17) 0 0 13)), (18, (va_cpy (S.2.2.1 58) (S.2.2.1 18) 0 0 13)), (19, (va_cpy (S.2.2.1 59) (S.2.2.1 19) 0 0 13)), (20, (S.2.2.1 20)), (21, (S.2.2.1 21)), (22, (S.2.2.1 22)), (23, (S.2.2.1 23)), (24, (S.2.2.1 24)), (25, (S.2.2.1 25)), (26, (S.2.2.1 26))]) (L4' := []) (L5' := []) (cells' := 0) (slots' := 0) hC dX2_copyOf_82 ⟨mw_465, mw_467, mw_14, yd_yX2_copyRow, yp_yX2_copyRow, Nat.le_of_ble_eq_true rfl, Nat.le_of_ble_eq_true rfl, Nat.le_of_ble_eq_true rfl, Nat.le_of_ble_eq_true rfl⟩ mw_466 rfl rfl (Nat.le_of_ble_eq_true rfl) (c_copyRow (x_l X) (x_D X) (x_q X) g (x_cy X) (x_z X) _ layX layX_ok 59 19 13 layX_59 layX_19 (by decide)) rfl rfl rfl rfl rfl rfl rfl rfl rfl rfl rfl rfl rfl rfl ?_
  refine go_aload_n (pc' := 86) hC dX2_copyOf_85 rfl rfl ?_
  refine go_getq (pc' := 89) hC 56 5 layX_56 rfl rfl inlX2 (Nat.le_of_ble_eq_true rfl) mw_63 rfl dX2_copyOf_86 rfl ?_
  refine go_aload_n (pc' := 90) hC dX2_copyOf_89 rfl rfl ?_
  refine go_getq (pc' := 93) hC 16 5 layX_16 rfl rfl inlX2 (Nat.le_of_ble_eq_true rfl) mw_63 rfl dX2_copyOf_90 rfl ?_
  refine go_callS1 (pc' := 96) (As := [.ref (x_q X 60), .ref (x_q X 20)]) (st := []) (st' := []) (L1' := [(1600, x1), (1601, x2), (1607, x3), (1610, x4), (1614, o5.1), (1615, o5.2.1), (1616, o5.2.2.1), (1617, o5.2.2.2)]) (L2' := []) (L3' := [(17, (va_cpy (S.2.2.1 57) (S.2.2.1 17) 0 0 13)), (18, (va_cpy (S.2.2.1 58) (S.2.2.1 18) 0 0 13)), (19, (va_cpy (S.2.2.1 59) (S.2.2.1 19) 0 0 13)), (20, (va_cpy (S.2.2.1 60) (S.2.2.1 20) 0 0 13)), (21, (S.2.2.1 21)), (22, (S.2.2.1 22)), (23, (S.2.2.1 23)), (24, (S.2.2.1 24)), (25, (S.2.2.1 25)), (26, (S.2.2.1 26))]) (L4' := []) (L5' := []) (cells' := 0) (slots' := 0) hC dX2_copyOf_93 ⟨mw_465, mw_467, mw_14, yd_yX2_copyRow, yp_yX2_copyRow, Nat.le_of_ble_eq_true rfl, Nat.le_of_ble_eq_true rfl, Nat.le_of_ble_eq_true rfl, Nat.le_of_ble_eq_true rfl⟩ mw_466 rfl rfl (Nat.le_of_ble_eq_true rfl) (c_copyRow (x_l X) (x_D X) (x_q X) g (x_cy X) (x_z X) _ layX layX_ok 60 20 13 layX_60 layX_20 (by decide)) rfl rfl rfl rfl rfl rfl rfl rfl rfl rfl rfl rfl rfl rfl ?_
  refine go_aload_n (pc' := 97) hC dX2_copyOf_96 rfl rfl ?_
  refine go_getq (pc' := 100) hC 56 6 layX_56 rfl rfl inlX2 (Nat.le_of_ble_eq_true rfl) mw_64 rfl dX2_copyOf_97 rfl ?_
  refine go_aload_n (pc' := 101) hC dX2_copyOf_100 rfl rfl ?_
  refine go_getq (pc' := 104) hC 16 6 layX_16 rfl rfl inlX2 (Nat.le_of_ble_eq_true rfl) mw_64 rfl dX2_copyOf_101 rfl ?_
  refine go_callS1 (pc' := 107) (As := [.ref (x_q X 61), .ref (x_q X 21)]) (st := []) (st' := []) (L1' := [(1600, x1), (1601, x2), (1607, x3), (1610, x4), (1614, o5.1), (1615, o5.2.1), (1616, o5.2.2.1), (1617, o5.2.2.2)]) (L2' := []) (L3' := [(17, (va_cpy (S.2.2.1 57) (S.2.2.1 17) 0 0 13)), (18, (va_cpy (S.2.2.1 58) (S.2.2.1 18) 0 0 13)), (19, (va_cpy (S.2.2.1 59) (S.2.2.1 19) 0 0 13)), (20, (va_cpy (S.2.2.1 60) (S.2.2.1 20) 0 0 13)), (21, (va_cpy (S.2.2.1 61) (S.2.2.1 21) 0 0 13)), (22, (S.2.2.1 22)), (23, (S.2.2.1 23)), (24, (S.2.2.1 24)), (25, (S.2.2.1 25)), (26, (S.2.2.1 26))]) (L4' := []) (L5' := []) (cells' := 0) (slots' := 0) hC dX2_copyOf_104 ⟨mw_465, mw_467, mw_14, yd_yX2_copyRow, yp_yX2_copyRow, Nat.le_of_ble_eq_true rfl, Nat.le_of_ble_eq_true rfl, Nat.le_of_ble_eq_true rfl, Nat.le_of_ble_eq_true rfl⟩ mw_466 rfl rfl (Nat.le_of_ble_eq_true rfl) (c_copyRow (x_l X) (x_D X) (x_q X) g (x_cy X) (x_z X) _ layX layX_ok 61 21 13 layX_61 layX_21 (by decide)) rfl rfl rfl rfl rfl rfl rfl rfl rfl rfl rfl rfl rfl rfl ?_
  refine go_aload_n (pc' := 108) hC dX2_copyOf_107 rfl rfl ?_
  refine go_getq (pc' := 111) hC 56 8 layX_56 rfl rfl inlX2 (Nat.le_of_ble_eq_true rfl) mw_65 rfl dX2_copyOf_108 rfl ?_
  refine go_aload_n (pc' := 112) hC dX2_copyOf_111 rfl rfl ?_
  refine go_getq (pc' := 115) hC 16 8 layX_16 rfl rfl inlX2 (Nat.le_of_ble_eq_true rfl) mw_65 rfl dX2_copyOf_112 rfl ?_
  refine go_callS1 (pc' := 118) (As := [.ref (x_q X 62), .ref (x_q X 22)]) (st := []) (st' := []) (L1' := [(1600, x1), (1601, x2), (1607, x3), (1610, x4), (1614, o5.1), (1615, o5.2.1), (1616, o5.2.2.1), (1617, o5.2.2.2)]) (L2' := []) (L3' := [(17, (va_cpy (S.2.2.1 57) (S.2.2.1 17) 0 0 13)), (18, (va_cpy (S.2.2.1 58) (S.2.2.1 18) 0 0 13)), (19, (va_cpy (S.2.2.1 59) (S.2.2.1 19) 0 0 13)), (20, (va_cpy (S.2.2.1 60) (S.2.2.1 20) 0 0 13)), (21, (va_cpy (S.2.2.1 61) (S.2.2.1 21) 0 0 13)), (22, (va_cpy (S.2.2.1 62) (S.2.2.1 22) 0 0 10)), (23, (S.2.2.1 23)), (24, (S.2.2.1 24)), (25, (S.2.2.1 25)), (26, (S.2.2.1 26))]) (L4' := []) (L5' := []) (cells' := 0) (slots' := 0) hC dX2_copyOf_115 ⟨mw_465, mw_467, mw_14, yd_yX2_copyRow, yp_yX2_copyRow, Nat.le_of_ble_eq_true rfl, Nat.le_of_ble_eq_true rfl, Nat.le_of_ble_eq_true rfl, Nat.le_of_ble_eq_true rfl⟩ mw_466 rfl rfl (Nat.le_of_ble_eq_true rfl) (c_copyRow (x_l X) (x_D X) (x_q X) g (x_cy X) (x_z X) _ layX layX_ok 62 22 10 layX_62 layX_22 (by decide)) rfl rfl rfl rfl rfl rfl rfl rfl rfl rfl rfl rfl rfl rfl ?_
  refine go_aload_n (pc' := 119) hC dX2_copyOf_118 rfl rfl ?_
  refine go_getq (pc' := 122) hC 56 9 layX_56 rfl rfl inlX2 (Nat.le_of_ble_eq_true rfl) mw_66 rfl dX2_copyOf_119 rfl ?_
  refine go_aload_n (pc' := 123) hC dX2_copyOf_122 rfl rfl ?_
  refine go_getq (pc' := 126) hC 16 9 layX_16 rfl rfl inlX2 (Nat.le_of_ble_eq_true rfl) mw_66 rfl dX2_copyOf_123 rfl ?_
  refine go_callS1 (pc' := 129) (As := [.ref (x_q X 63), .ref (x_q X 23)]) (st := []) (st' := []) (L1' := [(1600, x1), (1601, x2), (1607, x3), (1610, x4), (1614, o5.1), (1615, o5.2.1), (1616, o5.2.2.1), (1617, o5.2.2.2)]) (L2' := []) (L3' := [(17, (va_cpy (S.2.2.1 57) (S.2.2.1 17) 0 0 13)), (18, (va_cpy (S.2.2.1 58) (S.2.2.1 18) 0 0 13)), (19, (va_cpy (S.2.2.1 59) (S.2.2.1 19) 0 0 13)), (20, (va_cpy (S.2.2.1 60) (S.2.2.1 20) 0 0 13)), (21, (va_cpy (S.2.2.1 61) (S.2.2.1 21) 0 0 13)), (22, (va_cpy (S.2.2.1 62) (S.2.2.1 22) 0 0 10)), (23, (va_cpy (S.2.2.1 63) (S.2.2.1 23) 0 0 10)), (24, (S.2.2.1 24)), (25, (S.2.2.1 25)), (26, (S.2.2.1 26))]) (L4' := []) (L5' := []) (cells' := 0) (slots' := 0) hC dX2_copyOf_126 ⟨mw_465, mw_467, mw_14, yd_yX2_copyRow, yp_yX2_copyRow, Nat.le_of_ble_eq_true rfl, Nat.le_of_ble_eq_true rfl, Nat.le_of_ble_eq_true rfl, Nat.le_of_ble_eq_true rfl⟩ mw_466 rfl rfl (Nat.le_of_ble_eq_true rfl) (c_copyRow (x_l X) (x_D X) (x_q X) g (x_cy X) (x_z X) _ layX layX_ok 63 23 10 layX_63 layX_23 (by decide)) rfl rfl rfl rfl rfl rfl rfl rfl rfl rfl rfl rfl rfl rfl ?_
  refine go_aload_n (pc' := 130) hC dX2_copyOf_129 rfl rfl ?_
  refine go_getq (pc' := 133) hC 56 11 layX_56 rfl rfl inlX2 (Nat.le_of_ble_eq_true rfl) mw_67 rfl dX2_copyOf_130 rfl ?_
  refine go_aload_n (pc' := 134) hC dX2_copyOf_133 rfl rfl ?_
  refine go_getq (pc' := 137) hC 16 11 layX_16 rfl rfl inlX2 (Nat.le_of_ble_eq_true rfl) mw_67 rfl dX2_copyOf_134 rfl ?_
  refine go_callS1 (pc' := 140) (As := [.ref (x_q X 64), .ref (x_q X 24)]) (st := []) (st' := []) (L1' := [(1600, x1), (1601, x2), (1607, x3), (1610, x4), (1614, o5.1), (1615, o5.2.1), (1616, o5.2.2.1), (1617, o5.2.2.2)]) (L2' := []) (L3' := [(17, (va_cpy (S.2.2.1 57) (S.2.2.1 17) 0 0 13)), (18, (va_cpy (S.2.2.1 58) (S.2.2.1 18) 0 0 13)), (19, (va_cpy (S.2.2.1 59) (S.2.2.1 19) 0 0 13)), (20, (va_cpy (S.2.2.1 60) (S.2.2.1 20) 0 0 13)), (21, (va_cpy (S.2.2.1 61) (S.2.2.1 21) 0 0 13)), (22, (va_cpy (S.2.2.1 62) (S.2.2.1 22) 0 0 10)), (23, (va_cpy (S.2.2.1 63) (S.2.2.1 23) 0 0 10)), (24, (va_cpy (S.2.2.1 64) (S.2.2.1 24) 0 0 3)), (25, (S.2.2.1 25)), (26, (S.2.2.1 26))]) (L4' := []) (L5' := []) (cells' := 0) (slots' := 0) hC dX2_copyOf_137 ⟨mw_465, mw_467, mw_14, yd_yX2_copyRow, yp_yX2_copyRow, Nat.le_of_ble_eq_true rfl, Nat.le_of_ble_eq_true rfl, Nat.le_of_ble_eq_true rfl, Nat.le_of_ble_eq_true rfl⟩ mw_466 rfl rfl (Nat.le_of_ble_eq_true rfl) (c_copyRow (x_l X) (x_D X) (x_q X) g (x_cy X) (x_z X) _ layX layX_ok 64 24 3 layX_64 layX_24 (by decide)) rfl rfl rfl rfl rfl rfl rfl rfl rfl rfl rfl rfl rfl rfl ?_
  refine go_aload_n (pc' := 141) hC dX2_copyOf_140 rfl rfl ?_
  refine go_getq (pc' := 144) hC 56 12 layX_56 rfl rfl inlX2 (Nat.le_of_ble_eq_true rfl) mw_68 rfl dX2_copyOf_141 rfl ?_
  refine go_aload_n (pc' := 145) hC dX2_copyOf_144 rfl rfl ?_
  refine go_getq (pc' := 148) hC 16 12 layX_16 rfl rfl inlX2 (Nat.le_of_ble_eq_true rfl) mw_68 rfl dX2_copyOf_145 rfl ?_
  refine go_callS1 (pc' := 151) (As := [.ref (x_q X 65), .ref (x_q X 25)]) (st := []) (st' := []) (L1' := [(1600, x1), (1601, x2), (1607, x3), (1610, x4), (1614, o5.1), (1615, o5.2.1), (1616, o5.2.2.1), (1617, o5.2.2.2)]) (L2' := []) (L3' := [(17, (va_cpy (S.2.2.1 57) (S.2.2.1 17) 0 0 13)), (18, (va_cpy (S.2.2.1 58) (S.2.2.1 18) 0 0 13)), (19, (va_cpy (S.2.2.1 59) (S.2.2.1 19) 0 0 13)), (20, (va_cpy (S.2.2.1 60) (S.2.2.1 20) 0 0 13)), (21, (va_cpy (S.2.2.1 61) (S.2.2.1 21) 0 0 13)), (22, (va_cpy (S.2.2.1 62) (S.2.2.1 22) 0 0 10)), (23, (va_cpy (S.2.2.1 63) (S.2.2.1 23) 0 0 10)), (24, (va_cpy (S.2.2.1 64) (S.2.2.1 24) 0 0 3)), (25, (va_cpy (S.2.2.1 65) (S.2.2.1 25) 0 0 3)), (26, (S.2.2.1 26))]) (L4' := []) (L5' := []) (cells' := 0) (slots' := 0) hC dX2_copyOf_148 ⟨mw_465, mw_467, mw_14, yd_yX2_copyRow, yp_yX2_copyRow, Nat.le_of_ble_eq_true rfl, Nat.le_of_ble_eq_true rfl, Nat.le_of_ble_eq_true rfl, Nat.le_of_ble_eq_true rfl⟩ mw_466 rfl rfl (Nat.le_of_ble_eq_true rfl) (c_copyRow (x_l X) (x_D X) (x_q X) g (x_cy X) (x_z X) _ layX layX_ok 65 25 3 layX_65 layX_25 (by decide)) rfl rfl rfl rfl rfl rfl rfl rfl rfl rfl rfl rfl rfl rfl ?_
  refine go_aload_n (pc' := 152) hC dX2_copyOf_151 rfl rfl ?_
  refine go_getq (pc' := 155) hC 56 13 layX_56 rfl rfl inlX2 (Nat.le_of_ble_eq_true rfl) mw_69 rfl dX2_copyOf_152 rfl ?_
  refine go_aload_n (pc' := 156) hC dX2_copyOf_155 rfl rfl ?_
  refine go_getq (pc' := 159) hC 16 13 layX_16 rfl rfl inlX2 (Nat.le_of_ble_eq_true rfl) mw_69 rfl dX2_copyOf_156 rfl ?_
  refine go_callS1 (pc' := 162) (As := [.ref (x_q X 66), .ref (x_q X 26)]) (st := []) (st' := []) (L1' := [(1600, x1), (1601, x2), (1607, x3), (1610, x4), (1614, o5.1), (1615, o5.2.1), (1616, o5.2.2.1), (1617, o5.2.2.2)]) (L2' := []) (L3' := [(17, (va_cpy (S.2.2.1 57) (S.2.2.1 17) 0 0 13)), (18, (va_cpy (S.2.2.1 58) (S.2.2.1 18) 0 0 13)), (19, (va_cpy (S.2.2.1 59) (S.2.2.1 19) 0 0 13)), (20, (va_cpy (S.2.2.1 60) (S.2.2.1 20) 0 0 13)), (21, (va_cpy (S.2.2.1 61) (S.2.2.1 21) 0 0 13)), (22, (va_cpy (S.2.2.1 62) (S.2.2.1 22) 0 0 10)), (23, (va_cpy (S.2.2.1 63) (S.2.2.1 23) 0 0 10)), (24, (va_cpy (S.2.2.1 64) (S.2.2.1 24) 0 0 3)), (25, (va_cpy (S.2.2.1 65) (S.2.2.1 25) 0 0 3)), (26, (va_cpy (S.2.2.1 66) (S.2.2.1 26) 0 0 3))]) (L4' := []) (L5' := []) (cells' := 0) (slots' := 0) hC dX2_copyOf_159 ⟨mw_465, mw_467, mw_14, yd_yX2_copyRow, yp_yX2_copyRow, Nat.le_of_ble_eq_true rfl, Nat.le_of_ble_eq_true rfl, Nat.le_of_ble_eq_true rfl, Nat.le_of_ble_eq_true rfl⟩ mw_466 rfl rfl (Nat.le_of_ble_eq_true rfl) (c_copyRow (x_l X) (x_D X) (x_q X) g (x_cy X) (x_z X) _ layX layX_ok 66 26 3 layX_66 layX_26 (by decide)) rfl rfl rfl rfl rfl rfl rfl rfl rfl rfl rfl rfl rfl rfl ?_
  obtain rfl := Option.some.inj hf
  exact go_vret hC hQ dX2_copyOf_162 rfl rfl rfl (fun _ => rfl) rfl rfl
abbrev o_X6_copyOf_q27_q92 : Type := Int32 × Int32 × (Nat → Int32) × (Nat → Int32) × (Nat → Int32) × (Nat → Int32) × (Nat → Int32) × (Nat → Int32)
def f_X6_copyOf_q27_q92 (S : wd_W) : Option o_X6_copyOf_q27_q92 :=
lz ((S.1 9200)) fun x1 =>
lz ((S.1 9204)) fun x2 =>
some (x1, x2, (va_cpy (S.2.2.1 93) (S.2.2.1 28) 0 0 9), (va_cpy (S.2.2.1 94) (S.2.2.1 29) 0 0 9), (va_cpy (S.2.2.1 95) (S.2.2.1 30) 0 0 9), (va_cpy (S.2.2.1 96) (S.2.2.1 31) 0 0 6), (va_cpy (S.2.2.1 97) (S.2.2.1 32) 0 0 6), (va_cpy (S.2.2.1 98) (S.2.2.1 33) 0 0 6))
set_option maxRecDepth 100000 in
set_option maxHeartbeats 4000000 in
theorem c_X6_copyOf_q27_q92 (l : Launch) (D : va_G) (q g : Nat → Nat) (cy : Nat → ClassId) (z : (Nat → Nat) × (Nat → Nat) × Nat) (S : wd_W) (o : o_X6_copyOf_q27_q92) (hf : f_X6_copyOf_q27_q92 S = some o) : MX layX l yX6_copyOf cX6_copyOf 2 none ({ frames := 2, cells := 0, slots := 0, locals := 81 } : Room) D q g cy z [.ref (q 27), .ref (q 92)] S false (none) (wd_o S [(2700, o.1), (2704, o.2.1)] [] [(28, o.2.2.1), (29, o.2.2.2.1), (30, o.2.2.2.2.1), (31, o.2.2.2.2.2.1), (32, o.2.2.2.2.2.2.1), (33, o.2.2.2.2.2.2.2)] [] []) 0 0 := by
  refine mx_of (own := RX6) (lc := [(0, .ref (q 27)), (1, .ref (q 92))]) (by decide +kernel) rfl layX_ok (Nat.le_of_ble_eq_true rfl) rfl ?_
  intro X hXl hXq hXz hC hQ
  subst hXl; subst hXq; subst hXz
  unfold f_X6_copyOf_q27_q92 at hf
  refine go_keys (L1 := [(2700, (S.1 2700)), (2704, (S.1 2704))]) (L2 := []) (L3 := [(28, (S.2.2.1 28)), (29, (S.2.2.1 29)), (30, (S.2.2.1 30)), (31, (S.2.2.1 31)), (32, (S.2.2.1 32)), (33, (S.2.2.1 33))]) (L4 := []) (L5 := []) [2700, 2704] [] [28, 29, 30, 31, 32, 33] [] [] rfl rfl rfl rfl rfl ?_
  refine go_aload_n (pc' := 1) hC dX6_copyOf_0 rfl rfl ?_
  refine go_aload_n (pc' := 2) hC dX6_copyOf_1 rfl rfl ?_
  refine go_geti (v := (S.1 9200)) (pc' := 5) hC 92 0 layX_92 rfl rfl inlX6 (Nat.le_of_ble_eq_true rfl) mw_477 rfl dX6_copyOf_2 rfl rfl ?_
  refine go_namei (fun x1 hx => ?_)
  have hf := lz_r hx hf
  clear hx
  refine go_puti (L1' := [(2700, x1), (2704, (S.1 2704))]) (pc' := 8) hC 27 0 layX_27 rfl rfl inlX6 tyX6_ok nmX6 (Nat.le_of_ble_eq_true rfl) mw_477 rfl rfl rfl rfl dX6_copyOf_5 rfl rfl rfl ?_
  refine go_aload_n (pc' := 9) hC dX6_copyOf_8 rfl rfl ?_
  refine go_aload_n (pc' := 10) hC dX6_copyOf_9 rfl rfl ?_
  refine go_geti (v := (S.1 9204)) (pc' := 13) hC 92 4 layX_92 rfl rfl inlX6 (Nat.le_of_ble_eq_true rfl) mw_478 rfl dX6_copyOf_10 rfl rfl ?_
  refine go_namei (fun x2 hx => ?_)
  have hf := lz_r hx hf
  clear hx
  refine go_puti (L1' := [(2700, x1), (2704, x2)]) (pc' := 16) hC 27 4 layX_27 rfl rfl inlX6 tyX6_ok nmX6 (Nat.le_of_ble_eq_true rfl) mw_478 rfl rfl rfl rfl dX6_copyOf_13 rfl rfl rfl ?_
  refine go_aload_n (pc' := 17) hC dX6_copyOf_16 rfl rfl ?_
  refine go_getq (pc' := 20) hC 92 1 layX_92 rfl rfl inlX6 (Nat.le_of_ble_eq_true rfl) mw_81 rfl dX6_copyOf_17 rfl ?_
  refine go_aload_n (pc' := 21) hC dX6_copyOf_20 rfl rfl ?_
  refine go_getq (pc' := 24) hC 27 1 layX_27 rfl rfl inlX6 (Nat.le_of_ble_eq_true rfl) mw_81 rfl dX6_copyOf_21 rfl ?_
  refine go_callS1 (pc' := 27) (As := [.ref (x_q X 93), .ref (x_q X 28)]) (st := []) (st' := []) (L1' := [(2700, x1), (2704, x2)]) (L2' := []) (L3' := [(28, (va_cpy (S.2.2.1 93) (S.2.2.1 28) 0 0 9)), (29, (S.2.2.1 29)), (30, (S.2.2.1 30)), (31, (S.2.2.1 31)), (32, (S.2.2.1 32)), (33, (S.2.2.1 33))]) (L4' := []) (L5' := []) (cells' := 0) (slots' := 0) hC dX6_copyOf_24 ⟨mw_1517, mw_467, mw_14, yd_yX2_copyRow, yp_yX2_copyRow, Nat.le_of_ble_eq_true rfl, Nat.le_of_ble_eq_true rfl, Nat.le_of_ble_eq_true rfl, Nat.le_of_ble_eq_true rfl⟩ mw_466 rfl rfl (Nat.le_of_ble_eq_true rfl) (c_copyRow (x_l X) (x_D X) (x_q X) g (x_cy X) (x_z X) _ layX layX_ok 93 28 9 layX_93 layX_28 (by decide)) rfl rfl rfl rfl rfl rfl rfl rfl rfl rfl rfl rfl rfl rfl ?_
  refine go_aload_n (pc' := 28) hC dX6_copyOf_27 rfl rfl ?_
  refine go_getq (pc' := 31) hC 92 2 layX_92 rfl rfl inlX6 (Nat.le_of_ble_eq_true rfl) mw_82 rfl dX6_copyOf_28 rfl ?_
  refine go_aload_n (pc' := 32) hC dX6_copyOf_31 rfl rfl ?_
  refine go_getq (pc' := 35) hC 27 2 layX_27 rfl rfl inlX6 (Nat.le_of_ble_eq_true rfl) mw_82 rfl dX6_copyOf_32 rfl ?_
  refine go_callS1 (pc' := 38) (As := [.ref (x_q X 94), .ref (x_q X 29)]) (st := []) (st' := []) (L1' := [(2700, x1), (2704, x2)]) (L2' := []) (L3' := [(28, (va_cpy (S.2.2.1 93) (S.2.2.1 28) 0 0 9)), (29, (va_cpy (S.2.2.1 94) (S.2.2.1 29) 0 0 9)), (30, (S.2.2.1 30)), (31, (S.2.2.1 31)), (32, (S.2.2.1 32)), (33, (S.2.2.1 33))]) (L4' := []) (L5' := []) (cells' := 0) (slots' := 0) hC dX6_copyOf_35 ⟨mw_1517, mw_467, mw_14, yd_yX2_copyRow, yp_yX2_copyRow, Nat.le_of_ble_eq_true rfl, Nat.le_of_ble_eq_true rfl, Nat.le_of_ble_eq_true rfl, Nat.le_of_ble_eq_true rfl⟩ mw_466 rfl rfl (Nat.le_of_ble_eq_true rfl) (c_copyRow (x_l X) (x_D X) (x_q X) g (x_cy X) (x_z X) _ layX layX_ok 94 29 9 layX_94 layX_29 (by decide)) rfl rfl rfl rfl rfl rfl rfl rfl rfl rfl rfl rfl rfl rfl ?_
  refine go_aload_n (pc' := 39) hC dX6_copyOf_38 rfl rfl ?_
  refine go_getq (pc' := 42) hC 92 3 layX_92 rfl rfl inlX6 (Nat.le_of_ble_eq_true rfl) mw_83 rfl dX6_copyOf_39 rfl ?_
  refine go_aload_n (pc' := 43) hC dX6_copyOf_42 rfl rfl ?_
  refine go_getq (pc' := 46) hC 27 3 layX_27 rfl rfl inlX6 (Nat.le_of_ble_eq_true rfl) mw_83 rfl dX6_copyOf_43 rfl ?_
  refine go_callS1 (pc' := 49) (As := [.ref (x_q X 95), .ref (x_q X 30)]) (st := []) (st' := []) (L1' := [(2700, x1), (2704, x2)]) (L2' := []) (L3' := [(28, (va_cpy (S.2.2.1 93) (S.2.2.1 28) 0 0 9)), (29, (va_cpy (S.2.2.1 94) (S.2.2.1 29) 0 0 9)), (30, (va_cpy (S.2.2.1 95) (S.2.2.1 30) 0 0 9)), (31, (S.2.2.1 31)), (32, (S.2.2.1 32)), (33, (S.2.2.1 33))]) (L4' := []) (L5' := []) (cells' := 0) (slots' := 0) hC dX6_copyOf_46 ⟨mw_1517, mw_467, mw_14, yd_yX2_copyRow, yp_yX2_copyRow, Nat.le_of_ble_eq_true rfl, Nat.le_of_ble_eq_true rfl, Nat.le_of_ble_eq_true rfl, Nat.le_of_ble_eq_true rfl⟩ mw_466 rfl rfl (Nat.le_of_ble_eq_true rfl) (c_copyRow (x_l X) (x_D X) (x_q X) g (x_cy X) (x_z X) _ layX layX_ok 95 30 9 layX_95 layX_30 (by decide)) rfl rfl rfl rfl rfl rfl rfl rfl rfl rfl rfl rfl rfl rfl ?_
  refine go_aload_n (pc' := 50) hC dX6_copyOf_49 rfl rfl ?_
  refine go_getq (pc' := 53) hC 92 5 layX_92 rfl rfl inlX6 (Nat.le_of_ble_eq_true rfl) mw_84 rfl dX6_copyOf_50 rfl ?_
  refine go_aload_n (pc' := 54) hC dX6_copyOf_53 rfl rfl ?_
  refine go_getq (pc' := 57) hC 27 5 layX_27 rfl rfl inlX6 (Nat.le_of_ble_eq_true rfl) mw_84 rfl dX6_copyOf_54 rfl ?_
  refine go_callS1 (pc' := 60) (As := [.ref (x_q X 96), .ref (x_q X 31)]) (st := []) (st' := []) (L1' := [(2700, x1), (2704, x2)]) (L2' := []) (L3' := [(28, (va_cpy (S.2.2.1 93) (S.2.2.1 28) 0 0 9)), (29, (va_cpy (S.2.2.1 94) (S.2.2.1 29) 0 0 9)), (30, (va_cpy (S.2.2.1 95) (S.2.2.1 30) 0 0 9)), (31, (va_cpy (S.2.2.1 96) (S.2.2.1 31) 0 0 6)), (32, (S.2.2.1 32)), (33, (S.2.2.1 33))]) (L4' := []) (L5' := []) (cells' := 0) (slots' := 0) hC dX6_copyOf_57 ⟨mw_1517, mw_467, mw_14, yd_yX2_copyRow, yp_yX2_copyRow, Nat.le_of_ble_eq_true rfl, Nat.le_of_ble_eq_true rfl, Nat.le_of_ble_eq_true rfl, Nat.le_of_ble_eq_true rfl⟩ mw_466 rfl rfl (Nat.le_of_ble_eq_true rfl) (c_copyRow (x_l X) (x_D X) (x_q X) g (x_cy X) (x_z X) _ layX layX_ok 96 31 6 layX_96 layX_31 (by decide)) rfl rfl rfl rfl rfl rfl rfl rfl rfl rfl rfl rfl rfl rfl ?_
  refine go_aload_n (pc' := 61) hC dX6_copyOf_60 rfl rfl ?_
  refine go_getq (pc' := 64) hC 92 6 layX_92 rfl rfl inlX6 (Nat.le_of_ble_eq_true rfl) mw_85 rfl dX6_copyOf_61 rfl ?_
  refine go_aload_n (pc' := 65) hC dX6_copyOf_64 rfl rfl ?_
  refine go_getq (pc' := 68) hC 27 6 layX_27 rfl rfl inlX6 (Nat.le_of_ble_eq_true rfl) mw_85 rfl dX6_copyOf_65 rfl ?_
  refine go_callS1 (pc' := 71) (As := [.ref (x_q X 97), .ref (x_q X 32)]) (st := []) (st' := []) (L1' := [(2700, x1), (2704, x2)]) (L2' := []) (L3' := [(28, (va_cpy (S.2.2.1 93) (S.2.2.1 28) 0 0 9)), (29, (va_cpy (S.2.2.1 94) (S.2.2.1 29) 0 0 9)), (30, (va_cpy (S.2.2.1 95) (S.2.2.1 30) 0 0 9)), (31, (va_cpy (S.2.2.1 96) (S.2.2.1 31) 0 0 6)), (32, (va_cpy (S.2.2.1 97) (S.2.2.1 32) 0 0 6)), (33, (S.2.2.1 33))]) (L4' := []) (L5' := []) (cells' := 0) (slots' := 0) hC dX6_copyOf_68 ⟨mw_1517, mw_467, mw_14, yd_yX2_copyRow, yp_yX2_copyRow, Nat.le_of_ble_eq_true rfl, Nat.le_of_ble_eq_true rfl, Nat.le_of_ble_eq_true rfl, Nat.le_of_ble_eq_true rfl⟩ mw_466 rfl rfl (Nat.le_of_ble_eq_true rfl) (c_copyRow (x_l X) (x_D X) (x_q X) g (x_cy X) (x_z X) _ layX layX_ok 97 32 6 layX_97 layX_32 (by decide)) rfl rfl rfl rfl rfl rfl rfl rfl rfl rfl rfl rfl rfl rfl ?_
  refine go_aload_n (pc' := 72) hC dX6_copyOf_71 rfl rfl ?_
  refine go_getq (pc' := 75) hC 92 7 layX_92 rfl rfl inlX6 (Nat.le_of_ble_eq_true rfl) mw_86 rfl dX6_copyOf_72 rfl ?_
  refine go_aload_n (pc' := 76) hC dX6_copyOf_75 rfl rfl ?_
  refine go_getq (pc' := 79) hC 27 7 layX_27 rfl rfl inlX6 (Nat.le_of_ble_eq_true rfl) mw_86 rfl dX6_copyOf_76 rfl ?_
  refine go_callS1 (pc' := 82) (As := [.ref (x_q X 98), .ref (x_q X 33)]) (st := []) (st' := []) (L1' := [(2700, x1), (2704, x2)]) (L2' := []) (L3' := [(28, (va_cpy (S.2.2.1 93) (S.2.2.1 28) 0 0 9)), (29, (va_cpy (S.2.2.1 94) (S.2.2.1 29) 0 0 9)), (30, (va_cpy (S.2.2.1 95) (S.2.2.1 30) 0 0 9)), (31, (va_cpy (S.2.2.1 96) (S.2.2.1 31) 0 0 6)), (32, (va_cpy (S.2.2.1 97) (S.2.2.1 32) 0 0 6)), (33, (va_cpy (S.2.2.1 98) (S.2.2.1 33) 0 0 6))]) (L4' := []) (L5' := []) (cells' := 0) (slots' := 0) hC dX6_copyOf_79 ⟨mw_1517, mw_467, mw_14, yd_yX2_copyRow, yp_yX2_copyRow, Nat.le_of_ble_eq_true rfl, Nat.le_of_ble_eq_true rfl, Nat.le_of_ble_eq_true rfl, Nat.le_of_ble_eq_true rfl⟩ mw_466 rfl rfl (Nat.le_of_ble_eq_true rfl) (c_copyRow (x_l X) (x_D X) (x_q X) g (x_cy X) (x_z X) _ layX layX_ok 98 33 6 layX_98 layX_33 (by decide)) rfl rfl rfl rfl rfl rfl rfl rfl rfl rfl rfl rfl rfl rfl ?_
  obtain rfl := Option.some.inj hf
  exact go_vret hC hQ dX6_copyOf_82 rfl rfl rfl (fun _ => rfl) rfl rfl
abbrev o_X2_copyOf_q16_q45 : Type := Int32 × Int32 × Int32 × Int32 × Int32 × Int32 × Int32 × Int32 × (Nat → Int32) × (Nat → Int32) × (Nat → Int32) × (Nat → Int32) × (Nat → Int32) × (Nat → Int32) × (Nat → Int32) × (Nat → Int32) × (Nat → Int32) × (Nat → Int32)
def f_X2_copyOf_q16_q45 (S : wd_W) : Option o_X2_copyOf_q16_q45 :=
lz ((S.1 4500)) fun x1 =>
lz ((S.1 4501)) fun x2 =>
lz ((S.1 4507)) fun x3 =>
lz ((S.1 4510)) fun x4 =>
bd (f_X2_countBy_q16 (wd_o S [(1600, x1), (1601, x2), (1607, x3), (1610, x4), (1614, (S.1 1614)), (1615, (S.1 1615)), (1616, (S.1 1616)), (1617, (S.1 1617))] [] [(17, (S.2.2.1 17)), (18, (S.2.2.1 18)), (19, (S.2.2.1 19)), (20, (S.2.2.1 20)), (21, (S.2.2.1 21)), (22, (S.2.2.1 22)), (23, (S.2.2.1 23)), (24, (S.2.2.1 24)), (25, (S.2.2.1 25)), (26, (S.2.2.1 26))] [] []) (S.1 4514) (S.1 4515) (S.1 4516) (S.1 4517)) fun o5 =>
some (x1, x2, x3, x4, o5.1, o5.2.1, o5.2.2.1, o5.2.2.2, (va_cpy (S.2.2.1 46) (S.2.2.1 17) 0 0 13), (va_cpy (S.2.2.1 47) (S.2.2.1 18) 0 0 13), (va_cpy (S.2.2.1 48) (S.2.2.1 19) 0 0 13), (va_cpy (S.2.2.1 49) (S.2.2.1 20) 0 0 13), (va_cpy (S.2.2.1 50) (S.2.2.1 21) 0 0 13), (va_cpy (S.2.2.1 51) (S.2.2.1 22) 0 0 10), (va_cpy (S.2.2.1 52) (S.2.2.1 23) 0 0 10), (va_cpy (S.2.2.1 53) (S.2.2.1 24) 0 0 3), (va_cpy (S.2.2.1 54) (S.2.2.1 25) 0 0 3), (va_cpy (S.2.2.1 55) (S.2.2.1 26) 0 0 3))
set_option maxRecDepth 100000 in
set_option maxHeartbeats 4000000 in
theorem c_X2_copyOf_q16_q45 (l : Launch) (D : va_G) (q g : Nat → Nat) (cy : Nat → ClassId) (z : (Nat → Nat) × (Nat → Nat) × Nat) (S : wd_W) (o : o_X2_copyOf_q16_q45) (hf : f_X2_copyOf_q16_q45 S = some o) : MX layX l yX2_copyOf cX2_copyOf 2 none ({ frames := 2, cells := 0, slots := 0, locals := 81 } : Room) D q g cy z [.ref (q 16), .ref (q 45)] S false (none) (wd_o S [(1600, o.1), (1601, o.2.1), (1607, o.2.2.1), (1610, o.2.2.2.1), (1614, o.2.2.2.2.1), (1615, o.2.2.2.2.2.1), (1616, o.2.2.2.2.2.2.1), (1617, o.2.2.2.2.2.2.2.1)] [] [(17, o.2.2.2.2.2.2.2.2.1), (18, o.2.2.2.2.2.2.2.2.2.1), (19, o.2.2.2.2.2.2.2.2.2.2.1), (20, o.2.2.2.2.2.2.2.2.2.2.2.1), (21, o.2.2.2.2.2.2.2.2.2.2.2.2.1), (22, o.2.2.2.2.2.2.2.2.2.2.2.2.2.1), (23, o.2.2.2.2.2.2.2.2.2.2.2.2.2.2.1), (24, o.2.2.2.2.2.2.2.2.2.2.2.2.2.2.2.1), (25, o.2.2.2.2.2.2.2.2.2.2.2.2.2.2.2.2.1), (26, o.2.2.2.2.2.2.2.2.2.2.2.2.2.2.2.2.2)] [] []) 0 0 := by
  refine mx_of (own := RX2) (lc := [(0, .ref (q 16)), (1, .ref (q 45))]) (by decide +kernel) rfl layX_ok (Nat.le_of_ble_eq_true rfl) rfl ?_
  intro X hXl hXq hXz hC hQ
  subst hXl; subst hXq; subst hXz
  unfold f_X2_copyOf_q16_q45 at hf
  refine go_keys (L1 := [(1600, (S.1 1600)), (1601, (S.1 1601)), (1607, (S.1 1607)), (1610, (S.1 1610)), (1614, (S.1 1614)), (1615, (S.1 1615)), (1616, (S.1 1616)), (1617, (S.1 1617))]) (L2 := []) (L3 := [(17, (S.2.2.1 17)), (18, (S.2.2.1 18)), (19, (S.2.2.1 19)), (20, (S.2.2.1 20)), (21, (S.2.2.1 21)), (22, (S.2.2.1 22)), (23, (S.2.2.1 23)), (24, (S.2.2.1 24)), (25, (S.2.2.1 25)), (26, (S.2.2.1 26))]) (L4 := []) (L5 := []) [1600, 1601, 1607, 1610, 1614, 1615, 1616, 1617] [] [17, 18, 19, 20, 21, 22, 23, 24, 25, 26] [] [] rfl rfl rfl rfl rfl ?_
  refine go_aload_n (pc' := 1) hC dX2_copyOf_0 rfl rfl ?_
  refine go_aload_n (pc' := 2) hC dX2_copyOf_1 rfl rfl ?_
  refine go_geti (v := (S.1 4500)) (pc' := 5) hC 45 0 layX_45 rfl rfl inlX2 (Nat.le_of_ble_eq_true rfl) mw_58 rfl dX2_copyOf_2 rfl rfl ?_
  refine go_namei (fun x1 hx => ?_)
  have hf := lz_r hx hf
  clear hx
  refine go_puti (L1' := [(1600, x1), (1601, (S.1 1601)), (1607, (S.1 1607)), (1610, (S.1 1610)), (1614, (S.1 1614)), (1615, (S.1 1615)), (1616, (S.1 1616)), (1617, (S.1 1617))]) (pc' := 8) hC 16 0 layX_16 rfl rfl inlX2 tyX2_ok nmX2 (Nat.le_of_ble_eq_true rfl) mw_58 rfl rfl rfl rfl dX2_copyOf_5 rfl rfl rfl ?_
  refine go_aload_n (pc' := 9) hC dX2_copyOf_8 rfl rfl ?_
  refine go_aload_n (pc' := 10) hC dX2_copyOf_9 rfl rfl ?_
  refine go_geti (v := (S.1 4501)) (pc' := 13) hC 45 1 layX_45 rfl rfl inlX2 (Nat.le_of_ble_eq_true rfl) mw_309 rfl dX2_copyOf_10 rfl rfl ?_
  refine go_namei (fun x2 hx => ?_)
  have hf := lz_r hx hf
  clear hx
  refine go_puti (L1' := [(1600, x1), (1601, x2), (1607, (S.1 1607)), (1610, (S.1 1610)), (1614, (S.1 1614)), (1615, (S.1 1615)), (1616, (S.1 1616)), (1617, (S.1 1617))]) (pc' := 16) hC 16 1 layX_16 rfl rfl inlX2 tyX2_ok nmX2 (Nat.le_of_ble_eq_true rfl) mw_309 rfl rfl rfl rfl dX2_copyOf_13 rfl rfl rfl ?_
  refine go_aload_n (pc' := 17) hC dX2_copyOf_16 rfl rfl ?_
  refine go_aload_n (pc' := 18) hC dX2_copyOf_17 rfl rfl ?_
  refine go_geti (v := (S.1 4507)) (pc' := 21) hC 45 7 layX_45 rfl rfl inlX2 (Nat.le_of_ble_eq_true rfl) mw_310 rfl dX2_copyOf_18 rfl rfl ?_
  refine go_namei (fun x3 hx => ?_)
  have hf := lz_r hx hf
  clear hx
  refine go_puti (L1' := [(1600, x1), (1601, x2), (1607, x3), (1610, (S.1 1610)), (1614, (S.1 1614)), (1615, (S.1 1615)), (1616, (S.1 1616)), (1617, (S.1 1617))]) (pc' := 24) hC 16 7 layX_16 rfl rfl inlX2 tyX2_ok nmX2 (Nat.le_of_ble_eq_true rfl) mw_310 rfl rfl rfl rfl dX2_copyOf_21 rfl rfl rfl ?_
  refine go_aload_n (pc' := 25) hC dX2_copyOf_24 rfl rfl ?_
  refine go_aload_n (pc' := 26) hC dX2_copyOf_25 rfl rfl ?_
  refine go_geti (v := (S.1 4510)) (pc' := 29) hC 45 10 layX_45 rfl rfl inlX2 (Nat.le_of_ble_eq_true rfl) mw_311 rfl dX2_copyOf_26 rfl rfl ?_
  refine go_namei (fun x4 hx => ?_)
  have hf := lz_r hx hf
  clear hx
  refine go_puti (L1' := [(1600, x1), (1601, x2), (1607, x3), (1610, x4), (1614, (S.1 1614)), (1615, (S.1 1615)), (1616, (S.1 1616)), (1617, (S.1 1617))]) (pc' := 32) hC 16 10 layX_16 rfl rfl inlX2 tyX2_ok nmX2 (Nat.le_of_ble_eq_true rfl) mw_311 rfl rfl rfl rfl dX2_copyOf_29 rfl rfl rfl ?_
  refine go_aload_n (pc' := 33) hC dX2_copyOf_32 rfl rfl ?_
  refine go_aload_n (pc' := 34) hC dX2_copyOf_33 rfl rfl ?_
  refine go_geti (v := (S.1 4514)) (pc' := 37) hC 45 14 layX_45 rfl rfl inlX2 (Nat.le_of_ble_eq_true rfl) mw_70 rfl dX2_copyOf_34 rfl rfl ?_
  refine go_aload_n (pc' := 38) hC dX2_copyOf_37 rfl rfl ?_
  refine go_geti (v := (S.1 4515)) (pc' := 41) hC 45 15 layX_45 rfl rfl inlX2 (Nat.le_of_ble_eq_true rfl) mw_316 rfl dX2_copyOf_38 rfl rfl ?_
  refine go_aload_n (pc' := 42) hC dX2_copyOf_41 rfl rfl ?_
  refine go_geti (v := (S.1 4516)) (pc' := 45) hC 45 16 layX_45 rfl rfl inlX2 (Nat.le_of_ble_eq_true rfl) mw_317 rfl dX2_copyOf_42 rfl rfl ?_
  refine go_aload_n (pc' := 46) hC dX2_copyOf_45 rfl rfl ?_
  refine go_geti (v := (S.1 4517)) (pc' := 49) hC 45 17 layX_45 rfl rfl inlX2 (Nat.le_of_ble_eq_true rfl) mw_318 rfl dX2_copyOf_46 rfl rfl ?_
  obtain ⟨o5, ho5, hf⟩ := bd_e hf
  refine go_callV1 (pc' := 52) (As := [.int (S.1 4514), .int (S.1 4515), .int (S.1 4516), .int (S.1 4517)]) (st := []) (st' := []) (L1' := [(1600, x1), (1601, x2), (1607, x3), (1610, x4), (1614, o5.1), (1615, o5.2.1), (1616, o5.2.2.1), (1617, o5.2.2.2)]) (L2' := []) (L3' := [(17, (S.2.2.1 17)), (18, (S.2.2.1 18)), (19, (S.2.2.1 19)), (20, (S.2.2.1 20)), (21, (S.2.2.1 21)), (22, (S.2.2.1 22)), (23, (S.2.2.1 23)), (24, (S.2.2.1 24)), (25, (S.2.2.1 25)), (26, (S.2.2.1 26))]) (L4' := []) (L5' := []) (cells' := 0) (slots' := 0)  (b := 16) hC dX2_copyOf_49 ⟨mw_312, mw_315, mw_14, yd_yX2_countBy, yp_yX2_countBy, Nat.le_of_ble_eq_true rfl, Nat.le_of_ble_eq_true rfl, (Nat.le_of_ble_eq_true rfl), (Nat.le_of_ble_eq_true rfl)⟩ mw_313 mw_314 layX_16 rfl rfl rfl (Nat.le_of_ble_eq_true rfl) (c_X2_countBy_q16 (x_l X) (x_D X) (x_q X) g (x_cy X) (x_z X) _ (S.1 4514) (S.1 4515) (S.1 4516) (S.1 4517) o5 ho5) rfl rfl rfl rfl rfl rfl rfl rfl rfl rfl rfl rfl rfl rfl ?_
  refine go_aload_n (pc' := 53) hC dX2_copyOf_52 rfl rfl ?_
  refine go_getq (pc' := 56) hC 45 2 layX_45 rfl rfl inlX2 (Nat.le_of_ble_eq_true rfl) mw_60 rfl dX2_copyOf_53 rfl ?_
  refine go_aload_n (pc' := 57) hC dX2_copyOf_56 rfl rfl ?_
  refine go_getq (pc' := 60) hC 16 2 layX_16 rfl rfl inlX2 (Nat.le_of_ble_eq_true rfl) mw_60 rfl dX2_copyOf_57 rfl ?_
  refine go_callS1 (pc' := 63) (As := [.ref (x_q X 46), .ref (x_q X 17)]) (st := []) (st' := []) (L1' := [(1600, x1), (1601, x2), (1607, x3), (1610, x4), (1614, o5.1), (1615, o5.2.1), (1616, o5.2.2.1), (1617, o5.2.2.2)]) (L2' := []) (L3' := [(17, (va_cpy (S.2.2.1 46) (S.2.2.1 17) 0 0 13)), (18, (S.2.2.1 18)), (19, (S.2.2.1 19)), (20, (S.2.2.1 20)), (21, (S.2.2.1 21)), (22, (S.2.2.1 22)), (23, (S.2.2.1 23)), (24, (S.2.2.1 24)), (25, (S.2.2.1 25)), (26, (S.2.2.1 26))]) (L4' := []) (L5' := []) (cells' := 0) (slots' := 0) hC dX2_copyOf_60 ⟨mw_465, mw_467, mw_14, yd_yX2_copyRow, yp_yX2_copyRow, Nat.le_of_ble_eq_true rfl, Nat.le_of_ble_eq_true rfl, Nat.le_of_ble_eq_true rfl, Nat.le_of_ble_eq_true rfl⟩ mw_466 rfl rfl (Nat.le_of_ble_eq_true rfl) (c_copyRow (x_l X) (x_D X) (x_q X) g (x_cy X) (x_z X) _ layX layX_ok 46 17 13 layX_46 layX_17 (by decide)) rfl rfl rfl rfl rfl rfl rfl rfl rfl rfl rfl rfl rfl rfl ?_
  refine go_aload_n (pc' := 64) hC dX2_copyOf_63 rfl rfl ?_
  refine go_getq (pc' := 67) hC 45 3 layX_45 rfl rfl inlX2 (Nat.le_of_ble_eq_true rfl) mw_61 rfl dX2_copyOf_64 rfl ?_
  refine go_aload_n (pc' := 68) hC dX2_copyOf_67 rfl rfl ?_
  refine go_getq (pc' := 71) hC 16 3 layX_16 rfl rfl inlX2 (Nat.le_of_ble_eq_true rfl) mw_61 rfl dX2_copyOf_68 rfl ?_
  refine go_callS1 (pc' := 74) (As := [.ref (x_q X 47), .ref (x_q X 18)]) (st := []) (st' := []) (L1' := [(1600, x1), (1601, x2), (1607, x3), (1610, x4), (1614, o5.1), (1615, o5.2.1), (1616, o5.2.2.1), (1617, o5.2.2.2)]) (L2' := []) (L3' := [(17, (va_cpy (S.2.2.1 46) (S.2.2.1 17) 0 0 13)), (18, (va_cpy (S.2.2.1 47) (S.2.2.1 18) 0 0 13)), (19, (S.2.2.1 19)), (20, (S.2.2.1 20)), (21, (S.2.2.1 21)), (22, (S.2.2.1 22)), (23, (S.2.2.1 23)), (24, (S.2.2.1 24)), (25, (S.2.2.1 25)), (26, (S.2.2.1 26))]) (L4' := []) (L5' := []) (cells' := 0) (slots' := 0) hC dX2_copyOf_71 ⟨mw_465, mw_467, mw_14, yd_yX2_copyRow, yp_yX2_copyRow, Nat.le_of_ble_eq_true rfl, Nat.le_of_ble_eq_true rfl, Nat.le_of_ble_eq_true rfl, Nat.le_of_ble_eq_true rfl⟩ mw_466 rfl rfl (Nat.le_of_ble_eq_true rfl) (c_copyRow (x_l X) (x_D X) (x_q X) g (x_cy X) (x_z X) _ layX layX_ok 47 18 13 layX_47 layX_18 (by decide)) rfl rfl rfl rfl rfl rfl rfl rfl rfl rfl rfl rfl rfl rfl ?_
  refine go_aload_n (pc' := 75) hC dX2_copyOf_74 rfl rfl ?_
  refine go_getq (pc' := 78) hC 45 4 layX_45 rfl rfl inlX2 (Nat.le_of_ble_eq_true rfl) mw_62 rfl dX2_copyOf_75 rfl ?_
  refine go_aload_n (pc' := 79) hC dX2_copyOf_78 rfl rfl ?_
  refine go_getq (pc' := 82) hC 16 4 layX_16 rfl rfl inlX2 (Nat.le_of_ble_eq_true rfl) mw_62 rfl dX2_copyOf_79 rfl ?_
  refine go_callS1 (pc' := 85) (As := [.ref (x_q X 48), .ref (x_q X 19)]) (st := []) (st' := []) (L1' := [(1600, x1), (1601, x2), (1607, x3), (1610, x4), (1614, o5.1), (1615, o5.2.1), (1616, o5.2.2.1), (1617, o5.2.2.2)]) (L2' := []) (L3' := [(17, (va_cpy (S.2.2.1 46) (S.2.2.1 17) 0 0 13)), (18, (va_cpy (S.2.2.1 47) (S.2.2.1 18) 0 0 13)), (19, (va_cpy (S.2.2.1 48) (S.2.2.1 19) 0 0 13)), (20, (S.2.2.1 20)), (21, (S.2.2.1 21)), (22, (S.2.2.1 22)), (23, (S.2.2.1 23)), (24, (S.2.2.1 24)), (25, (S.2.2.1 25)), (26, (S.2.2.1 26))]) (L4' := []) (L5' := []) (cells' := 0) (slots' := 0) hC dX2_copyOf_82 ⟨mw_465, mw_467, mw_14, yd_yX2_copyRow, yp_yX2_copyRow, Nat.le_of_ble_eq_true rfl, Nat.le_of_ble_eq_true rfl, Nat.le_of_ble_eq_true rfl, Nat.le_of_ble_eq_true rfl⟩ mw_466 rfl rfl (Nat.le_of_ble_eq_true rfl) (c_copyRow (x_l X) (x_D X) (x_q X) g (x_cy X) (x_z X) _ layX layX_ok 48 19 13 layX_48 layX_19 (by decide)) rfl rfl rfl rfl rfl rfl rfl rfl rfl rfl rfl rfl rfl rfl ?_
  refine go_aload_n (pc' := 86) hC dX2_copyOf_85 rfl rfl ?_
  refine go_getq (pc' := 89) hC 45 5 layX_45 rfl rfl inlX2 (Nat.le_of_ble_eq_true rfl) mw_63 rfl dX2_copyOf_86 rfl ?_
  refine go_aload_n (pc' := 90) hC dX2_copyOf_89 rfl rfl ?_
  refine go_getq (pc' := 93) hC 16 5 layX_16 rfl rfl inlX2 (Nat.le_of_ble_eq_true rfl) mw_63 rfl dX2_copyOf_90 rfl ?_
  refine go_callS1 (pc' := 96) (As := [.ref (x_q X 49), .ref (x_q X 20)]) (st := []) (st' := []) (L1' := [(1600, x1), (1601, x2), (1607, x3), (1610, x4), (1614, o5.1), (1615, o5.2.1), (1616, o5.2.2.1), (1617, o5.2.2.2)]) (L2' := []) (L3' := [(17, (va_cpy (S.2.2.1 46) (S.2.2.1 17) 0 0 13)), (18, (va_cpy (S.2.2.1 47) (S.2.2.1 18) 0 0 13)), (19, (va_cpy (S.2.2.1 48) (S.2.2.1 19) 0 0 13)), (20, (va_cpy (S.2.2.1 49) (S.2.2.1 20) 0 0 13)), (21, (S.2.2.1 21)), (22, (S.2.2.1 22)), (23, (S.2.2.1 23)), (24, (S.2.2.1 24)), (25, (S.2.2.1 25)), (26, (S.2.2.1 26))]) (L4' := []) (L5' := []) (cells' := 0) (slots' := 0) hC dX2_copyOf_93 ⟨mw_465, mw_467, mw_14, yd_yX2_copyRow, yp_yX2_copyRow, Nat.le_of_ble_eq_true rfl, Nat.le_of_ble_eq_true rfl, Nat.le_of_ble_eq_true rfl, Nat.le_of_ble_eq_true rfl⟩ mw_466 rfl rfl (Nat.le_of_ble_eq_true rfl) (c_copyRow (x_l X) (x_D X) (x_q X) g (x_cy X) (x_z X) _ layX layX_ok 49 20 13 layX_49 layX_20 (by decide)) rfl rfl rfl rfl rfl rfl rfl rfl rfl rfl rfl rfl rfl rfl ?_
  refine go_aload_n (pc' := 97) hC dX2_copyOf_96 rfl rfl ?_
  refine go_getq (pc' := 100) hC 45 6 layX_45 rfl rfl inlX2 (Nat.le_of_ble_eq_true rfl) mw_64 rfl dX2_copyOf_97 rfl ?_
  refine go_aload_n (pc' := 101) hC dX2_copyOf_100 rfl rfl ?_
  refine go_getq (pc' := 104) hC 16 6 layX_16 rfl rfl inlX2 (Nat.le_of_ble_eq_true rfl) mw_64 rfl dX2_copyOf_101 rfl ?_
  refine go_callS1 (pc' := 107) (As := [.ref (x_q X 50), .ref (x_q X 21)]) (st := []) (st' := []) (L1' := [(1600, x1), (1601, x2), (1607, x3), (1610, x4), (1614, o5.1), (1615, o5.2.1), (1616, o5.2.2.1), (1617, o5.2.2.2)]) (L2' := []) (L3' := [(17, (va_cpy (S.2.2.1 46) (S.2.2.1 17) 0 0 13)), (18, (va_cpy (S.2.2.1 47) (S.2.2.1 18) 0 0 13)), (19, (va_cpy (S.2.2.1 48) (S.2.2.1 19) 0 0 13)), (20, (va_cpy (S.2.2.1 49) (S.2.2.1 20) 0 0 13)), (21, (va_cpy (S.2.2.1 50) (S.2.2.1 21) 0 0 13)), (22, (S.2.2.1 22)), (23, (S.2.2.1 23)), (24, (S.2.2.1 24)), (25, (S.2.2.1 25)), (26, (S.2.2.1 26))]) (L4' := []) (L5' := []) (cells' := 0) (slots' := 0) hC dX2_copyOf_104 ⟨mw_465, mw_467, mw_14, yd_yX2_copyRow, yp_yX2_copyRow, Nat.le_of_ble_eq_true rfl, Nat.le_of_ble_eq_true rfl, Nat.le_of_ble_eq_true rfl, Nat.le_of_ble_eq_true rfl⟩ mw_466 rfl rfl (Nat.le_of_ble_eq_true rfl) (c_copyRow (x_l X) (x_D X) (x_q X) g (x_cy X) (x_z X) _ layX layX_ok 50 21 13 layX_50 layX_21 (by decide)) rfl rfl rfl rfl rfl rfl rfl rfl rfl rfl rfl rfl rfl rfl ?_
  refine go_aload_n (pc' := 108) hC dX2_copyOf_107 rfl rfl ?_
  refine go_getq (pc' := 111) hC 45 8 layX_45 rfl rfl inlX2 (Nat.le_of_ble_eq_true rfl) mw_65 rfl dX2_copyOf_108 rfl ?_
  refine go_aload_n (pc' := 112) hC dX2_copyOf_111 rfl rfl ?_
  refine go_getq (pc' := 115) hC 16 8 layX_16 rfl rfl inlX2 (Nat.le_of_ble_eq_true rfl) mw_65 rfl dX2_copyOf_112 rfl ?_
  refine go_callS1 (pc' := 118) (As := [.ref (x_q X 51), .ref (x_q X 22)]) (st := []) (st' := []) (L1' := [(1600, x1), (1601, x2), (1607, x3), (1610, x4), (1614, o5.1), (1615, o5.2.1), (1616, o5.2.2.1), (1617, o5.2.2.2)]) (L2' := []) (L3' := [(17, (va_cpy (S.2.2.1 46) (S.2.2.1 17) 0 0 13)), (18, (va_cpy (S.2.2.1 47) (S.2.2.1 18) 0 0 13)), (19, (va_cpy (S.2.2.1 48) (S.2.2.1 19) 0 0 13)), (20, (va_cpy (S.2.2.1 49) (S.2.2.1 20) 0 0 13)), (21, (va_cpy (S.2.2.1 50) (S.2.2.1 21) 0 0 13)), (22, (va_cpy (S.2.2.1 51) (S.2.2.1 22) 0 0 10)), (23, (S.2.2.1 23)), (24, (S.2.2.1 24)), (25, (S.2.2.1 25)), (26, (S.2.2.1 26))]) (L4' := []) (L5' := []) (cells' := 0) (slots' := 0) hC dX2_copyOf_115 ⟨mw_465, mw_467, mw_14, yd_yX2_copyRow, yp_yX2_copyRow, Nat.le_of_ble_eq_true rfl, Nat.le_of_ble_eq_true rfl, Nat.le_of_ble_eq_true rfl, Nat.le_of_ble_eq_true rfl⟩ mw_466 rfl rfl (Nat.le_of_ble_eq_true rfl) (c_copyRow (x_l X) (x_D X) (x_q X) g (x_cy X) (x_z X) _ layX layX_ok 51 22 10 layX_51 layX_22 (by decide)) rfl rfl rfl rfl rfl rfl rfl rfl rfl rfl rfl rfl rfl rfl ?_
  refine go_aload_n (pc' := 119) hC dX2_copyOf_118 rfl rfl ?_
  refine go_getq (pc' := 122) hC 45 9 layX_45 rfl rfl inlX2 (Nat.le_of_ble_eq_true rfl) mw_66 rfl dX2_copyOf_119 rfl ?_
  refine go_aload_n (pc' := 123) hC dX2_copyOf_122 rfl rfl ?_
  refine go_getq (pc' := 126) hC 16 9 layX_16 rfl rfl inlX2 (Nat.le_of_ble_eq_true rfl) mw_66 rfl dX2_copyOf_123 rfl ?_
  refine go_callS1 (pc' := 129) (As := [.ref (x_q X 52), .ref (x_q X 23)]) (st := []) (st' := []) (L1' := [(1600, x1), (1601, x2), (1607, x3), (1610, x4), (1614, o5.1), (1615, o5.2.1), (1616, o5.2.2.1), (1617, o5.2.2.2)]) (L2' := []) (L3' := [(17, (va_cpy (S.2.2.1 46) (S.2.2.1 17) 0 0 13)), (18, (va_cpy (S.2.2.1 47) (S.2.2.1 18) 0 0 13)), (19, (va_cpy (S.2.2.1 48) (S.2.2.1 19) 0 0 13)), (20, (va_cpy (S.2.2.1 49) (S.2.2.1 20) 0 0 13)), (21, (va_cpy (S.2.2.1 50) (S.2.2.1 21) 0 0 13)), (22, (va_cpy (S.2.2.1 51) (S.2.2.1 22) 0 0 10)), (23, (va_cpy (S.2.2.1 52) (S.2.2.1 23) 0 0 10)), (24, (S.2.2.1 24)), (25, (S.2.2.1 25)), (26, (S.2.2.1 26))]) (L4' := []) (L5' := []) (cells' := 0) (slots' := 0) hC dX2_copyOf_126 ⟨mw_465, mw_467, mw_14, yd_yX2_copyRow, yp_yX2_copyRow, Nat.le_of_ble_eq_true rfl, Nat.le_of_ble_eq_true rfl, Nat.le_of_ble_eq_true rfl, Nat.le_of_ble_eq_true rfl⟩ mw_466 rfl rfl (Nat.le_of_ble_eq_true rfl) (c_copyRow (x_l X) (x_D X) (x_q X) g (x_cy X) (x_z X) _ layX layX_ok 52 23 10 layX_52 layX_23 (by decide)) rfl rfl rfl rfl rfl rfl rfl rfl rfl rfl rfl rfl rfl rfl ?_
  refine go_aload_n (pc' := 130) hC dX2_copyOf_129 rfl rfl ?_
  refine go_getq (pc' := 133) hC 45 11 layX_45 rfl rfl inlX2 (Nat.le_of_ble_eq_true rfl) mw_67 rfl dX2_copyOf_130 rfl ?_
  refine go_aload_n (pc' := 134) hC dX2_copyOf_133 rfl rfl ?_
  refine go_getq (pc' := 137) hC 16 11 layX_16 rfl rfl inlX2 (Nat.le_of_ble_eq_true rfl) mw_67 rfl dX2_copyOf_134 rfl ?_
  refine go_callS1 (pc' := 140) (As := [.ref (x_q X 53), .ref (x_q X 24)]) (st := []) (st' := []) (L1' := [(1600, x1), (1601, x2), (1607, x3), (1610, x4), (1614, o5.1), (1615, o5.2.1), (1616, o5.2.2.1), (1617, o5.2.2.2)]) (L2' := []) (L3' := [(17, (va_cpy (S.2.2.1 46) (S.2.2.1 17) 0 0 13)), (18, (va_cpy (S.2.2.1 47) (S.2.2.1 18) 0 0 13)), (19, (va_cpy (S.2.2.1 48) (S.2.2.1 19) 0 0 13)), (20, (va_cpy (S.2.2.1 49) (S.2.2.1 20) 0 0 13)), (21, (va_cpy (S.2.2.1 50) (S.2.2.1 21) 0 0 13)), (22, (va_cpy (S.2.2.1 51) (S.2.2.1 22) 0 0 10)), (23, (va_cpy (S.2.2.1 52) (S.2.2.1 23) 0 0 10)), (24, (va_cpy (S.2.2.1 53) (S.2.2.1 24) 0 0 3)), (25, (S.2.2.1 25)), (26, (S.2.2.1 26))]) (L4' := []) (L5' := []) (cells' := 0) (slots' := 0) hC dX2_copyOf_137 ⟨mw_465, mw_467, mw_14, yd_yX2_copyRow, yp_yX2_copyRow, Nat.le_of_ble_eq_true rfl, Nat.le_of_ble_eq_true rfl, Nat.le_of_ble_eq_true rfl, Nat.le_of_ble_eq_true rfl⟩ mw_466 rfl rfl (Nat.le_of_ble_eq_true rfl) (c_copyRow (x_l X) (x_D X) (x_q X) g (x_cy X) (x_z X) _ layX layX_ok 53 24 3 layX_53 layX_24 (by decide)) rfl rfl rfl rfl rfl rfl rfl rfl rfl rfl rfl rfl rfl rfl ?_
  refine go_aload_n (pc' := 141) hC dX2_copyOf_140 rfl rfl ?_
  refine go_getq (pc' := 144) hC 45 12 layX_45 rfl rfl inlX2 (Nat.le_of_ble_eq_true rfl) mw_68 rfl dX2_copyOf_141 rfl ?_
  refine go_aload_n (pc' := 145) hC dX2_copyOf_144 rfl rfl ?_
  refine go_getq (pc' := 148) hC 16 12 layX_16 rfl rfl inlX2 (Nat.le_of_ble_eq_true rfl) mw_68 rfl dX2_copyOf_145 rfl ?_
  refine go_callS1 (pc' := 151) (As := [.ref (x_q X 54), .ref (x_q X 25)]) (st := []) (st' := []) (L1' := [(1600, x1), (1601, x2), (1607, x3), (1610, x4), (1614, o5.1), (1615, o5.2.1), (1616, o5.2.2.1), (1617, o5.2.2.2)]) (L2' := []) (L3' := [(17, (va_cpy (S.2.2.1 46) (S.2.2.1 17) 0 0 13)), (18, (va_cpy (S.2.2.1 47) (S.2.2.1 18) 0 0 13)), (19, (va_cpy (S.2.2.1 48) (S.2.2.1 19) 0 0 13)), (20, (va_cpy (S.2.2.1 49) (S.2.2.1 20) 0 0 13)), (21, (va_cpy (S.2.2.1 50) (S.2.2.1 21) 0 0 13)), (22, (va_cpy (S.2.2.1 51) (S.2.2.1 22) 0 0 10)), (23, (va_cpy (S.2.2.1 52) (S.2.2.1 23) 0 0 10)), (24, (va_cpy (S.2.2.1 53) (S.2.2.1 24) 0 0 3)), (25, (va_cpy (S.2.2.1 54) (S.2.2.1 25) 0 0 3)), (26, (S.2.2.1 26))]) (L4' := []) (L5' := []) (cells' := 0) (slots' := 0) hC dX2_copyOf_148 ⟨mw_465, mw_467, mw_14, yd_yX2_copyRow, yp_yX2_copyRow, Nat.le_of_ble_eq_true rfl, Nat.le_of_ble_eq_true rfl, Nat.le_of_ble_eq_true rfl, Nat.le_of_ble_eq_true rfl⟩ mw_466 rfl rfl (Nat.le_of_ble_eq_true rfl) (c_copyRow (x_l X) (x_D X) (x_q X) g (x_cy X) (x_z X) _ layX layX_ok 54 25 3 layX_54 layX_25 (by decide)) rfl rfl rfl rfl rfl rfl rfl rfl rfl rfl rfl rfl rfl rfl ?_
  refine go_aload_n (pc' := 152) hC dX2_copyOf_151 rfl rfl ?_
  refine go_getq (pc' := 155) hC 45 13 layX_45 rfl rfl inlX2 (Nat.le_of_ble_eq_true rfl) mw_69 rfl dX2_copyOf_152 rfl ?_
  refine go_aload_n (pc' := 156) hC dX2_copyOf_155 rfl rfl ?_
  refine go_getq (pc' := 159) hC 16 13 layX_16 rfl rfl inlX2 (Nat.le_of_ble_eq_true rfl) mw_69 rfl dX2_copyOf_156 rfl ?_
  refine go_callS1 (pc' := 162) (As := [.ref (x_q X 55), .ref (x_q X 26)]) (st := []) (st' := []) (L1' := [(1600, x1), (1601, x2), (1607, x3), (1610, x4), (1614, o5.1), (1615, o5.2.1), (1616, o5.2.2.1), (1617, o5.2.2.2)]) (L2' := []) (L3' := [(17, (va_cpy (S.2.2.1 46) (S.2.2.1 17) 0 0 13)), (18, (va_cpy (S.2.2.1 47) (S.2.2.1 18) 0 0 13)), (19, (va_cpy (S.2.2.1 48) (S.2.2.1 19) 0 0 13)), (20, (va_cpy (S.2.2.1 49) (S.2.2.1 20) 0 0 13)), (21, (va_cpy (S.2.2.1 50) (S.2.2.1 21) 0 0 13)), (22, (va_cpy (S.2.2.1 51) (S.2.2.1 22) 0 0 10)), (23, (va_cpy (S.2.2.1 52) (S.2.2.1 23) 0 0 10)), (24, (va_cpy (S.2.2.1 53) (S.2.2.1 24) 0 0 3)), (25, (va_cpy (S.2.2.1 54) (S.2.2.1 25) 0 0 3)), (26, (va_cpy (S.2.2.1 55) (S.2.2.1 26) 0 0 3))]) (L4' := []) (L5' := []) (cells' := 0) (slots' := 0) hC dX2_copyOf_159 ⟨mw_465, mw_467, mw_14, yd_yX2_copyRow, yp_yX2_copyRow, Nat.le_of_ble_eq_true rfl, Nat.le_of_ble_eq_true rfl, Nat.le_of_ble_eq_true rfl, Nat.le_of_ble_eq_true rfl⟩ mw_466 rfl rfl (Nat.le_of_ble_eq_true rfl) (c_copyRow (x_l X) (x_D X) (x_q X) g (x_cy X) (x_z X) _ layX layX_ok 55 26 3 layX_55 layX_26 (by decide)) rfl rfl rfl rfl rfl rfl rfl rfl rfl rfl rfl rfl rfl rfl ?_
  obtain rfl := Option.some.inj hf
  exact go_vret hC hQ dX2_copyOf_162 rfl rfl rfl (fun _ => rfl) rfl rfl
abbrev o_X6_copyOf_q27_q85 : Type := Int32 × Int32 × (Nat → Int32) × (Nat → Int32) × (Nat → Int32) × (Nat → Int32) × (Nat → Int32) × (Nat → Int32)
def f_X6_copyOf_q27_q85 (S : wd_W) : Option o_X6_copyOf_q27_q85 :=
lz ((S.1 8500)) fun x1 =>
lz ((S.1 8504)) fun x2 =>
some (x1, x2, (va_cpy (S.2.2.1 86) (S.2.2.1 28) 0 0 9), (va_cpy (S.2.2.1 87) (S.2.2.1 29) 0 0 9), (va_cpy (S.2.2.1 88) (S.2.2.1 30) 0 0 9), (va_cpy (S.2.2.1 89) (S.2.2.1 31) 0 0 6), (va_cpy (S.2.2.1 90) (S.2.2.1 32) 0 0 6), (va_cpy (S.2.2.1 91) (S.2.2.1 33) 0 0 6))
set_option maxRecDepth 100000 in
set_option maxHeartbeats 4000000 in
theorem c_X6_copyOf_q27_q85 (l : Launch) (D : va_G) (q g : Nat → Nat) (cy : Nat → ClassId) (z : (Nat → Nat) × (Nat → Nat) × Nat) (S : wd_W) (o : o_X6_copyOf_q27_q85) (hf : f_X6_copyOf_q27_q85 S = some o) : MX layX l yX6_copyOf cX6_copyOf 2 none ({ frames := 2, cells := 0, slots := 0, locals := 81 } : Room) D q g cy z [.ref (q 27), .ref (q 85)] S false (none) (wd_o S [(2700, o.1), (2704, o.2.1)] [] [(28, o.2.2.1), (29, o.2.2.2.1), (30, o.2.2.2.2.1), (31, o.2.2.2.2.2.1), (32, o.2.2.2.2.2.2.1), (33, o.2.2.2.2.2.2.2)] [] []) 0 0 := by
  refine mx_of (own := RX6) (lc := [(0, .ref (q 27)), (1, .ref (q 85))]) (by decide +kernel) rfl layX_ok (Nat.le_of_ble_eq_true rfl) rfl ?_
  intro X hXl hXq hXz hC hQ
  subst hXl; subst hXq; subst hXz
  unfold f_X6_copyOf_q27_q85 at hf
  refine go_keys (L1 := [(2700, (S.1 2700)), (2704, (S.1 2704))]) (L2 := []) (L3 := [(28, (S.2.2.1 28)), (29, (S.2.2.1 29)), (30, (S.2.2.1 30)), (31, (S.2.2.1 31)), (32, (S.2.2.1 32)), (33, (S.2.2.1 33))]) (L4 := []) (L5 := []) [2700, 2704] [] [28, 29, 30, 31, 32, 33] [] [] rfl rfl rfl rfl rfl ?_
  refine go_aload_n (pc' := 1) hC dX6_copyOf_0 rfl rfl ?_
  refine go_aload_n (pc' := 2) hC dX6_copyOf_1 rfl rfl ?_
  refine go_geti (v := (S.1 8500)) (pc' := 5) hC 85 0 layX_85 rfl rfl inlX6 (Nat.le_of_ble_eq_true rfl) mw_477 rfl dX6_copyOf_2 rfl rfl ?_
  refine go_namei (fun x1 hx => ?_)
  have hf := lz_r hx hf
  clear hx
  refine go_puti (L1' := [(2700, x1), (2704, (S.1 2704))]) (pc' := 8) hC 27 0 layX_27 rfl rfl inlX6 tyX6_ok nmX6 (Nat.le_of_ble_eq_true rfl) mw_477 rfl rfl rfl rfl dX6_copyOf_5 rfl rfl rfl ?_
  refine go_aload_n (pc' := 9) hC dX6_copyOf_8 rfl rfl ?_
  refine go_aload_n (pc' := 10) hC dX6_copyOf_9 rfl rfl ?_
  refine go_geti (v := (S.1 8504)) (pc' := 13) hC 85 4 layX_85 rfl rfl inlX6 (Nat.le_of_ble_eq_true rfl) mw_478 rfl dX6_copyOf_10 rfl rfl ?_
  refine go_namei (fun x2 hx => ?_)
  have hf := lz_r hx hf
  clear hx
  refine go_puti (L1' := [(2700, x1), (2704, x2)]) (pc' := 16) hC 27 4 layX_27 rfl rfl inlX6 tyX6_ok nmX6 (Nat.le_of_ble_eq_true rfl) mw_478 rfl rfl rfl rfl dX6_copyOf_13 rfl rfl rfl ?_
  refine go_aload_n (pc' := 17) hC dX6_copyOf_16 rfl rfl ?_
  refine go_getq (pc' := 20) hC 85 1 layX_85 rfl rfl inlX6 (Nat.le_of_ble_eq_true rfl) mw_81 rfl dX6_copyOf_17 rfl ?_
  refine go_aload_n (pc' := 21) hC dX6_copyOf_20 rfl rfl ?_
  refine go_getq (pc' := 24) hC 27 1 layX_27 rfl rfl inlX6 (Nat.le_of_ble_eq_true rfl) mw_81 rfl dX6_copyOf_21 rfl ?_
  refine go_callS1 (pc' := 27) (As := [.ref (x_q X 86), .ref (x_q X 28)]) (st := []) (st' := []) (L1' := [(2700, x1), (2704, x2)]) (L2' := []) (L3' := [(28, (va_cpy (S.2.2.1 86) (S.2.2.1 28) 0 0 9)), (29, (S.2.2.1 29)), (30, (S.2.2.1 30)), (31, (S.2.2.1 31)), (32, (S.2.2.1 32)), (33, (S.2.2.1 33))]) (L4' := []) (L5' := []) (cells' := 0) (slots' := 0) hC dX6_copyOf_24 ⟨mw_1517, mw_467, mw_14, yd_yX2_copyRow, yp_yX2_copyRow, Nat.le_of_ble_eq_true rfl, Nat.le_of_ble_eq_true rfl, Nat.le_of_ble_eq_true rfl, Nat.le_of_ble_eq_true rfl⟩ mw_466 rfl rfl (Nat.le_of_ble_eq_true rfl) (c_copyRow (x_l X) (x_D X) (x_q X) g (x_cy X) (x_z X) _ layX layX_ok 86 28 9 layX_86 layX_28 (by decide)) rfl rfl rfl rfl rfl rfl rfl rfl rfl rfl rfl rfl rfl rfl ?_
  refine go_aload_n (pc' := 28) hC dX6_copyOf_27 rfl rfl ?_
  refine go_getq (pc' := 31) hC 85 2 layX_85 rfl rfl inlX6 (Nat.le_of_ble_eq_true rfl) mw_82 rfl dX6_copyOf_28 rfl ?_
  refine go_aload_n (pc' := 32) hC dX6_copyOf_31 rfl rfl ?_
  refine go_getq (pc' := 35) hC 27 2 layX_27 rfl rfl inlX6 (Nat.le_of_ble_eq_true rfl) mw_82 rfl dX6_copyOf_32 rfl ?_
  refine go_callS1 (pc' := 38) (As := [.ref (x_q X 87), .ref (x_q X 29)]) (st := []) (st' := []) (L1' := [(2700, x1), (2704, x2)]) (L2' := []) (L3' := [(28, (va_cpy (S.2.2.1 86) (S.2.2.1 28) 0 0 9)), (29, (va_cpy (S.2.2.1 87) (S.2.2.1 29) 0 0 9)), (30, (S.2.2.1 30)), (31, (S.2.2.1 31)), (32, (S.2.2.1 32)), (33, (S.2.2.1 33))]) (L4' := []) (L5' := []) (cells' := 0) (slots' := 0) hC dX6_copyOf_35 ⟨mw_1517, mw_467, mw_14, yd_yX2_copyRow, yp_yX2_copyRow, Nat.le_of_ble_eq_true rfl, Nat.le_of_ble_eq_true rfl, Nat.le_of_ble_eq_true rfl, Nat.le_of_ble_eq_true rfl⟩ mw_466 rfl rfl (Nat.le_of_ble_eq_true rfl) (c_copyRow (x_l X) (x_D X) (x_q X) g (x_cy X) (x_z X) _ layX layX_ok 87 29 9 layX_87 layX_29 (by decide)) rfl rfl rfl rfl rfl rfl rfl rfl rfl rfl rfl rfl rfl rfl ?_
  refine go_aload_n (pc' := 39) hC dX6_copyOf_38 rfl rfl ?_
  refine go_getq (pc' := 42) hC 85 3 layX_85 rfl rfl inlX6 (Nat.le_of_ble_eq_true rfl) mw_83 rfl dX6_copyOf_39 rfl ?_
  refine go_aload_n (pc' := 43) hC dX6_copyOf_42 rfl rfl ?_
  refine go_getq (pc' := 46) hC 27 3 layX_27 rfl rfl inlX6 (Nat.le_of_ble_eq_true rfl) mw_83 rfl dX6_copyOf_43 rfl ?_
  refine go_callS1 (pc' := 49) (As := [.ref (x_q X 88), .ref (x_q X 30)]) (st := []) (st' := []) (L1' := [(2700, x1), (2704, x2)]) (L2' := []) (L3' := [(28, (va_cpy (S.2.2.1 86) (S.2.2.1 28) 0 0 9)), (29, (va_cpy (S.2.2.1 87) (S.2.2.1 29) 0 0 9)), (30, (va_cpy (S.2.2.1 88) (S.2.2.1 30) 0 0 9)), (31, (S.2.2.1 31)), (32, (S.2.2.1 32)), (33, (S.2.2.1 33))]) (L4' := []) (L5' := []) (cells' := 0) (slots' := 0) hC dX6_copyOf_46 ⟨mw_1517, mw_467, mw_14, yd_yX2_copyRow, yp_yX2_copyRow, Nat.le_of_ble_eq_true rfl, Nat.le_of_ble_eq_true rfl, Nat.le_of_ble_eq_true rfl, Nat.le_of_ble_eq_true rfl⟩ mw_466 rfl rfl (Nat.le_of_ble_eq_true rfl) (c_copyRow (x_l X) (x_D X) (x_q X) g (x_cy X) (x_z X) _ layX layX_ok 88 30 9 layX_88 layX_30 (by decide)) rfl rfl rfl rfl rfl rfl rfl rfl rfl rfl rfl rfl rfl rfl ?_
  refine go_aload_n (pc' := 50) hC dX6_copyOf_49 rfl rfl ?_
  refine go_getq (pc' := 53) hC 85 5 layX_85 rfl rfl inlX6 (Nat.le_of_ble_eq_true rfl) mw_84 rfl dX6_copyOf_50 rfl ?_
  refine go_aload_n (pc' := 54) hC dX6_copyOf_53 rfl rfl ?_
  refine go_getq (pc' := 57) hC 27 5 layX_27 rfl rfl inlX6 (Nat.le_of_ble_eq_true rfl) mw_84 rfl dX6_copyOf_54 rfl ?_
  refine go_callS1 (pc' := 60) (As := [.ref (x_q X 89), .ref (x_q X 31)]) (st := []) (st' := []) (L1' := [(2700, x1), (2704, x2)]) (L2' := []) (L3' := [(28, (va_cpy (S.2.2.1 86) (S.2.2.1 28) 0 0 9)), (29, (va_cpy (S.2.2.1 87) (S.2.2.1 29) 0 0 9)), (30, (va_cpy (S.2.2.1 88) (S.2.2.1 30) 0 0 9)), (31, (va_cpy (S.2.2.1 89) (S.2.2.1 31) 0 0 6)), (32, (S.2.2.1 32)), (33, (S.2.2.1 33))]) (L4' := []) (L5' := []) (cells' := 0) (slots' := 0) hC dX6_copyOf_57 ⟨mw_1517, mw_467, mw_14, yd_yX2_copyRow, yp_yX2_copyRow, Nat.le_of_ble_eq_true rfl, Nat.le_of_ble_eq_true rfl, Nat.le_of_ble_eq_true rfl, Nat.le_of_ble_eq_true rfl⟩ mw_466 rfl rfl (Nat.le_of_ble_eq_true rfl) (c_copyRow (x_l X) (x_D X) (x_q X) g (x_cy X) (x_z X) _ layX layX_ok 89 31 6 layX_89 layX_31 (by decide)) rfl rfl rfl rfl rfl rfl rfl rfl rfl rfl rfl rfl rfl rfl ?_
  refine go_aload_n (pc' := 61) hC dX6_copyOf_60 rfl rfl ?_
  refine go_getq (pc' := 64) hC 85 6 layX_85 rfl rfl inlX6 (Nat.le_of_ble_eq_true rfl) mw_85 rfl dX6_copyOf_61 rfl ?_
  refine go_aload_n (pc' := 65) hC dX6_copyOf_64 rfl rfl ?_
  refine go_getq (pc' := 68) hC 27 6 layX_27 rfl rfl inlX6 (Nat.le_of_ble_eq_true rfl) mw_85 rfl dX6_copyOf_65 rfl ?_
  refine go_callS1 (pc' := 71) (As := [.ref (x_q X 90), .ref (x_q X 32)]) (st := []) (st' := []) (L1' := [(2700, x1), (2704, x2)]) (L2' := []) (L3' := [(28, (va_cpy (S.2.2.1 86) (S.2.2.1 28) 0 0 9)), (29, (va_cpy (S.2.2.1 87) (S.2.2.1 29) 0 0 9)), (30, (va_cpy (S.2.2.1 88) (S.2.2.1 30) 0 0 9)), (31, (va_cpy (S.2.2.1 89) (S.2.2.1 31) 0 0 6)), (32, (va_cpy (S.2.2.1 90) (S.2.2.1 32) 0 0 6)), (33, (S.2.2.1 33))]) (L4' := []) (L5' := []) (cells' := 0) (slots' := 0) hC dX6_copyOf_68 ⟨mw_1517, mw_467, mw_14, yd_yX2_copyRow, yp_yX2_copyRow, Nat.le_of_ble_eq_true rfl, Nat.le_of_ble_eq_true rfl, Nat.le_of_ble_eq_true rfl, Nat.le_of_ble_eq_true rfl⟩ mw_466 rfl rfl (Nat.le_of_ble_eq_true rfl) (c_copyRow (x_l X) (x_D X) (x_q X) g (x_cy X) (x_z X) _ layX layX_ok 90 32 6 layX_90 layX_32 (by decide)) rfl rfl rfl rfl rfl rfl rfl rfl rfl rfl rfl rfl rfl rfl ?_
  refine go_aload_n (pc' := 72) hC dX6_copyOf_71 rfl rfl ?_
  refine go_getq (pc' := 75) hC 85 7 layX_85 rfl rfl inlX6 (Nat.le_of_ble_eq_true rfl) mw_86 rfl dX6_copyOf_72 rfl ?_
  refine go_aload_n (pc' := 76) hC dX6_copyOf_75 rfl rfl ?_
  refine go_getq (pc' := 79) hC 27 7 layX_27 rfl rfl inlX6 (Nat.le_of_ble_eq_true rfl) mw_86 rfl dX6_copyOf_76 rfl ?_
  refine go_callS1 (pc' := 82) (As := [.ref (x_q X 91), .ref (x_q X 33)]) (st := []) (st' := []) (L1' := [(2700, x1), (2704, x2)]) (L2' := []) (L3' := [(28, (va_cpy (S.2.2.1 86) (S.2.2.1 28) 0 0 9)), (29, (va_cpy (S.2.2.1 87) (S.2.2.1 29) 0 0 9)), (30, (va_cpy (S.2.2.1 88) (S.2.2.1 30) 0 0 9)), (31, (va_cpy (S.2.2.1 89) (S.2.2.1 31) 0 0 6)), (32, (va_cpy (S.2.2.1 90) (S.2.2.1 32) 0 0 6)), (33, (va_cpy (S.2.2.1 91) (S.2.2.1 33) 0 0 6))]) (L4' := []) (L5' := []) (cells' := 0) (slots' := 0) hC dX6_copyOf_79 ⟨mw_1517, mw_467, mw_14, yd_yX2_copyRow, yp_yX2_copyRow, Nat.le_of_ble_eq_true rfl, Nat.le_of_ble_eq_true rfl, Nat.le_of_ble_eq_true rfl, Nat.le_of_ble_eq_true rfl⟩ mw_466 rfl rfl (Nat.le_of_ble_eq_true rfl) (c_copyRow (x_l X) (x_D X) (x_q X) g (x_cy X) (x_z X) _ layX layX_ok 91 33 6 layX_91 layX_33 (by decide)) rfl rfl rfl rfl rfl rfl rfl rfl rfl rfl rfl rfl rfl rfl ?_
  obtain rfl := Option.some.inj hf
  exact go_vret hC hQ dX6_copyOf_82 rfl rfl rfl (fun _ => rfl) rfl rfl
abbrev o_X2_copyOf_q16_q34 : Type := Int32 × Int32 × Int32 × Int32 × Int32 × Int32 × Int32 × Int32 × (Nat → Int32) × (Nat → Int32) × (Nat → Int32) × (Nat → Int32) × (Nat → Int32) × (Nat → Int32) × (Nat → Int32) × (Nat → Int32) × (Nat → Int32) × (Nat → Int32)
def f_X2_copyOf_q16_q34 (S : wd_W) : Option o_X2_copyOf_q16_q34 :=
lz ((S.1 3400)) fun x1 =>
lz ((S.1 3401)) fun x2 =>
lz ((S.1 3407)) fun x3 =>
lz ((S.1 3410)) fun x4 =>
bd (f_X2_countBy_q16 (wd_o S [(1600, x1), (1601, x2), (1607, x3), (1610, x4), (1614, (S.1 1614)), (1615, (S.1 1615)), (1616, (S.1 1616)), (1617, (S.1 1617))] [] [(17, (S.2.2.1 17)), (18, (S.2.2.1 18)), (19, (S.2.2.1 19)), (20, (S.2.2.1 20)), (21, (S.2.2.1 21)), (22, (S.2.2.1 22)), (23, (S.2.2.1 23)), (24, (S.2.2.1 24)), (25, (S.2.2.1 25)), (26, (S.2.2.1 26))] [] []) (S.1 3414) (S.1 3415) (S.1 3416) (S.1 3417)) fun o5 =>
some (x1, x2, x3, x4, o5.1, o5.2.1, o5.2.2.1, o5.2.2.2, (va_cpy (S.2.2.1 35) (S.2.2.1 17) 0 0 13), (va_cpy (S.2.2.1 36) (S.2.2.1 18) 0 0 13), (va_cpy (S.2.2.1 37) (S.2.2.1 19) 0 0 13), (va_cpy (S.2.2.1 38) (S.2.2.1 20) 0 0 13), (va_cpy (S.2.2.1 39) (S.2.2.1 21) 0 0 13), (va_cpy (S.2.2.1 40) (S.2.2.1 22) 0 0 10), (va_cpy (S.2.2.1 41) (S.2.2.1 23) 0 0 10), (va_cpy (S.2.2.1 42) (S.2.2.1 24) 0 0 3), (va_cpy (S.2.2.1 43) (S.2.2.1 25) 0 0 3), (va_cpy (S.2.2.1 44) (S.2.2.1 26) 0 0 3))
set_option maxRecDepth 100000 in
set_option maxHeartbeats 4000000 in
theorem c_X2_copyOf_q16_q34 (l : Launch) (D : va_G) (q g : Nat → Nat) (cy : Nat → ClassId) (z : (Nat → Nat) × (Nat → Nat) × Nat) (S : wd_W) (o : o_X2_copyOf_q16_q34) (hf : f_X2_copyOf_q16_q34 S = some o) : MX layX l yX2_copyOf cX2_copyOf 2 none ({ frames := 2, cells := 0, slots := 0, locals := 81 } : Room) D q g cy z [.ref (q 16), .ref (q 34)] S false (none) (wd_o S [(1600, o.1), (1601, o.2.1), (1607, o.2.2.1), (1610, o.2.2.2.1), (1614, o.2.2.2.2.1), (1615, o.2.2.2.2.2.1), (1616, o.2.2.2.2.2.2.1), (1617, o.2.2.2.2.2.2.2.1)] [] [(17, o.2.2.2.2.2.2.2.2.1), (18, o.2.2.2.2.2.2.2.2.2.1), (19, o.2.2.2.2.2.2.2.2.2.2.1), (20, o.2.2.2.2.2.2.2.2.2.2.2.1), (21, o.2.2.2.2.2.2.2.2.2.2.2.2.1), (22, o.2.2.2.2.2.2.2.2.2.2.2.2.2.1), (23, o.2.2.2.2.2.2.2.2.2.2.2.2.2.2.1), (24, o.2.2.2.2.2.2.2.2.2.2.2.2.2.2.2.1), (25, o.2.2.2.2.2.2.2.2.2.2.2.2.2.2.2.2.1), (26, o.2.2.2.2.2.2.2.2.2.2.2.2.2.2.2.2.2)] [] []) 0 0 := by
  refine mx_of (own := RX2) (lc := [(0, .ref (q 16)), (1, .ref (q 34))]) (by decide +kernel) rfl layX_ok (Nat.le_of_ble_eq_true rfl) rfl ?_
  intro X hXl hXq hXz hC hQ
  subst hXl; subst hXq; subst hXz
  unfold f_X2_copyOf_q16_q34 at hf
  refine go_keys (L1 := [(1600, (S.1 1600)), (1601, (S.1 1601)), (1607, (S.1 1607)), (1610, (S.1 1610)), (1614, (S.1 1614)), (1615, (S.1 1615)), (1616, (S.1 1616)), (1617, (S.1 1617))]) (L2 := []) (L3 := [(17, (S.2.2.1 17)), (18, (S.2.2.1 18)), (19, (S.2.2.1 19)), (20, (S.2.2.1 20)), (21, (S.2.2.1 21)), (22, (S.2.2.1 22)), (23, (S.2.2.1 23)), (24, (S.2.2.1 24)), (25, (S.2.2.1 25)), (26, (S.2.2.1 26))]) (L4 := []) (L5 := []) [1600, 1601, 1607, 1610, 1614, 1615, 1616, 1617] [] [17, 18, 19, 20, 21, 22, 23, 24, 25, 26] [] [] rfl rfl rfl rfl rfl ?_
  refine go_aload_n (pc' := 1) hC dX2_copyOf_0 rfl rfl ?_
  refine go_aload_n (pc' := 2) hC dX2_copyOf_1 rfl rfl ?_
  refine go_geti (v := (S.1 3400)) (pc' := 5) hC 34 0 layX_34 rfl rfl inlX2 (Nat.le_of_ble_eq_true rfl) mw_58 rfl dX2_copyOf_2 rfl rfl ?_
  refine go_namei (fun x1 hx => ?_)
  have hf := lz_r hx hf
  clear hx
  refine go_puti (L1' := [(1600, x1), (1601, (S.1 1601)), (1607, (S.1 1607)), (1610, (S.1 1610)), (1614, (S.1 1614)), (1615, (S.1 1615)), (1616, (S.1 1616)), (1617, (S.1 1617))]) (pc' := 8) hC 16 0 layX_16 rfl rfl inlX2 tyX2_ok nmX2 (Nat.le_of_ble_eq_true rfl) mw_58 rfl rfl rfl rfl dX2_copyOf_5 rfl rfl rfl ?_
  refine go_aload_n (pc' := 9) hC dX2_copyOf_8 rfl rfl ?_
  refine go_aload_n (pc' := 10) hC dX2_copyOf_9 rfl rfl ?_
  refine go_geti (v := (S.1 3401)) (pc' := 13) hC 34 1 layX_34 rfl rfl inlX2 (Nat.le_of_ble_eq_true rfl) mw_309 rfl dX2_copyOf_10 rfl rfl ?_
  refine go_namei (fun x2 hx => ?_)
  have hf := lz_r hx hf
  clear hx
  refine go_puti (L1' := [(1600, x1), (1601, x2), (1607, (S.1 1607)), (1610, (S.1 1610)), (1614, (S.1 1614)), (1615, (S.1 1615)), (1616, (S.1 1616)), (1617, (S.1 1617))]) (pc' := 16) hC 16 1 layX_16 rfl rfl inlX2 tyX2_ok nmX2 (Nat.le_of_ble_eq_true rfl) mw_309 rfl rfl rfl rfl dX2_copyOf_13 rfl rfl rfl ?_
  refine go_aload_n (pc' := 17) hC dX2_copyOf_16 rfl rfl ?_
  refine go_aload_n (pc' := 18) hC dX2_copyOf_17 rfl rfl ?_
  refine go_geti (v := (S.1 3407)) (pc' := 21) hC 34 7 layX_34 rfl rfl inlX2 (Nat.le_of_ble_eq_true rfl) mw_310 rfl dX2_copyOf_18 rfl rfl ?_
  refine go_namei (fun x3 hx => ?_)
  have hf := lz_r hx hf
  clear hx
  refine go_puti (L1' := [(1600, x1), (1601, x2), (1607, x3), (1610, (S.1 1610)), (1614, (S.1 1614)), (1615, (S.1 1615)), (1616, (S.1 1616)), (1617, (S.1 1617))]) (pc' := 24) hC 16 7 layX_16 rfl rfl inlX2 tyX2_ok nmX2 (Nat.le_of_ble_eq_true rfl) mw_310 rfl rfl rfl rfl dX2_copyOf_21 rfl rfl rfl ?_
  refine go_aload_n (pc' := 25) hC dX2_copyOf_24 rfl rfl ?_
  refine go_aload_n (pc' := 26) hC dX2_copyOf_25 rfl rfl ?_
  refine go_geti (v := (S.1 3410)) (pc' := 29) hC 34 10 layX_34 rfl rfl inlX2 (Nat.le_of_ble_eq_true rfl) mw_311 rfl dX2_copyOf_26 rfl rfl ?_
  refine go_namei (fun x4 hx => ?_)
  have hf := lz_r hx hf
  clear hx
  refine go_puti (L1' := [(1600, x1), (1601, x2), (1607, x3), (1610, x4), (1614, (S.1 1614)), (1615, (S.1 1615)), (1616, (S.1 1616)), (1617, (S.1 1617))]) (pc' := 32) hC 16 10 layX_16 rfl rfl inlX2 tyX2_ok nmX2 (Nat.le_of_ble_eq_true rfl) mw_311 rfl rfl rfl rfl dX2_copyOf_29 rfl rfl rfl ?_
  refine go_aload_n (pc' := 33) hC dX2_copyOf_32 rfl rfl ?_
  refine go_aload_n (pc' := 34) hC dX2_copyOf_33 rfl rfl ?_
  refine go_geti (v := (S.1 3414)) (pc' := 37) hC 34 14 layX_34 rfl rfl inlX2 (Nat.le_of_ble_eq_true rfl) mw_70 rfl dX2_copyOf_34 rfl rfl ?_
  refine go_aload_n (pc' := 38) hC dX2_copyOf_37 rfl rfl ?_
  refine go_geti (v := (S.1 3415)) (pc' := 41) hC 34 15 layX_34 rfl rfl inlX2 (Nat.le_of_ble_eq_true rfl) mw_316 rfl dX2_copyOf_38 rfl rfl ?_
  refine go_aload_n (pc' := 42) hC dX2_copyOf_41 rfl rfl ?_
  refine go_geti (v := (S.1 3416)) (pc' := 45) hC 34 16 layX_34 rfl rfl inlX2 (Nat.le_of_ble_eq_true rfl) mw_317 rfl dX2_copyOf_42 rfl rfl ?_
  refine go_aload_n (pc' := 46) hC dX2_copyOf_45 rfl rfl ?_
  refine go_geti (v := (S.1 3417)) (pc' := 49) hC 34 17 layX_34 rfl rfl inlX2 (Nat.le_of_ble_eq_true rfl) mw_318 rfl dX2_copyOf_46 rfl rfl ?_
  obtain ⟨o5, ho5, hf⟩ := bd_e hf
  refine go_callV1 (pc' := 52) (As := [.int (S.1 3414), .int (S.1 3415), .int (S.1 3416), .int (S.1 3417)]) (st := []) (st' := []) (L1' := [(1600, x1), (1601, x2), (1607, x3), (1610, x4), (1614, o5.1), (1615, o5.2.1), (1616, o5.2.2.1), (1617, o5.2.2.2)]) (L2' := []) (L3' := [(17, (S.2.2.1 17)), (18, (S.2.2.1 18)), (19, (S.2.2.1 19)), (20, (S.2.2.1 20)), (21, (S.2.2.1 21)), (22, (S.2.2.1 22)), (23, (S.2.2.1 23)), (24, (S.2.2.1 24)), (25, (S.2.2.1 25)), (26, (S.2.2.1 26))]) (L4' := []) (L5' := []) (cells' := 0) (slots' := 0)  (b := 16) hC dX2_copyOf_49 ⟨mw_312, mw_315, mw_14, yd_yX2_countBy, yp_yX2_countBy, Nat.le_of_ble_eq_true rfl, Nat.le_of_ble_eq_true rfl, (Nat.le_of_ble_eq_true rfl), (Nat.le_of_ble_eq_true rfl)⟩ mw_313 mw_314 layX_16 rfl rfl rfl (Nat.le_of_ble_eq_true rfl) (c_X2_countBy_q16 (x_l X) (x_D X) (x_q X) g (x_cy X) (x_z X) _ (S.1 3414) (S.1 3415) (S.1 3416) (S.1 3417) o5 ho5) rfl rfl rfl rfl rfl rfl rfl rfl rfl rfl rfl rfl rfl rfl ?_
  refine go_aload_n (pc' := 53) hC dX2_copyOf_52 rfl rfl ?_
  refine go_getq (pc' := 56) hC 34 2 layX_34 rfl rfl inlX2 (Nat.le_of_ble_eq_true rfl) mw_60 rfl dX2_copyOf_53 rfl ?_
  refine go_aload_n (pc' := 57) hC dX2_copyOf_56 rfl rfl ?_
  refine go_getq (pc' := 60) hC 16 2 layX_16 rfl rfl inlX2 (Nat.le_of_ble_eq_true rfl) mw_60 rfl dX2_copyOf_57 rfl ?_
  refine go_callS1 (pc' := 63) (As := [.ref (x_q X 35), .ref (x_q X 17)]) (st := []) (st' := []) (L1' := [(1600, x1), (1601, x2), (1607, x3), (1610, x4), (1614, o5.1), (1615, o5.2.1), (1616, o5.2.2.1), (1617, o5.2.2.2)]) (L2' := []) (L3' := [(17, (va_cpy (S.2.2.1 35) (S.2.2.1 17) 0 0 13)), (18, (S.2.2.1 18)), (19, (S.2.2.1 19)), (20, (S.2.2.1 20)), (21, (S.2.2.1 21)), (22, (S.2.2.1 22)), (23, (S.2.2.1 23)), (24, (S.2.2.1 24)), (25, (S.2.2.1 25)), (26, (S.2.2.1 26))]) (L4' := []) (L5' := []) (cells' := 0) (slots' := 0) hC dX2_copyOf_60 ⟨mw_465, mw_467, mw_14, yd_yX2_copyRow, yp_yX2_copyRow, Nat.le_of_ble_eq_true rfl, Nat.le_of_ble_eq_true rfl, Nat.le_of_ble_eq_true rfl, Nat.le_of_ble_eq_true rfl⟩ mw_466 rfl rfl (Nat.le_of_ble_eq_true rfl) (c_copyRow (x_l X) (x_D X) (x_q X) g (x_cy X) (x_z X) _ layX layX_ok 35 17 13 layX_35 layX_17 (by decide)) rfl rfl rfl rfl rfl rfl rfl rfl rfl rfl rfl rfl rfl rfl ?_
  refine go_aload_n (pc' := 64) hC dX2_copyOf_63 rfl rfl ?_
  refine go_getq (pc' := 67) hC 34 3 layX_34 rfl rfl inlX2 (Nat.le_of_ble_eq_true rfl) mw_61 rfl dX2_copyOf_64 rfl ?_
  refine go_aload_n (pc' := 68) hC dX2_copyOf_67 rfl rfl ?_
  refine go_getq (pc' := 71) hC 16 3 layX_16 rfl rfl inlX2 (Nat.le_of_ble_eq_true rfl) mw_61 rfl dX2_copyOf_68 rfl ?_
  refine go_callS1 (pc' := 74) (As := [.ref (x_q X 36), .ref (x_q X 18)]) (st := []) (st' := []) (L1' := [(1600, x1), (1601, x2), (1607, x3), (1610, x4), (1614, o5.1), (1615, o5.2.1), (1616, o5.2.2.1), (1617, o5.2.2.2)]) (L2' := []) (L3' := [(17, (va_cpy (S.2.2.1 35) (S.2.2.1 17) 0 0 13)), (18, (va_cpy (S.2.2.1 36) (S.2.2.1 18) 0 0 13)), (19, (S.2.2.1 19)), (20, (S.2.2.1 20)), (21, (S.2.2.1 21)), (22, (S.2.2.1 22)), (23, (S.2.2.1 23)), (24, (S.2.2.1 24)), (25, (S.2.2.1 25)), (26, (S.2.2.1 26))]) (L4' := []) (L5' := []) (cells' := 0) (slots' := 0) hC dX2_copyOf_71 ⟨mw_465, mw_467, mw_14, yd_yX2_copyRow, yp_yX2_copyRow, Nat.le_of_ble_eq_true rfl, Nat.le_of_ble_eq_true rfl, Nat.le_of_ble_eq_true rfl, Nat.le_of_ble_eq_true rfl⟩ mw_466 rfl rfl (Nat.le_of_ble_eq_true rfl) (c_copyRow (x_l X) (x_D X) (x_q X) g (x_cy X) (x_z X) _ layX layX_ok 36 18 13 layX_36 layX_18 (by decide)) rfl rfl rfl rfl rfl rfl rfl rfl rfl rfl rfl rfl rfl rfl ?_
  refine go_aload_n (pc' := 75) hC dX2_copyOf_74 rfl rfl ?_
  refine go_getq (pc' := 78) hC 34 4 layX_34 rfl rfl inlX2 (Nat.le_of_ble_eq_true rfl) mw_62 rfl dX2_copyOf_75 rfl ?_
  refine go_aload_n (pc' := 79) hC dX2_copyOf_78 rfl rfl ?_
  refine go_getq (pc' := 82) hC 16 4 layX_16 rfl rfl inlX2 (Nat.le_of_ble_eq_true rfl) mw_62 rfl dX2_copyOf_79 rfl ?_
  refine go_callS1 (pc' := 85) (As := [.ref (x_q X 37), .ref (x_q X 19)]) (st := []) (st' := []) (L1' := [(1600, x1), (1601, x2), (1607, x3), (1610, x4), (1614, o5.1), (1615, o5.2.1), (1616, o5.2.2.1), (1617, o5.2.2.2)]) (L2' := []) (L3' := [(17, (va_cpy (S.2.2.1 35) (S.2.2.1 17) 0 0 13)), (18, (va_cpy (S.2.2.1 36) (S.2.2.1 18) 0 0 13)), (19, (va_cpy (S.2.2.1 37) (S.2.2.1 19) 0 0 13)), (20, (S.2.2.1 20)), (21, (S.2.2.1 21)), (22, (S.2.2.1 22)), (23, (S.2.2.1 23)), (24, (S.2.2.1 24)), (25, (S.2.2.1 25)), (26, (S.2.2.1 26))]) (L4' := []) (L5' := []) (cells' := 0) (slots' := 0) hC dX2_copyOf_82 ⟨mw_465, mw_467, mw_14, yd_yX2_copyRow, yp_yX2_copyRow, Nat.le_of_ble_eq_true rfl, Nat.le_of_ble_eq_true rfl, Nat.le_of_ble_eq_true rfl, Nat.le_of_ble_eq_true rfl⟩ mw_466 rfl rfl (Nat.le_of_ble_eq_true rfl) (c_copyRow (x_l X) (x_D X) (x_q X) g (x_cy X) (x_z X) _ layX layX_ok 37 19 13 layX_37 layX_19 (by decide)) rfl rfl rfl rfl rfl rfl rfl rfl rfl rfl rfl rfl rfl rfl ?_
  refine go_aload_n (pc' := 86) hC dX2_copyOf_85 rfl rfl ?_
  refine go_getq (pc' := 89) hC 34 5 layX_34 rfl rfl inlX2 (Nat.le_of_ble_eq_true rfl) mw_63 rfl dX2_copyOf_86 rfl ?_
  refine go_aload_n (pc' := 90) hC dX2_copyOf_89 rfl rfl ?_
  refine go_getq (pc' := 93) hC 16 5 layX_16 rfl rfl inlX2 (Nat.le_of_ble_eq_true rfl) mw_63 rfl dX2_copyOf_90 rfl ?_
  refine go_callS1 (pc' := 96) (As := [.ref (x_q X 38), .ref (x_q X 20)]) (st := []) (st' := []) (L1' := [(1600, x1), (1601, x2), (1607, x3), (1610, x4), (1614, o5.1), (1615, o5.2.1), (1616, o5.2.2.1), (1617, o5.2.2.2)]) (L2' := []) (L3' := [(17, (va_cpy (S.2.2.1 35) (S.2.2.1 17) 0 0 13)), (18, (va_cpy (S.2.2.1 36) (S.2.2.1 18) 0 0 13)), (19, (va_cpy (S.2.2.1 37) (S.2.2.1 19) 0 0 13)), (20, (va_cpy (S.2.2.1 38) (S.2.2.1 20) 0 0 13)), (21, (S.2.2.1 21)), (22, (S.2.2.1 22)), (23, (S.2.2.1 23)), (24, (S.2.2.1 24)), (25, (S.2.2.1 25)), (26, (S.2.2.1 26))]) (L4' := []) (L5' := []) (cells' := 0) (slots' := 0) hC dX2_copyOf_93 ⟨mw_465, mw_467, mw_14, yd_yX2_copyRow, yp_yX2_copyRow, Nat.le_of_ble_eq_true rfl, Nat.le_of_ble_eq_true rfl, Nat.le_of_ble_eq_true rfl, Nat.le_of_ble_eq_true rfl⟩ mw_466 rfl rfl (Nat.le_of_ble_eq_true rfl) (c_copyRow (x_l X) (x_D X) (x_q X) g (x_cy X) (x_z X) _ layX layX_ok 38 20 13 layX_38 layX_20 (by decide)) rfl rfl rfl rfl rfl rfl rfl rfl rfl rfl rfl rfl rfl rfl ?_
  refine go_aload_n (pc' := 97) hC dX2_copyOf_96 rfl rfl ?_
  refine go_getq (pc' := 100) hC 34 6 layX_34 rfl rfl inlX2 (Nat.le_of_ble_eq_true rfl) mw_64 rfl dX2_copyOf_97 rfl ?_
  refine go_aload_n (pc' := 101) hC dX2_copyOf_100 rfl rfl ?_
  refine go_getq (pc' := 104) hC 16 6 layX_16 rfl rfl inlX2 (Nat.le_of_ble_eq_true rfl) mw_64 rfl dX2_copyOf_101 rfl ?_
  refine go_callS1 (pc' := 107) (As := [.ref (x_q X 39), .ref (x_q X 21)]) (st := []) (st' := []) (L1' := [(1600, x1), (1601, x2), (1607, x3), (1610, x4), (1614, o5.1), (1615, o5.2.1), (1616, o5.2.2.1), (1617, o5.2.2.2)]) (L2' := []) (L3' := [(17, (va_cpy (S.2.2.1 35) (S.2.2.1 17) 0 0 13)), (18, (va_cpy (S.2.2.1 36) (S.2.2.1 18) 0 0 13)), (19, (va_cpy (S.2.2.1 37) (S.2.2.1 19) 0 0 13)), (20, (va_cpy (S.2.2.1 38) (S.2.2.1 20) 0 0 13)), (21, (va_cpy (S.2.2.1 39) (S.2.2.1 21) 0 0 13)), (22, (S.2.2.1 22)), (23, (S.2.2.1 23)), (24, (S.2.2.1 24)), (25, (S.2.2.1 25)), (26, (S.2.2.1 26))]) (L4' := []) (L5' := []) (cells' := 0) (slots' := 0) hC dX2_copyOf_104 ⟨mw_465, mw_467, mw_14, yd_yX2_copyRow, yp_yX2_copyRow, Nat.le_of_ble_eq_true rfl, Nat.le_of_ble_eq_true rfl, Nat.le_of_ble_eq_true rfl, Nat.le_of_ble_eq_true rfl⟩ mw_466 rfl rfl (Nat.le_of_ble_eq_true rfl) (c_copyRow (x_l X) (x_D X) (x_q X) g (x_cy X) (x_z X) _ layX layX_ok 39 21 13 layX_39 layX_21 (by decide)) rfl rfl rfl rfl rfl rfl rfl rfl rfl rfl rfl rfl rfl rfl ?_
  refine go_aload_n (pc' := 108) hC dX2_copyOf_107 rfl rfl ?_
  refine go_getq (pc' := 111) hC 34 8 layX_34 rfl rfl inlX2 (Nat.le_of_ble_eq_true rfl) mw_65 rfl dX2_copyOf_108 rfl ?_
  refine go_aload_n (pc' := 112) hC dX2_copyOf_111 rfl rfl ?_
  refine go_getq (pc' := 115) hC 16 8 layX_16 rfl rfl inlX2 (Nat.le_of_ble_eq_true rfl) mw_65 rfl dX2_copyOf_112 rfl ?_
  refine go_callS1 (pc' := 118) (As := [.ref (x_q X 40), .ref (x_q X 22)]) (st := []) (st' := []) (L1' := [(1600, x1), (1601, x2), (1607, x3), (1610, x4), (1614, o5.1), (1615, o5.2.1), (1616, o5.2.2.1), (1617, o5.2.2.2)]) (L2' := []) (L3' := [(17, (va_cpy (S.2.2.1 35) (S.2.2.1 17) 0 0 13)), (18, (va_cpy (S.2.2.1 36) (S.2.2.1 18) 0 0 13)), (19, (va_cpy (S.2.2.1 37) (S.2.2.1 19) 0 0 13)), (20, (va_cpy (S.2.2.1 38) (S.2.2.1 20) 0 0 13)), (21, (va_cpy (S.2.2.1 39) (S.2.2.1 21) 0 0 13)), (22, (va_cpy (S.2.2.1 40) (S.2.2.1 22) 0 0 10)), (23, (S.2.2.1 23)), (24, (S.2.2.1 24)), (25, (S.2.2.1 25)), (26, (S.2.2.1 26))]) (L4' := []) (L5' := []) (cells' := 0) (slots' := 0) hC dX2_copyOf_115 ⟨mw_465, mw_467, mw_14, yd_yX2_copyRow, yp_yX2_copyRow, Nat.le_of_ble_eq_true rfl, Nat.le_of_ble_eq_true rfl, Nat.le_of_ble_eq_true rfl, Nat.le_of_ble_eq_true rfl⟩ mw_466 rfl rfl (Nat.le_of_ble_eq_true rfl) (c_copyRow (x_l X) (x_D X) (x_q X) g (x_cy X) (x_z X) _ layX layX_ok 40 22 10 layX_40 layX_22 (by decide)) rfl rfl rfl rfl rfl rfl rfl rfl rfl rfl rfl rfl rfl rfl ?_
  refine go_aload_n (pc' := 119) hC dX2_copyOf_118 rfl rfl ?_
  refine go_getq (pc' := 122) hC 34 9 layX_34 rfl rfl inlX2 (Nat.le_of_ble_eq_true rfl) mw_66 rfl dX2_copyOf_119 rfl ?_
  refine go_aload_n (pc' := 123) hC dX2_copyOf_122 rfl rfl ?_
  refine go_getq (pc' := 126) hC 16 9 layX_16 rfl rfl inlX2 (Nat.le_of_ble_eq_true rfl) mw_66 rfl dX2_copyOf_123 rfl ?_
  refine go_callS1 (pc' := 129) (As := [.ref (x_q X 41), .ref (x_q X 23)]) (st := []) (st' := []) (L1' := [(1600, x1), (1601, x2), (1607, x3), (1610, x4), (1614, o5.1), (1615, o5.2.1), (1616, o5.2.2.1), (1617, o5.2.2.2)]) (L2' := []) (L3' := [(17, (va_cpy (S.2.2.1 35) (S.2.2.1 17) 0 0 13)), (18, (va_cpy (S.2.2.1 36) (S.2.2.1 18) 0 0 13)), (19, (va_cpy (S.2.2.1 37) (S.2.2.1 19) 0 0 13)), (20, (va_cpy (S.2.2.1 38) (S.2.2.1 20) 0 0 13)), (21, (va_cpy (S.2.2.1 39) (S.2.2.1 21) 0 0 13)), (22, (va_cpy (S.2.2.1 40) (S.2.2.1 22) 0 0 10)), (23, (va_cpy (S.2.2.1 41) (S.2.2.1 23) 0 0 10)), (24, (S.2.2.1 24)), (25, (S.2.2.1 25)), (26, (S.2.2.1 26))]) (L4' := []) (L5' := []) (cells' := 0) (slots' := 0) hC dX2_copyOf_126 ⟨mw_465, mw_467, mw_14, yd_yX2_copyRow, yp_yX2_copyRow, Nat.le_of_ble_eq_true rfl, Nat.le_of_ble_eq_true rfl, Nat.le_of_ble_eq_true rfl, Nat.le_of_ble_eq_true rfl⟩ mw_466 rfl rfl (Nat.le_of_ble_eq_true rfl) (c_copyRow (x_l X) (x_D X) (x_q X) g (x_cy X) (x_z X) _ layX layX_ok 41 23 10 layX_41 layX_23 (by decide)) rfl rfl rfl rfl rfl rfl rfl rfl rfl rfl rfl rfl rfl rfl ?_
  refine go_aload_n (pc' := 130) hC dX2_copyOf_129 rfl rfl ?_
  refine go_getq (pc' := 133) hC 34 11 layX_34 rfl rfl inlX2 (Nat.le_of_ble_eq_true rfl) mw_67 rfl dX2_copyOf_130 rfl ?_
  refine go_aload_n (pc' := 134) hC dX2_copyOf_133 rfl rfl ?_
  refine go_getq (pc' := 137) hC 16 11 layX_16 rfl rfl inlX2 (Nat.le_of_ble_eq_true rfl) mw_67 rfl dX2_copyOf_134 rfl ?_
  refine go_callS1 (pc' := 140) (As := [.ref (x_q X 42), .ref (x_q X 24)]) (st := []) (st' := []) (L1' := [(1600, x1), (1601, x2), (1607, x3), (1610, x4), (1614, o5.1), (1615, o5.2.1), (1616, o5.2.2.1), (1617, o5.2.2.2)]) (L2' := []) (L3' := [(17, (va_cpy (S.2.2.1 35) (S.2.2.1 17) 0 0 13)), (18, (va_cpy (S.2.2.1 36) (S.2.2.1 18) 0 0 13)), (19, (va_cpy (S.2.2.1 37) (S.2.2.1 19) 0 0 13)), (20, (va_cpy (S.2.2.1 38) (S.2.2.1 20) 0 0 13)), (21, (va_cpy (S.2.2.1 39) (S.2.2.1 21) 0 0 13)), (22, (va_cpy (S.2.2.1 40) (S.2.2.1 22) 0 0 10)), (23, (va_cpy (S.2.2.1 41) (S.2.2.1 23) 0 0 10)), (24, (va_cpy (S.2.2.1 42) (S.2.2.1 24) 0 0 3)), (25, (S.2.2.1 25)), (26, (S.2.2.1 26))]) (L4' := []) (L5' := []) (cells' := 0) (slots' := 0) hC dX2_copyOf_137 ⟨mw_465, mw_467, mw_14, yd_yX2_copyRow, yp_yX2_copyRow, Nat.le_of_ble_eq_true rfl, Nat.le_of_ble_eq_true rfl, Nat.le_of_ble_eq_true rfl, Nat.le_of_ble_eq_true rfl⟩ mw_466 rfl rfl (Nat.le_of_ble_eq_true rfl) (c_copyRow (x_l X) (x_D X) (x_q X) g (x_cy X) (x_z X) _ layX layX_ok 42 24 3 layX_42 layX_24 (by decide)) rfl rfl rfl rfl rfl rfl rfl rfl rfl rfl rfl rfl rfl rfl ?_
  refine go_aload_n (pc' := 141) hC dX2_copyOf_140 rfl rfl ?_
  refine go_getq (pc' := 144) hC 34 12 layX_34 rfl rfl inlX2 (Nat.le_of_ble_eq_true rfl) mw_68 rfl dX2_copyOf_141 rfl ?_
  refine go_aload_n (pc' := 145) hC dX2_copyOf_144 rfl rfl ?_
  refine go_getq (pc' := 148) hC 16 12 layX_16 rfl rfl inlX2 (Nat.le_of_ble_eq_true rfl) mw_68 rfl dX2_copyOf_145 rfl ?_
  refine go_callS1 (pc' := 151) (As := [.ref (x_q X 43), .ref (x_q X 25)]) (st := []) (st' := []) (L1' := [(1600, x1), (1601, x2), (1607, x3), (1610, x4), (1614, o5.1), (1615, o5.2.1), (1616, o5.2.2.1), (1617, o5.2.2.2)]) (L2' := []) (L3' := [(17, (va_cpy (S.2.2.1 35) (S.2.2.1 17) 0 0 13)), (18, (va_cpy (S.2.2.1 36) (S.2.2.1 18) 0 0 13)), (19, (va_cpy (S.2.2.1 37) (S.2.2.1 19) 0 0 13)), (20, (va_cpy (S.2.2.1 38) (S.2.2.1 20) 0 0 13)), (21, (va_cpy (S.2.2.1 39) (S.2.2.1 21) 0 0 13)), (22, (va_cpy (S.2.2.1 40) (S.2.2.1 22) 0 0 10)), (23, (va_cpy (S.2.2.1 41) (S.2.2.1 23) 0 0 10)), (24, (va_cpy (S.2.2.1 42) (S.2.2.1 24) 0 0 3)), (25, (va_cpy (S.2.2.1 43) (S.2.2.1 25) 0 0 3)), (26, (S.2.2.1 26))]) (L4' := []) (L5' := []) (cells' := 0) (slots' := 0) hC dX2_copyOf_148 ⟨mw_465, mw_467, mw_14, yd_yX2_copyRow, yp_yX2_copyRow, Nat.le_of_ble_eq_true rfl, Nat.le_of_ble_eq_true rfl, Nat.le_of_ble_eq_true rfl, Nat.le_of_ble_eq_true rfl⟩ mw_466 rfl rfl (Nat.le_of_ble_eq_true rfl) (c_copyRow (x_l X) (x_D X) (x_q X) g (x_cy X) (x_z X) _ layX layX_ok 43 25 3 layX_43 layX_25 (by decide)) rfl rfl rfl rfl rfl rfl rfl rfl rfl rfl rfl rfl rfl rfl ?_
  refine go_aload_n (pc' := 152) hC dX2_copyOf_151 rfl rfl ?_
  refine go_getq (pc' := 155) hC 34 13 layX_34 rfl rfl inlX2 (Nat.le_of_ble_eq_true rfl) mw_69 rfl dX2_copyOf_152 rfl ?_
  refine go_aload_n (pc' := 156) hC dX2_copyOf_155 rfl rfl ?_
  refine go_getq (pc' := 159) hC 16 13 layX_16 rfl rfl inlX2 (Nat.le_of_ble_eq_true rfl) mw_69 rfl dX2_copyOf_156 rfl ?_
  refine go_callS1 (pc' := 162) (As := [.ref (x_q X 44), .ref (x_q X 26)]) (st := []) (st' := []) (L1' := [(1600, x1), (1601, x2), (1607, x3), (1610, x4), (1614, o5.1), (1615, o5.2.1), (1616, o5.2.2.1), (1617, o5.2.2.2)]) (L2' := []) (L3' := [(17, (va_cpy (S.2.2.1 35) (S.2.2.1 17) 0 0 13)), (18, (va_cpy (S.2.2.1 36) (S.2.2.1 18) 0 0 13)), (19, (va_cpy (S.2.2.1 37) (S.2.2.1 19) 0 0 13)), (20, (va_cpy (S.2.2.1 38) (S.2.2.1 20) 0 0 13)), (21, (va_cpy (S.2.2.1 39) (S.2.2.1 21) 0 0 13)), (22, (va_cpy (S.2.2.1 40) (S.2.2.1 22) 0 0 10)), (23, (va_cpy (S.2.2.1 41) (S.2.2.1 23) 0 0 10)), (24, (va_cpy (S.2.2.1 42) (S.2.2.1 24) 0 0 3)), (25, (va_cpy (S.2.2.1 43) (S.2.2.1 25) 0 0 3)), (26, (va_cpy (S.2.2.1 44) (S.2.2.1 26) 0 0 3))]) (L4' := []) (L5' := []) (cells' := 0) (slots' := 0) hC dX2_copyOf_159 ⟨mw_465, mw_467, mw_14, yd_yX2_copyRow, yp_yX2_copyRow, Nat.le_of_ble_eq_true rfl, Nat.le_of_ble_eq_true rfl, Nat.le_of_ble_eq_true rfl, Nat.le_of_ble_eq_true rfl⟩ mw_466 rfl rfl (Nat.le_of_ble_eq_true rfl) (c_copyRow (x_l X) (x_D X) (x_q X) g (x_cy X) (x_z X) _ layX layX_ok 44 26 3 layX_44 layX_26 (by decide)) rfl rfl rfl rfl rfl rfl rfl rfl rfl rfl rfl rfl rfl rfl ?_
  obtain rfl := Option.some.inj hf
  exact go_vret hC hQ dX2_copyOf_162 rfl rfl rfl (fun _ => rfl) rfl rfl
abbrev o_X6_copyOf_q27_q78 : Type := Int32 × Int32 × (Nat → Int32) × (Nat → Int32) × (Nat → Int32) × (Nat → Int32) × (Nat → Int32) × (Nat → Int32)
def f_X6_copyOf_q27_q78 (S : wd_W) : Option o_X6_copyOf_q27_q78 :=
lz ((S.1 7800)) fun x1 =>
lz ((S.1 7804)) fun x2 =>
some (x1, x2, (va_cpy (S.2.2.1 79) (S.2.2.1 28) 0 0 9), (va_cpy (S.2.2.1 80) (S.2.2.1 29) 0 0 9), (va_cpy (S.2.2.1 81) (S.2.2.1 30) 0 0 9), (va_cpy (S.2.2.1 82) (S.2.2.1 31) 0 0 6), (va_cpy (S.2.2.1 83) (S.2.2.1 32) 0 0 6), (va_cpy (S.2.2.1 84) (S.2.2.1 33) 0 0 6))
set_option maxRecDepth 100000 in
set_option maxHeartbeats 4000000 in
theorem c_X6_copyOf_q27_q78 (l : Launch) (D : va_G) (q g : Nat → Nat) (cy : Nat → ClassId) (z : (Nat → Nat) × (Nat → Nat) × Nat) (S : wd_W) (o : o_X6_copyOf_q27_q78) (hf : f_X6_copyOf_q27_q78 S = some o) : MX layX l yX6_copyOf cX6_copyOf 2 none ({ frames := 2, cells := 0, slots := 0, locals := 81 } : Room) D q g cy z [.ref (q 27), .ref (q 78)] S false (none) (wd_o S [(2700, o.1), (2704, o.2.1)] [] [(28, o.2.2.1), (29, o.2.2.2.1), (30, o.2.2.2.2.1), (31, o.2.2.2.2.2.1), (32, o.2.2.2.2.2.2.1), (33, o.2.2.2.2.2.2.2)] [] []) 0 0 := by
  refine mx_of (own := RX6) (lc := [(0, .ref (q 27)), (1, .ref (q 78))]) (by decide +kernel) rfl layX_ok (Nat.le_of_ble_eq_true rfl) rfl ?_
  intro X hXl hXq hXz hC hQ
  subst hXl; subst hXq; subst hXz
  unfold f_X6_copyOf_q27_q78 at hf
  refine go_keys (L1 := [(2700, (S.1 2700)), (2704, (S.1 2704))]) (L2 := []) (L3 := [(28, (S.2.2.1 28)), (29, (S.2.2.1 29)), (30, (S.2.2.1 30)), (31, (S.2.2.1 31)), (32, (S.2.2.1 32)), (33, (S.2.2.1 33))]) (L4 := []) (L5 := []) [2700, 2704] [] [28, 29, 30, 31, 32, 33] [] [] rfl rfl rfl rfl rfl ?_
  refine go_aload_n (pc' := 1) hC dX6_copyOf_0 rfl rfl ?_
  refine go_aload_n (pc' := 2) hC dX6_copyOf_1 rfl rfl ?_
  refine go_geti (v := (S.1 7800)) (pc' := 5) hC 78 0 layX_78 rfl rfl inlX6 (Nat.le_of_ble_eq_true rfl) mw_477 rfl dX6_copyOf_2 rfl rfl ?_
  refine go_namei (fun x1 hx => ?_)
  have hf := lz_r hx hf
  clear hx
  refine go_puti (L1' := [(2700, x1), (2704, (S.1 2704))]) (pc' := 8) hC 27 0 layX_27 rfl rfl inlX6 tyX6_ok nmX6 (Nat.le_of_ble_eq_true rfl) mw_477 rfl rfl rfl rfl dX6_copyOf_5 rfl rfl rfl ?_
  refine go_aload_n (pc' := 9) hC dX6_copyOf_8 rfl rfl ?_
  refine go_aload_n (pc' := 10) hC dX6_copyOf_9 rfl rfl ?_
  refine go_geti (v := (S.1 7804)) (pc' := 13) hC 78 4 layX_78 rfl rfl inlX6 (Nat.le_of_ble_eq_true rfl) mw_478 rfl dX6_copyOf_10 rfl rfl ?_
  refine go_namei (fun x2 hx => ?_)
  have hf := lz_r hx hf
  clear hx
  refine go_puti (L1' := [(2700, x1), (2704, x2)]) (pc' := 16) hC 27 4 layX_27 rfl rfl inlX6 tyX6_ok nmX6 (Nat.le_of_ble_eq_true rfl) mw_478 rfl rfl rfl rfl dX6_copyOf_13 rfl rfl rfl ?_
  refine go_aload_n (pc' := 17) hC dX6_copyOf_16 rfl rfl ?_
  refine go_getq (pc' := 20) hC 78 1 layX_78 rfl rfl inlX6 (Nat.le_of_ble_eq_true rfl) mw_81 rfl dX6_copyOf_17 rfl ?_
  refine go_aload_n (pc' := 21) hC dX6_copyOf_20 rfl rfl ?_
  refine go_getq (pc' := 24) hC 27 1 layX_27 rfl rfl inlX6 (Nat.le_of_ble_eq_true rfl) mw_81 rfl dX6_copyOf_21 rfl ?_
  refine go_callS1 (pc' := 27) (As := [.ref (x_q X 79), .ref (x_q X 28)]) (st := []) (st' := []) (L1' := [(2700, x1), (2704, x2)]) (L2' := []) (L3' := [(28, (va_cpy (S.2.2.1 79) (S.2.2.1 28) 0 0 9)), (29, (S.2.2.1 29)), (30, (S.2.2.1 30)), (31, (S.2.2.1 31)), (32, (S.2.2.1 32)), (33, (S.2.2.1 33))]) (L4' := []) (L5' := []) (cells' := 0) (slots' := 0) hC dX6_copyOf_24 ⟨mw_1517, mw_467, mw_14, yd_yX2_copyRow, yp_yX2_copyRow, Nat.le_of_ble_eq_true rfl, Nat.le_of_ble_eq_true rfl, Nat.le_of_ble_eq_true rfl, Nat.le_of_ble_eq_true rfl⟩ mw_466 rfl rfl (Nat.le_of_ble_eq_true rfl) (c_copyRow (x_l X) (x_D X) (x_q X) g (x_cy X) (x_z X) _ layX layX_ok 79 28 9 layX_79 layX_28 (by decide)) rfl rfl rfl rfl rfl rfl rfl rfl rfl rfl rfl rfl rfl rfl ?_
  refine go_aload_n (pc' := 28) hC dX6_copyOf_27 rfl rfl ?_
  refine go_getq (pc' := 31) hC 78 2 layX_78 rfl rfl inlX6 (Nat.le_of_ble_eq_true rfl) mw_82 rfl dX6_copyOf_28 rfl ?_
  refine go_aload_n (pc' := 32) hC dX6_copyOf_31 rfl rfl ?_
  refine go_getq (pc' := 35) hC 27 2 layX_27 rfl rfl inlX6 (Nat.le_of_ble_eq_true rfl) mw_82 rfl dX6_copyOf_32 rfl ?_
  refine go_callS1 (pc' := 38) (As := [.ref (x_q X 80), .ref (x_q X 29)]) (st := []) (st' := []) (L1' := [(2700, x1), (2704, x2)]) (L2' := []) (L3' := [(28, (va_cpy (S.2.2.1 79) (S.2.2.1 28) 0 0 9)), (29, (va_cpy (S.2.2.1 80) (S.2.2.1 29) 0 0 9)), (30, (S.2.2.1 30)), (31, (S.2.2.1 31)), (32, (S.2.2.1 32)), (33, (S.2.2.1 33))]) (L4' := []) (L5' := []) (cells' := 0) (slots' := 0) hC dX6_copyOf_35 ⟨mw_1517, mw_467, mw_14, yd_yX2_copyRow, yp_yX2_copyRow, Nat.le_of_ble_eq_true rfl, Nat.le_of_ble_eq_true rfl, Nat.le_of_ble_eq_true rfl, Nat.le_of_ble_eq_true rfl⟩ mw_466 rfl rfl (Nat.le_of_ble_eq_true rfl) (c_copyRow (x_l X) (x_D X) (x_q X) g (x_cy X) (x_z X) _ layX layX_ok 80 29 9 layX_80 layX_29 (by decide)) rfl rfl rfl rfl rfl rfl rfl rfl rfl rfl rfl rfl rfl rfl ?_
  refine go_aload_n (pc' := 39) hC dX6_copyOf_38 rfl rfl ?_
  refine go_getq (pc' := 42) hC 78 3 layX_78 rfl rfl inlX6 (Nat.le_of_ble_eq_true rfl) mw_83 rfl dX6_copyOf_39 rfl ?_
  refine go_aload_n (pc' := 43) hC dX6_copyOf_42 rfl rfl ?_
  refine go_getq (pc' := 46) hC 27 3 layX_27 rfl rfl inlX6 (Nat.le_of_ble_eq_true rfl) mw_83 rfl dX6_copyOf_43 rfl ?_
  refine go_callS1 (pc' := 49) (As := [.ref (x_q X 81), .ref (x_q X 30)]) (st := []) (st' := []) (L1' := [(2700, x1), (2704, x2)]) (L2' := []) (L3' := [(28, (va_cpy (S.2.2.1 79) (S.2.2.1 28) 0 0 9)), (29, (va_cpy (S.2.2.1 80) (S.2.2.1 29) 0 0 9)), (30, (va_cpy (S.2.2.1 81) (S.2.2.1 30) 0 0 9)), (31, (S.2.2.1 31)), (32, (S.2.2.1 32)), (33, (S.2.2.1 33))]) (L4' := []) (L5' := []) (cells' := 0) (slots' := 0) hC dX6_copyOf_46 ⟨mw_1517, mw_467, mw_14, yd_yX2_copyRow, yp_yX2_copyRow, Nat.le_of_ble_eq_true rfl, Nat.le_of_ble_eq_true rfl, Nat.le_of_ble_eq_true rfl, Nat.le_of_ble_eq_true rfl⟩ mw_466 rfl rfl (Nat.le_of_ble_eq_true rfl) (c_copyRow (x_l X) (x_D X) (x_q X) g (x_cy X) (x_z X) _ layX layX_ok 81 30 9 layX_81 layX_30 (by decide)) rfl rfl rfl rfl rfl rfl rfl rfl rfl rfl rfl rfl rfl rfl ?_
  refine go_aload_n (pc' := 50) hC dX6_copyOf_49 rfl rfl ?_
  refine go_getq (pc' := 53) hC 78 5 layX_78 rfl rfl inlX6 (Nat.le_of_ble_eq_true rfl) mw_84 rfl dX6_copyOf_50 rfl ?_
  refine go_aload_n (pc' := 54) hC dX6_copyOf_53 rfl rfl ?_
  refine go_getq (pc' := 57) hC 27 5 layX_27 rfl rfl inlX6 (Nat.le_of_ble_eq_true rfl) mw_84 rfl dX6_copyOf_54 rfl ?_
  refine go_callS1 (pc' := 60) (As := [.ref (x_q X 82), .ref (x_q X 31)]) (st := []) (st' := []) (L1' := [(2700, x1), (2704, x2)]) (L2' := []) (L3' := [(28, (va_cpy (S.2.2.1 79) (S.2.2.1 28) 0 0 9)), (29, (va_cpy (S.2.2.1 80) (S.2.2.1 29) 0 0 9)), (30, (va_cpy (S.2.2.1 81) (S.2.2.1 30) 0 0 9)), (31, (va_cpy (S.2.2.1 82) (S.2.2.1 31) 0 0 6)), (32, (S.2.2.1 32)), (33, (S.2.2.1 33))]) (L4' := []) (L5' := []) (cells' := 0) (slots' := 0) hC dX6_copyOf_57 ⟨mw_1517, mw_467, mw_14, yd_yX2_copyRow, yp_yX2_copyRow, Nat.le_of_ble_eq_true rfl, Nat.le_of_ble_eq_true rfl, Nat.le_of_ble_eq_true rfl, Nat.le_of_ble_eq_true rfl⟩ mw_466 rfl rfl (Nat.le_of_ble_eq_true rfl) (c_copyRow (x_l X) (x_D X) (x_q X) g (x_cy X) (x_z X) _ layX layX_ok 82 31 6 layX_82 layX_31 (by decide)) rfl rfl rfl rfl rfl rfl rfl rfl rfl rfl rfl rfl rfl rfl ?_
  refine go_aload_n (pc' := 61) hC dX6_copyOf_60 rfl rfl ?_
  refine go_getq (pc' := 64) hC 78 6 layX_78 rfl rfl inlX6 (Nat.le_of_ble_eq_true rfl) mw_85 rfl dX6_copyOf_61 rfl ?_
  refine go_aload_n (pc' := 65) hC dX6_copyOf_64 rfl rfl ?_
  refine go_getq (pc' := 68) hC 27 6 layX_27 rfl rfl inlX6 (Nat.le_of_ble_eq_true rfl) mw_85 rfl dX6_copyOf_65 rfl ?_
  refine go_callS1 (pc' := 71) (As := [.ref (x_q X 83), .ref (x_q X 32)]) (st := []) (st' := []) (L1' := [(2700, x1), (2704, x2)]) (L2' := []) (L3' := [(28, (va_cpy (S.2.2.1 79) (S.2.2.1 28) 0 0 9)), (29, (va_cpy (S.2.2.1 80) (S.2.2.1 29) 0 0 9)), (30, (va_cpy (S.2.2.1 81) (S.2.2.1 30) 0 0 9)), (31, (va_cpy (S.2.2.1 82) (S.2.2.1 31) 0 0 6)), (32, (va_cpy (S.2.2.1 83) (S.2.2.1 32) 0 0 6)), (33, (S.2.2.1 33))]) (L4' := []) (L5' := []) (cells' := 0) (slots' := 0) hC dX6_copyOf_68 ⟨mw_1517, mw_467, mw_14, yd_yX2_copyRow, yp_yX2_copyRow, Nat.le_of_ble_eq_true rfl, Nat.le_of_ble_eq_true rfl, Nat.le_of_ble_eq_true rfl, Nat.le_of_ble_eq_true rfl⟩ mw_466 rfl rfl (Nat.le_of_ble_eq_true rfl) (c_copyRow (x_l X) (x_D X) (x_q X) g (x_cy X) (x_z X) _ layX layX_ok 83 32 6 layX_83 layX_32 (by decide)) rfl rfl rfl rfl rfl rfl rfl rfl rfl rfl rfl rfl rfl rfl ?_
  refine go_aload_n (pc' := 72) hC dX6_copyOf_71 rfl rfl ?_
  refine go_getq (pc' := 75) hC 78 7 layX_78 rfl rfl inlX6 (Nat.le_of_ble_eq_true rfl) mw_86 rfl dX6_copyOf_72 rfl ?_
  refine go_aload_n (pc' := 76) hC dX6_copyOf_75 rfl rfl ?_
  refine go_getq (pc' := 79) hC 27 7 layX_27 rfl rfl inlX6 (Nat.le_of_ble_eq_true rfl) mw_86 rfl dX6_copyOf_76 rfl ?_
  refine go_callS1 (pc' := 82) (As := [.ref (x_q X 84), .ref (x_q X 33)]) (st := []) (st' := []) (L1' := [(2700, x1), (2704, x2)]) (L2' := []) (L3' := [(28, (va_cpy (S.2.2.1 79) (S.2.2.1 28) 0 0 9)), (29, (va_cpy (S.2.2.1 80) (S.2.2.1 29) 0 0 9)), (30, (va_cpy (S.2.2.1 81) (S.2.2.1 30) 0 0 9)), (31, (va_cpy (S.2.2.1 82) (S.2.2.1 31) 0 0 6)), (32, (va_cpy (S.2.2.1 83) (S.2.2.1 32) 0 0 6)), (33, (va_cpy (S.2.2.1 84) (S.2.2.1 33) 0 0 6))]) (L4' := []) (L5' := []) (cells' := 0) (slots' := 0) hC dX6_copyOf_79 ⟨mw_1517, mw_467, mw_14, yd_yX2_copyRow, yp_yX2_copyRow, Nat.le_of_ble_eq_true rfl, Nat.le_of_ble_eq_true rfl, Nat.le_of_ble_eq_true rfl, Nat.le_of_ble_eq_true rfl⟩ mw_466 rfl rfl (Nat.le_of_ble_eq_true rfl) (c_copyRow (x_l X) (x_D X) (x_q X) g (x_cy X) (x_z X) _ layX layX_ok 84 33 6 layX_84 layX_33 (by decide)) rfl rfl rfl rfl rfl rfl rfl rfl rfl rfl rfl rfl rfl rfl ?_
  obtain rfl := Option.some.inj hf
  exact go_vret hC hQ dX6_copyOf_82 rfl rfl rfl (fun _ => rfl) rfl rfl
theorem dX11_restore_0 : decode cX11_restore 0 = .ok (.iload_n 1, 1) := by decide +kernel
theorem dX11_restore_1 : decode cX11_restore 1 = .ok (.ifCond .lt 19, 3) := by decide +kernel
theorem dX11_restore_4 : decode cX11_restore 4 = .ok (.iload_n 1, 1) := by decide +kernel
theorem dX11_restore_5 : decode cX11_restore 5 = .ok (.iconst 4, 1) := by decide +kernel
theorem dX11_restore_6 : decode cX11_restore 6 = .ok (.if_icmp .ge 14, 3) := by decide +kernel
theorem dX11_restore_9 : decode cX11_restore 9 = .ok (.aload_n 0, 1) := by decide +kernel
theorem dX11_restore_10 : decode cX11_restore 10 = .ok (.getfield 344, 3) := by decide +kernel
theorem dX11_restore_13 : decode cX11_restore 13 = .ok (.iload_n 1, 1) := by decide +kernel
theorem dX11_restore_14 : decode cX11_restore 14 = .ok (.ishr, 1) := by decide +kernel
theorem dX11_restore_15 : decode cX11_restore 15 = .ok (.iconst 1, 1) := by decide +kernel
theorem dX11_restore_16 : decode cX11_restore 16 = .ok (.iand, 1) := by decide +kernel
theorem dX11_restore_17 : decode cX11_restore 17 = .ok (.ifCond .ne 5, 3) := by decide +kernel
theorem dX11_restore_20 : decode cX11_restore 20 = .ok (.iconst (-1), 1) := by decide +kernel
theorem dX11_restore_21 : decode cX11_restore 21 = .ok (.ireturn, 1) := by decide +kernel
theorem dX11_restore_22 : decode cX11_restore 22 = .ok (.aload_n 0, 1) := by decide +kernel
theorem dX11_restore_23 : decode cX11_restore 23 = .ok (.getfield 25, 3) := by decide +kernel
theorem dX11_restore_26 : decode cX11_restore 26 = .ok (.aload_n 0, 1) := by decide +kernel
theorem dX11_restore_27 : decode cX11_restore 27 = .ok (.getfield 35, 3) := by decide +kernel
theorem dX11_restore_30 : decode cX11_restore 30 = .ok (.iload_n 1, 1) := by decide +kernel
theorem dX11_restore_31 : decode cX11_restore 31 = .ok (.aaload, 1) := by decide +kernel
theorem dX11_restore_32 : decode cX11_restore 32 = .ok (.invokevirtual 120, 3) := by decide +kernel
theorem dX11_restore_35 : decode cX11_restore 35 = .ok (.aload_n 0, 1) := by decide +kernel
theorem dX11_restore_36 : decode cX11_restore 36 = .ok (.getfield 31, 3) := by decide +kernel
theorem dX11_restore_39 : decode cX11_restore 39 = .ok (.aload_n 0, 1) := by decide +kernel
theorem dX11_restore_40 : decode cX11_restore 40 = .ok (.getfield 39, 3) := by decide +kernel
theorem dX11_restore_43 : decode cX11_restore 43 = .ok (.iload_n 1, 1) := by decide +kernel
theorem dX11_restore_44 : decode cX11_restore 44 = .ok (.aaload, 1) := by decide +kernel
theorem dX11_restore_45 : decode cX11_restore 45 = .ok (.invokevirtual 341, 3) := by decide +kernel
theorem dX11_restore_48 : decode cX11_restore 48 = .ok (.aload_n 0, 1) := by decide +kernel
theorem dX11_restore_49 : decode cX11_restore 49 = .ok (.invokevirtual 126, 3) := by decide +kernel
theorem dX11_restore_52 : decode cX11_restore 52 = .ok (.aload_n 0, 1) := by decide +kernel
theorem dX11_restore_53 : decode cX11_restore 53 = .ok (.getfield 25, 3) := by decide +kernel
theorem dX11_restore_56 : decode cX11_restore 56 = .ok (.invokevirtual 129, 3) := by decide +kernel
theorem dX11_restore_59 : decode cX11_restore 59 = .ok (.ireturn, 1) := by decide +kernel
abbrev o_X11_restore : Type := Int32 × wd_W
def f_X11_restore (S : wd_W) (p1 : Int32) : Option o_X11_restore :=
if p1 < 0 then (
some ((-1 : Int32), S)) else (
if (4 : Int32) ≤ p1 then (
some ((-1 : Int32), S)) else (
if (((S.1 6) >>> (p1 &&& 31)) &&& (1 : Int32)) = 0 then (
some ((-1 : Int32), S)) else (
if p1 = (0 : Int32) then (
bd (f_X2_copyOf_q16_q34 (wd_o S [(1600, (S.1 1600)), (1601, (S.1 1601)), (1607, (S.1 1607)), (1610, (S.1 1610)), (1614, (S.1 1614)), (1615, (S.1 1615)), (1616, (S.1 1616)), (1617, (S.1 1617))] [] [(17, (S.2.2.1 17)), (18, (S.2.2.1 18)), (19, (S.2.2.1 19)), (20, (S.2.2.1 20)), (21, (S.2.2.1 21)), (22, (S.2.2.1 22)), (23, (S.2.2.1 23)), (24, (S.2.2.1 24)), (25, (S.2.2.1 25)), (26, (S.2.2.1 26))] [] [])) fun o1 =>
lz (wd_o S [(1600, o1.1), (1601, o1.2.1), (1607, o1.2.2.1), (1610, o1.2.2.2.1), (1614, o1.2.2.2.2.1), (1615, o1.2.2.2.2.2.1), (1616, o1.2.2.2.2.2.2.1), (1617, o1.2.2.2.2.2.2.2.1)] [] [(17, o1.2.2.2.2.2.2.2.2.1), (18, o1.2.2.2.2.2.2.2.2.2.1), (19, o1.2.2.2.2.2.2.2.2.2.2.1), (20, o1.2.2.2.2.2.2.2.2.2.2.2.1), (21, o1.2.2.2.2.2.2.2.2.2.2.2.2.1), (22, o1.2.2.2.2.2.2.2.2.2.2.2.2.2.1), (23, o1.2.2.2.2.2.2.2.2.2.2.2.2.2.2.1), (24, o1.2.2.2.2.2.2.2.2.2.2.2.2.2.2.2.1), (25, o1.2.2.2.2.2.2.2.2.2.2.2.2.2.2.2.2.1), (26, o1.2.2.2.2.2.2.2.2.2.2.2.2.2.2.2.2.2)] [] []) fun S3 =>
bd (f_X6_copyOf_q27_q78 (wd_o S3 [(2700, (S3.1 2700)), (2704, (S3.1 2704))] [] [(28, (S3.2.2.1 28)), (29, (S3.2.2.1 29)), (30, (S3.2.2.1 30)), (31, (S3.2.2.1 31)), (32, (S3.2.2.1 32)), (33, (S3.2.2.1 33))] [] [])) fun o2 =>
lz (wd_o S3 [(2700, o2.1), (2704, o2.2.1)] [] [(28, o2.2.2.1), (29, o2.2.2.2.1), (30, o2.2.2.2.2.1), (31, o2.2.2.2.2.2.1), (32, o2.2.2.2.2.2.2.1), (33, o2.2.2.2.2.2.2.2)] [] []) fun S5 =>
bd (f_X11_forget (wd_o S5 [(7, (S5.1 7)), (8, (S5.1 8)), (9, (S5.1 9))] [] [] [] [])) fun o4 =>
bd (f_X2_things_q16 (wd_o S5 [(7, o4.1), (8, o4.2.1), (9, o4.2.2)] [] [] [] [])) fun o6 =>
some (o6, (wd_o S5 [(7, o4.1), (8, o4.2.1), (9, o4.2.2)] [] [] [] []))) else (
if p1 = (1 : Int32) then (
bd (f_X2_copyOf_q16_q45 (wd_o S [(1600, (S.1 1600)), (1601, (S.1 1601)), (1607, (S.1 1607)), (1610, (S.1 1610)), (1614, (S.1 1614)), (1615, (S.1 1615)), (1616, (S.1 1616)), (1617, (S.1 1617))] [] [(17, (S.2.2.1 17)), (18, (S.2.2.1 18)), (19, (S.2.2.1 19)), (20, (S.2.2.1 20)), (21, (S.2.2.1 21)), (22, (S.2.2.1 22)), (23, (S.2.2.1 23)), (24, (S.2.2.1 24)), (25, (S.2.2.1 25)), (26, (S.2.2.1 26))] [] [])) fun o8 =>
lz (wd_o S [(1600, o8.1), (1601, o8.2.1), (1607, o8.2.2.1), (1610, o8.2.2.2.1), (1614, o8.2.2.2.2.1), (1615, o8.2.2.2.2.2.1), (1616, o8.2.2.2.2.2.2.1), (1617, o8.2.2.2.2.2.2.2.1)] [] [(17, o8.2.2.2.2.2.2.2.2.1), (18, o8.2.2.2.2.2.2.2.2.2.1), (19, o8.2.2.2.2.2.2.2.2.2.2.1), (20, o8.2.2.2.2.2.2.2.2.2.2.2.1), (21, o8.2.2.2.2.2.2.2.2.2.2.2.2.1), (22, o8.2.2.2.2.2.2.2.2.2.2.2.2.2.1), (23, o8.2.2.2.2.2.2.2.2.2.2.2.2.2.2.1), (24, o8.2.2.2.2.2.2.2.2.2.2.2.2.2.2.2.1), (25, o8.2.2.2.2.2.2.2.2.2.2.2.2.2.2.2.2.1), (26, o8.2.2.2.2.2.2.2.2.2.2.2.2.2.2.2.2.2)] [] []) fun S10 =>
bd (f_X6_copyOf_q27_q85 (wd_o S10 [(2700, (S10.1 2700)), (2704, (S10.1 2704))] [] [(28, (S10.2.2.1 28)), (29, (S10.2.2.1 29)), (30, (S10.2.2.1 30)), (31, (S10.2.2.1 31)), (32, (S10.2.2.1 32)), (33, (S10.2.2.1 33))] [] [])) fun o9 =>
lz (wd_o S10 [(2700, o9.1), (2704, o9.2.1)] [] [(28, o9.2.2.1), (29, o9.2.2.2.1), (30, o9.2.2.2.2.1), (31, o9.2.2.2.2.2.1), (32, o9.2.2.2.2.2.2.1), (33, o9.2.2.2.2.2.2.2)] [] []) fun S12 =>
bd (f_X11_forget (wd_o S12 [(7, (S12.1 7)), (8, (S12.1 8)), (9, (S12.1 9))] [] [] [] [])) fun o11 =>
bd (f_X2_things_q16 (wd_o S12 [(7, o11.1), (8, o11.2.1), (9, o11.2.2)] [] [] [] [])) fun o13 =>
some (o13, (wd_o S12 [(7, o11.1), (8, o11.2.1), (9, o11.2.2)] [] [] [] []))) else (
if p1 = (2 : Int32) then (
bd (f_X2_copyOf_q16_q56 (wd_o S [(1600, (S.1 1600)), (1601, (S.1 1601)), (1607, (S.1 1607)), (1610, (S.1 1610)), (1614, (S.1 1614)), (1615, (S.1 1615)), (1616, (S.1 1616)), (1617, (S.1 1617))] [] [(17, (S.2.2.1 17)), (18, (S.2.2.1 18)), (19, (S.2.2.1 19)), (20, (S.2.2.1 20)), (21, (S.2.2.1 21)), (22, (S.2.2.1 22)), (23, (S.2.2.1 23)), (24, (S.2.2.1 24)), (25, (S.2.2.1 25)), (26, (S.2.2.1 26))] [] [])) fun o15 =>
lz (wd_o S [(1600, o15.1), (1601, o15.2.1), (1607, o15.2.2.1), (1610, o15.2.2.2.1), (1614, o15.2.2.2.2.1), (1615, o15.2.2.2.2.2.1), (1616, o15.2.2.2.2.2.2.1), (1617, o15.2.2.2.2.2.2.2.1)] [] [(17, o15.2.2.2.2.2.2.2.2.1), (18, o15.2.2.2.2.2.2.2.2.2.1), (19, o15.2.2.2.2.2.2.2.2.2.2.1), (20, o15.2.2.2.2.2.2.2.2.2.2.2.1), (21, o15.2.2.2.2.2.2.2.2.2.2.2.2.1), (22, o15.2.2.2.2.2.2.2.2.2.2.2.2.2.1), (23, o15.2.2.2.2.2.2.2.2.2.2.2.2.2.2.1), (24, o15.2.2.2.2.2.2.2.2.2.2.2.2.2.2.2.1), (25, o15.2.2.2.2.2.2.2.2.2.2.2.2.2.2.2.2.1), (26, o15.2.2.2.2.2.2.2.2.2.2.2.2.2.2.2.2.2)] [] []) fun S17 =>
bd (f_X6_copyOf_q27_q92 (wd_o S17 [(2700, (S17.1 2700)), (2704, (S17.1 2704))] [] [(28, (S17.2.2.1 28)), (29, (S17.2.2.1 29)), (30, (S17.2.2.1 30)), (31, (S17.2.2.1 31)), (32, (S17.2.2.1 32)), (33, (S17.2.2.1 33))] [] [])) fun o16 =>
lz (wd_o S17 [(2700, o16.1), (2704, o16.2.1)] [] [(28, o16.2.2.1), (29, o16.2.2.2.1), (30, o16.2.2.2.2.1), (31, o16.2.2.2.2.2.1), (32, o16.2.2.2.2.2.2.1), (33, o16.2.2.2.2.2.2.2)] [] []) fun S19 =>
bd (f_X11_forget (wd_o S19 [(7, (S19.1 7)), (8, (S19.1 8)), (9, (S19.1 9))] [] [] [] [])) fun o18 =>
bd (f_X2_things_q16 (wd_o S19 [(7, o18.1), (8, o18.2.1), (9, o18.2.2)] [] [] [] [])) fun o20 =>
some (o20, (wd_o S19 [(7, o18.1), (8, o18.2.1), (9, o18.2.2)] [] [] [] []))) else (
if p1 = (3 : Int32) then (
bd (f_X2_copyOf_q16_q67 (wd_o S [(1600, (S.1 1600)), (1601, (S.1 1601)), (1607, (S.1 1607)), (1610, (S.1 1610)), (1614, (S.1 1614)), (1615, (S.1 1615)), (1616, (S.1 1616)), (1617, (S.1 1617))] [] [(17, (S.2.2.1 17)), (18, (S.2.2.1 18)), (19, (S.2.2.1 19)), (20, (S.2.2.1 20)), (21, (S.2.2.1 21)), (22, (S.2.2.1 22)), (23, (S.2.2.1 23)), (24, (S.2.2.1 24)), (25, (S.2.2.1 25)), (26, (S.2.2.1 26))] [] [])) fun o22 =>
lz (wd_o S [(1600, o22.1), (1601, o22.2.1), (1607, o22.2.2.1), (1610, o22.2.2.2.1), (1614, o22.2.2.2.2.1), (1615, o22.2.2.2.2.2.1), (1616, o22.2.2.2.2.2.2.1), (1617, o22.2.2.2.2.2.2.2.1)] [] [(17, o22.2.2.2.2.2.2.2.2.1), (18, o22.2.2.2.2.2.2.2.2.2.1), (19, o22.2.2.2.2.2.2.2.2.2.2.1), (20, o22.2.2.2.2.2.2.2.2.2.2.2.1), (21, o22.2.2.2.2.2.2.2.2.2.2.2.2.1), (22, o22.2.2.2.2.2.2.2.2.2.2.2.2.2.1), (23, o22.2.2.2.2.2.2.2.2.2.2.2.2.2.2.1), (24, o22.2.2.2.2.2.2.2.2.2.2.2.2.2.2.2.1), (25, o22.2.2.2.2.2.2.2.2.2.2.2.2.2.2.2.2.1), (26, o22.2.2.2.2.2.2.2.2.2.2.2.2.2.2.2.2.2)] [] []) fun S24 =>
bd (f_X6_copyOf_q27_q99 (wd_o S24 [(2700, (S24.1 2700)), (2704, (S24.1 2704))] [] [(28, (S24.2.2.1 28)), (29, (S24.2.2.1 29)), (30, (S24.2.2.1 30)), (31, (S24.2.2.1 31)), (32, (S24.2.2.1 32)), (33, (S24.2.2.1 33))] [] [])) fun o23 =>
lz (wd_o S24 [(2700, o23.1), (2704, o23.2.1)] [] [(28, o23.2.2.1), (29, o23.2.2.2.1), (30, o23.2.2.2.2.1), (31, o23.2.2.2.2.2.1), (32, o23.2.2.2.2.2.2.1), (33, o23.2.2.2.2.2.2.2)] [] []) fun S26 =>
bd (f_X11_forget (wd_o S26 [(7, (S26.1 7)), (8, (S26.1 8)), (9, (S26.1 9))] [] [] [] [])) fun o25 =>
bd (f_X2_things_q16 (wd_o S26 [(7, o25.1), (8, o25.2.1), (9, o25.2.2)] [] [] [] [])) fun o27 =>
some (o27, (wd_o S26 [(7, o25.1), (8, o25.2.1), (9, o25.2.2)] [] [] [] []))) else (
none)))))))
set_option maxRecDepth 100000 in
set_option maxHeartbeats 4000000 in
theorem c_X11_restore (l : Launch) (D : va_G) (q g : Nat → Nat) (cy : Nat → ClassId) (z : (Nat → Nat) × (Nat → Nat) × Nat) (S : wd_W) (p1 : Int32) (o : o_X11_restore) (hf : f_X11_restore S p1 = some o) : MX layX l yX11_restore cX11_restore 2 (some .int) ({ frames := 3, cells := 0, slots := 0, locals := 102 } : Room) D q g cy z [.ref (q 0), .int p1] S false (some (.int o.1)) o.2 0 0 := by
  refine mx_of (own := RX11) (lc := [(0, .ref (q 0)), (1, .int p1)]) (by decide +kernel) rfl layX_ok (Nat.le_of_ble_eq_true rfl) rfl ?_
  intro X hXl hXq hXz hC hQ
  subst hXl; subst hXq; subst hXz
  unfold f_X11_restore at hf
  refine go_iload_n (pc' := 1) hC dX11_restore_0 rfl rfl ?_
  refine go_if_lt (tgt := 20) (pc' := 4) hC dX11_restore_1 (by decide) rfl (fun h31 => ?_) (fun h31 => ?_)
  · have hf := ite_t h31 hf
    refine go_iconst (pc' := 21) hC dX11_restore_20 ki_m1 rfl ?_
    obtain rfl := Option.some.inj hf
    exact go_iret hC hQ dX11_restore_21 rfl rfl rfl rfl (fun _ => rfl) rfl rfl
  · have hf := ite_f h31 hf
    refine go_iload_n (pc' := 5) hC dX11_restore_4 rfl rfl ?_
    refine go_iconst (pc' := 6) hC dX11_restore_5 ki_4 rfl ?_
    refine go_icmp_ge (tgt := 20) (pc' := 9) hC dX11_restore_6 (by decide) rfl (fun h30 => ?_) (fun h30 => ?_)
    · have hf := ite_t h30 hf
      refine go_iconst (pc' := 21) hC dX11_restore_20 ki_m1 rfl ?_
      obtain rfl := Option.some.inj hf
      exact go_iret hC hQ dX11_restore_21 rfl rfl rfl rfl (fun _ => rfl) rfl rfl
    · have hf := ite_f h30 hf
      refine go_aload_n (pc' := 10) hC dX11_restore_9 rfl rfl ?_
      refine go_geti (v := (S.1 6)) (pc' := 13) hC 0 6 layX_0 rfl rfl inlX11 (Nat.le_of_ble_eq_true rfl) mw_1512 rfl dX11_restore_10 rfl rfl ?_
      refine go_iload_n (pc' := 14) hC dX11_restore_13 rfl rfl ?_
      refine go_ishr (pc' := 15) hC dX11_restore_14 rfl ?_
      refine go_iconst (pc' := 16) hC dX11_restore_15 ki_1 rfl ?_
      refine go_iand (pc' := 17) hC dX11_restore_16 rfl ?_
      refine go_if_ne (tgt := 22) (pc' := 20) hC dX11_restore_17 (by decide) rfl (fun h29 => ?_) (fun h29 => ?_)
      · have hf := ite_f h29 hf
        refine go_aload_n (pc' := 23) hC dX11_restore_22 rfl rfl ?_
        refine go_getq (pc' := 26) hC 0 2 layX_0 rfl rfl inlX11 (Nat.le_of_ble_eq_true rfl) mw_20 rfl dX11_restore_23 rfl ?_
        refine go_aload_n (pc' := 27) hC dX11_restore_26 rfl rfl ?_
        refine go_getq (pc' := 30) hC 0 4 layX_0 rfl rfl inlX11 (Nat.le_of_ble_eq_true rfl) mw_25 rfl dX11_restore_27 rfl ?_
        refine go_iload_n (pc' := 31) hC dX11_restore_30 rfl rfl ?_
        by_cases h7 : p1 = (0 : Int32)
        · subst h7
          have hf := ite_t rfl hf
          refine go_aald (x := 34) (pc' := 32) hC 1 layX_1 (by decide) rfl dX11_restore_31 (by decide) (by decide) rfl ?_
          refine go_keys (L1 := [(1600, (S.1 1600)), (1601, (S.1 1601)), (1607, (S.1 1607)), (1610, (S.1 1610)), (1614, (S.1 1614)), (1615, (S.1 1615)), (1616, (S.1 1616)), (1617, (S.1 1617))]) (L2 := []) (L3 := [(17, (S.2.2.1 17)), (18, (S.2.2.1 18)), (19, (S.2.2.1 19)), (20, (S.2.2.1 20)), (21, (S.2.2.1 21)), (22, (S.2.2.1 22)), (23, (S.2.2.1 23)), (24, (S.2.2.1 24)), (25, (S.2.2.1 25)), (26, (S.2.2.1 26))]) (L4 := []) (L5 := []) [1600, 1601, 1607, 1610, 1614, 1615, 1616, 1617] [] [17, 18, 19, 20, 21, 22, 23, 24, 25, 26] [] [] rfl rfl rfl rfl rfl ?_
          obtain ⟨o1, ho1, hf⟩ := bd_e hf
          refine go_callV1 (pc' := 35) (As := [.ref (x_q X 34)]) (st := []) (st' := []) (L1' := [(1600, o1.1), (1601, o1.2.1), (1607, o1.2.2.1), (1610, o1.2.2.2.1), (1614, o1.2.2.2.2.1), (1615, o1.2.2.2.2.2.1), (1616, o1.2.2.2.2.2.2.1), (1617, o1.2.2.2.2.2.2.2.1)]) (L2' := []) (L3' := [(17, o1.2.2.2.2.2.2.2.2.1), (18, o1.2.2.2.2.2.2.2.2.2.1), (19, o1.2.2.2.2.2.2.2.2.2.2.1), (20, o1.2.2.2.2.2.2.2.2.2.2.2.1), (21, o1.2.2.2.2.2.2.2.2.2.2.2.2.1), (22, o1.2.2.2.2.2.2.2.2.2.2.2.2.2.1), (23, o1.2.2.2.2.2.2.2.2.2.2.2.2.2.2.1), (24, o1.2.2.2.2.2.2.2.2.2.2.2.2.2.2.2.1), (25, o1.2.2.2.2.2.2.2.2.2.2.2.2.2.2.2.2.1), (26, o1.2.2.2.2.2.2.2.2.2.2.2.2.2.2.2.2.2)]) (L4' := []) (L5' := []) (cells' := 0) (slots' := 0)  (b := 16) hC dX11_restore_32 ⟨mw_461, mw_464, mw_14, yd_yX2_copyOf, yp_yX2_copyOf, Nat.le_of_ble_eq_true rfl, Nat.le_of_ble_eq_true rfl, (Nat.le_of_ble_eq_true rfl), (Nat.le_of_ble_eq_true rfl)⟩ mw_462 mw_463 layX_16 rfl rfl rfl (Nat.le_of_ble_eq_true rfl) (c_X2_copyOf_q16_q34 (x_l X) (x_D X) (x_q X) g (x_cy X) (x_z X) _  o1 ho1) rfl rfl rfl rfl rfl rfl rfl rfl rfl rfl rfl rfl rfl rfl ?_
          refine go_aload_n (pc' := 36) hC dX11_restore_35 rfl rfl ?_
          refine go_getq (pc' := 39) hC 0 3 layX_0 rfl rfl inlX11 (Nat.le_of_ble_eq_true rfl) mw_24 rfl dX11_restore_36 rfl ?_
          refine go_aload_n (pc' := 40) hC dX11_restore_39 rfl rfl ?_
          refine go_getq (pc' := 43) hC 0 5 layX_0 rfl rfl inlX11 (Nat.le_of_ble_eq_true rfl) mw_26 rfl dX11_restore_40 rfl ?_
          refine go_iload_n (pc' := 44) hC dX11_restore_43 rfl rfl ?_
          refine go_aald (x := 78) (pc' := 45) hC 2 layX_2 (by decide) rfl dX11_restore_44 (by decide) (by decide) rfl ?_
          refine go_base (fun S3 hx => ?_)
          have hf := lz_r hx hf
          clear hx
          refine go_keys (L1 := [(2700, (S3.1 2700)), (2704, (S3.1 2704))]) (L2 := []) (L3 := [(28, (S3.2.2.1 28)), (29, (S3.2.2.1 29)), (30, (S3.2.2.1 30)), (31, (S3.2.2.1 31)), (32, (S3.2.2.1 32)), (33, (S3.2.2.1 33))]) (L4 := []) (L5 := []) [2700, 2704] [] [28, 29, 30, 31, 32, 33] [] [] rfl rfl rfl rfl rfl ?_
          obtain ⟨o2, ho2, hf⟩ := bd_e hf
          refine go_callV1 (pc' := 48) (As := [.ref (x_q X 78)]) (st := []) (st' := []) (L1' := [(2700, o2.1), (2704, o2.2.1)]) (L2' := []) (L3' := [(28, o2.2.2.1), (29, o2.2.2.2.1), (30, o2.2.2.2.2.1), (31, o2.2.2.2.2.2.1), (32, o2.2.2.2.2.2.2.1), (33, o2.2.2.2.2.2.2.2)]) (L4' := []) (L5' := []) (cells' := 0) (slots' := 0)  (b := 27) hC dX11_restore_45 ⟨mw_1513, mw_1516, mw_23, yd_yX6_copyOf, yp_yX6_copyOf, Nat.le_of_ble_eq_true rfl, Nat.le_of_ble_eq_true rfl, (Nat.le_of_ble_eq_true rfl), (Nat.le_of_ble_eq_true rfl)⟩ mw_1514 mw_1515 layX_27 rfl rfl rfl (Nat.le_of_ble_eq_true rfl) (c_X6_copyOf_q27_q78 (x_l X) (x_D X) (x_q X) g (x_cy X) (x_z X) _  o2 ho2) rfl rfl rfl rfl rfl rfl rfl rfl rfl rfl rfl rfl rfl rfl ?_
          refine go_aload_n (pc' := 49) hC dX11_restore_48 rfl rfl ?_
          refine go_base (fun S5 hx => ?_)
          have hf := lz_r hx hf
          clear hx
          refine go_keys (L1 := [(7, (S5.1 7)), (8, (S5.1 8)), (9, (S5.1 9))]) (L2 := []) (L3 := []) (L4 := []) (L5 := []) [7, 8, 9] [] [] [] [] rfl rfl rfl rfl rfl ?_
          obtain ⟨o4, ho4, hf⟩ := bd_e hf
          refine go_callV1 (pc' := 52) (As := []) (st := []) (st' := []) (L1' := [(7, o4.1), (8, o4.2.1), (9, o4.2.2)]) (L2' := []) (L3' := []) (L4' := []) (L5' := []) (cells' := 0) (slots' := 0)  (b := 0) hC dX11_restore_49 ⟨mw_479, mw_482, mw_2, yd_yX11_forget, yp_yX11_forget, Nat.le_of_ble_eq_true rfl, Nat.le_of_ble_eq_true rfl, (Nat.le_of_ble_eq_true rfl), (Nat.le_of_ble_eq_true rfl)⟩ mw_480 mw_481 layX_0 rfl rfl rfl (Nat.le_of_ble_eq_true rfl) (c_X11_forget (x_l X) (x_D X) (x_q X) g (x_cy X) (x_z X) _  o4 ho4) rfl rfl rfl rfl rfl rfl rfl rfl rfl rfl rfl rfl rfl rfl ?_
          refine go_aload_n (pc' := 53) hC dX11_restore_52 rfl rfl ?_
          refine go_getq (pc' := 56) hC 0 2 layX_0 rfl rfl inlX11 (Nat.le_of_ble_eq_true rfl) mw_20 rfl dX11_restore_53 rfl ?_
          obtain ⟨o6, ho6, hf⟩ := bd_e hf
          refine go_callV0 (pc' := 59) (As := []) (st := []) (st' := [.int o6])    (b := 16) hC dX11_restore_56 ⟨mw_484, mw_418, mw_14, yd_yX2_things, yp_yX2_things, Nat.le_of_ble_eq_true rfl, Nat.le_of_ble_eq_true rfl, (Nat.le_of_ble_eq_true rfl), (Nat.le_of_ble_eq_true rfl)⟩ mw_416 mw_417 layX_16 rfl rfl rfl (Nat.le_of_ble_eq_true rfl) (c_X2_things_q16 (x_l X) (x_D X) (x_q X) g (x_cy X) (x_z X) _  o6 ho6) rfl rfl ?_
          obtain rfl := Option.some.inj hf
          exact go_iret hC hQ dX11_restore_59 rfl rfl rfl rfl (fun _ => rfl) rfl rfl
        · have hf := ite_f h7 hf
          by_cases h14 : p1 = (1 : Int32)
          · subst h14
            have hf := ite_t rfl hf
            refine go_aald (x := 45) (pc' := 32) hC 1 layX_1 (by decide) rfl dX11_restore_31 (by decide) (by decide) rfl ?_
            refine go_keys (L1 := [(1600, (S.1 1600)), (1601, (S.1 1601)), (1607, (S.1 1607)), (1610, (S.1 1610)), (1614, (S.1 1614)), (1615, (S.1 1615)), (1616, (S.1 1616)), (1617, (S.1 1617))]) (L2 := []) (L3 := [(17, (S.2.2.1 17)), (18, (S.2.2.1 18)), (19, (S.2.2.1 19)), (20, (S.2.2.1 20)), (21, (S.2.2.1 21)), (22, (S.2.2.1 22)), (23, (S.2.2.1 23)), (24, (S.2.2.1 24)), (25, (S.2.2.1 25)), (26, (S.2.2.1 26))]) (L4 := []) (L5 := []) [1600, 1601, 1607, 1610, 1614, 1615, 1616, 1617] [] [17, 18, 19, 20, 21, 22, 23, 24, 25, 26] [] [] rfl rfl rfl rfl rfl ?_
            obtain ⟨o8, ho8, hf⟩ := bd_e hf
            refine go_callV1 (pc' := 35) (As := [.ref (x_q X 45)]) (st := []) (st' := []) (L1' := [(1600, o8.1), (1601, o8.2.1), (1607, o8.2.2.1), (1610, o8.2.2.2.1), (1614, o8.2.2.2.2.1), (1615, o8.2.2.2.2.2.1), (1616, o8.2.2.2.2.2.2.1), (1617, o8.2.2.2.2.2.2.2.1)]) (L2' := []) (L3' := [(17, o8.2.2.2.2.2.2.2.2.1), (18, o8.2.2.2.2.2.2.2.2.2.1), (19, o8.2.2.2.2.2.2.2.2.2.2.1), (20, o8.2.2.2.2.2.2.2.2.2.2.2.1), (21, o8.2.2.2.2.2.2.2.2.2.2.2.2.1), (22, o8.2.2.2.2.2.2.2.2.2.2.2.2.2.1), (23, o8.2.2.2.2.2.2.2.2.2.2.2.2.2.2.1), (24, o8.2.2.2.2.2.2.2.2.2.2.2.2.2.2.2.1), (25, o8.2.2.2.2.2.2.2.2.2.2.2.2.2.2.2.2.1), (26, o8.2.2.2.2.2.2.2.2.2.2.2.2.2.2.2.2.2)]) (L4' := []) (L5' := []) (cells' := 0) (slots' := 0)  (b := 16) hC dX11_restore_32 ⟨mw_461, mw_464, mw_14, yd_yX2_copyOf, yp_yX2_copyOf, Nat.le_of_ble_eq_true rfl, Nat.le_of_ble_eq_true rfl, (Nat.le_of_ble_eq_true rfl), (Nat.le_of_ble_eq_true rfl)⟩ mw_462 mw_463 layX_16 rfl rfl rfl (Nat.le_of_ble_eq_true rfl) (c_X2_copyOf_q16_q45 (x_l X) (x_D X) (x_q X) g (x_cy X) (x_z X) _  o8 ho8) rfl rfl rfl rfl rfl rfl rfl rfl rfl rfl rfl rfl rfl rfl ?_
            refine go_aload_n (pc' := 36) hC dX11_restore_35 rfl rfl ?_
            refine go_getq (pc' := 39) hC 0 3 layX_0 rfl rfl inlX11 (Nat.le_of_ble_eq_true rfl) mw_24 rfl dX11_restore_36 rfl ?_
            refine go_aload_n (pc' := 40) hC dX11_restore_39 rfl rfl ?_
            refine go_getq (pc' := 43) hC 0 5 layX_0 rfl rfl inlX11 (Nat.le_of_ble_eq_true rfl) mw_26 rfl dX11_restore_40 rfl ?_
            refine go_iload_n (pc' := 44) hC dX11_restore_43 rfl rfl ?_
            refine go_aald (x := 85) (pc' := 45) hC 2 layX_2 (by decide) rfl dX11_restore_44 (by decide) (by decide) rfl ?_
            refine go_base (fun S10 hx => ?_)
            have hf := lz_r hx hf
            clear hx
            refine go_keys (L1 := [(2700, (S10.1 2700)), (2704, (S10.1 2704))]) (L2 := []) (L3 := [(28, (S10.2.2.1 28)), (29, (S10.2.2.1 29)), (30, (S10.2.2.1 30)), (31, (S10.2.2.1 31)), (32, (S10.2.2.1 32)), (33, (S10.2.2.1 33))]) (L4 := []) (L5 := []) [2700, 2704] [] [28, 29, 30, 31, 32, 33] [] [] rfl rfl rfl rfl rfl ?_
            obtain ⟨o9, ho9, hf⟩ := bd_e hf
            refine go_callV1 (pc' := 48) (As := [.ref (x_q X 85)]) (st := []) (st' := []) (L1' := [(2700, o9.1), (2704, o9.2.1)]) (L2' := []) (L3' := [(28, o9.2.2.1), (29, o9.2.2.2.1), (30, o9.2.2.2.2.1), (31, o9.2.2.2.2.2.1), (32, o9.2.2.2.2.2.2.1), (33, o9.2.2.2.2.2.2.2)]) (L4' := []) (L5' := []) (cells' := 0) (slots' := 0)  (b := 27) hC dX11_restore_45 ⟨mw_1513, mw_1516, mw_23, yd_yX6_copyOf, yp_yX6_copyOf, Nat.le_of_ble_eq_true rfl, Nat.le_of_ble_eq_true rfl, (Nat.le_of_ble_eq_true rfl), (Nat.le_of_ble_eq_true rfl)⟩ mw_1514 mw_1515 layX_27 rfl rfl rfl (Nat.le_of_ble_eq_true rfl) (c_X6_copyOf_q27_q85 (x_l X) (x_D X) (x_q X) g (x_cy X) (x_z X) _  o9 ho9) rfl rfl rfl rfl rfl rfl rfl rfl rfl rfl rfl rfl rfl rfl ?_
            refine go_aload_n (pc' := 49) hC dX11_restore_48 rfl rfl ?_
            refine go_base (fun S12 hx => ?_)
            have hf := lz_r hx hf
            clear hx
            refine go_keys (L1 := [(7, (S12.1 7)), (8, (S12.1 8)), (9, (S12.1 9))]) (L2 := []) (L3 := []) (L4 := []) (L5 := []) [7, 8, 9] [] [] [] [] rfl rfl rfl rfl rfl ?_
            obtain ⟨o11, ho11, hf⟩ := bd_e hf
            refine go_callV1 (pc' := 52) (As := []) (st := []) (st' := []) (L1' := [(7, o11.1), (8, o11.2.1), (9, o11.2.2)]) (L2' := []) (L3' := []) (L4' := []) (L5' := []) (cells' := 0) (slots' := 0)  (b := 0) hC dX11_restore_49 ⟨mw_479, mw_482, mw_2, yd_yX11_forget, yp_yX11_forget, Nat.le_of_ble_eq_true rfl, Nat.le_of_ble_eq_true rfl, (Nat.le_of_ble_eq_true rfl), (Nat.le_of_ble_eq_true rfl)⟩ mw_480 mw_481 layX_0 rfl rfl rfl (Nat.le_of_ble_eq_true rfl) (c_X11_forget (x_l X) (x_D X) (x_q X) g (x_cy X) (x_z X) _  o11 ho11) rfl rfl rfl rfl rfl rfl rfl rfl rfl rfl rfl rfl rfl rfl ?_
            refine go_aload_n (pc' := 53) hC dX11_restore_52 rfl rfl ?_
            refine go_getq (pc' := 56) hC 0 2 layX_0 rfl rfl inlX11 (Nat.le_of_ble_eq_true rfl) mw_20 rfl dX11_restore_53 rfl ?_
            obtain ⟨o13, ho13, hf⟩ := bd_e hf
            refine go_callV0 (pc' := 59) (As := []) (st := []) (st' := [.int o13])    (b := 16) hC dX11_restore_56 ⟨mw_484, mw_418, mw_14, yd_yX2_things, yp_yX2_things, Nat.le_of_ble_eq_true rfl, Nat.le_of_ble_eq_true rfl, (Nat.le_of_ble_eq_true rfl), (Nat.le_of_ble_eq_true rfl)⟩ mw_416 mw_417 layX_16 rfl rfl rfl (Nat.le_of_ble_eq_true rfl) (c_X2_things_q16 (x_l X) (x_D X) (x_q X) g (x_cy X) (x_z X) _  o13 ho13) rfl rfl ?_
            obtain rfl := Option.some.inj hf
            exact go_iret hC hQ dX11_restore_59 rfl rfl rfl rfl (fun _ => rfl) rfl rfl
          · have hf := ite_f h14 hf
            by_cases h21 : p1 = (2 : Int32)
            · subst h21
              have hf := ite_t rfl hf
              refine go_aald (x := 56) (pc' := 32) hC 1 layX_1 (by decide) rfl dX11_restore_31 (by decide) (by decide) rfl ?_
              refine go_keys (L1 := [(1600, (S.1 1600)), (1601, (S.1 1601)), (1607, (S.1 1607)), (1610, (S.1 1610)), (1614, (S.1 1614)), (1615, (S.1 1615)), (1616, (S.1 1616)), (1617, (S.1 1617))]) (L2 := []) (L3 := [(17, (S.2.2.1 17)), (18, (S.2.2.1 18)), (19, (S.2.2.1 19)), (20, (S.2.2.1 20)), (21, (S.2.2.1 21)), (22, (S.2.2.1 22)), (23, (S.2.2.1 23)), (24, (S.2.2.1 24)), (25, (S.2.2.1 25)), (26, (S.2.2.1 26))]) (L4 := []) (L5 := []) [1600, 1601, 1607, 1610, 1614, 1615, 1616, 1617] [] [17, 18, 19, 20, 21, 22, 23, 24, 25, 26] [] [] rfl rfl rfl rfl rfl ?_
              obtain ⟨o15, ho15, hf⟩ := bd_e hf
              refine go_callV1 (pc' := 35) (As := [.ref (x_q X 56)]) (st := []) (st' := []) (L1' := [(1600, o15.1), (1601, o15.2.1), (1607, o15.2.2.1), (1610, o15.2.2.2.1), (1614, o15.2.2.2.2.1), (1615, o15.2.2.2.2.2.1), (1616, o15.2.2.2.2.2.2.1), (1617, o15.2.2.2.2.2.2.2.1)]) (L2' := []) (L3' := [(17, o15.2.2.2.2.2.2.2.2.1), (18, o15.2.2.2.2.2.2.2.2.2.1), (19, o15.2.2.2.2.2.2.2.2.2.2.1), (20, o15.2.2.2.2.2.2.2.2.2.2.2.1), (21, o15.2.2.2.2.2.2.2.2.2.2.2.2.1), (22, o15.2.2.2.2.2.2.2.2.2.2.2.2.2.1), (23, o15.2.2.2.2.2.2.2.2.2.2.2.2.2.2.1), (24, o15.2.2.2.2.2.2.2.2.2.2.2.2.2.2.2.1), (25, o15.2.2.2.2.2.2.2.2.2.2.2.2.2.2.2.2.1), (26, o15.2.2.2.2.2.2.2.2.2.2.2.2.2.2.2.2.2)]) (L4' := []) (L5' := []) (cells' := 0) (slots' := 0)  (b := 16) hC dX11_restore_32 ⟨mw_461, mw_464, mw_14, yd_yX2_copyOf, yp_yX2_copyOf, Nat.le_of_ble_eq_true rfl, Nat.le_of_ble_eq_true rfl, (Nat.le_of_ble_eq_true rfl), (Nat.le_of_ble_eq_true rfl)⟩ mw_462 mw_463 layX_16 rfl rfl rfl (Nat.le_of_ble_eq_true rfl) (c_X2_copyOf_q16_q56 (x_l X) (x_D X) (x_q X) g (x_cy X) (x_z X) _  o15 ho15) rfl rfl rfl rfl rfl rfl rfl rfl rfl rfl rfl rfl rfl rfl ?_
              refine go_aload_n (pc' := 36) hC dX11_restore_35 rfl rfl ?_
              refine go_getq (pc' := 39) hC 0 3 layX_0 rfl rfl inlX11 (Nat.le_of_ble_eq_true rfl) mw_24 rfl dX11_restore_36 rfl ?_
              refine go_aload_n (pc' := 40) hC dX11_restore_39 rfl rfl ?_
              refine go_getq (pc' := 43) hC 0 5 layX_0 rfl rfl inlX11 (Nat.le_of_ble_eq_true rfl) mw_26 rfl dX11_restore_40 rfl ?_
              refine go_iload_n (pc' := 44) hC dX11_restore_43 rfl rfl ?_
              refine go_aald (x := 92) (pc' := 45) hC 2 layX_2 (by decide) rfl dX11_restore_44 (by decide) (by decide) rfl ?_
              refine go_base (fun S17 hx => ?_)
              have hf := lz_r hx hf
              clear hx
              refine go_keys (L1 := [(2700, (S17.1 2700)), (2704, (S17.1 2704))]) (L2 := []) (L3 := [(28, (S17.2.2.1 28)), (29, (S17.2.2.1 29)), (30, (S17.2.2.1 30)), (31, (S17.2.2.1 31)), (32, (S17.2.2.1 32)), (33, (S17.2.2.1 33))]) (L4 := []) (L5 := []) [2700, 2704] [] [28, 29, 30, 31, 32, 33] [] [] rfl rfl rfl rfl rfl ?_
              obtain ⟨o16, ho16, hf⟩ := bd_e hf
              refine go_callV1 (pc' := 48) (As := [.ref (x_q X 92)]) (st := []) (st' := []) (L1' := [(2700, o16.1), (2704, o16.2.1)]) (L2' := []) (L3' := [(28, o16.2.2.1), (29, o16.2.2.2.1), (30, o16.2.2.2.2.1), (31, o16.2.2.2.2.2.1), (32, o16.2.2.2.2.2.2.1), (33, o16.2.2.2.2.2.2.2)]) (L4' := []) (L5' := []) (cells' := 0) (slots' := 0)  (b := 27) hC dX11_restore_45 ⟨mw_1513, mw_1516, mw_23, yd_yX6_copyOf, yp_yX6_copyOf, Nat.le_of_ble_eq_true rfl, Nat.le_of_ble_eq_true rfl, (Nat.le_of_ble_eq_true rfl), (Nat.le_of_ble_eq_true rfl)⟩ mw_1514 mw_1515 layX_27 rfl rfl rfl (Nat.le_of_ble_eq_true rfl) (c_X6_copyOf_q27_q92 (x_l X) (x_D X) (x_q X) g (x_cy X) (x_z X) _  o16 ho16) rfl rfl rfl rfl rfl rfl rfl rfl rfl rfl rfl rfl rfl rfl ?_
              refine go_aload_n (pc' := 49) hC dX11_restore_48 rfl rfl ?_
              refine go_base (fun S19 hx => ?_)
              have hf := lz_r hx hf
              clear hx
              refine go_keys (L1 := [(7, (S19.1 7)), (8, (S19.1 8)), (9, (S19.1 9))]) (L2 := []) (L3 := []) (L4 := []) (L5 := []) [7, 8, 9] [] [] [] [] rfl rfl rfl rfl rfl ?_
              obtain ⟨o18, ho18, hf⟩ := bd_e hf
              refine go_callV1 (pc' := 52) (As := []) (st := []) (st' := []) (L1' := [(7, o18.1), (8, o18.2.1), (9, o18.2.2)]) (L2' := []) (L3' := []) (L4' := []) (L5' := []) (cells' := 0) (slots' := 0)  (b := 0) hC dX11_restore_49 ⟨mw_479, mw_482, mw_2, yd_yX11_forget, yp_yX11_forget, Nat.le_of_ble_eq_true rfl, Nat.le_of_ble_eq_true rfl, (Nat.le_of_ble_eq_true rfl), (Nat.le_of_ble_eq_true rfl)⟩ mw_480 mw_481 layX_0 rfl rfl rfl (Nat.le_of_ble_eq_true rfl) (c_X11_forget (x_l X) (x_D X) (x_q X) g (x_cy X) (x_z X) _  o18 ho18) rfl rfl rfl rfl rfl rfl rfl rfl rfl rfl rfl rfl rfl rfl ?_
              refine go_aload_n (pc' := 53) hC dX11_restore_52 rfl rfl ?_
              refine go_getq (pc' := 56) hC 0 2 layX_0 rfl rfl inlX11 (Nat.le_of_ble_eq_true rfl) mw_20 rfl dX11_restore_53 rfl ?_
              obtain ⟨o20, ho20, hf⟩ := bd_e hf
              refine go_callV0 (pc' := 59) (As := []) (st := []) (st' := [.int o20])    (b := 16) hC dX11_restore_56 ⟨mw_484, mw_418, mw_14, yd_yX2_things, yp_yX2_things, Nat.le_of_ble_eq_true rfl, Nat.le_of_ble_eq_true rfl, (Nat.le_of_ble_eq_true rfl), (Nat.le_of_ble_eq_true rfl)⟩ mw_416 mw_417 layX_16 rfl rfl rfl (Nat.le_of_ble_eq_true rfl) (c_X2_things_q16 (x_l X) (x_D X) (x_q X) g (x_cy X) (x_z X) _  o20 ho20) rfl rfl ?_
              obtain rfl := Option.some.inj hf
              exact go_iret hC hQ dX11_restore_59 rfl rfl rfl rfl (fun _ => rfl) rfl rfl
            · have hf := ite_f h21 hf
              by_cases h28 : p1 = (3 : Int32)
              · subst h28
                have hf := ite_t rfl hf
                refine go_aald (x := 67) (pc' := 32) hC 1 layX_1 (by decide) rfl dX11_restore_31 (by decide) (by decide) rfl ?_
                refine go_keys (L1 := [(1600, (S.1 1600)), (1601, (S.1 1601)), (1607, (S.1 1607)), (1610, (S.1 1610)), (1614, (S.1 1614)), (1615, (S.1 1615)), (1616, (S.1 1616)), (1617, (S.1 1617))]) (L2 := []) (L3 := [(17, (S.2.2.1 17)), (18, (S.2.2.1 18)), (19, (S.2.2.1 19)), (20, (S.2.2.1 20)), (21, (S.2.2.1 21)), (22, (S.2.2.1 22)), (23, (S.2.2.1 23)), (24, (S.2.2.1 24)), (25, (S.2.2.1 25)), (26, (S.2.2.1 26))]) (L4 := []) (L5 := []) [1600, 1601, 1607, 1610, 1614, 1615, 1616, 1617] [] [17, 18, 19, 20, 21, 22, 23, 24, 25, 26] [] [] rfl rfl rfl rfl rfl ?_
                obtain ⟨o22, ho22, hf⟩ := bd_e hf
                refine go_callV1 (pc' := 35) (As := [.ref (x_q X 67)]) (st := []) (st' := []) (L1' := [(1600, o22.1), (1601, o22.2.1), (1607, o22.2.2.1), (1610, o22.2.2.2.1), (1614, o22.2.2.2.2.1), (1615, o22.2.2.2.2.2.1), (1616, o22.2.2.2.2.2.2.1), (1617, o22.2.2.2.2.2.2.2.1)]) (L2' := []) (L3' := [(17, o22.2.2.2.2.2.2.2.2.1), (18, o22.2.2.2.2.2.2.2.2.2.1), (19, o22.2.2.2.2.2.2.2.2.2.2.1), (20, o22.2.2.2.2.2.2.2.2.2.2.2.1), (21, o22.2.2.2.2.2.2.2.2.2.2.2.2.1), (22, o22.2.2.2.2.2.2.2.2.2.2.2.2.2.1), (23, o22.2.2.2.2.2.2.2.2.2.2.2.2.2.2.1), (24, o22.2.2.2.2.2.2.2.2.2.2.2.2.2.2.2.1), (25, o22.2.2.2.2.2.2.2.2.2.2.2.2.2.2.2.2.1), (26, o22.2.2.2.2.2.2.2.2.2.2.2.2.2.2.2.2.2)]) (L4' := []) (L5' := []) (cells' := 0) (slots' := 0)  (b := 16) hC dX11_restore_32 ⟨mw_461, mw_464, mw_14, yd_yX2_copyOf, yp_yX2_copyOf, Nat.le_of_ble_eq_true rfl, Nat.le_of_ble_eq_true rfl, (Nat.le_of_ble_eq_true rfl), (Nat.le_of_ble_eq_true rfl)⟩ mw_462 mw_463 layX_16 rfl rfl rfl (Nat.le_of_ble_eq_true rfl) (c_X2_copyOf_q16_q67 (x_l X) (x_D X) (x_q X) g (x_cy X) (x_z X) _  o22 ho22) rfl rfl rfl rfl rfl rfl rfl rfl rfl rfl rfl rfl rfl rfl ?_
                refine go_aload_n (pc' := 36) hC dX11_restore_35 rfl rfl ?_
                refine go_getq (pc' := 39) hC 0 3 layX_0 rfl rfl inlX11 (Nat.le_of_ble_eq_true rfl) mw_24 rfl dX11_restore_36 rfl ?_
                refine go_aload_n (pc' := 40) hC dX11_restore_39 rfl rfl ?_
                refine go_getq (pc' := 43) hC 0 5 layX_0 rfl rfl inlX11 (Nat.le_of_ble_eq_true rfl) mw_26 rfl dX11_restore_40 rfl ?_
                refine go_iload_n (pc' := 44) hC dX11_restore_43 rfl rfl ?_
                refine go_aald (x := 99) (pc' := 45) hC 2 layX_2 (by decide) rfl dX11_restore_44 (by decide) (by decide) rfl ?_
                refine go_base (fun S24 hx => ?_)
                have hf := lz_r hx hf
                clear hx
                refine go_keys (L1 := [(2700, (S24.1 2700)), (2704, (S24.1 2704))]) (L2 := []) (L3 := [(28, (S24.2.2.1 28)), (29, (S24.2.2.1 29)), (30, (S24.2.2.1 30)), (31, (S24.2.2.1 31)), (32, (S24.2.2.1 32)), (33, (S24.2.2.1 33))]) (L4 := []) (L5 := []) [2700, 2704] [] [28, 29, 30, 31, 32, 33] [] [] rfl rfl rfl rfl rfl ?_
                obtain ⟨o23, ho23, hf⟩ := bd_e hf
                refine go_callV1 (pc' := 48) (As := [.ref (x_q X 99)]) (st := []) (st' := []) (L1' := [(2700, o23.1), (2704, o23.2.1)]) (L2' := []) (L3' := [(28, o23.2.2.1), (29, o23.2.2.2.1), (30, o23.2.2.2.2.1), (31, o23.2.2.2.2.2.1), (32, o23.2.2.2.2.2.2.1), (33, o23.2.2.2.2.2.2.2)]) (L4' := []) (L5' := []) (cells' := 0) (slots' := 0)  (b := 27) hC dX11_restore_45 ⟨mw_1513, mw_1516, mw_23, yd_yX6_copyOf, yp_yX6_copyOf, Nat.le_of_ble_eq_true rfl, Nat.le_of_ble_eq_true rfl, (Nat.le_of_ble_eq_true rfl), (Nat.le_of_ble_eq_true rfl)⟩ mw_1514 mw_1515 layX_27 rfl rfl rfl (Nat.le_of_ble_eq_true rfl) (c_X6_copyOf_q27_q99 (x_l X) (x_D X) (x_q X) g (x_cy X) (x_z X) _  o23 ho23) rfl rfl rfl rfl rfl rfl rfl rfl rfl rfl rfl rfl rfl rfl ?_
                refine go_aload_n (pc' := 49) hC dX11_restore_48 rfl rfl ?_
                refine go_base (fun S26 hx => ?_)
                have hf := lz_r hx hf
                clear hx
                refine go_keys (L1 := [(7, (S26.1 7)), (8, (S26.1 8)), (9, (S26.1 9))]) (L2 := []) (L3 := []) (L4 := []) (L5 := []) [7, 8, 9] [] [] [] [] rfl rfl rfl rfl rfl ?_
                obtain ⟨o25, ho25, hf⟩ := bd_e hf
                refine go_callV1 (pc' := 52) (As := []) (st := []) (st' := []) (L1' := [(7, o25.1), (8, o25.2.1), (9, o25.2.2)]) (L2' := []) (L3' := []) (L4' := []) (L5' := []) (cells' := 0) (slots' := 0)  (b := 0) hC dX11_restore_49 ⟨mw_479, mw_482, mw_2, yd_yX11_forget, yp_yX11_forget, Nat.le_of_ble_eq_true rfl, Nat.le_of_ble_eq_true rfl, (Nat.le_of_ble_eq_true rfl), (Nat.le_of_ble_eq_true rfl)⟩ mw_480 mw_481 layX_0 rfl rfl rfl (Nat.le_of_ble_eq_true rfl) (c_X11_forget (x_l X) (x_D X) (x_q X) g (x_cy X) (x_z X) _  o25 ho25) rfl rfl rfl rfl rfl rfl rfl rfl rfl rfl rfl rfl rfl rfl ?_
                refine go_aload_n (pc' := 53) hC dX11_restore_52 rfl rfl ?_
                refine go_getq (pc' := 56) hC 0 2 layX_0 rfl rfl inlX11 (Nat.le_of_ble_eq_true rfl) mw_20 rfl dX11_restore_53 rfl ?_
                obtain ⟨o27, ho27, hf⟩ := bd_e hf
                refine go_callV0 (pc' := 59) (As := []) (st := []) (st' := [.int o27])    (b := 16) hC dX11_restore_56 ⟨mw_484, mw_418, mw_14, yd_yX2_things, yp_yX2_things, Nat.le_of_ble_eq_true rfl, Nat.le_of_ble_eq_true rfl, (Nat.le_of_ble_eq_true rfl), (Nat.le_of_ble_eq_true rfl)⟩ mw_416 mw_417 layX_16 rfl rfl rfl (Nat.le_of_ble_eq_true rfl) (c_X2_things_q16 (x_l X) (x_D X) (x_q X) g (x_cy X) (x_z X) _  o27 ho27) rfl rfl ?_
                obtain rfl := Option.some.inj hf
                exact go_iret hC hQ dX11_restore_59 rfl rfl rfl rfl (fun _ => rfl) rfl rfl
              · have hf := ite_f h28 hf
                exact none_no hf
      · have hf := ite_t h29 hf
        refine go_iconst (pc' := 21) hC dX11_restore_20 ki_m1 rfl ?_
        obtain rfl := Option.some.inj hf
        exact go_iret hC hQ dX11_restore_21 rfl rfl rfl rfl (fun _ => rfl) rfl rfl
theorem dX11_count_0 : decode cX11_count 0 = .ok (.iload_n 1, 1) := by decide +kernel
theorem dX11_count_1 : decode cX11_count 1 = .ok (.tableswitch 111 0 7 #[47, 55, 63, 71, 79, 87, 95, 103], 47) := by decide +kernel
theorem dX11_count_48 : decode cX11_count 48 = .ok (.aload_n 0, 1) := by decide +kernel
theorem dX11_count_49 : decode cX11_count 49 = .ok (.getfield 25, 3) := by decide +kernel
theorem dX11_count_52 : decode cX11_count 52 = .ok (.getfield 158, 3) := by decide +kernel
theorem dX11_count_55 : decode cX11_count 55 = .ok (.ireturn, 1) := by decide +kernel
theorem dX11_count_56 : decode cX11_count 56 = .ok (.aload_n 0, 1) := by decide +kernel
theorem dX11_count_57 : decode cX11_count 57 = .ok (.getfield 25, 3) := by decide +kernel
theorem dX11_count_60 : decode cX11_count 60 = .ok (.getfield 132, 3) := by decide +kernel
theorem dX11_count_63 : decode cX11_count 63 = .ok (.ireturn, 1) := by decide +kernel
theorem dX11_count_64 : decode cX11_count 64 = .ok (.aload_n 0, 1) := by decide +kernel
theorem dX11_count_65 : decode cX11_count 65 = .ok (.getfield 25, 3) := by decide +kernel
theorem dX11_count_68 : decode cX11_count 68 = .ok (.getfield 271, 3) := by decide +kernel
theorem dX11_count_71 : decode cX11_count 71 = .ok (.ireturn, 1) := by decide +kernel
theorem dX11_count_72 : decode cX11_count 72 = .ok (.aload_n 0, 1) := by decide +kernel
theorem dX11_count_73 : decode cX11_count 73 = .ok (.getfield 25, 3) := by decide +kernel
theorem dX11_count_76 : decode cX11_count 76 = .ok (.getfield 268, 3) := by decide +kernel
theorem dX11_count_79 : decode cX11_count 79 = .ok (.ireturn, 1) := by decide +kernel
theorem dX11_count_80 : decode cX11_count 80 = .ok (.aload_n 0, 1) := by decide +kernel
theorem dX11_count_81 : decode cX11_count 81 = .ok (.getfield 31, 3) := by decide +kernel
theorem dX11_count_84 : decode cX11_count 84 = .ok (.getfield 222, 3) := by decide +kernel
theorem dX11_count_87 : decode cX11_count 87 = .ok (.ireturn, 1) := by decide +kernel
theorem dX11_count_88 : decode cX11_count 88 = .ok (.aload_n 0, 1) := by decide +kernel
theorem dX11_count_89 : decode cX11_count 89 = .ok (.getfield 31, 3) := by decide +kernel
theorem dX11_count_92 : decode cX11_count 92 = .ok (.getfield 278, 3) := by decide +kernel
theorem dX11_count_95 : decode cX11_count 95 = .ok (.ireturn, 1) := by decide +kernel
theorem dX11_count_96 : decode cX11_count 96 = .ok (.aload_n 0, 1) := by decide +kernel
theorem dX11_count_97 : decode cX11_count 97 = .ok (.getfield 25, 3) := by decide +kernel
theorem dX11_count_100 : decode cX11_count 100 = .ok (.getfield 347, 3) := by decide +kernel
theorem dX11_count_103 : decode cX11_count 103 = .ok (.ireturn, 1) := by decide +kernel
theorem dX11_count_104 : decode cX11_count 104 = .ok (.aload_n 0, 1) := by decide +kernel
theorem dX11_count_105 : decode cX11_count 105 = .ok (.getfield 21, 3) := by decide +kernel
theorem dX11_count_108 : decode cX11_count 108 = .ok (.getfield 113, 3) := by decide +kernel
theorem dX11_count_111 : decode cX11_count 111 = .ok (.ireturn, 1) := by decide +kernel
theorem dX11_count_112 : decode cX11_count 112 = .ok (.iconst (-1), 1) := by decide +kernel
theorem dX11_count_113 : decode cX11_count 113 = .ok (.ireturn, 1) := by decide +kernel
abbrev o_X11_count : Type := Int32
def f_X11_count (S : wd_W) (p1 : Int32) : Option o_X11_count :=
if p1 = (0 : Int32) then (
some (S.1 1600)) else (
if p1 = (1 : Int32) then (
some (S.1 1601)) else (
if p1 = (2 : Int32) then (
some (S.1 1607)) else (
if p1 = (3 : Int32) then (
some (S.1 1610)) else (
if p1 = (4 : Int32) then (
some (S.1 2700)) else (
if p1 = (5 : Int32) then (
some (S.1 2704)) else (
if p1 = (6 : Int32) then (
some (S.1 1614)) else (
if p1 = (7 : Int32) then (
some (S.1 1400)) else (
some (-1 : Int32)))))))))
set_option maxRecDepth 100000 in
set_option maxHeartbeats 4000000 in
theorem c_X11_count (l : Launch) (D : va_G) (q g : Nat → Nat) (cy : Nat → ClassId) (z : (Nat → Nat) × (Nat → Nat) × Nat) (S : wd_W) (p1 : Int32) (o : o_X11_count) (hf : f_X11_count S p1 = some o) : MX layX l yX11_count cX11_count 2 (some .int) ({ frames := 0, cells := 0, slots := 0, locals := 0 } : Room) D q g cy z [.ref (q 0), .int p1] S false (some (.int o)) (wd_o S [] [] [] [] []) 0 0 := by
  refine mx_of (own := RX11) (lc := [(0, .ref (q 0)), (1, .int p1)]) (by decide +kernel) rfl layX_ok (Nat.le_of_ble_eq_true rfl) rfl ?_
  intro X hXl hXq hXz hC hQ
  subst hXl; subst hXq; subst hXz
  unfold f_X11_count at hf
  refine go_iload_n (pc' := 1) hC dX11_count_0 rfl rfl ?_
  by_cases h1 : p1 = (0 : Int32)
  · have hf := ite_t h1 hf
    refine go_tabIn' (v := (0 : Int32)) (tgt := 48) hC dX11_count_1 h1 kt_0 (by decide) (by decide) rfl (by decide) ?_
    refine go_aload_n (pc' := 49) hC dX11_count_48 rfl rfl ?_
    refine go_getq (pc' := 52) hC 0 2 layX_0 rfl rfl inlX11 (Nat.le_of_ble_eq_true rfl) mw_20 rfl dX11_count_49 rfl ?_
    refine go_geti (v := (S.1 1600)) (pc' := 55) hC 16 0 layX_16 rfl rfl inlX2 (Nat.le_of_ble_eq_true rfl) mw_581 rfl dX11_count_52 rfl rfl ?_
    obtain rfl := Option.some.inj hf
    exact go_iret hC hQ dX11_count_55 rfl rfl rfl rfl (fun _ => rfl) rfl rfl
  · have hf := ite_f h1 hf
    by_cases h2 : p1 = (1 : Int32)
    · have hf := ite_t h2 hf
      refine go_tabIn' (v := (1 : Int32)) (tgt := 56) hC dX11_count_1 h2 kt_1 (by decide) (by decide) rfl (by decide) ?_
      refine go_aload_n (pc' := 57) hC dX11_count_56 rfl rfl ?_
      refine go_getq (pc' := 60) hC 0 2 layX_0 rfl rfl inlX11 (Nat.le_of_ble_eq_true rfl) mw_20 rfl dX11_count_57 rfl ?_
      refine go_geti (v := (S.1 1601)) (pc' := 63) hC 16 1 layX_16 rfl rfl inlX2 (Nat.le_of_ble_eq_true rfl) mw_562 rfl dX11_count_60 rfl rfl ?_
      obtain rfl := Option.some.inj hf
      exact go_iret hC hQ dX11_count_63 rfl rfl rfl rfl (fun _ => rfl) rfl rfl
    · have hf := ite_f h2 hf
      by_cases h3 : p1 = (2 : Int32)
      · have hf := ite_t h3 hf
        refine go_tabIn' (v := (2 : Int32)) (tgt := 64) hC dX11_count_1 h3 kt_2 (by decide) (by decide) rfl (by decide) ?_
        refine go_aload_n (pc' := 65) hC dX11_count_64 rfl rfl ?_
        refine go_getq (pc' := 68) hC 0 2 layX_0 rfl rfl inlX11 (Nat.le_of_ble_eq_true rfl) mw_20 rfl dX11_count_65 rfl ?_
        refine go_geti (v := (S.1 1607)) (pc' := 71) hC 16 7 layX_16 rfl rfl inlX2 (Nat.le_of_ble_eq_true rfl) mw_1227 rfl dX11_count_68 rfl rfl ?_
        obtain rfl := Option.some.inj hf
        exact go_iret hC hQ dX11_count_71 rfl rfl rfl rfl (fun _ => rfl) rfl rfl
      · have hf := ite_f h3 hf
        by_cases h4 : p1 = (3 : Int32)
        · have hf := ite_t h4 hf
          refine go_tabIn' (v := (3 : Int32)) (tgt := 72) hC dX11_count_1 h4 kt_3 (by decide) (by decide) rfl (by decide) ?_
          refine go_aload_n (pc' := 73) hC dX11_count_72 rfl rfl ?_
          refine go_getq (pc' := 76) hC 0 2 layX_0 rfl rfl inlX11 (Nat.le_of_ble_eq_true rfl) mw_20 rfl dX11_count_73 rfl ?_
          refine go_geti (v := (S.1 1610)) (pc' := 79) hC 16 10 layX_16 rfl rfl inlX2 (Nat.le_of_ble_eq_true rfl) mw_1226 rfl dX11_count_76 rfl rfl ?_
          obtain rfl := Option.some.inj hf
          exact go_iret hC hQ dX11_count_79 rfl rfl rfl rfl (fun _ => rfl) rfl rfl
        · have hf := ite_f h4 hf
          by_cases h5 : p1 = (4 : Int32)
          · have hf := ite_t h5 hf
            refine go_tabIn' (v := (4 : Int32)) (tgt := 80) hC dX11_count_1 h5 kt_4 (by decide) (by decide) rfl (by decide) ?_
            refine go_aload_n (pc' := 81) hC dX11_count_80 rfl rfl ?_
            refine go_getq (pc' := 84) hC 0 3 layX_0 rfl rfl inlX11 (Nat.le_of_ble_eq_true rfl) mw_24 rfl dX11_count_81 rfl ?_
            refine go_geti (v := (S.1 2700)) (pc' := 87) hC 27 0 layX_27 rfl rfl inlX6 (Nat.le_of_ble_eq_true rfl) mw_1083 rfl dX11_count_84 rfl rfl ?_
            obtain rfl := Option.some.inj hf
            exact go_iret hC hQ dX11_count_87 rfl rfl rfl rfl (fun _ => rfl) rfl rfl
          · have hf := ite_f h5 hf
            by_cases h6 : p1 = (5 : Int32)
            · have hf := ite_t h6 hf
              refine go_tabIn' (v := (5 : Int32)) (tgt := 88) hC dX11_count_1 h6 kt_5 (by decide) (by decide) rfl (by decide) ?_
              refine go_aload_n (pc' := 89) hC dX11_count_88 rfl rfl ?_
              refine go_getq (pc' := 92) hC 0 3 layX_0 rfl rfl inlX11 (Nat.le_of_ble_eq_true rfl) mw_24 rfl dX11_count_89 rfl ?_
              refine go_geti (v := (S.1 2704)) (pc' := 95) hC 27 4 layX_27 rfl rfl inlX6 (Nat.le_of_ble_eq_true rfl) mw_1236 rfl dX11_count_92 rfl rfl ?_
              obtain rfl := Option.some.inj hf
              exact go_iret hC hQ dX11_count_95 rfl rfl rfl rfl (fun _ => rfl) rfl rfl
            · have hf := ite_f h6 hf
              by_cases h7 : p1 = (6 : Int32)
              · have hf := ite_t h7 hf
                refine go_tabIn' (v := (6 : Int32)) (tgt := 96) hC dX11_count_1 h7 kt_6 (by decide) (by decide) rfl (by decide) ?_
                refine go_aload_n (pc' := 97) hC dX11_count_96 rfl rfl ?_
                refine go_getq (pc' := 100) hC 0 2 layX_0 rfl rfl inlX11 (Nat.le_of_ble_eq_true rfl) mw_20 rfl dX11_count_97 rfl ?_
                refine go_geti (v := (S.1 1614)) (pc' := 103) hC 16 14 layX_16 rfl rfl inlX2 (Nat.le_of_ble_eq_true rfl) mw_1543 rfl dX11_count_100 rfl rfl ?_
                obtain rfl := Option.some.inj hf
                exact go_iret hC hQ dX11_count_103 rfl rfl rfl rfl (fun _ => rfl) rfl rfl
              · have hf := ite_f h7 hf
                by_cases h8 : p1 = (7 : Int32)
                · have hf := ite_t h8 hf
                  refine go_tabIn' (v := (7 : Int32)) (tgt := 104) hC dX11_count_1 h8 kt_7 (by decide) (by decide) rfl (by decide) ?_
                  refine go_aload_n (pc' := 105) hC dX11_count_104 rfl rfl ?_
                  refine go_getq (pc' := 108) hC 0 1 layX_0 rfl rfl inlX11 (Nat.le_of_ble_eq_true rfl) mw_19 rfl dX11_count_105 rfl ?_
                  refine go_geti (v := (S.1 1400)) (pc' := 111) hC 14 0 layX_14 rfl rfl inlX9 (Nat.le_of_ble_eq_true rfl) mw_267 rfl dX11_count_108 rfl rfl ?_
                  obtain rfl := Option.some.inj hf
                  exact go_iret hC hQ dX11_count_111 rfl rfl rfl rfl (fun _ => rfl) rfl rfl
                · have hf := ite_f h8 hf
                  refine go_tabOut (tgt := 112) hC dX11_count_1 ?_ (by decide) ?_
                  · have e0 := lv_neT h1 kt_0; have e1 := lv_neT h2 kt_1; have e2 := lv_neT h3 kt_2; have e3 := lv_neT h4 kt_3; have e4 := lv_neT h5 kt_4; have e5 := lv_neT h6 kt_5; have e6 := lv_neT h7 kt_6; have e7 := lv_neT h8 kt_7; omega
                  · refine go_iconst (pc' := 113) hC dX11_count_112 ki_m1 rfl ?_
                    obtain rfl := Option.some.inj hf
                    exact go_iret hC hQ dX11_count_113 rfl rfl rfl rfl (fun _ => rfl) rfl rfl
