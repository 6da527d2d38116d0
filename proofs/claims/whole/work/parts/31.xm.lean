abbrev o_X2_copyOf_q67_q16 : Type := Int32 × Int32 × Int32 × Int32 × Int32 × Int32 × Int32 × Int32 × (Nat → Int32) × (Nat → Int32) × (Nat → Int32) × (Nat → Int32) × (Nat → Int32) × (Nat → Int32) × (Nat → Int32) × (Nat → Int32) × (Nat → Int32) × (Nat → Int32)
def f_X2_copyOf_q67_q16 (S : wd_W) : Option o_X2_copyOf_q67_q16 :=
lz ((S.1 1600)) fun x1 =>
lz ((S.1 1601)) fun x2 =>
lz ((S.1 1607)) fun x3 =>
lz ((S.1 1610)) fun x4 =>
bd (f_X2_countBy_q67 (wd_o S [(6700, x1), (6701, x2), (6707, x3), (6710, x4), (6714, (S.1 6714)), (6715, (S.1 6715)), (6716, (S.1 6716)), (6717, (S.1 6717))] [] [(68, (S.2.2.1 68)), (69, (S.2.2.1 69)), (70, (S.2.2.1 70)), (71, (S.2.2.1 71)), (72, (S.2.2.1 72)), (73, (S.2.2.1 73)), (74, (S.2.2.1 74)), (75, (S.2.2.1 75)), (76, (S.2.2.1 76)), (77, (S.2.2.1 77))] [] []) (S.1 1614) (S.1 1615) (S.1 1616) (S.1 1617)) fun o5 =>
some (x1, x2, x3, x4, o5.1, o5.2.1, o5.2.2.1, o5.2.2.2, (va_cpy (S.2.2.1 17) (S.2.2.1 68) 0 0 13), (va_cpy (S.2.2.1 18) (S.2.2.1 69) 0 0 13), (va_cpy (S.2.2.1 19) (S.2.2.1 70) 0 0 13), (va_cpy (S.2.2.1 20) (S.2.2.1 71) 0 0 13), (va_cpy (S.2.2.1 21) (S.2.2.1 72) 0 0 13), (va_cpy (S.2.2.1 22) (S.2.2.1 73) 0 0 10), (va_cpy (S.2.2.1 23) (S.2.2.1 74) 0 0 10), (va_cpy (S.2.2.1 24) (S.2.2.1 75) 0 0 3), (va_cpy (S.2.2.1 25) (S.2.2.1 76) 0 0 3), (va_cpy (S.2.2.1 26) (S.2.2.1 77) 0 0 3))
set_option maxRecDepth 100000 in
set_option maxHeartbeats 4000000 in
theorem c_X2_copyOf_q67_q16 (l : Launch) (D : va_G) (q g : Nat → Nat) (cy : Nat → ClassId) (z : (Nat → Nat) × (Nat → Nat) × Nat) (S : wd_W) (o : o_X2_copyOf_q67_q16) (hf : f_X2_copyOf_q67_q16 S = some o) : MX layX l yX2_copyOf cX2_copyOf 2 none ({ frames := 2, cells := 0, slots := 0, locals := 81 } : Room) D q g cy z [.ref (q 67), .ref (q 16)] S false (none) (wd_o S [(6700, o.1), (6701, o.2.1), (6707, o.2.2.1), (6710, o.2.2.2.1), (6714, o.2.2.2.2.1), (6715, o.2.2.2.2.2.1), (6716, o.2.2.2.2.2.2.1), (6717, o.2.2.2.2.2.2.2.1)] [] [(68, o.2.2.2.2.2.2.2.2.1), (69, o.2.2.2.2.2.2.2.2.2.1), (70, o.2.2.2.2.2.2.2.2.2.2.1), (71, o.2.2.2.2.2.2.2.2.2.2.2.1), (72, o.2.2.2.2.2.2.2.2.2.2.2.2.1), (73, o.2.2.2.2.2.2.2.2.2.2.2.2.2.1), (74, o.2.2.2.2.2.2.2.2.2.2.2.2.2.2.1), (75, o.2.2.2.2.2.2.2.2.2.2.2.2.2.2.2.1), (76, o.2.2.2.2.2.2.2.2.2.2.2.2.2.2.2.2.1), (77, o.2.2.2.2.2.2.2.2.2.2.2.2.2.2.2.2.2)] [] []) 0 0 := by
  refine mx_of (own := RX2) (lc := [(0, .ref (q 67)), (1, .ref (q 16))]) (by decide +kernel) rfl layX_ok (Nat.le_of_ble_eq_true rfl) rfl ?_
  intro X hXl hXq hXz hC hQ
  subst hXl; subst hXq; subst hXz
  unfold f_X2_copyOf_q67_q16 at hf
  refine go_keys (L1 := [(6700, (S.1 6700)), (6701, (S.1 6701)), (6707, (S.1 6707)), (6710, (S.1 6710)), (6714, (S.1 6714)), (6715, (S.1 6715)), (6716, (S.1 6716)), (6717, (S.1 6717))]) (L2 := []) (L3 := [(68, (S.2.2.1 68)), (69, (S.2.2.1 69)), (70, (S.2.2.1 70)), (71, (S.2.2.1 71)), (72, (S.2.2.1 72)), (73, (S.2.2.1 73)), (74, (S.2.2.1 74)), (75, (S.2.2.1 75)), (76, (S.2.2.1 76)), (77, (S.2.2.1 77))]) (L4 := []) (L5 := []) [6700, 6701, 6707, 6710, 6714, 6715, 6716, 6717] [] [68, 69, 70, 71, 72, 73, 74, 75, 76, 77] [] [] rfl rfl rfl rfl rfl ?_
  refine go_aload_n (pc' := 1) hC dX2_copyOf_0 rfl rfl ?_
  refine go_aload_n (pc' := 2) hC dX2_copyOf_1 rfl rfl ?_
  refine go_geti (v := (S.1 1600)) (pc' := 5) hC 16 0 layX_16 rfl rfl inlX2 (Nat.le_of_ble_eq_true rfl) mw_58 rfl dX2_copyOf_2 rfl rfl ?_
  refine go_namei (fun x1 hx => ?_)
  have hf := lz_r hx hf
  clear hx
  refine go_puti (L1' := [(6700, x1), (6701, (S.1 6701)), (6707, (S.1 6707)), (6710, (S.1 6710)), (6714, (S.1 6714)), (6715, (S.1 6715)), (6716, (S.1 6716)), (6717, (S.1 6717))]) (pc' := 8) hC 67 0 layX_67 rfl rfl inlX2 tyX2_ok nmX2 (Nat.le_of_ble_eq_true rfl) mw_58 rfl rfl rfl rfl dX2_copyOf_5 rfl rfl rfl ?_
  refine go_aload_n (pc' := 9) hC dX2_copyOf_8 rfl rfl ?_
  refine go_aload_n (pc' := 10) hC dX2_copyOf_9 rfl rfl ?_
  refine go_geti (v := (S.1 1601)) (pc' := 13) hC 16 1 layX_16 rfl rfl inlX2 (Nat.le_of_ble_eq_true rfl) mw_309 rfl dX2_copyOf_10 rfl rfl ?_
  refine go_namei (fun x2 hx => ?_)
  have hf := lz_r hx hf
  clear hx
  refine go_puti (L1' := [(6700, x1), (6701, x2), (6707, (S.1 6707)), (6710, (S.1 6710)), (6714, (S.1 6714)), (6715, (S.1 6715)), (6716, (S.1 6716)), (6717, (S.1 6717))]) (pc' := 16) hC 67 1 layX_67 rfl rfl inlX2 tyX2_ok nmX2 (Nat.le_of_ble_eq_true rfl) mw_309 rfl rfl rfl rfl dX2_copyOf_13 rfl rfl rfl ?_
  refine go_aload_n (pc' := 17) hC dX2_copyOf_16 rfl rfl ?_
  refine go_aload_n (pc' := 18) hC dX2_copyOf_17 rfl rfl ?_
  refine go_geti (v := (S.1 1607)) (pc' := 21) hC 16 7 layX_16 rfl rfl inlX2 (Nat.le_of_ble_eq_true rfl) mw_310 rfl dX2_copyOf_18 rfl rfl ?_
  refine go_namei (fun x3 hx => ?_)
  have hf := lz_r hx hf
  clear hx
  refine go_puti (L1' := [(6700, x1), (6701, x2), (6707, x3), (6710, (S.1 6710)), (6714, (S.1 6714)), (6715, (S.1 6715)), (6716, (S.1 6716)), (6717, (S.1 6717))]) (pc' := 24) hC 67 7 layX_67 rfl rfl inlX2 tyX2_ok nmX2 (Nat.le_of_ble_eq_true rfl) mw_310 rfl rfl rfl rfl dX2_copyOf_21 rfl rfl rfl ?_
  refine go_aload_n (pc' := 25) hC dX2_copyOf_24 rfl rfl ?_
  refine go_aload_n (pc' := 26) hC dX2_copyOf_25 rfl rfl ?_
  refine go_geti (v := (S.1 1610)) (pc' := 29) hC 16 10 layX_16 rfl rfl inlX2 (Nat.le_of_ble_eq_true rfl) mw_311 rfl dX2_copyOf_26 rfl rfl ?_
  refine go_namei (fun x4 hx => ?_)
  have hf := lz_r hx hf
  clear hx
  refine go_puti (L1' := [(6700, x1), (6701, x2), (6707, x3), (6710, x4), (6714, (S.1 6714)), (6715, (S.1 6715)), (6716, (S.1 6716)), (6717, (S.1 6717))]) (pc' := 32) hC 67 10 layX_67 rfl rfl inlX2 tyX2_ok nmX2 (Nat.le_of_ble_eq_true rfl) mw_311 rfl rfl rfl rfl dX2_copyOf_29 rfl rfl rfl ?_
  refine go_aload_n (pc' := 33) hC dX2_copyOf_32 rfl rfl ?_
  refine go_aload_n (pc' := 34) hC dX2_copyOf_33 rfl rfl ?_
  refine go_geti (v := (S.1 1614)) (pc' := 37) hC 16 14 layX_16 rfl rfl inlX2 (Nat.le_of_ble_eq_true rfl) mw_70 rfl dX2_copyOf_34 rfl rfl ?_
  refine go_aload_n (pc' := 38) hC dX2_copyOf_37 rfl rfl ?_
  refine go_geti (v := (S.1 1615)) (pc' := 41) hC 16 15 layX_16 rfl rfl inlX2 (Nat.le_of_ble_eq_true rfl) mw_316 rfl dX2_copyOf_38 rfl rfl ?_
  refine go_aload_n (pc' := 42) hC dX2_copyOf_41 rfl rfl ?_
  refine go_geti (v := (S.1 1616)) (pc' := 45) hC 16 16 layX_16 rfl rfl inlX2 (Nat.le_of_ble_eq_true rfl) mw_317 rfl dX2_copyOf_42 rfl rfl ?_
  refine go_aload_n (pc' := 46) hC dX2_copyOf_45 rfl rfl ?_
  refine go_geti (v := (S.1 1617)) (pc' := 49) hC 16 17 layX_16 rfl rfl inlX2 (Nat.le_of_ble_eq_true rfl) mw_318 rfl dX2_copyOf_46 rfl rfl ?_
  obtain ⟨o5, ho5, hf⟩ := bd_e hf
  refine go_callV1 (pc' := 52) (As := [.int (S.1 1614), .int (S.1 1615), .int (S.1 1616), .int (S.1 1617)]) (st := []) (st' := []) (L1' := [(6700, x1), (6701, x2), (6707, x3), (6710, x4), (6714, o5.1), (6715, o5.2.1), (6716, o5.2.2.1), (6717, o5.2.2.2)]) (L2' := []) (L3' := [(68, (S.2.2.1 68)), (69, (S.2.2.1 69)), (70, (S.2.2.1 70)), (71, (S.2.2.1 71)), (72, (S.2.2.1 72)), (73, (S.2.2.1 73)), (74, (S.2.2.1 74)), (75, (S.2.2.1 75)), (76, (S.2.2.1 76)), (77, (S.2.2.1 77))]) (L4' := []) (L5' := []) (cells' := 0) (slots' := 0)  (b := 67) hC dX2_copyOf_49 ⟨mw_312, mw_315, mw_14, yd_yX2_countBy, yp_yX2_countBy, Nat.le_of_ble_eq_true rfl, Nat.le_of_ble_eq_true rfl, (Nat.le_of_ble_eq_true rfl), (Nat.le_of_ble_eq_true rfl)⟩ mw_313 mw_314 layX_67 rfl rfl rfl (Nat.le_of_ble_eq_true rfl) (c_X2_countBy_q67 (x_l X) (x_D X) (x_q X) g (x_cy X) (x_z X) _ (S.1 1614) (S.1 1615) (S.1 1616) (S.1 1617) o5 ho5) rfl rfl rfl rfl rfl rfl rfl rfl rfl rfl rfl rfl rfl rfl ?_
  refine go_aload_n (pc' := 53) hC dX2_copyOf_52 rfl rfl ?_
  refine go_getq (pc' := 56) hC 16 2 layX_16 rfl rfl inlX2 (Nat.le_of_ble_eq_true rfl) mw_60 rfl dX2_copyOf_53 rfl ?_
  refine go_aload_n (pc' := 57) hC dX2_copyOf_56 rfl rfl ?_
  refine go_getq (pc' := 60) hC 67 2 layX_67 rfl rfl inlX2 (Nat.le_of_ble_eq_true rfl) mw_60 rfl dX2_copyOf_57 rfl ?_
  refine go_callS1 (pc' := 63) (As := [.ref (x_q X 17), .ref (x_q X 68)]) (st := []) (st' := []) (L1' := [(6700, x1), (6701, x2), (6707, x3), (6710, x4), (6714, o5.1), (6715, o5.2.1), (6716, o5.2.2.1), (6717, o5.2.2.2)]) (L2' := []) (L3' := [(68, (va_cpy (S.2.2.1 17) (S.2.2.1 68) 0 0 13)), (69, (S.2.2.1 69)), (70, (S.2.2.1 70)), (71, (S.2.2.1 71)), (72, (S.2.2.1 72)), (73, (S.2.2.1 73)), (74, (S.2.2.1 74)), (75, (S.2.2.1 75)), (76, (S.2.2.1 76)), (77, (S.2.2.1 77))]) (L4' := []) (L5' := []) (cells' := 0) (slots' := 0) hC dX2_copyOf_60 ⟨mw_465, mw_467, mw_14, yd_yX2_copyRow, yp_yX2_copyRow, Nat.le_of_ble_eq_true rfl, Nat.le_of_ble_eq_true rfl, Nat.le_of_ble_eq_true rfl, Nat.le_of_ble_eq_true rfl⟩ mw_466 rfl rfl (Nat.le_of_ble_eq_true rfl) (c_copyRow (x_l X) (x_D X) (x_q X) g (x_cy X) (x_z X) _ layX layX_ok 17 68 13 layX_17 layX_68 (by decide)) rfl rfl rfl rfl rfl rfl rfl rfl rfl rfl rfl rfl rfl rfl ?_
  refine go_aload_n (pc' := 64) hC dX2_copyOf_63 rfl rfl ?_
  refine go_getq (pc' := 67) hC 16 3 layX_16 rfl rfl inlX2 (Nat.le_of_ble_eq_true rfl) mw_61 rfl dX2_copyOf_64 rfl ?_
  refine go_aload_n (pc' := 68) hC dX2_copyOf_67 rfl rfl ?_
  refine go_getq (pc' := 71) hC 67 3 layX_67 rfl rfl inlX2 (Nat.le_of_ble_eq_true rfl) mw_61 rfl dX2_copyOf_68 rfl ?_
  refine go_callS1 (pc' := 74) (As := [.ref (x_q X 18), .ref (x_q X 69)]) (st := []) (st' := []) (L1' := [(6700, x1), (6701, x2), (6707, x3), (6710, x4), (6714, o5.1), (6715, o5.2.1), (6716, o5.2.2.1), (6717, o5.2.2.2)]) (L2' := []) (L3' := [(68, (va_cpy (S.2.2.1 17) (S.2.2.1 68) 0 0 13)), (69, (va_cpy (S.2.2.1 18) (S.2.2.1 69) 0 0 13)), (70, (S.2.2.1 70)), (71, (S.2.2.1 71)), (72, (S.2.2.1 72)), (73, (S.2.2.1 73)), (74, (S.2.2.1 74)), (75, (S.2.2.1 75)), (76, (S.2.2.1 76)), (77, (S.2.2.1 77))]) (L4' := []) (L5' := []) (cells' := 0) (slots' := 0) hC dX2_copyOf_71 ⟨mw_465, mw_467, mw_14, yd_yX2_copyRow, yp_yX2_copyRow, Nat.le_of_ble_eq_true rfl, Nat.le_of_ble_eq_true rfl, Nat.le_of_ble_eq_true rfl, Nat.le_of_ble_eq_true rfl⟩ mw_466 rfl rfl (Nat.le_of_ble_eq_true rfl) (c_copyRow (x_l X) (x_D X) (x_q X) g (x_cy X) (x_z X) _ layX layX_ok 18 69 13 layX_18 layX_69 (by decide)) rfl rfl rfl rfl rfl rfl rfl rfl rfl rfl rfl rfl rfl rfl ?_
  refine go_aload_n (pc' := 75) hC dX2_copyOf_74 rfl rfl ?_
  refine go_getq (pc' := 78) hC 16 4 layX_16 rfl rfl inlX2 (Nat.le_of_ble_eq_true rfl) mw_62 rfl dX2_copyOf_75 rfl ?_
  refine go_aload_n (pc' := 79) hC dX2_copyOf_78 rfl rfl ?_
  refine go_getq (pc' := 82) hC 67 4 layX_67 rfl rfl inlX2 (Nat.le_of_ble_eq_true rfl) mw_62 rfl dX2_copyOf_79 rfl ?_
  refine go_callS1 (pc' := 85) (As := [.ref (x_q X 19), .ref (x_q X 70)]) (st := []) (st' := []) (L1' := [(6700, x1), (6701, x2), (6707, x3), (6710, x4), (6714, o5.1), (6715, o5.2.1), (6716, o5.2.2.1), (6717, o5.2.2.2)]) (L2' := []) (L3' := [(68, (va_cpy (S.2.2.1 17) (S.2.2.1 68) 0 0 13)), (69, (va_cpy (S.2.2.1 18) (S.2.2.1 69) 0 0 13)), (70, (va_cpy (S.2.2.1 19) (S.2.2.1 70) 0 0 13)), (71, (S.2.2.1 71)), (72, (S.2.2.1 72)), (73, (S.2.2.1 73)), (74, (S.2.2.1 74)), (75, (S.2.2.1 75)), (76, (S.2.2.1 76)), (77, (S.2.2.1 77))]) (L4' := []) (L5' := []) (cells' := 0) (slots' := 0) hC dX2_copyOf_82 ⟨mw_465, mw_467, mw_14, yd_yX2_copyRow, yp_yX2_copyRow, Nat.le_of_ble_eq_true rfl, Nat.le_of_ble_eq_true rfl, Nat.le_of_ble_eq_true rfl, Nat.le_of_ble_eq_true rfl⟩ mw_466 rfl rfl (Nat.le_of_ble_eq_true rfl) (c_copyRow (x_l X) (x_D X) (x_q X) g (x_cy X) (x_z X) _ layX layX_ok 19 70 13 layX_19 layX_70 (by decide)) rfl rfl rfl rfl rfl rfl rfl rfl rfl rfl rfl rfl rfl rfl ?_
  refine go_aload_n (pc' := 86) hC dX2_copyOf_85 rfl rfl ?_
  refine go_getq (pc' := 89) hC 16 5 layX_16 rfl rfl inlX2 (Nat.le_of_ble_eq_true rfl) mw_63 rfl dX2_copyOf_86 rfl ?_
  refine go_aload_n (pc' := 90) hC dX2_copyOf_89 rfl rfl ?_
  refine go_getq (pc' := 93) hC 67 5 layX_67 rfl rfl inlX2 (Nat.le_of_ble_eq_true rfl) mw_63 rfl dX2_copyOf_90 rfl ?_
  refine go_callS1 (pc' := 96) (As := [.ref (x_q X 20), .ref (x_q X 71)]) (st := []) (st' := []) (L1' := [(6700, x1), (6701, x2), (6707, x3), (6710, x4), (6714, o5.1), (6715, o5.2.1), (6716, o5.2.2.1), (6717, o5.2.2.2)]) (L2' := []) (L3' := [(68, (va_cpy (S.2.2.1 17) (S.2.2.1 68) 0 0 13)), (69, (va_cpy (S.2.2.1 18) (S.2.2.1 69) 0 0 13)), (70, (va_cpy (S.2.2.1 19) (S.2.2.1 70) 0 0 13)), (71, (va_cpy (S.2.2.1 20) (S.2.2.1 71) 0 0 13)), (72, (S.2.2.1 72)), (73, (S.2.2.1 73)), (74, (S.2.2.1 74)), (75, (S.2.2.1 75)), (76, (S.2.2.1 76)), (77, (S.2.2.1 77))]) (L4' := []) (L5' := []) (cells' := 0) (slots' := 0) hC dX2_copyOf_93 ⟨mw_465, mw_467, mw_14, yd_yX2_copyRow, yp_yX2_copyRow, Nat.le_of_ble_eq_true rfl, Nat.le_of_ble_eq_true rfl, Nat.le_of_ble_eq_true rfl, Nat.le_of_ble_eq_true rfl⟩ mw_466 rfl rfl (Nat.le_of_ble_eq_true rfl) (c_copyRow (x_l X) (x_D X) (x_q X) g (x_cy X) (x_z X) _ layX layX_ok 20 71 13 layX_20 layX_71 (by decide)) rfl rfl rfl rfl rfl rfl rfl rfl rfl rfl rfl rfl rfl rfl ?_
  refine go_aload_n (pc' := 97) hC dX2_copyOf_96 rfl rfl ?_
  refine go_getq (pc' := 100) hC 16 6 layX_16 rfl rfl inlX2 (Nat.le_of_ble_eq_true rfl) mw_64 rfl dX2_copyOf_97 rfl ?_
  refine go_aload_n (pc' := 101) hC dX2_copyOf_100 rfl rfl ?_
  refine go_getq (pc' := 104) hC 67 6 layX_67 rfl rfl inlX2 (Nat.le_of_ble_eq_true rfl) mw_64 rfl dX2_copyOf_101 rfl ?_
  refine go_callS1 (pc' := 107) (As := [.ref (x_q X 21), .ref (x_q X 72)]) (st := []) (st' := []) (L1' := [(6700, x1), (6701, x2), (6707, x3), (6710, x4), (6714, o5.1), (6715, o5.2.1), (6716, o5.2.2.1), (6717, o5.2.2.2)]) (L2' := []) (L3' := [(68, (va_cpy (S.2.2.1 17) (S.2.2.1 68) 0 0 13)), (69, (va_cpy (S.2.2.1 18) (S.2.2.1 69) 0 0 13)), (70, (va_cpy (S.2.2.1 19) (S.2.2.1 70) 0 0 13)), (71, (va_cpy (S.2.2.1 20) (S.2.2.1 71) 0 0 13)), (72, (va_cpy (S.2.2.1 21) (S.2.2.1 72) 0 0 13)), (73, (S.2.2.1 73)), (74, (S.2.2.1 74)), (75, (S.2.2.1 75)), (76, (S.2.2.1 76)), (77, (S.2.2.1 77))]) (L4' := []) (L5' := []) (cells' := 0) (slots' := 0) hC dX2_copyOf_104 ⟨mw_465, mw_467, mw_14, yd_yX2_copyRow, yp_yX2_copyRow, Nat.le_of_ble_eq_true rfl, Nat.le_of_ble_eq_true rfl, Nat.le_of_ble_eq_true rfl, Nat.le_of_ble_eq_true rfl⟩ mw_466 rfl rfl (Nat.le_of_ble_eq_true rfl) (c_copyRow (x_l X) (x_D X) (x_q X) g (x_cy X) (x_z X) _ layX layX_ok 21 72 13 layX_21 layX_72 (by decide)) rfl rfl rfl rfl rfl rfl rfl rfl rfl rfl rfl rfl rfl rfl ?_
  refine go_aload_n (pc' := 108) hC dX2_copyOf_107 rfl rfl ?_
  refine go_getq (pc' := 111) hC 16 8 layX_16 rfl rfl inlX2 (Nat.le_of_ble_eq_true rfl) mw_65 rfl dX2_copyOf_108 rfl ?_
  refine go_aload_n (pc' := 112) hC dX2_copyOf_111 rfl rfl ?_
  refine go_getq (pc' := 115) hC 67 8 layX_67 rfl rfl inlX2 (Nat.le_of_ble_eq_true rfl) mw_65 rfl dX2_copyOf_112 rfl ?_
  refine go_callS1 (pc' := 118) (As := [.ref (x_q X 22), .ref (x_q X 73)]) (st := []) (st' := []) (L1' := [(6700, x1), (6701, x2), (6707, x3), (6710, x4), (6714, o5.1), (6715, o5.2.1), (6716, o5.2.2.1), (6717, o5.2.2.2)]) (L2' := []) (L3' := [(68, (va_cpy (S.2.2.1 17) (S.2.2.1 68) 0 0 13)), (69, (va_cpy (S.2.2.1 18) (S.2.2.1 69) 0 0 13)), (70, (va_cpy (S.2.2.1 19) (S.2.2.1 70) 0 0 13)), (71, (va_cpy (S.2.2.1 20) (S.2.2.1 71) 0 0 13)), (72, (va_cpy (S.2.2.1 21) (S.2.2.1 72) 0 0 13)), (73, (va_cpy (S.2.2.1 22) (S.2.2.1 73) 0 0 10)), (74, (S.2.2.1 74)), (75, (S.2.2.1 75)), (76, (S.2.2.1 76)), (77, (S.2.2.1 77))]) (L4' := []) (L5' := []) (cells' := 0) (slots' := 0) hC dX2_copyOf_115 ⟨mw_465, mw_467, mw_14, yd_yX2_copyRow, yp_yX2_copyRow, Nat.le_of_ble_eq_true rfl, Nat.le_of_ble_eq_true rfl, Nat.le_of_ble_eq_true rfl, Nat.le_of_ble_eq_true rfl⟩ mw_466 rfl rfl (Nat.le_of_ble_eq_true rfl) (c_copyRow (x_l X) (x_D X) (x_q X) g (x_cy X) (x_z X) _ layX layX_ok 22 73 10 layX_22 layX_73 (by decide)) rfl rfl rfl rfl rfl rfl rfl rfl rfl rfl rfl rfl rfl rfl ?_
  refine go_aload_n (pc' := 119) hC dX2_copyOf_118 rfl rfl ?_
  refine go_getq (pc' := 122) hC 16 9 layX_16 rfl rfl inlX2 (Nat.le_of_ble_eq_true rfl) mw_66 rfl dX2_copyOf_119 rfl ?_
  refine go_aload_n (pc' := 123) hC dX2_copyOf_122 rfl rfl ?_
  refine go_getq (pc' := 126) hC 67 9 layX_67 rfl rfl inlX2 (Nat.le_of_ble_eq_true rfl) mw_66 rfl dX2_copyOf_123 rfl ?_
  refine go_callS1 (pc' := 129) (As := [.ref (x_q X 23), .ref (x_q X 74)]) (st := []) (st' := []) (L1' := [(6700, x1), (6701, x2), (6707, x3), (6710, x4), (6714, o5.1), (6715, o5.2.1), (6716, o5.2.2.1), (6717, o5.2.2.2)]) (L2' := []) (L3' := [(68, (va_cpy (S.2.2.1 17) (S.2.2.1 68) 0 0 13)), (69, (va_cpy (S.2.2.1 18) (S.2.2.1 69) 0 0 13)), (70, (va_cpy (S.2.2.1 19) (S.2.2.1 70) 0 0 13)), (71, (va_cpy (S.2.2.1 20) (S.2.2.1 71) 0 0 13)), (72, (va_cpy (S.2.2.1 21) (S.2.2.1 72) 0 0 13)), (73, (va_cpy (S.2.2.1 22) (S.2.2.1 73) 0 0 10)), (74, (va_cpy (S.2.2.1 23) (S.2.2.1 74) 0 0 10)), (75, (S.2.2.1 75)), (76, (S.2.2.1 76)), (77, (S.2.2.1 77))]) (L4' := []) (L5' := []) (cells' := 0) (slots' := 0) hC dX2_copyOf_126 ⟨mw_465, mw_467, mw_14, yd_yX2_copyRow, yp_yX2_copyRow, Nat.le_of_ble_eq_true rfl, Nat.le_of_ble_eq_true rfl, Nat.le_of_ble_eq_true rfl, Nat.le_of_ble_eq_true rfl⟩ mw_466 rfl rfl (Nat.le_of_ble_eq_true rfl) (c_copyRow (x_l X) (x_D X) (x_q X) g (x_cy X) (x_z X) _ layX layX_ok 23 74 10 layX_23 layX_74 (by decide)) rfl rfl rfl rfl rfl rfl rfl rfl rfl rfl rfl rfl rfl rfl ?_
  refine go_aload_n (pc' := 130) hC dX2_copyOf_129 rfl rfl ?_
  refine go_getq (pc' := 133) hC 16 11 layX_16 rfl rfl inlX2 (Nat.le_of_ble_eq_true rfl) mw_67 rfl dX2_copyOf_130 rfl ?_
  refine go_aload_n (pc' := 134) hC dX2_copyOf_133 rfl rfl ?_
  refine go_getq (pc' := 137) hC 67 11 layX_67 rfl rfl inlX2 (Nat.le_of_ble_eq_true rfl) mw_67 rfl dX2_copyOf_134 rfl ?_
  refine go_callS1 (pc' := 140) (As := [.ref (x_q X 24), .ref (x_q X 75)]) (st := []) (st' := []) (L1' := [(6700, x1), (6701, x2), (6707, x3), (6710, x4), (6714, o5.1), (6715, o5.2.1), (6716, o5.2.2.1), (6717, o5.2.2.2)]) (L2' := []) (L3' := [(68, (va_cpy (S.2.2.1 17) (S.2.2.1 68) 0 0 13)), (69, (va_cpy (S.2.2.1 18) (S.2.2.1 69) 0 0 13)), (70, (va_cpy (S.2.2.1 19) (S.2.2.1 70) 0 0 13)), (71, (va_cpy (S.2.2.1 20) (S.2.2.1 71) 0 0 13)), (72, (va_cpy (S.2.2.1 21) (S.2.2.1 72) 0 0 13)), (73, (va_cpy (S.2.2.1 22) (S.2.2.1 73) 0 0 10)), (74, (va_cpy (S.2.2.1 23) (S.2.2.1 74) 0 0 10)), (75, (va_cpy (S.2.2.1 24) (S.2.2.1 75) 0 0 3)), (76, (S.2.2.1 76)), (77, (S.2.2.1 77))]) (L4' := []) (L5' := []) (cells' := 0) (slots' := 0) hC dX2_copyOf_137 ⟨mw_465, mw_467, mw_14, yd_yX2_copyRow, yp_yX2_copyRow, Nat.le_of_ble_eq_true rfl, Nat.le_of_ble_eq_true rfl, Nat.le_of_ble_eq_true rfl, Nat.le_of_ble_eq_true rfl⟩ mw_466 rfl rfl (Nat.le_of_ble_eq_true rfl) (c_copyRow (x_l X) (x_D X) (x_q X) g (x_cy X) (x_z X) _ layX layX_ok 24 75 3 layX_24 layX_75 (by decide)) rfl rfl rfl rfl rfl rfl rfl rfl rfl rfl rfl rfl rfl rfl ?_
  refine go_aload_n (pc' := 141) hC dX2_copyOf_140 rfl rfl ?_
  refine go_getq (pc' := 144) hC 16 12 layX_16 rfl rfl inlX2 (Nat.le_of_ble_eq_true rfl) mw_68 rfl dX2_copyOf_141 rfl ?_
  refine go_aload_n (pc' := 145) hC dX2_copyOf_144 rfl rfl ?_
  refine go_getq (pc' := 148) hC 67 12 layX_67 rfl rfl inlX2 (Nat.le_of_ble_eq_true rfl) mw_68 rfl dX2_copyOf_145 rfl ?_
  refine go_callS1 (pc' := 151) (As := [.ref (x_q X 25), .ref (x_q X 76)]) (st := []) (st' := []) (L1' := [(6700, x1), (6701, x2), (6707, x3), (6710, x4), (6714, o5.1), (6715, o5.2.1), (6716, o5.2.2.1), (6717, o5.2.2.2)]) (L2' := []) (L3' := [(68, (va_cpy (S.2.2.1 17) (S.2.2.1 68) 0 0 13)), (69, (va_cpy (S.2.2.1 18) (S.2.2.1 69) 0 0 13)), (70, (va_cpy (S.2.2.1 19) (S.2.2.1 70) 0 0 13)), (71, (va_cpy (S.2.2.1 20) (S.2.2.1 71) 0 0 13)), (72, (va_cpy (S.2.2.1 21) (S.2.2.1 72) 0 0 13)), (73, (va_cpy (S.2.2.1 22) (S.2.2.1 73) 0 0 10)), (74, (va_cpy (S.2.2.1 23) (S.2.2.1 74) 0 0 10)), (75, (va_cpy (S.2.2.1 24) (S.2.2.1 75) 0 0 3)), (76, (va_cpy (S.2.2.1 25) (S.2.2.1 76) 0 0 3)), (77, (S.2.2.1 77))]) (L4' := []) (L5' := []) (cells' := 0) (slots' := 0) hC dX2_copyOf_148 ⟨mw_465, mw_467, mw_14, yd_yX2_copyRow, yp_yX2_copyRow, Nat.le_of_ble_eq_true rfl, Nat.le_of_ble_eq_true rfl, Nat.le_of_ble_eq_true rfl, Nat.le_of_ble_eq_true rfl⟩ mw_466 rfl rfl (Nat.le_of_ble_eq_true rfl) (c_copyRow (x_l X) (x_D X) (x_q X) g (x_cy X) (x_z X) _ layX layX_ok 25 76 3 layX_25 layX_76 (by decide)) rfl rfl rfl rfl rfl rfl rfl rfl rfl rfl rfl rfl rfl rfl ?_
  refine go_aload_n (pc' := 152) hC dX2_copyOf_151 rfl rfl ?_
  refine go_getq (pc' := 155) hC 16 13 layX_16 rfl rfl inlX2 (Nat.le_of_ble_eq_true rfl) mw_69 rfl dX2_copyOf_152 rfl ?_
  refine go_aload_n (pc' := 156) hC dX2_copyOf_155 rfl rfl ?_
  refine go_getq (pc' := 159) hC 67 13 layX_67 rfl rfl inlX2 (Nat.le_of_ble_eq_true rfl) mw_69 rfl dX2_copyOf_156 rfl ?_
  refine go_callS1 (pc' := 162) (As := [.ref (x_q X 26), .ref (x_q X 77)]) (st := []) (st' := []) (L1' := [(6700, x1), (6701, x2), (6707, x3), (6710, x4), (6714, o5.1), (6715, o5.2.1), (6716, o5.2.2.1), (6717, o5.2.2.2)]) (L2' := []) (L3' := [(68, (va_cpy (S.2.2.1 17) (S.2.2.1 68) 0 0 13)), (69, (va_cpy (S.2.2.1 18) (S.2.2.1 69) 0 0 13)), (70, (va_cpy (S.2.2.1 19) (S.2.2.1 70) 0 0 13)), (71, (va_cpy (S.2.2.1 20) (S.2.2.1 71) 0 0 13)), (72, (va_cpy (S.2.2.1 21) (S.2.2.1 72) 0 0 13)), (73, (va_cpy (S.2.2.1 22) (S.2.2.1 73) 0 0 10)), (74, (va_cpy (S.2.2.1 23) (S.2.2.1 74) 0 0 10)), (75, (va_cpy (S.2.2.1 24) (S.2.2.1 75) 0 0 3)), (76, (va_cpy (S.2.2.1 25) (S.2.2.1 76) 0 0 3)), (77, (va_cpy (S.2.2.1 26) (S.2.2.1 77) 0 0 3))]) (L4' := []) (L5' := []) (cells' := 0) (slots' := 0) hC dX2_copyOf_159 ⟨mw_465, mw_467, mw_14, yd_yX2_copyRow, yp_yX2_copyRow, Nat.le_of_ble_eq_true rfl, Nat.le_of_ble_eq_true rfl, Nat.le_of_ble_eq_true rfl, Nat.le_of_ble_eq_true rfl⟩ mw_466 rfl rfl (Nat.le_of_ble_eq_true rfl) (c_copyRow (x_l X) (x_D X) (x_q X) g (x_cy X) (x_z X) _ layX layX_ok 26 77 3 layX_26 layX_77 (by decide)) rfl rfl rfl rfl rfl rfl rfl rfl rfl rfl rfl rfl rfl rfl ?_
  obtain rfl := Option.some.inj hf
  exact go_vret hC hQ dX2_copyOf_162 rfl rfl rfl (fun _ => rfl) rfl rfl
theorem dX6_copyOf_0 : decode cX6_copyOf 0 = .ok (.aload_n 0, 1) := by decide +kernel
theorem dX6_copyOf_1 : decode cX6_copyOf 1 = .ok (.aload_n 1, 1) := by decide +kernel
theorem dX6_copyOf_2 : decode cX6_copyOf 2 = .ok (.getfield 30, 3) := by decide +kernel
theorem dX6_copyOf_5 : decode cX6_copyOf 5 = .ok (.putfield 30, 3) := by decide +kernel
theorem dX6_copyOf_8 : decode cX6_copyOf 8 = .ok (.aload_n 0, 1) := by decide +kernel
theorem dX6_copyOf_9 : decode cX6_copyOf 9 = .ok (.aload_n 1, 1) := by decide +kernel
theorem dX6_copyOf_10 : decode cX6_copyOf 10 = .ok (.getfield 34, 3) := by decide +kernel
theorem dX6_copyOf_13 : decode cX6_copyOf 13 = .ok (.putfield 34, 3) := by decide +kernel
theorem dX6_copyOf_16 : decode cX6_copyOf 16 = .ok (.aload_n 1, 1) := by decide +kernel
theorem dX6_copyOf_17 : decode cX6_copyOf 17 = .ok (.getfield 9, 3) := by decide +kernel
theorem dX6_copyOf_20 : decode cX6_copyOf 20 = .ok (.aload_n 0, 1) := by decide +kernel
theorem dX6_copyOf_21 : decode cX6_copyOf 21 = .ok (.getfield 9, 3) := by decide +kernel
theorem dX6_copyOf_24 : decode cX6_copyOf 24 = .ok (.invokestatic 37, 3) := by decide +kernel
theorem dX6_copyOf_27 : decode cX6_copyOf 27 = .ok (.aload_n 1, 1) := by decide +kernel
theorem dX6_copyOf_28 : decode cX6_copyOf 28 = .ok (.getfield 15, 3) := by decide +kernel
theorem dX6_copyOf_31 : decode cX6_copyOf 31 = .ok (.aload_n 0, 1) := by decide +kernel
theorem dX6_copyOf_32 : decode cX6_copyOf 32 = .ok (.getfield 15, 3) := by decide +kernel
theorem dX6_copyOf_35 : decode cX6_copyOf 35 = .ok (.invokestatic 37, 3) := by decide +kernel
theorem dX6_copyOf_38 : decode cX6_copyOf 38 = .ok (.aload_n 1, 1) := by decide +kernel
theorem dX6_copyOf_39 : decode cX6_copyOf 39 = .ok (.getfield 18, 3) := by decide +kernel
theorem dX6_copyOf_42 : decode cX6_copyOf 42 = .ok (.aload_n 0, 1) := by decide +kernel
theorem dX6_copyOf_43 : decode cX6_copyOf 43 = .ok (.getfield 18, 3) := by decide +kernel
theorem dX6_copyOf_46 : decode cX6_copyOf 46 = .ok (.invokestatic 37, 3) := by decide +kernel
theorem dX6_copyOf_49 : decode cX6_copyOf 49 = .ok (.aload_n 1, 1) := by decide +kernel
theorem dX6_copyOf_50 : decode cX6_copyOf 50 = .ok (.getfield 21, 3) := by decide +kernel
theorem dX6_copyOf_53 : decode cX6_copyOf 53 = .ok (.aload_n 0, 1) := by decide +kernel
theorem dX6_copyOf_54 : decode cX6_copyOf 54 = .ok (.getfield 21, 3) := by decide +kernel
theorem dX6_copyOf_57 : decode cX6_copyOf 57 = .ok (.invokestatic 37, 3) := by decide +kernel
theorem dX6_copyOf_60 : decode cX6_copyOf 60 = .ok (.aload_n 1, 1) := by decide +kernel
theorem dX6_copyOf_61 : decode cX6_copyOf 61 = .ok (.getfield 24, 3) := by decide +kernel
theorem dX6_copyOf_64 : decode cX6_copyOf 64 = .ok (.aload_n 0, 1) := by decide +kernel
theorem dX6_copyOf_65 : decode cX6_copyOf 65 = .ok (.getfield 24, 3) := by decide +kernel
theorem dX6_copyOf_68 : decode cX6_copyOf 68 = .ok (.invokestatic 37, 3) := by decide +kernel
theorem dX6_copyOf_71 : decode cX6_copyOf 71 = .ok (.aload_n 1, 1) := by decide +kernel
theorem dX6_copyOf_72 : decode cX6_copyOf 72 = .ok (.getfield 27, 3) := by decide +kernel
theorem dX6_copyOf_75 : decode cX6_copyOf 75 = .ok (.aload_n 0, 1) := by decide +kernel
theorem dX6_copyOf_76 : decode cX6_copyOf 76 = .ok (.getfield 27, 3) := by decide +kernel
theorem dX6_copyOf_79 : decode cX6_copyOf 79 = .ok (.invokestatic 37, 3) := by decide +kernel
theorem dX6_copyOf_82 : decode cX6_copyOf 82 = .ok (.return_, 1) := by decide +kernel
abbrev o_X6_copyOf_q99_q27 : Type := Int32 × Int32 × (Nat → Int32) × (Nat → Int32) × (Nat → Int32) × (Nat → Int32) × (Nat → Int32) × (Nat → Int32)
def f_X6_copyOf_q99_q27 (S : wd_W) : Option o_X6_copyOf_q99_q27 :=
lz ((S.1 2700)) fun x1 =>
lz ((S.1 2704)) fun x2 =>
some (x1, x2, (va_cpy (S.2.2.1 28) (S.2.2.1 100) 0 0 9), (va_cpy (S.2.2.1 29) (S.2.2.1 101) 0 0 9), (va_cpy (S.2.2.1 30) (S.2.2.1 102) 0 0 9), (va_cpy (S.2.2.1 31) (S.2.2.1 103) 0 0 6), (va_cpy (S.2.2.1 32) (S.2.2.1 104) 0 0 6), (va_cpy (S.2.2.1 33) (S.2.2.1 105) 0 0 6))
set_option maxRecDepth 100000 in
set_option maxHeartbeats 4000000 in
theorem c_X6_copyOf_q99_q27 (l : Launch) (D : va_G) (q g : Nat → Nat) (cy : Nat → ClassId) (z : (Nat → Nat) × (Nat → Nat) × Nat) (S : wd_W) (o : o_X6_copyOf_q99_q27) (hf : f_X6_copyOf_q99_q27 S = some o) : MX layX l yX6_copyOf cX6_copyOf 2 none ({ frames := 2, cells := 0, slots := 0, locals := 81 } : Room) D q g cy z [.ref (q 99), .ref (q 27)] S false (none) (wd_o S [(9900, o.1), (9904, o.2.1)] [] [(100, o.2.2.1), (101, o.2.2.2.1), (102, o.2.2.2.2.1), (103, o.2.2.2.2.2.1), (104, o.2.2.2.2.2.2.1), (105, o.2.2.2.2.2.2.2)] [] []) 0 0 := by
  refine mx_of (own := RX6) (lc := [(0, .ref (q 99)), (1, .ref (q 27))]) (by decide +kernel) rfl layX_ok (Nat.le_of_ble_eq_true rfl) rfl ?_
  intro X hXl hXq hXz hC hQ
  subst hXl; subst hXq; subst hXz
  unfold f_X6_copyOf_q99_q27 at hf
  refine go_keys (L1 := [(9900, (S.1 9900)), (9904, (S.1 9904))]) (L2 := []) (L3 := [(100, (S.2.2.1 100)), (101, (S.2.2.1 101)), (102, (S.2.2.1 102)), (103, (S.2.2.1 103)), (104, (S.2.2.1 104)), (105, (S.2.2.1 105))]) (L4 := []) (L5 := []) [9900, 9904] [] [100, 101, 102, 103, 104, 105] [] [] rfl rfl rfl rfl rfl ?_
  refine go_aload_n (pc' := 1) hC dX6_copyOf_0 rfl rfl ?_
  refine go_aload_n (pc' := 2) hC dX6_copyOf_1 rfl rfl ?_
  refine go_geti (v := (S.1 2700)) (pc' := 5) hC 27 0 layX_27 rfl rfl inlX6 (Nat.le_of_ble_eq_true rfl) mw_477 rfl dX6_copyOf_2 rfl rfl ?_
  refine go_namei (fun x1 hx => ?_)
  have hf := lz_r hx hf
  clear hx
  refine go_puti (L1' := [(9900, x1), (9904, (S.1 9904))]) (pc' := 8) hC 99 0 layX_99 rfl rfl inlX6 tyX6_ok nmX6 (Nat.le_of_ble_eq_true rfl) mw_477 rfl rfl rfl rfl dX6_copyOf_5 rfl rfl rfl ?_
  refine go_aload_n (pc' := 9) hC dX6_copyOf_8 rfl rfl ?_
  refine go_aload_n (pc' := 10) hC dX6_copyOf_9 rfl rfl ?_
  refine go_geti (v := (S.1 2704)) (pc' := 13) hC 27 4 layX_27 rfl rfl inlX6 (Nat.le_of_ble_eq_true rfl) mw_478 rfl dX6_copyOf_10 rfl rfl ?_
  refine go_namei (fun x2 hx => ?_)
  have hf := lz_r hx hf
  clear hx
  refine go_puti (L1' := [(9900, x1), (9904, x2)]) (pc' := 16) hC 99 4 layX_99 rfl rfl inlX6 tyX6_ok nmX6 (Nat.le_of_ble_eq_true rfl) mw_478 rfl rfl rfl rfl dX6_copyOf_13 rfl rfl rfl ?_
  refine go_aload_n (pc' := 17) hC dX6_copyOf_16 rfl rfl ?_
  refine go_getq (pc' := 20) hC 27 1 layX_27 rfl rfl inlX6 (Nat.le_of_ble_eq_true rfl) mw_81 rfl dX6_copyOf_17 rfl ?_
  refine go_aload_n (pc' := 21) hC dX6_copyOf_20 rfl rfl ?_
  refine go_getq (pc' := 24) hC 99 1 layX_99 rfl rfl inlX6 (Nat.le_of_ble_eq_true rfl) mw_81 rfl dX6_copyOf_21 rfl ?_
  refine go_callS1 (pc' := 27) (As := [.ref (x_q X 28), .ref (x_q X 100)]) (st := []) (st' := []) (L1' := [(9900, x1), (9904, x2)]) (L2' := []) (L3' := [(100, (va_cpy (S.2.2.1 28) (S.2.2.1 100) 0 0 9)), (101, (S.2.2.1 101)), (102, (S.2.2.1 102)), (103, (S.2.2.1 103)), (104, (S.2.2.1 104)), (105, (S.2.2.1 105))]) (L4' := []) (L5' := []) (cells' := 0) (slots' := 0) hC dX6_copyOf_24 ⟨mw_1517, mw_467, mw_14, yd_yX2_copyRow, yp_yX2_copyRow, Nat.le_of_ble_eq_true rfl, Nat.le_of_ble_eq_true rfl, Nat.le_of_ble_eq_true rfl, Nat.le_of_ble_eq_true rfl⟩ mw_466 rfl rfl (Nat.le_of_ble_eq_true rfl) (c_copyRow (x_l X) (x_D X) (x_q X) g (x_cy X) (x_z X) _ layX layX_ok 28 100 9 layX_28 layX_100 (by decide)) rfl rfl rfl rfl rfl rfl rfl rfl rfl rfl rfl rfl rfl rfl ?_
  refine go_aload_n (pc' := 28) hC dX6_copyOf_27 rfl rfl ?_
  refine go_getq (pc' := 31) hC 27 2 layX_27 rfl rfl inlX6 (Nat.le_of_ble_eq_true rfl) mw_82 rfl dX6_copyOf_28 rfl ?_
  refine go_aload_n (pc' := 32) hC dX6_copyOf_31 rfl rfl ?_
  refine go_getq (pc' := 35) hC 99 2 layX_99 rfl rfl inlX6 (Nat.le_of_ble_eq_true rfl) mw_82 rfl dX6_copyOf_32 rfl ?_
  refine go_callS1 (pc' := 38) (As := [.ref (x_q X 29), .ref (x_q X 101)]) (st := []) (st' := []) (L1' := [(9900, x1), (9904, x2)]) (L2' := []) (L3' := [(100, (va_cpy (S.2.2.1 28) (S.2.2.1 100) 0 0 9)), (101, (va_cpy (S.2.2.1 29) (S.2.2.1 101) 0 0 9)), (102, (S.2.2.1 102)), (103, (S.2.2.1 103)), (104, (S.2.2.1 104)), (105, (S.2.2.1 105))]) (L4' := []) (L5' := []) (cells' := 0) (slots' := 0) hC dX6_copyOf_35 ⟨mw_1517, mw_467, mw_14, yd_yX2_copyRow, yp_yX2_copyRow, Nat.le_of_ble_eq_true rfl, Nat.le_of_ble_eq_true rfl, Nat.le_of_ble_eq_true rfl, Nat.le_of_ble_eq_true rfl⟩ mw_466 rfl rfl (Nat.le_of_ble_eq_true rfl) (c_copyRow (x_l X) (x_D X) (x_q X) g (x_cy X) (x_z X) _ layX layX_ok 29 101 9 layX_29 layX_101 (by decide)) rfl rfl rfl rfl rfl rfl rfl rfl rfl rfl rfl rfl rfl rfl ?_
  refine go_aload_n (pc' := 39) hC dX6_copyOf_38 rfl rfl ?_
  refine go_getq (pc' := 42) hC 27 3 layX_27 rfl rfl inlX6 (Nat.le_of_ble_eq_true rfl) mw_83 rfl dX6_copyOf_39 rfl ?_
  refine go_aload_n (pc' := 43) hC dX6_copyOf_42 rfl rfl ?_
  refine go_getq (pc' := 46) hC 99 3 layX_99 rfl rfl inlX6 (Nat.le_of_ble_eq_true rfl) mw_83 rfl dX6_copyOf_43 rfl ?_
  refine go_callS1 (pc' := 49) (As := [.ref (x_q X 30), .ref (x_q X 102)]) (st := []) (st' := []) (L1' := [(9900, x1), (9904, x2)]) (L2' := []) (L3' := [(100, (va_cpy (S.2.2.1 28) (S.2.2.1 100) 0 0 9)), (101, (va_cpy (S.2.2.1 29) (S.2.2.1 101) 0 0 9)), (102, (va_cpy (S.2.2.1 30) (S.2.2.1 102) 0 0 9)), (103, (S.2.2.1 103)), (104, (S.2.2.1 104)), (105, (S.2.2.1 105))]) (L4' := []) (L5' := []) (cells' := 0) (slots' := 0) hC dX6_copyOf_46 ⟨mw_1517, mw_467, mw_14, yd_yX2_copyRow, yp_yX2_copyRow, Nat.le_of_ble_eq_true rfl, Nat.le_of_ble_eq_true rfl, Nat.le_of_ble_eq_true rfl, Nat.le_of_ble_eq_true rfl⟩ mw_466 rfl rfl (Nat.le_of_ble_eq_true rfl) (c_copyRow (x_l X) (x_D X) (x_q X) g (x_cy X) (x_z X) _ layX layX_ok 30 102 9 layX_30 layX_102 (by decide)) rfl rfl rfl rfl rfl rfl rfl rfl rfl rfl rfl rfl rfl rfl ?_
  refine go_aload_n (pc' := 50) hC dX6_copyOf_49 rfl rfl ?_
  refine go_getq (pc' := 53) hC 27 5 layX_27 rfl rfl inlX6 (Nat.le_of_ble_eq_true rfl) mw_84 rfl dX6_copyOf_50 rfl ?_
  refine go_aload_n (pc' := 54) hC dX6_copyOf_53 rfl rfl ?_
  refine go_getq (pc' := 57) hC 99 5 layX_99 rfl rfl inlX6 (Nat.le_of_ble_eq_true rfl) mw_84 rfl dX6_copyOf_54 rfl ?_
  refine go_callS1 (pc' := 60) (As := [.ref (x_q X 31), .ref (x_q X 103)]) (st := []) (st' := []) (L1' := [(9900, x1), (9904, x2)]) (L2' := []) (L3' := [(100, (va_cpy (S.2.2.1 28) (S.2.2.1 100) 0 0 9)), (101, (va_cpy (S.2.2.1 29) (S.2.2.1 101) 0 0 9)), (102, (va_cpy (S.2.2.1 30) (S.2.2.1 102) 0 0 9)), (103, (va_cpy (S.2.2.1 31) (S.2.2.1 103) 0 0 6)), (104, (S.2.2.1 104)), (105, (S.2.2.1 105))]) (L4' := []) (L5' := []) (cells' := 0) (slots' := 0) hC dX6_copyOf_57 ⟨mw_1517, mw_467, mw_14, yd_yX2_copyRow, yp_yX2_copyRow, Nat.le_of_ble_eq_true rfl, Nat.le_of_ble_eq_true rfl, Nat.le_of_ble_eq_true rfl, Nat.le_of_ble_eq_true rfl⟩ mw_466 rfl rfl (Nat.le_of_ble_eq_true rfl) (c_copyRow (x_l X) (x_D X) (x_q X) g (x_cy X) (x_z X) _ layX layX_ok 31 103 6 layX_31 layX_103 (by decide)) rfl rfl rfl rfl rfl rfl rfl rfl rfl rfl rfl rfl rfl rfl ?_
  refine go_aload_n (pc' := 61) hC dX6_copyOf_60 rfl rfl ?_
  refine go_getq (pc' := 64) hC 27 6 layX_27 rfl rfl inlX6 (Nat.le_of_ble_eq_true rfl) mw_85 rfl dX6_copyOf_61 rfl ?_
  refine go_aload_n (pc' := 65) hC dX6_copyOf_64 rfl rfl ?_
  refine go_getq (pc' := 68) hC 99 6 layX_99 rfl rfl inlX6 (Nat.le_of_ble_eq_true rfl) mw_85 rfl dX6_copyOf_65 rfl ?_
  refine go_callS1 (pc' := 71) (As := [.ref (x_q X 32), .ref (x_q X 104)]) (st := []) (st' := []) (L1' := [(9900, x1), (9904, x2)]) (L2' := []) (L3' := [(100, (va_cpy (S.2.2.1 28) (S.2.2.1 100) 0 0 9)), (101, (va_cpy (S.2.2.1 29) (S.2.2.1 101) 0 0 9)), (102, (va_cpy (S.2.2.1 30) (S.2.2.1 102) 0 0 9)), (103, (va_cpy (S.2.2.1 31) (S.2.2.1 103) 0 0 6)), (104, (va_cpy (S.2.2.1 32) (S.2.2.1 104) 0 0 6)), (105, (S.2.2.1 105))]) (L4' := []) (L5' := []) (cells' := 0) (slots' := 0) hC dX6_copyOf_68 ⟨mw_1517, mw_467, mw_14, yd_yX2_copyRow, yp_yX2_copyRow, Nat.le_of_ble_eq_true rfl, Nat.le_of_ble_eq_true rfl, Nat.le_of_ble_eq_true rfl, Nat.le_of_ble_eq_true rfl⟩ mw_466 rfl rfl (Nat.le_of_ble_eq_true rfl) (c_copyRow (x_l X) (x_D X) (x_q X) g (x_cy X) (x_z X) _ layX layX_ok 32 104 6 layX_32 layX_104 (by decide)) rfl rfl rfl rfl rfl rfl rfl rfl rfl rfl rfl rfl rfl rfl ?_
  refine go_aload_n (pc' := 72) hC dX6_copyOf_71 rfl rfl ?_
  refine go_getq (pc' := 75) hC 27 7 layX_27 rfl rfl inlX6 (Nat.le_of_ble_eq_true rfl) mw_86 rfl dX6_copyOf_72 rfl ?_
  refine go_aload_n (pc' := 76) hC dX6_copyOf_75 rfl rfl ?_
  refine go_getq (pc' := 79) hC 99 7 layX_99 rfl rfl inlX6 (Nat.le_of_ble_eq_true rfl) mw_86 rfl dX6_copyOf_76 rfl ?_
  refine go_callS1 (pc' := 82) (As := [.ref (x_q X 33), .ref (x_q X 105)]) (st := []) (st' := []) (L1' := [(9900, x1), (9904, x2)]) (L2' := []) (L3' := [(100, (va_cpy (S.2.2.1 28) (S.2.2.1 100) 0 0 9)), (101, (va_cpy (S.2.2.1 29) (S.2.2.1 101) 0 0 9)), (102, (va_cpy (S.2.2.1 30) (S.2.2.1 102) 0 0 9)), (103, (va_cpy (S.2.2.1 31) (S.2.2.1 103) 0 0 6)), (104, (va_cpy (S.2.2.1 32) (S.2.2.1 104) 0 0 6)), (105, (va_cpy (S.2.2.1 33) (S.2.2.1 105) 0 0 6))]) (L4' := []) (L5' := []) (cells' := 0) (slots' := 0) hC dX6_copyOf_79 ⟨mw_1517, mw_467, mw_14, yd_yX2_copyRow, yp_yX2_copyRow, Nat.le_of_ble_eq_true rfl, Nat.le_of_ble_eq_true rfl, Nat.le_of_ble_eq_true rfl, Nat.le_of_ble_eq_true rfl⟩ mw_466 rfl rfl (Nat.le_of_ble_eq_true rfl) (c_copyRow (x_l X) (x_D X) (x_q X) g (x_cy X) (x_z X) _ layX layX_ok 33 105 6 layX_33 layX_105 (by decide)) rfl rfl rfl rfl rfl rfl rfl rfl rfl rfl rfl rfl rfl rfl ?_
  obtain rfl := Option.some.inj hf
  exact go_vret hC hQ dX6_copyOf_82 rfl rfl rfl (fun _ => rfl) rfl rfl
abbrev o_X2_countBy_q56 : Type := Int32 × Int32 × Int32 × Int32
def f_X2_countBy_q56 (S : wd_W) (p1 : Int32) (p2 : Int32) (p3 : Int32) (p4 : Int32) : Option o_X2_countBy_q56 :=
some (p1, p2, p3, p4)
set_option maxRecDepth 100000 in
set_option maxHeartbeats 4000000 in
theorem c_X2_countBy_q56 (l : Launch) (D : va_G) (q g : Nat → Nat) (cy : Nat → ClassId) (z : (Nat → Nat) × (Nat → Nat) × Nat) (S : wd_W) (p1 : Int32) (p2 : Int32) (p3 : Int32) (p4 : Int32) (o : o_X2_countBy_q56) (hf : f_X2_countBy_q56 S p1 p2 p3 p4 = some o) : MX layX l yX2_countBy cX2_countBy 5 none ({ frames := 0, cells := 0, slots := 0, locals := 0 } : Room) D q g cy z [.ref (q 56), .int p1, .int p2, .int p3, .int p4] S false (none) (wd_o S [(5614, o.1), (5615, o.2.1), (5616, o.2.2.1), (5617, o.2.2.2)] [] [] [] []) 0 0 := by
  refine mx_of (own := RX2) (lc := [(0, .ref (q 56)), (1, .int p1), (2, .int p2), (3, .int p3), (4, .int p4)]) (by decide +kernel) rfl layX_ok (Nat.le_of_ble_eq_true rfl) rfl ?_
  intro X hXl hXq hXz hC hQ
  subst hXl; subst hXq; subst hXz
  unfold f_X2_countBy_q56 at hf
  refine go_keys (L1 := [(5614, (S.1 5614)), (5615, (S.1 5615)), (5616, (S.1 5616)), (5617, (S.1 5617))]) (L2 := []) (L3 := []) (L4 := []) (L5 := []) [5614, 5615, 5616, 5617] [] [] [] [] rfl rfl rfl rfl rfl ?_
  refine go_aload_n (pc' := 1) hC dX2_countBy_0 rfl rfl ?_
  refine go_iload_n (pc' := 2) hC dX2_countBy_1 rfl rfl ?_
  refine go_puti (L1' := [(5614, p1), (5615, (S.1 5615)), (5616, (S.1 5616)), (5617, (S.1 5617))]) (pc' := 5) hC 56 14 layX_56 rfl rfl inlX2 tyX2_ok nmX2 (Nat.le_of_ble_eq_true rfl) mw_70 rfl rfl rfl rfl dX2_countBy_2 rfl rfl rfl ?_
  refine go_aload_n (pc' := 6) hC dX2_countBy_5 rfl rfl ?_
  refine go_iload_n (pc' := 7) hC dX2_countBy_6 rfl rfl ?_
  refine go_puti (L1' := [(5614, p1), (5615, p2), (5616, (S.1 5616)), (5617, (S.1 5617))]) (pc' := 10) hC 56 15 layX_56 rfl rfl inlX2 tyX2_ok nmX2 (Nat.le_of_ble_eq_true rfl) mw_316 rfl rfl rfl rfl dX2_countBy_7 rfl rfl rfl ?_
  refine go_aload_n (pc' := 11) hC dX2_countBy_10 rfl rfl ?_
  refine go_iload_n (pc' := 12) hC dX2_countBy_11 rfl rfl ?_
  refine go_puti (L1' := [(5614, p1), (5615, p2), (5616, p3), (5617, (S.1 5617))]) (pc' := 15) hC 56 16 layX_56 rfl rfl inlX2 tyX2_ok nmX2 (Nat.le_of_ble_eq_true rfl) mw_317 rfl rfl rfl rfl dX2_countBy_12 rfl rfl rfl ?_
  refine go_aload_n (pc' := 16) hC dX2_countBy_15 rfl rfl ?_
  refine go_iload (pc' := 18) hC dX2_countBy_16 rfl rfl ?_
  refine go_puti (L1' := [(5614, p1), (5615, p2), (5616, p3), (5617, p4)]) (pc' := 21) hC 56 17 layX_56 rfl rfl inlX2 tyX2_ok nmX2 (Nat.le_of_ble_eq_true rfl) mw_318 rfl rfl rfl rfl dX2_countBy_18 rfl rfl rfl ?_
  obtain rfl := Option.some.inj hf
  exact go_vret hC hQ dX2_countBy_21 rfl rfl rfl (fun _ => rfl) rfl rfl
abbrev o_X2_copyOf_q56_q16 : Type := Int32 × Int32 × Int32 × Int32 × Int32 × Int32 × Int32 × Int32 × (Nat → Int32) × (Nat → Int32) × (Nat → Int32) × (Nat → Int32) × (Nat → Int32) × (Nat → Int32) × (Nat → Int32) × (Nat → Int32) × (Nat → Int32) × (Nat → Int32)
def f_X2_copyOf_q56_q16 (S : wd_W) : Option o_X2_copyOf_q56_q16 :=
lz ((S.1 1600)) fun x1 =>
lz ((S.1 1601)) fun x2 =>
lz ((S.1 1607)) fun x3 =>
lz ((S.1 1610)) fun x4 =>
bd (f_X2_countBy_q56 (wd_o S [(5600, x1), (5601, x2), (5607, x3), (5610, x4), (5614, (S.1 5614)), (5615, (S.1 5615)), (5616, (S.1 5616)), (5617, (S.1 5617))] [] [(57, (S.2.2.1 57)), (58, (S.2.2.1 58)), (59, (S.2.2.1 59)), (60, (S.2.2.1 60)), (61, (S.2.2.1 61)), (62, (S.2.2.1 62)), (63, (S.2.2.1 63)), (64, (S.2.2.1 64)), (65, (S.2.2.1 65)), (66, (S.2.2.1 66))] [] []) (S.1 1614) (S.1 1615) (S.1 1616) (S.1 1617)) fun o5 =>
some (x1, x2, x3, x4, o5.1, o5.2.1, o5.2.2.1, o5.2.2.2, (va_cpy (S.2.2.1 17) (S.2.2.1 57) 0 0 13), (va_cpy (S.2.2.1 18) (S.2.2.1 58) 0 0 13), (va_cpy (S.2.2.1 19) (S.2.2.1 59) 0 0 13), (va_cpy (S.2.2.1 20) (S.2.2.1 60) 0 0 13), (va_cpy (S.2.2.1 21) (S.2.2.1 61) 0 0 13), (va_cpy (S.2.2.1 22) (S.2.2.1 62) 0 0 10), (va_cpy (S.2.2.1 23) (S.2.2.1 63) 0 0 10), (va_cpy (S.2.2.1 24) (S.2.2.1 64) 0 0 3), (va_cpy (S.2.2.1 25) (S.2.2.1 65) 0 0 3), (va_cpy (S.2.2.1 26) (S.2.2.1 66) 0 0 3))
set_option maxRecDepth 100000 in
set_option maxHeartbeats 4000000 in
theorem c_X2_copyOf_q56_q16 (l : Launch) (D : va_G) (q g : Nat → Nat) (cy : Nat → ClassId) (z : (Nat → Nat) × (Nat → Nat) × Nat) (S : wd_W) (o : o_X2_copyOf_q56_q16) (hf : f_X2_copyOf_q56_q16 S = some o) : MX layX l yX2_copyOf cX2_copyOf 2 none ({ frames := 2, cells := 0, slots := 0, locals := 81 } : Room) D q g cy z [.ref (q 56), .ref (q 16)] S false (none) (wd_o S [(5600, o.1), (5601, o.2.1), (5607, o.2.2.1), (5610, o.2.2.2.1), (5614, o.2.2.2.2.1), (5615, o.2.2.2.2.2.1), (5616, o.2.2.2.2.2.2.1), (5617, o.2.2.2.2.2.2.2.1)] [] [(57, o.2.2.2.2.2.2.2.2.1), (58, o.2.2.2.2.2.2.2.2.2.1), (59, o.2.2.2.2.2.2.2.2.2.2.1), (60, o.2.2.2.2.2.2.2.2.2.2.2.1), (61, o.2.2.2.2.2.2.2.2.2.2.2.2.1), (62, o.2.2.2.2.2.2.2.2.2.2.2.2.2.1), (63, o.2.2.2.2.2.2.2.2.2.2.2.2.2.2.1), (64, o.2.2.2.2.2.2.2.2.2.2.2.2.2.2.2.1), (65, o.2.2.2.2.2.2.2.2.2.2.2.2.2.2.2.2.1), (66, o.2.2.2.2.2.2.2.2.2.2.2.2.2.2.2.2.2)] [] []) 0 0 := by
  refine mx_of (own := RX2) (lc := [(0, .ref (q 56)), (1, .ref (q 16))]) (by decide +kernel) rfl layX_ok (Nat.le_of_ble_eq_true rfl) rfl ?_
  intro X hXl hXq hXz hC hQ
  subst hXl; subst hXq; subst hXz
  unfold f_X2_copyOf_q56_q16 at hf
  refine go_keys (L1 := [(5600, (S.1 5600)), (5601, (S.1 5601)), (5607, (S.1 5607)), (5610, (S.1 5610)), (5614, (S.1 5614)), (5615, (S.1 5615)), (5616, (S.1 5616)), (5617, (S.1 5617))]) (L2 := []) (L3 := [(57, (S.2.2.1 57)), (58, (S.2.2.1 58)), (59, (S.2.2.1 59)), (60, (S.2.2.1 60)), (61, (S.2.2.1 61)), (62, (S.2.2.1 62)), (63, (S.2.2.1 63)), (64, (S.2.2.1 64)), (65, (S.2.2.1 65)), (66, (S.2.2.1 66))]) (L4 := []) (L5 := []) [5600, 5601, 5607, 5610, 5614, 5615, 5616, 5617] [] [57, 58, 59, 60, 61, 62, 63, 64, 65, 66] [] [] rfl rfl rfl rfl rfl ?_
  refine go_aload_n (pc' := 1) hC dX2_copyOf_0 rfl rfl ?_
  refine go_aload_n (pc' := 2) hC dX2_copyOf_1 rfl rfl ?_
  refine go_geti (v := (S.1 1600)) (pc' := 5) hC 16 0 layX_16 rfl rfl inlX2 (Nat.le_of_ble_eq_true rfl) mw_58 rfl dX2_copyOf_2 rfl rfl ?_
  refine go_namei (fun x1 hx => ?_)
  have hf := lz_r hx hf
  clear hx
  refine go_puti (L1' := [(5600, x1), (5601, (S.1 5601)), (5607, (S.1 5607)), (5610, (S.1 5610)), (5614, (S.1 5614)), (5615, (S.1 5615)), (5616, (S.1 5616)), (5617, (S.1 5617))]) (pc' := 8) hC 56 0 layX_56 rfl rfl inlX2 tyX2_ok nmX2 (Nat.le_of_ble_eq_true rfl) mw_58 rfl rfl rfl rfl dX2_copyOf_5 rfl rfl rfl ?_
  refine go_aload_n (pc' := 9) hC dX2_copyOf_8 rfl rfl ?_
  refine go_aload_n (pc' := 10) hC dX2_copyOf_9 rfl rfl ?_
  refine go_geti (v := (S.1 1601)) (pc' := 13) hC 16 1 layX_16 rfl rfl inlX2 (Nat.le_of_ble_eq_true rfl) mw_309 rfl dX2_copyOf_10 rfl rfl ?_
  refine go_namei (fun x2 hx => ?_)
  have hf := lz_r hx hf
  clear hx
  refine go_puti (L1' := [(5600, x1), (5601, x2), (5607, (S.1 5607)), (5610, (S.1 5610)), (5614, (S.1 5614)), (5615, (S.1 5615)), (5616, (S.1 5616)), (5617, (S.1 5617))]) (pc' := 16) hC 56 1 layX_56 rfl rfl inlX2 tyX2_ok nmX2 (Nat.le_of_ble_eq_true rfl) mw_309 rfl rfl rfl rfl dX2_copyOf_13 rfl rfl rfl ?_
  refine go_aload_n (pc' := 17) hC dX2_copyOf_16 rfl rfl ?_
  refine go_aload_n (pc' := 18) hC dX2_copyOf_17 rfl rfl ?_
  refine go_geti (v := (S.1 1607)) (pc' := 21) hC 16 7 layX_16 rfl rfl inlX2 (Nat.le_of_ble_eq_true rfl) mw_310 rfl dX2_copyOf_18 rfl rfl ?_
  refine go_namei (fun x3 hx => ?_)
  have hf := lz_r hx hf
  clear hx
  refine go_puti (L1' := [(5600, x1), (5601, x2), (5607, x3), (5610, (S.1 5610)), (5614, (S.1 5614)), (5615, (S.1 5615)), (5616, (S.1 5616)), (5617, (S.1 5617))]) (pc' := 24) hC 56 7 layX_56 rfl rfl inlX2 tyX2_ok nmX2 (Nat.le_of_ble_eq_true rfl) mw_310 rfl rfl rfl rfl dX2_copyOf_21 rfl rfl rfl ?_
  refine go_aload_n (pc' := 25) hC dX2_copyOf_24 rfl rfl ?_
  refine go_aload_n (pc' := 26) hC dX2_copyOf_25 rfl rfl ?_
  refine go_geti (v := (S.1 1610)) (pc' := 29) hC 16 10 layX_16 rfl rfl inlX2 (Nat.le_of_ble_eq_true rfl) mw_311 rfl dX2_copyOf_26 rfl rfl ?_
  refine go_namei (fun x4 hx => ?_)
  have hf := lz_r hx hf
  clear hx
  refine go_puti (L1' := [(5600, x1), (5601, x2), (5607, x3), (5610, x4), (5614, (S.1 5614)), (5615, (S.1 5615)), (5616, (S.1 5616)), (5617, (S.1 5617))]) (pc' := 32) hC 56 10 layX_56 rfl rfl inlX2 tyX2_ok nmX2 (Nat.le_of_ble_eq_true rfl) mw_311 rfl rfl rfl rfl dX2_copyOf_29 rfl rfl rfl ?_
  refine go_aload_n (pc' := 33) hC dX2_copyOf_32 rfl rfl ?_
  refine go_aload_n (pc' := 34) hC dX2_copyOf_33 rfl rfl ?_
  refine go_geti (v := (S.1 1614)) (pc' := 37) hC 16 14 layX_16 rfl rfl inlX2 (Nat.le_of_ble_eq_true rfl) mw_70 rfl dX2_copyOf_34 rfl rfl ?_
  refine go_aload_n (pc' := 38) hC dX2_copyOf_37 rfl rfl ?_
  refine go_geti (v := (S.1 1615)) (pc' := 41) hC 16 15 layX_16 rfl rfl inlX2 (Nat.le_of_ble_eq_true rfl) mw_316 rfl dX2_copyOf_38 rfl rfl ?_
  refine go_aload_n (pc' := 42) hC dX2_copyOf_41 rfl rfl ?_
  refine go_geti (v := (S.1 1616)) (pc' := 45) hC 16 16 layX_16 rfl rfl inlX2 (Nat.le_of_ble_eq_true rfl) mw_317 rfl dX2_copyOf_42 rfl rfl ?_
  refine go_aload_n (pc' := 46) hC dX2_copyOf_45 rfl rfl ?_
  refine go_geti (v := (S.1 1617)) (pc' := 49) hC 16 17 layX_16 rfl rfl inlX2 (Nat.le_of_ble_eq_true rfl) mw_318 rfl dX2_copyOf_46 rfl rfl ?_
  obtain ⟨o5, ho5, hf⟩ := bd_e hf
  refine go_callV1 (pc' := 52) (As := [.int (S.1 1614), .int (S.1 1615), .int (S.1 1616), .int (S.1 1617)]) (st := []) (st' := []) (L1' := [(5600, x1), (5601, x2), (5607, x3), (5610, x4), (5614, o5.1), (5615, o5.2.1), (5616, o5.2.2.1), (5617, o5.2.2.2)]) (L2' := []) (L3' := [(57, (S.2.2.1 57)), (58, (S.2.2.1 58)), (59, (S.2.2.1 59)), (60, (S.2.2.1 60)), (61, (S.2.2.1 61)), (62, (S.2.2.1 62)), (63, (S.2.2.1 63)), (64, (S.2.2.1 64)), (65, (S.2.2.1 65)), (66, (S.2.2.1 66))]) (L4' := []) (L5' := []) (cells' := 0) (slots' := 0)  (b := 56) hC dX2_copyOf_49 ⟨mw_312, mw_315, mw_14, yd_yX2_countBy, yp_yX2_countBy, Nat.le_of_ble_eq_true rfl, Nat.le_of_ble_eq_true rfl, (Nat.le_of_ble_eq_true rfl), (Nat.le_of_ble_eq_true rfl)⟩ mw_313 mw_314 layX_56 rfl rfl rfl (Nat.le_of_ble_eq_true rfl) (c_X2_countBy_q56 (x_l X) (x_D X) (x_q X) g (x_cy X) (x_z X) _ (S.1 1614) (S.1 1615) (S.1 1616) (S.1 1617) o5 ho5) rfl rfl rfl rfl rfl rfl rfl rfl rfl rfl rfl rfl rfl rfl ?_
  refine go_aload_n (pc' := 53) hC dX2_copyOf_52 rfl rfl ?_
  refine go_getq (pc' := 56) hC 16 2 layX_16 rfl rfl inlX2 (Nat.le_of_ble_eq_true rfl) mw_60 rfl dX2_copyOf_53 rfl ?_
  refine go_aload_n (pc' := 57) hC dX2_copyOf_56 rfl rfl ?_
  refine go_getq (pc' := 60) hC 56 2 layX_56 rfl rfl inlX2 (Nat.le_of_ble_eq_true rfl) mw_60 rfl dX2_copyOf_57 rfl ?_
  refine go_callS1 (pc' := 63) (As := [.ref (x_q X 17), .ref (x_q X 57)]) (st := []) (st' := []) (L1' := [(5600, x1), (5601, x2), (5607, x3), (5610, x4), (5614, o5.1), (5615, o5.2.1), (5616, o5.2.2.1), (5617, o5.2.2.2)]) (L2' := []) (L3' := [(57, (va_cpy (S.2.2.1 17) (S.2.2.1 57) 0 0 13)), (58, (S.2.2.1 58)), (59, (S.2.2.1 59)), (60, (S.2.2.1 60)), (61, (S.2.2.1 61)), (62, (S.2.2.1 62)), (63, (S.2.2.1 63)), (64, (S.2.2.1 64)), (65, (S.2.2.1 65)), (66, (S.2.2.1 66))]) (L4' := []) (L5' := []) (cells' := 0) (slots' := 0) hC dX2_copyOf_60 ⟨mw_465, mw_467, mw_14, yd_yX2_copyRow, yp_yX2_copyRow, Nat.le_of_ble_eq_true rfl, Nat.le_of_ble_eq_true rfl, Nat.le_of_ble_eq_true rfl, Nat.le_of_ble_eq_true rfl⟩ mw_466 rfl rfl (Nat.le_of_ble_eq_true rfl) (c_copyRow (x_l X) (x_D X) (x_q X) g (x_cy X) (x_z X) _ layX layX_ok 17 57 13 layX_17 layX_57 (by decide)) rfl rfl rfl rfl rfl rfl rfl rfl rfl rfl rfl rfl rfl rfl ?_
  refine go_aload_n (pc' := 64) hC dX2_copyOf_63 rfl rfl ?_
  refine go_getq (pc' := 67) hC 16 3 layX_16 rfl rfl inlX2 (Nat.le_of_ble_eq_true rfl) mw_61 rfl dX2_copyOf_64 rfl ?_
  refine go_aload_n (pc' := 68) hC dX2_copyOf_67 rfl rfl ?_
  refine go_getq (pc' := 71) hC 56 3 layX_56 rfl rfl inlX2 (Nat.le_of_ble_eq_true rfl) mw_61 rfl dX2_copyOf_68 rfl ?_
  refine go_callS1 (pc' := 74) (As := [.ref (x_q X 18), .ref (x_q X 58)]) (st := []) (st' := []) (L1' := [(5600, x1), (5601, x2), (5607, x3), (5610, x4), (5614, o5.1), (5615, o5.2.1), (5616, o5.2.2.1), (5617, o5.2.2.2)]) (L2' := []) (L3' := [(57, (va_cpy (S.2.2.1 17) (S.2.2.1 57) 0 0 13)), (58, (va_cpy (S.2.2.1 18) (S.2.2.1 58) 0 0 13)), (59, (S.2.2.1 59)), (60, (S.2.2.1 60)), (61, (S.2.2.1 61)), (62, (S.2.2.1 62)), (63, (S.2.2.1 63)), (64, (S.2.2.1 64)), (65, (S.2.2.1 65)), (66, (S.2.2.1 66))]) (L4' := []) (L5' := []) (cells' := 0) (slots' := 0) hC dX2_copyOf_71 ⟨mw_465, mw_467, mw_14, yd_yX2_copyRow, yp_yX2_copyRow, Nat.le_of_ble_eq_true rfl, Nat.le_of_ble_eq_true rfl, Nat.le_of_ble_eq_true rfl, Nat.le_of_ble_eq_true rfl⟩ mw_466 rfl rfl (Nat.le_of_ble_eq_true rfl) (c_copyRow (x_l X) (x_D X) (x_q X) g (x_cy X) (x_z X) _ layX layX_ok 18 58 13 layX_18 layX_58 (by decide)) rfl rfl rfl rfl rfl rfl rfl rfl rfl rfl rfl rfl rfl rfl ?_
  refine go_aload_n (pc' := 75) hC dX2_copyOf_74 rfl rfl ?_
  refine go_getq (pc' := 78) hC 16 4 layX_16 rfl rfl inlX2 (Nat.le_of_ble_eq_true rfl) mw_62 rfl dX2_copyOf_75 rfl ?_
  refine go_aload_n (pc' := 79) hC dX2_copyOf_78 rfl rfl ?_
  refine go_getq (pc' := 82) hC 56 4 layX_56 rfl rfl inlX2 (Nat.le_of_ble_eq_true rfl) mw_62 rfl dX2_copyOf_79 rfl ?_
  refine go_callS1 (pc' := 85) (As := [.ref (x_q X 19), .ref (x_q X 59)]) (st := []) (st' := []) (L1' := [(5600, x1), (5601, x2), (5607, x3), (5610, x4), (5614, o5.1), (5615, o5.2.1), (5616, o5.2.2.1), (5617, o5.2.2.2)]) (L2' := []) (L3' := [(57, (va_cpy (S.2.2.1 17) (S.2.2.1 57) 0 0 13)), (58, (va_cpy (S.2.2.1 18) (S.2.2.1 58) 0 0 13)), (59, (va_cpy (S.2.2.1 19) (S.2.2.1 59) 0 0 13)), (60, (S.2.2.1 60)), (61, (S.2.2.1 61)), (62, (S.2.2.1 62)), (63, (S.2.2.1 63)), (64, (S.2.2.1 64)), (65, (S.2.2.1 65)), (66, (S.2.2.1 66))]) (L4' := []) (L5' := []) (cells' := 0) (slots' := 0) hC dX2_copyOf_82 ⟨mw_465, mw_467, mw_14, yd_yX2_copyRow, yp_yX2_copyRow, Nat.le_of_ble_eq_true rfl, Nat.le_of_ble_eq_true rfl, Nat.le_of_ble_eq_true rfl, Nat.le_of_ble_eq_true rfl⟩ mw_466 rfl rfl (Nat.le_of_ble_eq_true rfl) (c_copyRow (x_l X) (x_D X) (x_q X) g (x_cy X) (x_z X) _ layX layX_ok 19 59 13 layX_19 layX_59 (by decide)) rfl rfl rfl rfl rfl rfl rfl rfl rfl rfl rfl rfl rfl rfl ?_
  refine go_aload_n (pc' := 86) hC dX2_copyOf_85 rfl rfl ?_
  refine go_getq (pc' := 89) hC 16 5 layX_16 rfl rfl inlX2 (Nat.le_of_ble_eq_true rfl) mw_63 rfl dX2_copyOf_86 rfl ?_
  refine go_aload_n (pc' := 90) hC dX2_copyOf_89 rfl rfl ?_
  refine go_getq (pc' := 93) hC 56 5 layX_56 rfl rfl inlX2 (Nat.le_of_ble_eq_true rfl) mw_63 rfl dX2_copyOf_90 rfl ?_
  refine go_callS1 (pc' := 96) (As := [.ref (x_q X 20), .ref (x_q X 60)]) (st := []) (st' := []) (L1' := [(5600, x1), (5601, x2), (5607, x3), (5610, x4), (5614, o5.1), (5615, o5.2.1), (5616, o5.2.2.1), (5617, o5.2.2.2)]) (L2' := []) (L3' := [(57, (va_cpy (S.2.2.1 17) (S.2.2.1 57) 0 0 13)), (58, (va_cpy (S.2.2.1 18) (S.2.2.1 58) 0 0 13)), (59, (va_cpy (S.2.2.1 19) (S.2.2.1 59) 0 0 13)), (60, (va_cpy (S.2.2.1 20) (S.2.2.1 60) 0 0 13)), (61, (S.2.2.1 61)), (62, (S.2.2.1 62)), (63, (S.2.2.1 63)), (64, (S.2.2.1 64)), (65, (S.2.2.1 65)), (66, (S.2.2.1 66))]) (L4' := []) (L5' := []) (cells' := 0) (slots' := 0) hC dX2_copyOf_93 ⟨mw_465, mw_467, mw_14, yd_yX2_copyRow, yp_yX2_copyRow, Nat.le_of_ble_eq_true rfl, Nat.le_of_ble_eq_true rfl, Nat.le_of_ble_eq_true rfl, Nat.le_of_ble_eq_true rfl⟩ mw_466 rfl rfl (Nat.le_of_ble_eq_true rfl) (c_copyRow (x_l X) (x_D X) (x_q X) g (x_cy X) (x_z X) _ layX layX_ok 20 60 13 layX_20 layX_60 (by decide)) rfl rfl rfl rfl rfl rfl rfl rfl rfl rfl rfl rfl rfl rfl ?_
  refine go_aload_n (pc' := 97) hC dX2_copyOf_96 rfl rfl ?_
  refine go_getq (pc' := 100) hC 16 6 layX_16 rfl rfl inlX2 (Nat.le_of_ble_eq_true rfl) mw_64 rfl dX2_copyOf_97 rfl ?_
  refine go_aload_n (pc' := 101) hC dX2_copyOf_100 rfl rfl ?_
  refine go_getq (pc' := 104) hC 56 6 layX_56 rfl rfl inlX2 (Nat.le_of_ble_eq_true rfl) mw_64 rfl dX2_copyOf_101 rfl ?_
  refine go_callS1 (pc' := 107) (As := [.ref (x_q X 21), .ref (x_q X 61)]) (st := []) (st' := []) (L1' := [(5600, x1), (5601, x2), (5607, x3), (5610, x4), (5614, o5.1), (5615, o5.2.1), (5616, o5.2.2.1), (5617, o5.2.2.2)]) (L2' := []) (L3' := [(57, (va_cpy (S.2.2.1 17) (S.2.2.1 57) 0 0 13)), (58, (va_cpy (S.2.2.1 18) (S.2.2.1 58) 0 0 13)), (59, (va_cpy (S.2.2.1 19) (S.2.2.1 59) 0 0 13)), (60, (va_cpy (S.2.2.1 20) (S.2.2.1 60) 0 0 13)), (61, (va_cpy (S.2.2.1 21) (S.2.2.1 61) 0 0 13)), (62, (S.2.2.1 62)), (63, (S.2.2.1 63)), (64, (S.2.2.1 64)), (65, (S.2.2.1 65)), (66, (S.2.2.1 66))]) (L4' := []) (L5' := []) (cells' := 0) (slots' := 0) hC dX2_copyOf_104 ⟨mw_465, mw_467, mw_14, yd_yX2_copyRow, yp_yX2_copyRow, Nat.le_of_ble_eq_true rfl, Nat.le_of_ble_eq_true rfl, Nat.le_of_ble_eq_true rfl, Nat.le_of_ble_eq_true rfl⟩ mw_466 rfl rfl (Nat.le_of_ble_eq_true rfl) (c_copyRow (x_l X) (x_D X) (x_q X) g (x_cy X) (x_z X) _ layX layX_ok 21 61 13 layX_21 layX_61 (by decide)) rfl rfl rfl rfl rfl rfl rfl rfl rfl rfl rfl rfl rfl rfl ?_
  refine go_aload_n (pc' := 108) hC dX2_copyOf_107 rfl rfl ?_
  refine go_getq (pc' := 111) hC 16 8 layX_16 rfl rfl inlX2 (Nat.le_of_ble_eq_true rfl) mw_65 rfl dX2_copyOf_108 rfl ?_
  refine go_aload_n (pc' := 112) hC dX2_copyOf_111 rfl rfl ?_
  refine go_getq (pc' := 115) hC 56 8 layX_56 rfl rfl inlX2 (Nat.le_of_ble_eq_true rfl) mw_65 rfl dX2_copyOf_112 rfl ?_
  refine go_callS1 (pc' := 118) (As := [.ref (x_q X 22), .ref (x_q X 62)]) (st := []) (st' := []) (L1' := [(5600, x1), (5601, x2), (5607, x3), (5610, x4), (5614, o5.1), (5615, o5.2.1), (5616, o5.2.2.1), (5617, o5.2.2.2)]) (L2' := []) (L3' := [(57, (va_cpy (S.2.2.1 17) (S.2.2.1 57) 0 0 13)), (58, (va_cpy (S.2.2.1 18) (S.2.2.1 58) 0 0 13)), (59, (va_cpy (S.2.2.1 19) (S.2.2.1 59) 0 0 13)), (60, (va_cpy (S.2.2.1 20) (S.2.2.1 60) 0 0 13)), (61, (va_cpy (S.2.2.1 21) (S.2.2.1 61) 0 0 13)), (62, (va_cpy (S.2.2.1 22) (S.2.2.1 62) 0 0 10)), (63, (S.2.2.1 63)), (64, (S.2.2.1 64)), (65, (S.2.2.1 65)), (66, (S.2.2.1 66))]) (L4' := []) (L5' := []) (cells' := 0) (slots' := 0) hC dX2_copyOf_115 ⟨mw_465, mw_467, mw_14, yd_yX2_copyRow, yp_yX2_copyRow, Nat.le_of_ble_eq_true rfl, Nat.le_of_ble_eq_true rfl, Nat.le_of_ble_eq_true rfl, Nat.le_of_ble_eq_true rfl⟩ mw_466 rfl rfl (Nat.le_of_ble_eq_true rfl) (c_copyRow (x_l X) (x_D X) (x_q X) g (x_cy X) (x_z X) _ layX layX_ok 22 62 10 layX_22 layX_62 (by decide)) rfl rfl rfl rfl rfl rfl rfl rfl rfl rfl rfl rfl rfl rfl ?_
  refine go_aload_n (pc' := 119) hC dX2_copyOf_118 rfl rfl ?_
  refine go_getq (pc' := 122) hC 16 9 layX_16 rfl rfl inlX2 (Nat.le_of_ble_eq_true rfl) mw_66 rfl dX2_copyOf_119 rfl ?_
  refine go_aload_n (pc' := 123) hC dX2_copyOf_122 rfl rfl ?_
  refine go_getq (pc' := 126) hC 56 9 layX_56 rfl rfl inlX2 (Nat.le_of_ble_eq_true rfl) mw_66 rfl dX2_copyOf_123 rfl ?_
  refine go_callS1 (pc' := 129) (As := [.ref (x_q X 23), .ref (x_q X 63)]) (st := []) (st' := []) (L1' := [(5600, x1), (5601, x2), (5607, x3), (5610, x4), (5614, o5.1), (5615, o5.2.1), (5616, o5.2.2.1), (5617, o5.2.2.2)]) (L2' := []) (L3' := [(57, (va_cpy (S.2.2.1 17) (S.2.2.1 57) 0 0 13)), (58, (va_cpy (S.2.2.1 18) (S.2.2.1 58) 0 0 13)), (59, (va_cpy (S.2.2.1 19) (S.2.2.1 59) 0 0 13)), (60, (va_cpy (S.2.2.1 20) (S.2.2.1 60) 0 0 13)), (61, (va_cpy (S.2.2.1 21) (S.2.2.1 61) 0 0 13)), (62, (va_cpy (S.2.2.1 22) (S.2.2.1 62) 0 0 10)), (63, (va_cpy (S.2.2.1 23) (S.2.2.1 63) 0 0 10)), (64, (S.2.2.1 64)), (65, (S.2.2.1 65)), (66, (S.2.2.1 66))]) (L4' := []) (L5' := []) (cells' := 0) (slots' := 0) hC dX2_copyOf_126 ⟨mw_465, mw_467, mw_14, yd_yX2_copyRow, yp_yX2_copyRow, Nat.le_of_ble_eq_true rfl, Nat.le_of_ble_eq_true rfl, Nat.le_of_ble_eq_true rfl, Nat.le_of_ble_eq_true rfl⟩ mw_466 rfl rfl (Nat.le_of_ble_eq_true rfl) (c_copyRow (x_l X) (x_D X) (x_q X) g (x_cy X) (x_z X) _ layX layX_ok 23 63 10 layX_23 layX_63 (by decide)) rfl rfl rfl rfl rfl rfl rfl rfl rfl rfl rfl rfl rfl rfl ?_
  refine go_aload_n (pc' := 130) hC dX2_copyOf_129 rfl rfl ?_
  refine go_getq (pc' := 133) hC 16 11 layX_16 rfl rfl inlX2 (Nat.le_of_ble_eq_true rfl) mw_67 rfl dX2_copyOf_130 rfl ?_
  refine go_aload_n (pc' := 134) hC dX2_copyOf_133 rfl rfl ?_
  refine go_getq (pc' := 137) hC 56 11 layX_56 rfl rfl inlX2 (Nat.le_of_ble_eq_true rfl) mw_67 rfl dX2_copyOf_134 rfl ?_
  refine go_callS1 (pc' := 140) (As := [.ref (x_q X 24), .ref (x_q X 64)]) (st := []) (st' := []) (L1' := [(5600, x1), (5601, x2), (5607, x3), (5610, x4), (5614, o5.1), (5615, o5.2.1), (5616, o5.2.2.1), (5617, o5.2.2.2)]) (L2' := []) (L3' := [(57, (va_cpy (S.2.2.1 17) (S.2.2.1 57) 0 0 13)), (58, (va_cpy (S.2.2.1 18) (S.2.2.1 58) 0 0 13)), (59, (va_cpy (S.2.2.1 19) (S.2.2.1 59) 0 0 13)), (60, (va_cpy (S.2.2.1 20) (S.2.2.1 60) 0 0 13)), (61, (va_cpy (S.2.2.1 21) (S.2.2.1 61) 0 0 13)), (62, (va_cpy (S.2.2.1 22) (S.2.2.1 62) 0 0 10)), (63, (va_cpy (S.2.2.1 23) (S.2.2.1 63) 0 0 10)), (64, (va_cpy (S.2.2.1 24) (S.2.2.1 64) 0 0 3)), (65, (S.2.2.1 65)), (66, (S.2.2.1 66))]) (L4' := []) (L5' := []) (cells' := 0) (slots' := 0) hC dX2_copyOf_137 ⟨mw_465, mw_467, mw_14, yd_yX2_copyRow, yp_yX2_copyRow, Nat.le_of_ble_eq_true rfl, Nat.le_of_ble_eq_true rfl, Nat.le_of_ble_eq_true rfl, Nat.le_of_ble_eq_true rfl⟩ mw_466 rfl rfl (Nat.le_of_ble_eq_true rfl) (c_copyRow (x_l X) (x_D X) (x_q X) g (x_cy X) (x_z X) _ layX layX_ok 24 64 3 layX_24 layX_64 (by decide)) rfl rfl rfl rfl rfl rfl rfl rfl rfl rfl rfl rfl rfl rfl ?_
  refine go_aload_n (pc' := 141) hC dX2_copyOf_140 rfl rfl ?_
  refine go_getq (pc' := 144) hC 16 12 layX_16 rfl rfl inlX2 (Nat.le_of_ble_eq_true rfl) mw_68 rfl dX2_copyOf_141 rfl ?_
  refine go_aload_n (pc' := 145) hC dX2_copyOf_144 rfl rfl ?_
  refine go_getq (pc' := 148) hC 56 12 layX_56 rfl rfl inlX2 (Nat.le_of_ble_eq_true rfl) mw_68 rfl dX2_copyOf_145 rfl ?_
  refine go_callS1 (pc' := 151) (As := [.ref (x_q X 25), .ref (x_q X 65)]) (st := []) (st' := []) (L1' := [(5600, x1), (5601, x2), (5607, x3), (5610, x4), (5614, o5.1), (5615, o5.2.1), (5616, o5.2.2.1), (5617, o5.2.2.2)]) (L2' := []) (L3' := [(57, (va_cpy (S.2.2.1 17) (S.2.2.1 57) 0 0 13)), (58, (va_cpy (S.2.2.1 18) (S.2.2.1 58) 0 0 13)), (59, (va_cpy (S.2.2.1 19) (S.2.2.1 59) 0 0 13)), (60, (va_cpy (S.2.2.1 20) (S.2.2.1 60) 0 0 13)), (61, (va_cpy (S.2.2.1 21) (S.2.2.1 61) 0 0 13)), (62, (va_cpy (S.2.2.1 22) (S.2.2.1 62) 0 0 10)), (63, (va_cpy (S.2.2.1 23) (S.2.2.1 63) 0 0 10)), (64, (va_cpy (S.2.2.1 24) (S.2.2.1 64) 0 0 3)), (65, (va_cpy (S.2.2.1 25) (S.2.2.1 65) 0 0 3)), (66, (S.2.2.1 66))]) (L4' := []) (L5' := []) (cells' := 0) (slots' := 0) hC dX2_copyOf_148 ⟨mw_465, mw_467, mw_14, yd_yX2_copyRow, yp_yX2_copyRow, Nat.le_of_ble_eq_true rfl, Nat.le_of_ble_eq_true rfl, Nat.le_of_ble_eq_true rfl, Nat.le_of_ble_eq_true rfl⟩ mw_466 rfl rfl (Nat.le_of_ble_eq_true rfl) (c_copyRow (x_l X) (x_D X) (x_q X) g (x_cy X) (x_z X) _ layX layX_ok 25 65 3 layX_25 layX_65 (by decide)) rfl rfl rfl rfl rfl rfl rfl rfl rfl rfl rfl rfl rfl rfl ?_
  refine go_aload_n (pc' := 152) hC dX2_copyOf_151 rfl rfl ?_
  refine go_getq (pc' := 155) hC 16 13 layX_16 rfl rfl inlX2 (Nat.le_of_ble_eq_true rfl) mw_69 rfl dX2_copyOf_152 rfl ?_
  refine go_aload_n (pc' := 156) hC dX2_copyOf_155 rfl rfl ?_
  refine go_getq (pc' := 159) hC 56 13 layX_56 rfl rfl inlX2 (Nat.le_of_ble_eq_true rfl) mw_69 rfl dX2_copyOf_156 rfl ?_
  refine go_callS1 (pc' := 162) (As := [.ref (x_q X 26), .ref (x_q X 66)]) (st := []) (st' := []) (L1' := [(5600, x1), (5601, x2), (5607, x3), (5610, x4), (5614, o5.1), (5615, o5.2.1), (5616, o5.2.2.1), (5617, o5.2.2.2)]) (L2' := []) (L3' := [(57, (va_cpy (S.2.2.1 17) (S.2.2.1 57) 0 0 13)), (58, (va_cpy (S.2.2.1 18) (S.2.2.1 58) 0 0 13)), (59, (va_cpy (S.2.2.1 19) (S.2.2.1 59) 0 0 13)), (60, (va_cpy (S.2.2.1 20) (S.2.2.1 60) 0 0 13)), (61, (va_cpy (S.2.2.1 21) (S.2.2.1 61) 0 0 13)), (62, (va_cpy (S.2.2.1 22) (S.2.2.1 62) 0 0 10)), (63, (va_cpy (S.2.2.1 23) (S.2.2.1 63) 0 0 10)), (64, (va_cpy (S.2.2.1 24) (S.2.2.1 64) 0 0 3)), (65, (va_cpy (S.2.2.1 25) (S.2.2.1 65) 0 0 3)), (66, (va_cpy (S.2.2.1 26) (S.2.2.1 66) 0 0 3))]) (L4' := []) (L5' := []) (cells' := 0) (slots' := 0) hC dX2_copyOf_159 ⟨mw_465, mw_467, mw_14, yd_yX2_copyRow, yp_yX2_copyRow, Nat.le_of_ble_eq_true rfl, Nat.le_of_ble_eq_true rfl, Nat.le_of_ble_eq_true rfl, Nat.le_of_ble_eq_true rfl⟩ mw_466 rfl rfl (Nat.le_of_ble_eq_true rfl) (c_copyRow (x_l X) (x_D X) (x_q X) g (x_cy X) (x_z X) _ layX layX_ok 26 66 3 layX_26 layX_66 (by decide)) rfl rfl rfl rfl rfl rfl rfl rfl rfl rfl rfl rfl rfl rfl ?_
  obtain rfl := Option.some.inj hf
  exact go_vret hC hQ dX2_copyOf_162 rfl rfl rfl (fun _ => rfl) rfl rfl
abbrev o_X6_copyOf_q92_q27 : Type := Int32 × Int32 × (Nat → Int32) × (Nat → Int32) × (Nat → Int32) × (Nat → Int32) × (Nat → Int32) × (Nat → Int32)
def f_X6_copyOf_q92_q27 (S : wd_W) : Option o_X6_copyOf_q92_q27 :=
lz ((S.1 2700)) fun x1 =>
lz ((S.1 2704)) fun x2 =>
some (x1, x2, (va_cpy (S.2.2.1 28) (S.2.2.1 93) 0 0 9), (va_cpy (S.2.2.1 29) (S.2.2.1 94) 0 0 9), (va_cpy (S.2.2.1 30) (S.2.2.1 95) 0 0 9), (va_cpy (S.2.2.1 31) (S.2.2.1 96) 0 0 6), (va_cpy (S.2.2.1 32) (S.2.2.1 97) 0 0 6), (va_cpy (S.2.2.1 33) (S.2.2.1 98) 0 0 6))
set_option maxRecDepth 100000 in
set_option maxHeartbeats 4000000 in
theorem c_X6_copyOf_q92_q27 (l : Launch) (D : va_G) (q g : Nat → Nat) (cy : Nat → ClassId) (z : (Nat → Nat) × (Nat → Nat) × Nat) (S : wd_W) (o : o_X6_copyOf_q92_q27) (hf : f_X6_copyOf_q92_q27 S = some o) : MX layX l yX6_copyOf cX6_copyOf 2 none ({ frames := 2, cells := 0, slots := 0, locals := 81 } : Room) D q g cy z [.ref (q 92), .ref (q 27)] S false (none) (wd_o S [(9200, o.1), (9204, o.2.1)] [] [(93, o.2.2.1), (94, o.2.2.2.1), (95, o.2.2.2.2.1), (96, o.2.2.2.2.2.1), (97, o.2.2.2.2.2.2.1), (98, o.2.2.2.2.2.2.2)] [] []) 0 0 := by
  refine mx_of (own := RX6) (lc := [(0, .ref (q 92)), (1, .ref (q 27))]) (by decide +kernel) rfl layX_ok (Nat.le_of_ble_eq_true rfl) rfl ?_
  intro X hXl hXq hXz hC hQ
  subst hXl; subst hXq; subst hXz
  unfold f_X6_copyOf_q92_q27 at hf
  refine go_keys (L1 := [(9200, (S.1 9200)), (9204, (S.1 9204))]) (L2 := []) (L3 := [(93, (S.2.2.1 93)), (94, (S.2.2.1 94)), (95, (S.2.2.1 95)), (96, (S.2.2.1 96)), (97, (S.2.2.1 97)), (98, (S.2.2.1 98))]) (L4 := []) (L5 := []) [9200, 9204] [] [93, 94, 95, 96, 97, 98] [] [] rfl rfl rfl rfl rfl ?_
  refine go_aload_n (pc' := 1) hC dX6_copyOf_0 rfl rfl ?_
  refine go_aload_n (pc' := 2) hC dX6_copyOf_1 rfl rfl ?_
  refine go_geti (v := (S.1 2700)) (pc' := 5) hC 27 0 layX_27 rfl rfl inlX6 (Nat.le_of_ble_eq_true rfl) mw_477 rfl dX6_copyOf_2 rfl rfl ?_
  refine go_namei (fun x1 hx => ?_)
  have hf := lz_r hx hf
  clear hx
  refine go_puti (L1' := [(9200, x1), (9204, (S.1 9204))]) (pc' := 8) hC 92 0 layX_92 rfl rfl inlX6 tyX6_ok nmX6 (Nat.le_of_ble_eq_true rfl) mw_477 rfl rfl rfl rfl dX6_copyOf_5 rfl rfl rfl ?_
  refine go_aload_n (pc' := 9) hC dX6_copyOf_8 rfl rfl ?_
  refine go_aload_n (pc' := 10) hC dX6_copyOf_9 rfl rfl ?_
  refine go_geti (v := (S.1 2704)) (pc' := 13) hC 27 4 layX_27 rfl rfl inlX6 (Nat.le_of_ble_eq_true rfl) mw_478 rfl dX6_copyOf_10 rfl rfl ?_
  refine go_namei (fun x2 hx => ?_)
  have hf := lz_r hx hf
  clear hx
  refine go_puti (L1' := [(9200, x1), (9204, x2)]) (pc' := 16) hC 92 4 layX_92 rfl rfl inlX6 tyX6_ok nmX6 (Nat.le_of_ble_eq_true rfl) mw_478 rfl rfl rfl rfl dX6_copyOf_13 rfl rfl rfl ?_
  refine go_aload_n (pc' := 17) hC dX6_copyOf_16 rfl rfl ?_
  refine go_getq (pc' := 20) hC 27 1 layX_27 rfl rfl inlX6 (Nat.le_of_ble_eq_true rfl) mw_81 rfl dX6_copyOf_17 rfl ?_
  refine go_aload_n (pc' := 21) hC dX6_copyOf_20 rfl rfl ?_
  refine go_getq (pc' := 24) hC 92 1 layX_92 rfl rfl inlX6 (Nat.le_of_ble_eq_true rfl) mw_81 rfl dX6_copyOf_21 rfl ?_
  refine go_callS1 (pc' := 27) (As := [.ref (x_q X 28), .ref (x_q X 93)]) (st := []) (st' := []) (L1' := [(9200, x1), (9204, x2)]) (L2' := []) (L3' := [(93, (va_cpy (S.2.2.1 28) (S.2.2.1 93) 0 0 9)), (94, (S.2.2.1 94)), (95, (S.2.2.1 95)), (96, (S.2.2.1 96)), (97, (S.2.2.1 97)), (98, (S.2.2.1 98))]) (L4' := []) (L5' := []) (cells' := 0) (slots' := 0) hC dX6_copyOf_24 ⟨mw_1517, mw_467, mw_14, yd_yX2_copyRow, yp_yX2_copyRow, Nat.le_of_ble_eq_true rfl, Nat.le_of_ble_eq_true rfl, Nat.le_of_ble_eq_true rfl, Nat.le_of_ble_eq_true rfl⟩ mw_466 rfl rfl (Nat.le_of_ble_eq_true rfl) (c_copyRow (x_l X) (x_D X) (x_q X) g (x_cy X) (x_z X) _ layX layX_ok 28 93 9 layX_28 layX_93 (by decide)) rfl rfl rfl rfl rfl rfl rfl rfl rfl rfl rfl rfl rfl rfl ?_
  refine go_aload_n (pc' := 28) hC dX6_copyOf_27 rfl rfl ?_
  refine go_getq (pc' := 31) hC 27 2 layX_27 rfl rfl inlX6 (Nat.le_of_ble_eq_true rfl) mw_82 rfl dX6_copyOf_28 rfl ?_
  refine go_aload_n (pc' := 32) hC dX6_copyOf_31 rfl rfl ?_
  refine go_getq (pc' := 35) hC 92 2 layX_92 rfl rfl inlX6 (Nat.le_of_ble_eq_true rfl) mw_82 rfl dX6_copyOf_32 rfl ?_
  refine go_callS1 (pc' := 38) (As := [.ref (x_q X 29), .ref (x_q X 94)]) (st := []) (st' := []) (L1' := [(9200, x1), (9204, x2)]) (L2' := []) (L3' := [(93, (va_cpy (S.2.2.1 28) (S.2.2.1 93) 0 0 9)), (94, (va_cpy (S.2.2.1 29) (S.2.2.1 94) 0 0 9)), (95, (S.2.2.1 95)), (96, (S.2.2.1 96)), (97, (S.2.2.1 97)), (98, (S.2.2.1 98))]) (L4' := []) (L5' := []) (cells' := 0) (slots' := 0) hC dX6_copyOf_35 ⟨mw_1517, mw_467, mw_14, yd_yX2_copyRow, yp_yX2_copyRow, Nat.le_of_ble_eq_true rfl, Nat.le_of_ble_eq_true rfl, Nat.le_of_ble_eq_true rfl, Nat.le_of_ble_eq_true rfl⟩ mw_466 rfl rfl (Nat.le_of_ble_eq_true rfl) (c_copyRow (x_l X) (x_D X) (x_q X) g (x_cy X) (x_z X) _ layX layX_ok 29 94 9 layX_29 layX_94 (by decide)) rfl rfl rfl rfl rfl rfl rfl rfl rfl rfl rfl rfl rfl rfl ?_
  refine go_aload_n (pc' := 39) hC dX6_copyOf_38 rfl rfl ?_
  refine go_getq (pc' := 42) hC 27 3 layX_27 rfl rfl inlX6 (Nat.le_of_ble_eq_true rfl) mw_83 rfl dX6_copyOf_39 rfl ?_
  refine go_aload_n (pc' := 43) hC dX6_copyOf_42 rfl rfl ?_
  refine go_getq (pc' := 46) hC 92 3 layX_92 rfl rfl inlX6 (Nat.le_of_ble_eq_true rfl) mw_83 rfl dX6_copyOf_43 rfl ?_
  refine go_callS1 (pc' := 49) (As := [.ref (x_q X 30), .ref (x_q X 95)]) (st := []) (st' := []) (L1' := [(9200, x1), (9204, x2)]) (L2' := []) (L3' := [(93, (va_cpy (S.2.2.1 28) (S.2.2.1 93) 0 0 9)), (94, (va_cpy (S.2.2.1 29) (S.2.2.1 94) 0 0 9)), (95, (va_cpy (S.2.2.1 30) (S.2.2.1 95) 0 0 9)), (96, (S.2.2.1 96)), (97, (S.2.2.1 97)), (98, (S.2.2.1 98))]) (L4' := []) (L5' := []) (cells' := 0) (slots' := 0) hC dX6_copyOf_46 ⟨mw_1517, mw_467, mw_14, yd_yX2_copyRow, yp_yX2_copyRow, Nat.le_of_ble_eq_true rfl, Nat.le_of_ble_eq_true rfl, Nat.le_of_ble_eq_true rfl, Nat.le_of_ble_eq_true rfl⟩ mw_466 rfl rfl (Nat.le_of_ble_eq_true rfl) (c_copyRow (x_l X) (x_D X) (x_q X) g (x_cy X) (x_z X) _ layX layX_ok 30 95 9 layX_30 layX_95 (by decide)) rfl rfl rfl rfl rfl rfl rfl rfl rfl rfl rfl rfl rfl rfl ?_
  refine go_aload_n (pc' := 50) hC dX6_copyOf_49 rfl rfl ?_
  refine go_getq (pc' := 53) hC 27 5 layX_27 rfl rfl inlX6 (Nat.le_of_ble_eq_true rfl) mw_84 rfl dX6_copyOf_50 rfl ?_
  refine go_aload_n (pc' := 54) hC dX6_copyOf_53 rfl rfl ?_
  refine go_getq (pc' := 57) hC 92 5 layX_92 rfl rfl inlX6 (Nat.le_of_ble_eq_true rfl) mw_84 rfl dX6_copyOf_54 rfl ?_
  refine go_callS1 (pc' := 60) (As := [.ref (x_q X 31), .ref (x_q X 96)]) (st := []) (st' := []) (L1' := [(9200, x1), (9204, x2)]) (L2' := []) (L3' := [(93, (va_cpy (S.2.2.1 28) (S.2.2.1 93) 0 0 9)), (94, (va_cpy (S.2.2.1 29) (S.2.2.1 94) 0 0 9)), (95, (va_cpy (S.2.2.1 30) (S.2.2.1 95) 0 0 9)), (96, (va_cpy (S.2.2.1 31) (S.2.2.1 96) 0 0 6)), (97, (S.2.2.1 97)), (98, (S.2.2.1 98))]) (L4' := []) (L5' := []) (cells' := 0) (slots' := 0) hC dX6_copyOf_57 ⟨mw_1517, mw_467, mw_14, yd_yX2_copyRow, yp_yX2_copyRow, Nat.le_of_ble_eq_true rfl, Nat.le_of_ble_eq_true rfl, Nat.le_of_ble_eq_true rfl, Nat.le_of_ble_eq_true rfl⟩ mw_466 rfl rfl (Nat.le_of_ble_eq_true rfl) (c_copyRow (x_l X) (x_D X) (x_q X) g (x_cy X) (x_z X) _ layX layX_ok 31 96 6 layX_31 layX_96 (by decide)) rfl rfl rfl rfl rfl rfl rfl rfl rfl rfl rfl rfl rfl rfl ?_
  refine go_aload_n (pc' := 61) hC dX6_copyOf_60 rfl rfl ?_
  refine go_getq (pc' := 64) hC 27 6 layX_27 rfl rfl inlX6 (Nat.le_of_ble_eq_true rfl) mw_85 rfl dX6_copyOf_61 rfl ?_
  refine go_aload_n (pc' := 65) hC dX6_copyOf_64 rfl rfl ?_
  refine go_getq (pc' := 68) hC 92 6 layX_92 rfl rfl inlX6 (Nat.le_of_ble_eq_true rfl) mw_85 rfl dX6_copyOf_65 rfl ?_
  refine go_callS1 (pc' := 71) (As := [.ref (x_q X 32), .ref (x_q X 97)]) (st := []) (st' := []) (L1' := [(9200, x1), (9204, x2)]) (L2' := []) (L3' := [(93, (va_cpy (S.2.2.1 28) (S.2.2.1 93) 0 0 9)), (94, (va_cpy (S.2.2.1 29) (S.2.2.1 94) 0 0 9)), (95, (va_cpy (S.2.2.1 30) (S.2.2.1 95) 0 0 9)), (96, (va_cpy (S.2.2.1 31) (S.2.2.1 96) 0 0 6)), (97, (va_cpy (S.2.2.1 32) (S.2.2.1 97) 0 0 6)), (98, (S.2.2.1 98))]) (L4' := []) (L5' := []) (cells' := 0) (slots' := 0) hC dX6_copyOf_68 ⟨mw_1517, mw_467, mw_14, yd_yX2_copyRow, yp_yX2_copyRow, Nat.le_of_ble_eq_true rfl, Nat.le_of_ble_eq_true rfl, Nat.le_of_ble_eq_true rfl, Nat.le_of_ble_eq_true rfl⟩ mw_466 rfl rfl (Nat.le_of_ble_eq_true rfl) (c_copyRow (x_l X) (x_D X) (x_q X) g (x_cy X) (x_z X) _ layX layX_ok 32 97 6 layX_32 layX_97 (by decide)) rfl rfl rfl rfl rfl rfl rfl rfl rfl rfl rfl rfl rfl rfl ?_
  refine go_aload_n (pc' := 72) hC dX6_copyOf_71 rfl rfl ?_
  refine go_getq (pc' := 75) hC 27 7 layX_27 rfl rfl inlX6 (Nat.le_of_ble_eq_true rfl) mw_86 rfl dX6_copyOf_72 rfl ?_
  refine go_aload_n (pc' := 76) hC dX6_copyOf_75 rfl rfl ?_
  refine go_getq (pc' := 79) hC 92 7 layX_92 rfl rfl inlX6 (Nat.le_of_ble_eq_true rfl) mw_86 rfl dX6_copyOf_76 rfl ?_
  refine go_callS1 (pc' := 82) (As := [.ref (x_q X 33), .ref (x_q X 98)]) (st := []) (st' := []) (L1' := [(9200, x1), (9204, x2)]) (L2' := []) (L3' := [(93, (va_cpy (S.2.2.1 28) (S.2.2.1 93) 0 0 9)), (94, (va_cpy (S.2.2.1 29) (S.2.2.1 94) 0 0 9)), (95, (va_cpy (S.2.2.1 30) (S.2.2.1 95) 0 0 9)), (96, (va_cpy (S.2.2.1 31) (S.2.2.1 96) 0 0 6)), (97, (va_cpy (S.2.2.1 32) (S.2.2.1 97) 0 0 6)), (98, (va_cpy (S.2.2.1 33) (S.2.2.1 98) 0 0 6))]) (L4' := []) (L5' := []) (cells' := 0) (slots' := 0) hC dX6_copyOf_79 ⟨mw_1517, mw_467, mw_14, yd_yX2_copyRow, yp_yX2_copyRow, Nat.le_of_ble_eq_true rfl, Nat.le_of_ble_eq_true rfl, Nat.le_of_ble_eq_true rfl, Nat.le_of_ble_eq_true rfl⟩ mw_466 rfl rfl (Nat.le_of_ble_eq_true rfl) (c_copyRow (x_l X) (x_D X) (x_q X) g (x_cy X) (x_z X) _ layX layX_ok 33 98 6 layX_33 layX_98 (by decide)) rfl rfl rfl rfl rfl rfl rfl rfl rfl rfl rfl rfl rfl rfl ?_
  obtain rfl := Option.some.inj hf
  exact go_vret hC hQ dX6_copyOf_82 rfl rfl rfl (fun _ => rfl) rfl rfl
abbrev o_X2_countBy_q45 : Type := Int32 × Int32 × Int32 × Int32
def f_X2_countBy_q45 (S : wd_W) (p1 : Int32) (p2 : Int32) (p3 : Int32) (p4 : Int32) : Option o_X2_countBy_q45 :=
some (p1, p2, p3, p4)
set_option maxRecDepth 100000 in
set_option maxHeartbeats 4000000 in
theorem c_X2_countBy_q45 (l : Launch) (D : va_G) (q g : Nat → Nat) (cy : Nat → ClassId) (z : (Nat → Nat) × (Nat → Nat) × Nat) (S : wd_W) (p1 : Int32) (p2 : Int32) (p3 : Int32) (p4 : Int32) (o : o_X2_countBy_q45) (hf : f_X2_countBy_q45 S p1 p2 p3 p4 = some o) : MX layX l yX2_countBy cX2_countBy 5 none ({ frames := 0, cells := 0, slots := 0, locals := 0 } : Room) D q g cy z [.ref (q 45), .int p1, .int p2, .int p3, .int p4] S false (none) (wd_o S [(4514, o.1), (4515, o.2.1), (4516, o.2.2.1), (4517, o.2.2.2)] [] [] [] []) 0 0 := by
  refine mx_of (own := RX2) (lc := [(0, .ref (q 45)), (1, .int p1), (2, .int p2), (3, .int p3), (4, .int p4)]) (by decide +kernel) rfl layX_ok (Nat.le_of_ble_eq_true rfl) rfl ?_
  intro X hXl hXq hXz hC hQ
  subst hXl; subst hXq; subst hXz
  unfold f_X2_countBy_q45 at hf
  refine go_keys (L1 := [(4514, (S.1 4514)), (4515, (S.1 4515)), (4516, (S.1 4516)), (4517, (S.1 4517))]) (L2 := []) (L3 := []) (L4 := []) (L5 := []) [4514, 4515, 4516, 4517] [] [] [] [] rfl rfl rfl rfl rfl ?_
  refine go_aload_n (pc' := 1) hC dX2_countBy_0 rfl rfl ?_
  refine go_iload_n (pc' := 2) hC dX2_countBy_1 rfl rfl ?_
  refine go_puti (L1' := [(4514, p1), (4515, (S.1 4515)), (4516, (S.1 4516)), (4517, (S.1 4517))]) (pc' := 5) hC 45 14 layX_45 rfl rfl inlX2 tyX2_ok nmX2 (Nat.le_of_ble_eq_true rfl) mw_70 rfl rfl rfl rfl dX2_countBy_2 rfl rfl rfl ?_
  refine go_aload_n (pc' := 6) hC dX2_countBy_5 rfl rfl ?_
  refine go_iload_n (pc' := 7) hC dX2_countBy_6 rfl rfl ?_
  refine go_puti (L1' := [(4514, p1), (4515, p2), (4516, (S.1 4516)), (4517, (S.1 4517))]) (pc' := 10) hC 45 15 layX_45 rfl rfl inlX2 tyX2_ok nmX2 (Nat.le_of_ble_eq_true rfl) mw_316 rfl rfl rfl rfl dX2_countBy_7 rfl rfl rfl ?_
  refine go_aload_n (pc' := 11) hC dX2_countBy_10 rfl rfl ?_
  refine go_iload_n (pc' := 12) hC dX2_countBy_11 rfl rfl ?_
  refine go_puti (L1' := [(4514, p1), (4515, p2), (4516, p3), (4517, (S.1 4517))]) (pc' := 15) hC 45 16 layX_45 rfl rfl inlX2 tyX2_ok nmX2 (Nat.le_of_ble_eq_true rfl) mw_317 rfl rfl rfl rfl dX2_countBy_12 rfl rfl rfl ?_
  refine go_aload_n (pc' := 16) hC dX2_countBy_15 rfl rfl ?_
  refine go_iload (pc' := 18) hC dX2_countBy_16 rfl rfl ?_
  refine go_puti (L1' := [(4514, p1), (4515, p2), (4516, p3), (4517, p4)]) (pc' := 21) hC 45 17 layX_45 rfl rfl inlX2 tyX2_ok nmX2 (Nat.le_of_ble_eq_true rfl) mw_318 rfl rfl rfl rfl dX2_countBy_18 rfl rfl rfl ?_
  obtain rfl := Option.some.inj hf
  exact go_vret hC hQ dX2_countBy_21 rfl rfl rfl (fun _ => rfl) rfl rfl
abbrev o_X2_copyOf_q45_q16 : Type := Int32 × Int32 × Int32 × Int32 × Int32 × Int32 × Int32 × Int32 × (Nat → Int32) × (Nat → Int32) × (Nat → Int32) × (Nat → Int32) × (Nat → Int32) × (Nat → Int32) × (Nat → Int32) × (Nat → Int32) × (Nat → Int32) × (Nat → Int32)
def f_X2_copyOf_q45_q16 (S : wd_W) : Option o_X2_copyOf_q45_q16 :=
lz ((S.1 1600)) fun x1 =>
lz ((S.1 1601)) fun x2 =>
lz ((S.1 1607)) fun x3 =>
lz ((S.1 1610)) fun x4 =>
bd (f_X2_countBy_q45 (wd_o S [(4500, x1), (4501, x2), (4507, x3), (4510, x4), (4514, (S.1 4514)), (4515, (S.1 4515)), (4516, (S.1 4516)), (4517, (S.1 4517))] [] [(46, (S.2.2.1 46)), (47, (S.2.2.1 47)), (48, (S.2.2.1 48)), (49, (S.2.2.1 49)), (50, (S.2.2.1 50)), (51, (S.2.2.1 51)), (52, (S.2.2.1 52)), (53, (S.2.2.1 53)), (54, (S.2.2.1 54)), (55, (S.2.2.1 55))] [] []) (S.1 1614) (S.1 1615) (S.1 1616) (S.1 1617)) fun o5 =>
some (x1, x2, x3, x4, o5.1, o5.2.1, o5.2.2.1, o5.2.2.2, (va_cpy (S.2.2.1 17) (S.2.2.1 46) 0 0 13), (va_cpy (S.2.2.1 18) (S.2.2.1 47) 0 0 13), (va_cpy (S.2.2.1 19) (S.2.2.1 48) 0 0 13), (va_cpy (S.2.2.1 20) (S.2.2.1 49) 0 0 13), (va_cpy (S.2.2.1 21) (S.2.2.1 50) 0 0 13), (va_cpy (S.2.2.1 22) (S.2.2.1 51) 0 0 10), (va_cpy (S.2.2.1 23) (S.2.2.1 52) 0 0 10), (va_cpy (S.2.2.1 24) (S.2.2.1 53) 0 0 3), (va_cpy (S.2.2.1 25) (S.2.2.1 54) 0 0 3), (va_cpy (S.2.2.1 26) (S.2.2.1 55) 0 0 3))
set_option maxRecDepth 100000 in
set_option maxHeartbeats 4000000 in
theorem c_X2_copyOf_q45_q16 (l : Launch) (D : va_G) (q g : Nat → Nat) (cy : Nat → ClassId) (z : (Nat → Nat) × (Nat → Nat) × Nat) (S : wd_W) (o : o_X2_copyOf_q45_q16) (hf : f_X2_copyOf_q45_q16 S = some o) : MX layX l yX2_copyOf cX2_copyOf 2 none ({ frames := 2, cells := 0, slots := 0, locals := 81 } : Room) D q g cy z [.ref (q 45), .ref (q 16)] S false (none) (wd_o S [(4500, o.1), (4501, o.2.1), (4507, o.2.2.1), (4510, o.2.2.2.1), (4514, o.2.2.2.2.1), (4515, o.2.2.2.2.2.1), (4516, o.2.2.2.2.2.2.1), (4517, o.2.2.2.2.2.2.2.1)] [] [(46, o.2.2.2.2.2.2.2.2.1), (47, o.2.2.2.2.2.2.2.2.2.1), (48, o.2.2.2.2.2.2.2.2.2.2.1), (49, o.2.2.2.2.2.2.2.2.2.2.2.1), (50, o.2.2.2.2.2.2.2.2.2.2.2.2.1), (51, o.2.2.2.2.2.2.2.2.2.2.2.2.2.1), (52, o.2.2.2.2.2.2.2.2.2.2.2.2.2.2.1), (53, o.2.2.2.2.2.2.2.2.2.2.2.2.2.2.2.1), (54, o.2.2.2.2.2.2.2.2.2.2.2.2.2.2.2.2.1), (55, o.2.2.2.2.2.2.2.2.2.2.2.2.2.2.2.2.2)] [] []) 0 0 := by
  refine mx_of (own := RX2) (lc := [(0, .ref (q 45)), (1, .ref (q 16))]) (by decide +kernel) rfl layX_ok (Nat.le_of_ble_eq_true rfl) rfl ?_
  intro X hXl hXq hXz hC hQ
  subst hXl; subst hXq; subst hXz
  unfold f_X2_copyOf_q45_q16 at hf
  refine go_keys (L1 := [(4500, (S.1 4500)), (4501, (S.1 4501)), (4507, (S.1 4507)), (4510, (S.1 4510)), (4514, (S.1 4514)), (4515, (S.1 4515)), (4516, (S.1 4516)), (4517, (S.1 4517))]) (L2 := []) (L3 := [(46, (S.2.2.1 46)), (47, (S.2.2.1 47)), (48, (S.2.2.1 48)), (49, (S.2.2.1 49)), (50, (S.2.2.1 50)), (51, (S.2.2.1 51)), (52, (S.2.2.1 52)), (53, (S.2.2.1 53)), (54, (S.2.2.1 54)), (55, (S.2.2.1 55))]) (L4 := []) (L5 := []) [4500, 4501, 4507, 4510, 4514, 4515, 4516, 4517] [] [46, 47, 48, 49, 50, 51, 52, 53, 54, 55] [] [] rfl rfl rfl rfl rfl ?_
  refine go_aload_n (pc' := 1) hC dX2_copyOf_0 rfl rfl ?_
  refine go_aload_n (pc' := 2) hC dX2_copyOf_1 rfl rfl ?_
  refine go_geti (v := (S.1 1600)) (pc' := 5) hC 16 0 layX_16 rfl rfl inlX2 (Nat.le_of_ble_eq_true rfl) mw_58 rfl dX2_copyOf_2 rfl rfl ?_
  refine go_namei (fun x1 hx => ?_)
  have hf := lz_r hx hf
  clear hx
  refine go_puti (L1' := [(4500, x1), (4501, (S.1 4501)), (4507, (S.1 4507)), (4510, (S.1 4510)), (4514, (S.1 4514)), (4515, (S.1 4515)), (4516, (S.1 4516)), (4517, (S.1 4517))]) (pc' := 8) hC 45 0 layX_45 rfl rfl inlX2 tyX2_ok nmX2 (Nat.le_of_ble_eq_true rfl) mw_58 rfl rfl rfl rfl dX2_copyOf_5 rfl rfl rfl ?_
  refine go_aload_n (pc' := 9) hC dX2_copyOf_8 rfl rfl ?_
  refine go_aload_n (pc' := 10) hC dX2_copyOf_9 rfl rfl ?_
  refine go_geti (v := (S.1 1601)) (pc' := 13) hC 16 1 layX_16 rfl rfl inlX2 (Nat.le_of_ble_eq_true rfl) mw_309 rfl dX2_copyOf_10 rfl rfl ?_
  refine go_namei (fun x2 hx => ?_)
  have hf := lz_r hx hf
  clear hx
  refine go_puti (L1' := [(4500, x1), (4501, x2), (4507, (S.1 4507)), (4510, (S.1 4510)), (4514, (S.1 4514)), (4515, (S.1 4515)), (4516, (S.1 4516)), (4517, (S.1 4517))]) (pc' := 16) hC 45 1 layX_45 rfl rfl inlX2 tyX2_ok nmX2 (Nat.le_of_ble_eq_true rfl) mw_309 rfl rfl rfl rfl dX2_copyOf_13 rfl rfl rfl ?_
  refine go_aload_n (pc' := 17) hC dX2_copyOf_16 rfl rfl ?_
  refine go_aload_n (pc' := 18) hC dX2_copyOf_17 rfl rfl ?_
  refine go_geti (v := (S.1 1607)) (pc' := 21) hC 16 7 layX_16 rfl rfl inlX2 (Nat.le_of_ble_eq_true rfl) mw_310 rfl dX2_copyOf_18 rfl rfl ?_
  refine go_namei (fun x3 hx => ?_)
  have hf := lz_r hx hf
  clear hx
  refine go_puti (L1' := [(4500, x1), (4501, x2), (4507, x3), (4510, (S.1 4510)), (4514, (S.1 4514)), (4515, (S.1 4515)), (4516, (S.1 4516)), (4517, (S.1 4517))]) (pc' := 24) hC 45 7 layX_45 rfl rfl inlX2 tyX2_ok nmX2 (Nat.le_of_ble_eq_true rfl) mw_310 rfl rfl rfl rfl dX2_copyOf_21 rfl rfl rfl ?_
  refine go_aload_n (pc' := 25) hC dX2_copyOf_24 rfl rfl ?_
  refine go_aload_n (pc' := 26) hC dX2_copyOf_25 rfl rfl ?_
  refine go_geti (v := (S.1 1610)) (pc' := 29) hC 16 10 layX_16 rfl rfl inlX2 (Nat.le_of_ble_eq_true rfl) mw_311 rfl dX2_copyOf_26 rfl rfl ?_
  refine go_namei (fun x4 hx => ?_)
  have hf := lz_r hx hf
  clear hx
  refine go_puti (L1' := [(4500, x1), (4501, x2), (4507, x3), (4510, x4), (4514, (S.1 4514)), (4515, (S.1 4515)), (4516, (S.1 4516)), (4517, (S.1 4517))]) (pc' := 32) hC 45 10 layX_45 rfl rfl inlX2 tyX2_ok nmX2 (Nat.le_of_ble_eq_true rfl) mw_311 rfl rfl rfl rfl dX2_copyOf_29 rfl rfl rfl ?_
  refine go_aload_n (pc' := 33) hC dX2_copyOf_32 rfl rfl ?_
  refine go_aload_n (pc' := 34) hC dX2_copyOf_33 rfl rfl ?_
  refine go_geti (v := (S.1 1614)) (pc' := 37) hC 16 14 layX_16 rfl rfl inlX2 (Nat.le_of_ble_eq_true rfl) mw_70 rfl dX2_copyOf_34 rfl rfl ?_
  refine go_aload_n (pc' := 38) hC dX2_copyOf_37 rfl rfl ?_
  refine go_geti (v := (S.1 1615)) (pc' := 41) hC 16 15 layX_16 rfl rfl inlX2 (Nat.le_of_ble_eq_true rfl) mw_316 rfl dX2_copyOf_38 rfl rfl ?_
  refine go_aload_n (pc' := 42) hC dX2_copyOf_41 rfl rfl ?_
  refine go_geti (v := (S.1 1616)) (pc' := 45) hC 16 16 layX_16 rfl rfl inlX2 (Nat.le_of_ble_eq_true rfl) mw_317 rfl dX2_copyOf_42 rfl rfl ?_
  refine go_aload_n (pc' := 46) hC dX2_copyOf_45 rfl rfl ?_
  refine go_geti (v := (S.1 1617)) (pc' := 49) hC 16 17 layX_16 rfl rfl inlX2 (Nat.le_of_ble_eq_true rfl) mw_318 rfl dX2_copyOf_46 rfl rfl ?_
  obtain ⟨o5, ho5, hf⟩ := bd_e hf
  refine go_callV1 (pc' := 52) (As := [.int (S.1 1614), .int (S.1 1615), .int (S.1 1616), .int (S.1 1617)]) (st := []) (st' := []) (L1' := [(4500, x1), (4501, x2), (4507, x3), (4510, x4), (4514, o5.1), (4515, o5.2.1), (4516, o5.2.2.1), (4517, o5.2.2.2)]) (L2' := []) (L3' := [(46, (S.2.2.1 46)), (47, (S.2.2.1 47)), (48, (S.2.2.1 48)), (49, (S.2.2.1 49)), (50, (S.2.2.1 50)), (51, (S.2.2.1 51)), (52, (S.2.2.1 52)), (53, (S.2.2.1 53)), (54, (S.2.2.1 54)), (55, (S.2.2.1 55))]) (L4' := []) (L5' := []) (cells' := 0) (slots' := 0)  (b := 45) hC dX2_copyOf_49 ⟨mw_312, mw_315, mw_14, yd_yX2_countBy, yp_yX2_countBy, Nat.le_of_ble_eq_true rfl, Nat.le_of_ble_eq_true rfl, (Nat.le_of_ble_eq_true rfl), (Nat.le_of_ble_eq_true rfl)⟩ mw_313 mw_314 layX_45 rfl rfl rfl (Nat.le_of_ble_eq_true rfl) (c_X2_countBy_q45 (x_l X) (x_D X) (x_q X) g (x_cy X) (x_z X) _ (S.1 1614) (S.1 1615) (S.1 1616) (S.1 1617) o5 ho5) rfl rfl rfl rfl rfl rfl rfl rfl rfl rfl rfl rfl rfl rfl ?_
  refine go_aload_n (pc' := 53) hC dX2_copyOf_52 rfl rfl ?_
  refine go_getq (pc' := 56) hC 16 2 layX_16 rfl rfl inlX2 (Nat.le_of_ble_eq_true rfl) mw_60 rfl dX2_copyOf_53 rfl ?_
  refine go_aload_n (pc' := 57) hC dX2_copyOf_56 rfl rfl ?_
  refine go_getq (pc' := 60) hC 45 2 layX_45 rfl rfl inlX2 (Nat.le_of_ble_eq_true rfl) mw_60 rfl dX2_copyOf_57 rfl ?_
  refine go_callS1 (pc' := 63) (As := [.ref (x_q X 17), .ref (x_q X 46)]) (st := []) (st' := []) (L1' := [(4500, x1), (4501, x2), (4507, x3), (4510, x4), (4514, o5.1), (4515, o5.2.1), (4516, o5.2.2.1), (4517, o5.2.2.2)]) (L2' := []) (L3' := [(46, (va_cpy (S.2.2.1 17) (S.2.2.1 46) 0 0 13)), (47, (S.2.2.1 47)), (48, (S.2.2.1 48)), (49, (S.2.2.1 49)), (50, (S.2.2.1 50)), (51, (S.2.2.1 51)), (52, (S.2.2.1 52)), (53, (S.2.2.1 53)), (54, (S.2.2.1 54)), (55, (S.2.2.1 55))]) (L4' := []) (L5' := []) (cells' := 0) (slots' := 0) hC dX2_copyOf_60 ⟨mw_465, mw_467, mw_14, yd_yX2_copyRow, yp_yX2_copyRow, Nat.le_of_ble_eq_true rfl, Nat.le_of_ble_eq_true rfl, Nat.le_of_ble_eq_true rfl, Nat.le_of_ble_eq_true rfl⟩ mw_466 rfl rfl (Nat.le_of_ble_eq_true rfl) (c_copyRow (x_l X) (x_D X) (x_q X) g (x_cy X) (x_z X) _ layX layX_ok 17 46 13 layX_17 layX_46 (by decide)) rfl rfl rfl rfl rfl rfl rfl rfl rfl rfl rfl rfl rfl rfl ?_
  refine go_aload_n (pc' := 64) hC dX2_copyOf_63 rfl rfl ?_
  refine go_getq (pc' := 67) hC 16 3 layX_16 rfl rfl inlX2 (Nat.le_of_ble_eq_true rfl) mw_61 rfl dX2_copyOf_64 rfl ?_
  refine go_aload_n (pc' := 68) hC dX2_copyOf_67 rfl rfl ?_
  refine go_getq (pc' := 71) hC 45 3 layX_45 rfl rfl inlX2 (Nat.le_of_ble_eq_true rfl) mw_61 rfl dX2_copyOf_68 rfl ?_
  refine go_callS1 (pc' := 74) (As := [.ref (x_q X 18), .ref (x_q X 47)]) (st := []) (st' := []) (L1' := [(4500, x1), (4501, x2), (4507, x3), (4510, x4), (4514, o5.1), (4515, o5.2.1), (4516, o5.2.2.1), (4517, o5.2.2.2)]) (L2' := []) (L3' := [(46, (va_cpy (S.2.2.1 17) (S.2.2.1 46) 0 0 13)), (47, (va_cpy (S.2.2.1 18) (S.2.2.1 47) 0 0 13)), (48, (S.2.2.1 48)), (49, (S.2.2.1 49)), (50, (S.2.2.1 50)), (51, (S.2.2.1 51)), (52, (S.2.2.1 52)), (53, (S.2.2.1 53)), (54, (S.2.2.1 54)), (55, (S.2.2.1 55))]) (L4' := []) (L5' := []) (cells' := 0) (slots' := 0) hC dX2_copyOf_71 ⟨mw_465, mw_467, mw_14, yd_yX2_copyRow, yp_yX2_copyRow, Nat.le_of_ble_eq_true rfl, Nat.le_of_ble_eq_true rfl, Nat.le_of_ble_eq_true rfl, Nat.le_of_ble_eq_true rfl⟩ mw_466 rfl rfl (Nat.le_of_ble_eq_true rfl) (c_copyRow (x_l X) (x_D X) (x_q X) g (x_cy X) (x_z X) _ layX layX_ok 18 47 13 layX_18 layX_47 (by decide)) rfl rfl rfl rfl rfl rfl rfl rfl rfl rfl rfl rfl rfl rfl ?_
  refine go_aload_n (pc' := 75) hC dX2_copyOf_74 rfl rfl ?_
  refine go_getq (pc' := 78) hC 16 4 layX_16 rfl rfl inlX2 (Nat.le_of_ble_eq_true rfl) mw_62 rfl dX2_copyOf_75 rfl ?_
  refine go_aload_n (pc' := 79) hC dX2_copyOf_78 rfl rfl ?_
  refine go_getq (pc' := 82) hC 45 4 layX_45 rfl rfl inlX2 (Nat.le_of_ble_eq_true rfl) mw_62 rfl dX2_copyOf_79 rfl ?_
  refine go_callS1 (pc' := 85) (As := [.ref (x_q X 19), .ref (x_q X 48)]) (st := []) (st' := []) (L1' := [(4500, x1), (4501, x2), (4507, x3), (4510, x4), (4514, o5.1), (4515, o5.2.1), (4516, o5.2.2.1), (4517, o5.2.2.2)]) (L2' := []) (L3' := [(46, (va_cpy (S.2.2.1 17) (S.2.2.1 46) 0 0 13)), (47, (va_cpy (S.2.2.1 18) (S.2.2.1 47) 0 0 13)), (48, (va_cpy (S.2.2.1 19) (S.2.2.1 48) 0 0 13)), (49, (S.2.2.1 49)), (50, (S.2.2.1 50)), (51, (S.2.2.1 51)), (52, (S.2.2.1 52)), (53, (S.2.2.1 53)), (54, (S.2.2.1 54)), (55, (S.2.2.1 55))]) (L4' := []) (L5' := []) (cells' := 0) (slots' := 0) hC dX2_copyOf_82 ⟨mw_465, mw_467, mw_14, yd_yX2_copyRow, yp_yX2_copyRow, Nat.le_of_ble_eq_true rfl, Nat.le_of_ble_eq_true rfl, Nat.le_of_ble_eq_true rfl, Nat.le_of_ble_eq_true rfl⟩ mw_466 rfl rfl (Nat.le_of_ble_eq_true rfl) (c_copyRow (x_l X) (x_D X) (x_q X) g (x_cy X) (x_z X) _ layX layX_ok 19 48 13 layX_19 layX_48 (by decide)) rfl rfl rfl rfl rfl rfl rfl rfl rfl rfl rfl rfl rfl rfl ?_
  refine go_aload_n (pc' := 86) hC dX2_copyOf_85 rfl rfl ?_
  refine go_getq (pc' := 89) hC 16 5 layX_16 rfl rfl inlX2 (Nat.le_of_ble_eq_true rfl) mw_63 rfl dX2_copyOf_86 rfl ?_
  refine go_aload_n (pc' := 90) hC dX2_copyOf_89 rfl rfl ?_
  refine go_getq (pc' := 93) hC 45 5 layX_45 rfl rfl inlX2 (Nat.le_of_ble_eq_true rfl) mw_63 rfl dX2_copyOf_90 rfl ?_
  refine go_callS1 (pc' := 96) (As := [.ref (x_q X 20), .ref (x_q X 49)]) (st := []) (st' := []) (L1' := [(4500, x1), (4501, x2), (4507, x3), (4510, x4), (4514, o5.1), (4515, o5.2.1), (4516, o5.2.2.1), (4517, o5.2.2.2)]) (L2' := []) (L3' := [(46, (va_cpy (S.2.2.1 17) (S.2.2.1 46) 0 0 13)), (47, (va_cpy (S.2.2.1 18) (S.2.2.1 47) 0 0 13)), (48, (va_cpy (S.2.2.1 19) (S.2.2.1 48) 0 0 13)), (49, (va_cpy (S.2.2.1 20) (S.2.2.1 49) 0 0 13)), (50, (S.2.2.1 50)), (51, (S.2.2.1 51)), (52, (S.2.2.1 52)), (53, (S.2.2.1 53)), (54, (S.2.2.1 54)), (55, (S.2.2.1 55))]) (L4' := []) (L5' := []) (cells' := 0) (slots' := 0) hC dX2_copyOf_93 ⟨mw_465, mw_467, mw_14, yd_yX2_copyRow, yp_yX2_copyRow, Nat.le_of_ble_eq_true rfl, Nat.le_of_ble_eq_true rfl, Nat.le_of_ble_eq_true rfl, Nat.le_of_ble_eq_true rfl⟩ mw_466 rfl rfl (Nat.le_of_ble_eq_true rfl) (c_copyRow (x_l X) (x_D X) (x_q X) g (x_cy X) (x_z X) _ layX layX_ok 20 49 13 layX_20 layX_49 (by decide)) rfl rfl rfl rfl rfl rfl rfl rfl rfl rfl rfl rfl rfl rfl ?_
  refine go_aload_n (pc' := 97) hC dX2_copyOf_96 rfl rfl ?_
  refine go_getq (pc' := 100) hC 16 6 layX_16 rfl rfl inlX2 (Nat.le_of_ble_eq_true rfl) mw_64 rfl dX2_copyOf_97 rfl ?_
  refine go_aload_n (pc' := 101) hC dX2_copyOf_100 rfl rfl ?_
  refine go_getq (pc' := 104) hC 45 6 layX_45 rfl rfl inlX2 (Nat.le_of_ble_eq_true rfl) mw_64 rfl dX2_copyOf_101 rfl ?_
  refine go_callS1 (pc' := 107) (As := [.ref (x_q X 21), .ref (x_q X 50)]) (st := []) (st' := []) (L1' := [(4500, x1), (4501, x2), (4507, x3), (4510, x4), (4514, o5.1), (4515, o5.2.1), (4516, o5.2.2.1), (4517, o5.2.2.2)]) (L2' := []) (L3' := [(46, (va_cpy (S.2.2.1 17) (S.2.2.1 46) 0 0 13)), (47, (va_cpy (S.2.2.1 18) (S.2.2.1 47) 0 0 13)), (48, (va_cpy (S.2.2.1 19) (S.2.2.1 48) 0 0 13)), (49, (va_cpy (S.2.2.1 20) (S.2.2.1 49) 0 0 13)), (50, (va_cpy (S.2.2.1 21) (S.2.2.1 50) 0 0 13)), (51, (S.2.2.1 51)), (52, (S.2.2.1 52)), (53, (S.2.2.1 53)), (54, (S.2.2.1 54)), (55, (S.2.2.1 55))]) (L4' := []) (L5' := []) (cells' := 0) (slots' := 0) hC dX2_copyOf_104 ⟨mw_465, mw_467, mw_14, yd_yX2_copyRow, yp_yX2_copyRow, Nat.le_of_ble_eq_true rfl, Nat.le_of_ble_eq_true rfl, Nat.le_of_ble_eq_true rfl, Nat.le_of_ble_eq_true rfl⟩ mw_466 rfl rfl (Nat.le_of_ble_eq_true rfl) (c_copyRow (x_l X) (x_D X) (x_q X) g (x_cy X) (x_z X) _ layX layX_ok 21 50 13 layX_21 layX_50 (by decide)) rfl rfl rfl rfl rfl rfl rfl rfl rfl rfl rfl rfl rfl rfl ?_
  refine go_aload_n (pc' := 108) hC dX2_copyOf_107 rfl rfl ?_
  refine go_getq (pc' := 111) hC 16 8 layX_16 rfl rfl inlX2 (Nat.le_of_ble_eq_true rfl) mw_65 rfl dX2_copyOf_108 rfl ?_
  refine go_aload_n (pc' := 112) hC dX2_copyOf_111 rfl rfl ?_
  refine go_getq (pc' := 115) hC 45 8 layX_45 rfl rfl inlX2 (Nat.le_of_ble_eq_true rfl) mw_65 rfl dX2_copyOf_112 rfl ?_
  refine go_callS1 (pc' := 118) (As := [.ref (x_q X 22), .ref (x_q X 51)]) (st := []) (st' := []) (L1' := [(4500, x1), (4501, x2), (4507, x3), (4510, x4), (4514, o5.1), (4515, o5.2.1), (4516, o5.2.2.1), (4517, o5.2.2.2)]) (L2' := []) (L3' := [(46, (va_cpy (S.2.2.1 17) (S.2.2.1 46) 0 0 13)), (47, (va_cpy (S.2.2.1 18) (S.2.2.1 47) 0 0 13)), (48, (va_cpy (S.2.2.1 19) (S.2.2.1 48) 0 0 13)), (49, (va_cpy (S.2.2.1 20) (S.2.2.1 49) 0 0 13)), (50, (va_cpy (S.2.2.1 21) (S.2.2.1 50) 0 0 13)), (51, (va_cpy (S.2.2.1 22) (S.2.2.1 51) 0 0 10)), (52, (S.2.2.1 52)), (53, (S.2.2.1 53)), (54, (S.2.2.1 54)), (55, (S.2.2.1 55))]) (L4' := []) (L5' := []) (cells' := 0) (slots' := 0) hC dX2_copyOf_115 ⟨mw_465, mw_467, mw_14, yd_yX2_copyRow, yp_yX2_copyRow, Nat.le_of_ble_eq_true rfl, Nat.le_of_ble_eq_true rfl, Nat.le_of_ble_eq_true rfl, Nat.le_of_ble_eq_true rfl⟩ mw_466 rfl rfl (Nat.le_of_ble_eq_true rfl) (c_copyRow (x_l X) (x_D X) (x_q X) g (x_cy X) (x_z X) _ layX layX_ok 22 51 10 layX_22 layX_51 (by decide)) rfl rfl rfl rfl rfl rfl rfl rfl rfl rfl rfl rfl rfl rfl ?_
  refine go_aload_n (pc' := 119) hC dX2_copyOf_118 rfl rfl ?_
  refine go_getq (pc' := 122) hC 16 9 layX_16 rfl rfl inlX2 (Nat.le_of_ble_eq_true rfl) mw_66 rfl dX2_copyOf_119 rfl ?_
  refine go_aload_n (pc' := 123) hC dX2_copyOf_122 rfl rfl ?_
  refine go_getq (pc' := 126) hC 45 9 layX_45 rfl rfl inlX2 (Nat.le_of_ble_eq_true rfl) mw_66 rfl dX2_copyOf_123 rfl ?_
  refine go_callS1 (pc' := 129) (As := [.ref (x_q X 23), .ref (x_q X 52)]) (st := []) (st' := []) (L1' := [(4500, x1), (4501, x2), (4507, x3), (4510, x4), (4514, o5.1), (4515, o5.2.1), (4516, o5.2.2.1), (4517, o5.2.2.2)]) (L2' := []) (L3' := [(46, (va_cpy (S.2.2.1 17) (S.2.2.1 46) 0 0 13)), (47, (va_cpy (S.2.2.1 18) (S.2.2.1 47) 0 0 13)), (48, (va_cpy (S.2.2.1 19) (S.2.2.1 48) 0 0 13)), (49, (va_cpy (S.2.2.1 20) (S.2.2.1 49) 0 0 13)), (50, (va_cpy (S.2.2.1 21) (S.2.2.1 50) 0 0 13)), (51, (va_cpy (S.2.2.1 22) (S.2.2.1 51) 0 0 10)), (52, (va_cpy (S.2.2.1 23) (S.2.2.1 52) 0 0 10)), (53, (S.2.2.1 53)), (54, (S.2.2.1 54)), (55, (S.2.2.1 55))]) (L4' := []) (L5' := []) (cells' := 0) (slots' := 0) hC dX2_copyOf_126 ⟨mw_465, mw_467, mw_14, yd_yX2_copyRow, yp_yX2_copyRow, Nat.le_of_ble_eq_true rfl, Nat.le_of_ble_eq_true rfl, Nat.le_of_ble_eq_true rfl, Nat.le_of_ble_eq_true rfl⟩ mw_466 rfl rfl (Nat.le_of_ble_eq_true rfl) (c_copyRow (x_l X) (x_D X) (x_q X) g (x_cy X) (x_z X) _ layX layX_ok 23 52 10 layX_23 layX_52 (by decide)) rfl rfl rfl rfl rfl rfl rfl rfl rfl rfl rfl rfl rfl rfl ?_
  refine go_aload_n (pc' := 130) hC dX2_copyOf_129 rfl rfl ?_
  refine go_getq (pc' := 133) hC 16 11 layX_16 rfl rfl inlX2 (Nat.le_of_ble_eq_true rfl) mw_67 rfl dX2_copyOf_130 rfl ?_
  refine go_aload_n (pc' := 134) hC dX2_copyOf_133 rfl rfl ?_
  refine go_getq (pc' := 137) hC 45 11 layX_45 rfl rfl inlX2 (Nat.le_of_ble_eq_true rfl) mw_67 rfl dX2_copyOf_134 rfl ?_
  refine go_callS1 (pc' := 140) (As := [.ref (x_q X 24), .ref (x_q X 53)]) (st := []) (st' := []) (L1' := [(4500, x1), (4501, x2), (4507, x3), (4510, x4), (4514, o5.1), (4515, o5.2.1), (4516, o5.2.2.1), (4517, o5.2.2.2)]) (L2' := []) (L3' := [(46, (va_cpy (S.2.2.1 17) (S.2.2.1 46) 0 0 13)), (47, (va_cpy (S.2.2.1 18) (S.2.2.1 47) 0 0 13)), (48, (va_cpy (S.2.2.1 19) (S.2.2.1 48) 0 0 13)), (49, (va_cpy (S.2.2.1 20) (S.2.2.1 49) 0 0 13)), (50, (va_cpy (S.2.2.1 21) (S.2.2.1 50) 0 0 13)), (51, (va_cpy (S.2.2.1 22) (S.2.2.1 51) 0 0 10)), (52, (va_cpy (S.2.2.1 23) (S.2.2.1 52) 0 0 10)), (53, (va_cpy (S.2.2.1 24) (S.2.2.1 53) 0 0 3)), (54, (S.2.2.1 54)), (55, (S.2.2.1 55))]) (L4' := []) (L5' := []) (cells' := 0) (slots' := 0) hC dX2_copyOf_137 ⟨mw_465, mw_467, mw_14, yd_yX2_copyRow, yp_yX2_copyRow, Nat.le_of_ble_eq_true rfl, Nat.le_of_ble_eq_true rfl, Nat.le_of_ble_eq_true rfl, Nat.le_of_ble_eq_true rfl⟩ mw_466 rfl rfl (Nat.le_of_ble_eq_true rfl) (c_copyRow (x_l X) (x_D X) (x_q X) g (x_cy X) (x_z X) _ layX layX_ok 24 53 3 layX_24 layX_53 (by decide)) rfl rfl rfl rfl rfl rfl rfl rfl rfl rfl rfl rfl rfl rfl ?_
  refine go_aload_n (pc' := 141) hC dX2_copyOf_140 rfl rfl ?_
  refine go_getq (pc' := 144) hC 16 12 layX_16 rfl rfl inlX2 (Nat.le_of_ble_eq_true rfl) mw_68 rfl dX2_copyOf_141 rfl ?_
  refine go_aload_n (pc' := 145) hC dX2_copyOf_144 rfl rfl ?_
  refine go_getq (pc' := 148) hC 45 12 layX_45 rfl rfl inlX2 (Nat.le_of_ble_eq_true rfl) mw_68 rfl dX2_copyOf_145 rfl ?_
  refine go_callS1 (pc' := 151) (As := [.ref (x_q X 25), .ref (x_q X 54)]) (st := []) (st' := []) (L1' := [(4500, x1), (4501, x2), (4507, x3), (4510, x4), (4514, o5.1), (4515, o5.2.1), (4516, o5.2.2.1), (4517, o5.2.2.2)]) (L2' := []) (L3' := [(46, (va_cpy (S.2.2.1 17) (S.2.2.1 46) 0 0 13)), (47, (va_cpy (S.2.2.1 18) (S.2.2.1 47) 0 0 13)), (48, (va_cpy (S.2.2.1 19) (S.2.2.1 48) 0 0 13)), (49, (va_cpy (S.2.2.1 20) (S.2.2.1 49) 0 0 13)), (50, (va_cpy (S.2.2.1 21) (S.2.2.1 50) 0 0 13)), (51, (va_cpy (S.2.2.1 22) (S.2.2.1 51) 0 0 10)), (52, (va_cpy (S.2.2.1 23) (S.2.2.1 52) 0 0 10)), (53, (va_cpy (S.2.2.1 24) (S.2.2.1 53) 0 0 3)), (54, (va_cpy (S.2.2.1 25) (S.2.2.1 54) 0 0 3)), (55, (S.2.2.1 55))]) (L4' := []) (L5' := []) (cells' := 0) (slots' := 0) hC dX2_copyOf_148 ⟨mw_465, mw_467, mw_14, yd_yX2_copyRow, yp_yX2_copyRow, Nat.le_of_ble_eq_true rfl, Nat.le_of_ble_eq_true rfl, Nat.le_of_ble_eq_true rfl, Nat.le_of_ble_eq_true rfl⟩ mw_466 rfl rfl (Nat.le_of_ble_eq_true rfl) (c_copyRow (x_l X) (x_D X) (x_q X) g (x_cy X) (x_z X) _ layX layX_ok 25 54 3 layX_25 layX_54 (by decide)) rfl rfl rfl rfl rfl rfl rfl rfl rfl rfl rfl rfl rfl rfl ?_
  refine go_aload_n (pc' := 152) hC dX2_copyOf_151 rfl rfl ?_
  refine go_getq (pc' := 155) hC 16 13 layX_16 rfl rfl inlX2 (Nat.le_of_ble_eq_true rfl) mw_69 rfl dX2_copyOf_152 rfl ?_
  refine go_aload_n (pc' := 156) hC dX2_copyOf_155 rfl rfl ?_
  refine go_getq (pc' := 159) hC 45 13 layX_45 rfl rfl inlX2 (Nat.le_of_ble_eq_true rfl) mw_69 rfl dX2_copyOf_156 rfl ?_
  refine go_callS1 (pc' := 162) (As := [.ref (x_q X 26), .ref (x_q X 55)]) (st := []) (st' := []) (L1' := [(4500, x1), (4501, x2), (4507, x3), (4510, x4), (4514, o5.1), (4515, o5.2.1), (4516, o5.2.2.1), (4517, o5.2.2.2)]) (L2' := []) (L3' := [(46, (va_cpy (S.2.2.1 17) (S.2.2.1 46) 0 0 13)), (47, (va_cpy (S.2.2.1 18) (S.2.2.1 47) 0 0 13)), (48, (va_cpy (S.2.2.1 19) (S.2.2.1 48) 0 0 13)), (49, (va_cpy (S.2.2.1 20) (S.2.2.1 49) 0 0 13)), (50, (va_cpy (S.2.2.1 21) (S.2.2.1 50) 0 0 13)), (51, (va_cpy (S.2.2.1 22) (S.2.2.1 51) 0 0 10)), (52, (va_cpy (S.2.2.1 23) (S.2.2.1 52) 0 0 10)), (53, (va_cpy (S.2.2.1 24) (S.2.2.1 53) 0 0 3)), (54, (va_cpy (S.2.2.1 25) (S.2.2.1 54) 0 0 3)), (55, (va_cpy (S.2.2.1 26) (S.2.2.1 55) 0 0 3))]) (L4' := []) (L5' := []) (cells' := 0) (slots' := 0) hC dX2_copyOf_159 ⟨mw_465, mw_467, mw_14, yd_yX2_copyRow, yp_yX2_copyRow, Nat.le_of_ble_eq_true rfl, Nat.le_of_ble_eq_true rfl, Nat.le_of_ble_eq_true rfl, Nat.le_of_ble_eq_true rfl⟩ mw_466 rfl rfl (Nat.le_of_ble_eq_true rfl) (c_copyRow (x_l X) (x_D X) (x_q X) g (x_cy X) (x_z X) _ layX layX_ok 26 55 3 layX_26 layX_55 (by decide)) rfl rfl rfl rfl rfl rfl rfl rfl rfl rfl rfl rfl rfl rfl ?_
  obtain rfl := Option.some.inj hf
  exact go_vret hC hQ dX2_copyOf_162 rfl rfl rfl (fun _ => rfl) rfl rfl
abbrev o_X6_copyOf_q85_q27 : Type := Int32 × Int32 × (Nat → Int32) × (Nat → Int32) × (Nat → Int32) × (Nat → Int32) × (Nat → Int32) × (Nat → Int32)
def f_X6_copyOf_q85_q27 (S : wd_W) : Option o_X6_copyOf_q85_q27 :=
lz ((S.1 2700)) fun x1 =>
lz ((S.1 2704)) fun x2 =>
some (x1, x2, (va_cpy (S.2.2.1 28) (S.2.2.1 86) 0 0 9), (va_cpy (S.2.2.1 29) (S.2.2.1 87) 0 0 9), (va_cpy (S.2.2.1 30) (S.2.2.1 88) 0 0 9), (va_cpy (S.2.2.1 31) (S.2.2.1 89) 0 0 6), (va_cpy (S.2.2.1 32) (S.2.2.1 90) 0 0 6), (va_cpy (S.2.2.1 33) (S.2.2.1 91) 0 0 6))
set_option maxRecDepth 100000 in
set_option maxHeartbeats 4000000 in
theorem c_X6_copyOf_q85_q27 (l : Launch) (D : va_G) (q g : Nat → Nat) (cy : Nat → ClassId) (z : (Nat → Nat) × (Nat → Nat) × Nat) (S : wd_W) (o : o_X6_copyOf_q85_q27) (hf : f_X6_copyOf_q85_q27 S = some o) : MX layX l yX6_copyOf cX6_copyOf 2 none ({ frames := 2, cells := 0, slots := 0, locals := 81 } : Room) D q g cy z [.ref (q 85), .ref (q 27)] S false (none) (wd_o S [(8500, o.1), (8504, o.2.1)] [] [(86, o.2.2.1), (87, o.2.2.2.1), (88, o.2.2.2.2.1), (89, o.2.2.2.2.2.1), (90, o.2.2.2.2.2.2.1), (91, o.2.2.2.2.2.2.2)] [] []) 0 0 := by
  refine mx_of (own := RX6) (lc := [(0, .ref (q 85)), (1, .ref (q 27))]) (by decide +kernel) rfl layX_ok (Nat.le_of_ble_eq_true rfl) rfl ?_
  intro X hXl hXq hXz hC hQ
  subst hXl; subst hXq; subst hXz
  unfold f_X6_copyOf_q85_q27 at hf
  refine go_keys (L1 := [(8500, (S.1 8500)), (8504, (S.1 8504))]) (L2 := []) (L3 := [(86, (S.2.2.1 86)), (87, (S.2.2.1 87)), (88, (S.2.2.1 88)), (89, (S.2.2.1 89)), (90, (S.2.2.1 90)), (91, (S.2.2.1 91))]) (L4 := []) (L5 := []) [8500, 8504] [] [86, 87, 88, 89, 90, 91] [] [] rfl rfl rfl rfl rfl ?_
  refine go_aload_n (pc' := 1) hC dX6_copyOf_0 rfl rfl ?_
  refine go_aload_n (pc' := 2) hC dX6_copyOf_1 rfl rfl ?_
  refine go_geti (v := (S.1 2700)) (pc' := 5) hC 27 0 layX_27 rfl rfl inlX6 (Nat.le_of_ble_eq_true rfl) mw_477 rfl dX6_copyOf_2 rfl rfl ?_
  refine go_namei (fun x1 hx => ?_)
  have hf := lz_r hx hf
  clear hx
  refine go_puti (L1' := [(8500, x1), (8504, (S.1 8504))]) (pc' := 8) hC 85 0 layX_85 rfl rfl inlX6 tyX6_ok nmX6 (Nat.le_of_ble_eq_true rfl) mw_477 rfl rfl rfl rfl dX6_copyOf_5 rfl rfl rfl ?_
  refine go_aload_n (pc' := 9) hC dX6_copyOf_8 rfl rfl ?_
  refine go_aload_n (pc' := 10) hC dX6_copyOf_9 rfl rfl ?_
  refine go_geti (v := (S.1 2704)) (pc' := 13) hC 27 4 layX_27 rfl rfl inlX6 (Nat.le_of_ble_eq_true rfl) mw_478 rfl dX6_copyOf_10 rfl rfl ?_
  refine go_namei (fun x2 hx => ?_)
  have hf := lz_r hx hf
  clear hx
  refine go_puti (L1' := [(8500, x1), (8504, x2)]) (pc' := 16) hC 85 4 layX_85 rfl rfl inlX6 tyX6_ok nmX6 (Nat.le_of_ble_eq_true rfl) mw_478 rfl rfl rfl rfl dX6_copyOf_13 rfl rfl rfl ?_
  refine go_aload_n (pc' := 17) hC dX6_copyOf_16 rfl rfl ?_
  refine go_getq (pc' := 20) hC 27 1 layX_27 rfl rfl inlX6 (Nat.le_of_ble_eq_true rfl) mw_81 rfl dX6_copyOf_17 rfl ?_
  refine go_aload_n (pc' := 21) hC dX6_copyOf_20 rfl rfl ?_
  refine go_getq (pc' := 24) hC 85 1 layX_85 rfl rfl inlX6 (Nat.le_of_ble_eq_true rfl) mw_81 rfl dX6_copyOf_21 rfl ?_
  refine go_callS1 (pc' := 27) (As := [.ref (x_q X 28), .ref (x_q X 86)]) (st := []) (st' := []) (L1' := [(8500, x1), (8504, x2)]) (L2' := []) (L3' := [(86, (va_cpy (S.2.2.1 28) (S.2.2.1 86) 0 0 9)), (87, (S.2.2.1 87)), (88, (S.2.2.1 88)), (89, (S.2.2.1 89)), (90, (S.2.2.1 90)), (91, (S.2.2.1 91))]) (L4' := []) (L5' := []) (cells' := 0) (slots' := 0) hC dX6_copyOf_24 ⟨mw_1517, mw_467, mw_14, yd_yX2_copyRow, yp_yX2_copyRow, Nat.le_of_ble_eq_true rfl, Nat.le_of_ble_eq_true rfl, Nat.le_of_ble_eq_true rfl, Nat.le_of_ble_eq_true rfl⟩ mw_466 rfl rfl (Nat.le_of_ble_eq_true rfl) (c_copyRow (x_l X) (x_D X) (x_q X) g (x_cy X) (x_z X) _ layX layX_ok 28 86 9 layX_28 layX_86 (by decide)) rfl rfl rfl rfl rfl rfl rfl rfl rfl rfl rfl rfl rfl rfl ?_
  refine go_aload_n (pc' := 28) hC dX6_copyOf_27 rfl rfl ?_
  refine go_getq (pc' := 31) hC 27 2 layX_27 rfl rfl inlX6 (Nat.le_of_ble_eq_true rfl) mw_82 rfl dX6_copyOf_28 rfl ?_
  refine go_aload_n (pc' := 32) hC dX6_copyOf_31 rfl rfl ?_
  refine go_getq (pc' := 35) hC 85 2 layX_85 rfl rfl inlX6 (Nat.le_of_ble_eq_true rfl) mw_82 rfl dX6_copyOf_32 rfl ?_
  refine go_callS1 (pc' := 38) (As := [.ref (x_q X 29), .ref (x_q X 87)]) (st := []) (st' := []) (L1' := [(8500, x1), (8504, x2)]) (L2' := []) (L3' := [(86, (va_cpy (S.2.2.1 28) (S.2.2.1 86) 0 0 9)), (87, (va_cpy (S.2.2.1 29) (S.2.2.1 87) 0 0 9)), (88, (S.2.2.1 88)), (89, (S.2.2.1 89)), (90, (S.2.2.1 90)), (91, (S.2.2.1 91))]) (L4' := []) (L5' := []) (cells' := 0) (slots' := 0) hC dX6_copyOf_35 ⟨mw_1517, mw_467, mw_14, yd_yX2_copyRow, yp_yX2_copyRow, Nat.le_of_ble_eq_true rfl, Nat.le_of_ble_eq_true rfl, Nat.le_of_ble_eq_true rfl, Nat.le_of_ble_eq_true rfl⟩ mw_466 rfl rfl (Nat.le_of_ble_eq_true rfl) (c_copyRow (x_l X) (x_D X) (x_q X) g (x_cy X) (x_z X) _ layX layX_ok 29 87 9 layX_29 layX_87 (by decide)) rfl rfl rfl rfl rfl rfl rfl rfl rfl rfl rfl rfl rfl rfl ?_
  refine go_aload_n (pc' := 39) hC dX6_copyOf_38 rfl rfl ?_
  refine go_getq (pc' := 42) hC 27 3 layX_27 rfl rfl inlX6 (Nat.le_of_ble_eq_true rfl) mw_83 rfl dX6_copyOf_39 rfl ?_
  refine go_aload_n (pc' := 43) hC dX6_copyOf_42 rfl rfl ?_
  refine go_getq (pc' := 46) hC 85 3 layX_85 rfl rfl inlX6 (Nat.le_of_ble_eq_true rfl) mw_83 rfl dX6_copyOf_43 rfl ?_
  refine go_callS1 (pc' := 49) (As := [.ref (x_q X 30), .ref (x_q X 88)]) (st := []) (st' := []) (L1' := [(8500, x1), (8504, x2)]) (L2' := []) (L3' := [(86, (va_cpy (S.2.2.1 28) (S.2.2.1 86) 0 0 9)), (87, (va_cpy (S.2.2.1 29) (S.2.2.1 87) 0 0 9)), (88, (va_cpy (S.2.2.1 30) (S.2.2.1 88) 0 0 9)), (89, (S.2.2.1 89)), (90, (S.2.2.1 90)), (91, (S.2.2.1 91))]) (L4' := []) (L5' := []) (cells' := 0) (slots' := 0) hC dX6_copyOf_46 ⟨mw_1517, mw_467, mw_14, yd_yX2_copyRow, yp_yX2_copyRow, Nat.le_of_ble_eq_true rfl, Nat.le_of_ble_eq_true rfl, Nat.le_of_ble_eq_true rfl, Nat.le_of_ble_eq_true rfl⟩ mw_466 rfl rfl (Nat.le_of_ble_eq_true rfl) (c_copyRow (x_l X) (x_D X) (x_q X) g (x_cy X) (x_z X) _ layX layX_ok 30 88 9 layX_30 layX_88 (by decide)) rfl rfl rfl rfl rfl rfl rfl rfl rfl rfl rfl rfl rfl rfl ?_
  refine go_aload_n (pc' := 50) hC dX6_copyOf_49 rfl rfl ?_
  refine go_getq (pc' := 53) hC 27 5 layX_27 rfl rfl inlX6 (Nat.le_of_ble_eq_true rfl) mw_84 rfl dX6_copyOf_50 rfl ?_
  refine go_aload_n (pc' := 54) hC dX6_copyOf_53 rfl rfl ?_
  refine go_getq (pc' := 57) hC 85 5 layX_85 rfl rfl inlX6 (Nat.le_of_ble_eq_true rfl) mw_84 rfl dX6_copyOf_54 rfl ?_
  refine go_callS1 (pc' := 60) (As := [.ref (x_q X 31), .ref (x_q X 89)]) (st := []) (st' := []) (L1' := [(8500, x1), (8504, x2)]) (L2' := []) (L3' := [(86, (va_cpy (S.2.2.1 28) (S.2.2.1 86) 0 0 9)), (87, (va_cpy (S.2.2.1 29) (S.2.2.1 87) 0 0 9)), (88, (va_cpy (S.2.2.1 30) (S.2.2.1 88) 0 0 9)), (89, (va_cpy (S.2.2.1 31) (S.2.2.1 89) 0 0 6)), (90, (S.2.2.1 90)), (91, (S.2.2.1 91))]) (L4' := []) (L5' := []) (cells' := 0) (slots' := 0) hC dX6_copyOf_57 ⟨mw_1517, mw_467, mw_14, yd_yX2_copyRow, yp_yX2_copyRow, Nat.le_of_ble_eq_true rfl, Nat.le_of_ble_eq_true rfl, Nat.le_of_ble_eq_true rfl, Nat.le_of_ble_eq_true rfl⟩ mw_466 rfl rfl (Nat.le_of_ble_eq_true rfl) (c_copyRow (x_l X) (x_D X) (x_q X) g (x_cy X) (x_z X) _ layX layX_ok 31 89 6 layX_31 layX_89 (by decide)) rfl rfl rfl rfl rfl rfl rfl rfl rfl rfl rfl rfl rfl rfl ?_
  refine go_aload_n (pc' := 61) hC dX6_copyOf_60 rfl rfl ?_
  refine go_getq (pc' := 64) hC 27 6 layX_27 rfl rfl inlX6 (Nat.le_of_ble_eq_true rfl) mw_85 rfl dX6_copyOf_61 rfl ?_
  refine go_aload_n (pc' := 65) hC dX6_copyOf_64 rfl rfl ?_
  refine go_getq (pc' := 68) hC 85 6 layX_85 rfl rfl inlX6 (Nat.le_of_ble_eq_true rfl) mw_85 rfl dX6_copyOf_65 rfl ?_
  refine go_callS1 (pc' := 71) (As := [.ref (x_q X 32), .ref (x_q X 90)]) (st := []) (st' := []) (L1' := [(8500, x1), (8504, x2)]) (L2' := []) (L3' := [(86, (va_cpy (S.2.2.1 28) (S.2.2.1 86) 0 0 9)), (87, (va_cpy (S.2.2.1 29) (S.2.2.1 87) 0 0 9)), (88, (va_cpy (S.2.2.1 30) (S.2.2.1 88) 0 0 9)), (89, (va_cpy (S.2.2.1 31) (S.2.2.1 89) 0 0 6)), (90, (va_cpy (S.2.2.1 32) (S.2.2.1 90) 0 0 6)), (91, (S.2.2.1 91))]) (L4' := []) (L5' := []) (cells' := 0) (slots' := 0) hC dX6_copyOf_68 ⟨mw_1517, mw_467, mw_14, yd_yX2_copyRow, yp_yX2_copyRow, Nat.le_of_ble_eq_true rfl, Nat.le_of_ble_eq_true rfl, Nat.le_of_ble_eq_true rfl, Nat.le_of_ble_eq_true rfl⟩ mw_466 rfl rfl (Nat.le_of_ble_eq_true rfl) (c_copyRow (x_l X) (x_D X) (x_q X) g (x_cy X) (x_z X) _ layX layX_ok 32 90 6 layX_32 layX_90 (by decide)) rfl rfl rfl rfl rfl rfl rfl rfl rfl rfl rfl rfl rfl rfl ?_
  refine go_aload_n (pc' := 72) hC dX6_copyOf_71 rfl rfl ?_
  refine go_getq (pc' := 75) hC 27 7 layX_27 rfl rfl inlX6 (Nat.le_of_ble_eq_true rfl) mw_86 rfl dX6_copyOf_72 rfl ?_
  refine go_aload_n (pc' := 76) hC dX6_copyOf_75 rfl rfl ?_
  refine go_getq (pc' := 79) hC 85 7 layX_85 rfl rfl inlX6 (Nat.le_of_ble_eq_true rfl) mw_86 rfl dX6_copyOf_76 rfl ?_
  refine go_callS1 (pc' := 82) (As := [.ref (x_q X 33), .ref (x_q X 91)]) (st := []) (st' := []) (L1' := [(8500, x1), (8504, x2)]) (L2' := []) (L3' := [(86, (va_cpy (S.2.2.1 28) (S.2.2.1 86) 0 0 9)), (87, (va_cpy (S.2.2.1 29) (S.2.2.1 87) 0 0 9)), (88, (va_cpy (S.2.2.1 30) (S.2.2.1 88) 0 0 9)), (89, (va_cpy (S.2.2.1 31) (S.2.2.1 89) 0 0 6)), (90, (va_cpy (S.2.2.1 32) (S.2.2.1 90) 0 0 6)), (91, (va_cpy (S.2.2.1 33) (S.2.2.1 91) 0 0 6))]) (L4' := []) (L5' := []) (cells' := 0) (slots' := 0) hC dX6_copyOf_79 ⟨mw_1517, mw_467, mw_14, yd_yX2_copyRow, yp_yX2_copyRow, Nat.le_of_ble_eq_true rfl, Nat.le_of_ble_eq_true rfl, Nat.le_of_ble_eq_true rfl, Nat.le_of_ble_eq_true rfl⟩ mw_466 rfl rfl (Nat.le_of_ble_eq_true rfl) (c_copyRow (x_l X) (x_D X) (x_q X) g (x_cy X) (x_z X) _ layX layX_ok 33 91 6 layX_33 layX_91 (by decide)) rfl rfl rfl rfl rfl rfl rfl rfl rfl rfl rfl rfl rfl rfl ?_
  obtain rfl := Option.some.inj hf
  exact go_vret hC hQ dX6_copyOf_82 rfl rfl rfl (fun _ => rfl) rfl rfl
abbrev o_X2_countBy_q34 : Type := Int32 × Int32 × Int32 × Int32
def f_X2_countBy_q34 (S : wd_W) (p1 : Int32) (p2 : Int32) (p3 : Int32) (p4 : Int32) : Option o_X2_countBy_q34 :=
some (p1, p2, p3, p4)
set_option maxRecDepth 100000 in
set_option maxHeartbeats 4000000 in
theorem c_X2_countBy_q34 (l : Launch) (D : va_G) (q g : Nat → Nat) (cy : Nat → ClassId) (z : (Nat → Nat) × (Nat → Nat) × Nat) (S : wd_W) (p1 : Int32) (p2 : Int32) (p3 : Int32) (p4 : Int32) (o : o_X2_countBy_q34) (hf : f_X2_countBy_q34 S p1 p2 p3 p4 = some o) : MX layX l yX2_countBy cX2_countBy 5 none ({ frames := 0, cells := 0, slots := 0, locals := 0 } : Room) D q g cy z [.ref (q 34), .int p1, .int p2, .int p3, .int p4] S false (none) (wd_o S [(3414, o.1), (3415, o.2.1), (3416, o.2.2.1), (3417, o.2.2.2)] [] [] [] []) 0 0 := by
  refine mx_of (own := RX2) (lc := [(0, .ref (q 34)), (1, .int p1), (2, .int p2), (3, .int p3), (4, .int p4)]) (by decide +kernel) rfl layX_ok (Nat.le_of_ble_eq_true rfl) rfl ?_
  intro X hXl hXq hXz hC hQ
  subst hXl; subst hXq; subst hXz
  unfold f_X2_countBy_q34 at hf
  refine go_keys (L1 := [(3414, (S.1 3414)), (3415, (S.1 3415)), (3416, (S.1 3416)), (3417, (S.1 3417))]) (L2 := []) (L3 := []) (L4 := []) (L5 := []) [3414, 3415, 3416, 3417] [] [] [] [] rfl rfl rfl rfl rfl ?_
  refine go_aload_n (pc' := 1) hC dX2_countBy_0 rfl rfl ?_
  refine go_iload_n (pc' := 2) hC dX2_countBy_1 rfl rfl ?_
  refine go_puti (L1' := [(3414, p1), (3415, (S.1 3415)), (3416, (S.1 3416)), (3417, (S.1 3417))]) (pc' := 5) hC 34 14 layX_34 rfl rfl inlX2 tyX2_ok nmX2 (Nat.le_of_ble_eq_true rfl) mw_70 rfl rfl rfl rfl dX2_countBy_2 rfl rfl rfl ?_
  refine go_aload_n (pc' := 6) hC dX2_countBy_5 rfl rfl ?_
  refine go_iload_n (pc' := 7) hC dX2_countBy_6 rfl rfl ?_
  refine go_puti (L1' := [(3414, p1), (3415, p2), (3416, (S.1 3416)), (3417, (S.1 3417))]) (pc' := 10) hC 34 15 layX_34 rfl rfl inlX2 tyX2_ok nmX2 (Nat.le_of_ble_eq_true rfl) mw_316 rfl rfl rfl rfl dX2_countBy_7 rfl rfl rfl ?_
  refine go_aload_n (pc' := 11) hC dX2_countBy_10 rfl rfl ?_
  refine go_iload_n (pc' := 12) hC dX2_countBy_11 rfl rfl ?_
  refine go_puti (L1' := [(3414, p1), (3415, p2), (3416, p3), (3417, (S.1 3417))]) (pc' := 15) hC 34 16 layX_34 rfl rfl inlX2 tyX2_ok nmX2 (Nat.le_of_ble_eq_true rfl) mw_317 rfl rfl rfl rfl dX2_countBy_12 rfl rfl rfl ?_
  refine go_aload_n (pc' := 16) hC dX2_countBy_15 rfl rfl ?_
  refine go_iload (pc' := 18) hC dX2_countBy_16 rfl rfl ?_
  refine go_puti (L1' := [(3414, p1), (3415, p2), (3416, p3), (3417, p4)]) (pc' := 21) hC 34 17 layX_34 rfl rfl inlX2 tyX2_ok nmX2 (Nat.le_of_ble_eq_true rfl) mw_318 rfl rfl rfl rfl dX2_countBy_18 rfl rfl rfl ?_
  obtain rfl := Option.some.inj hf
  exact go_vret hC hQ dX2_countBy_21 rfl rfl rfl (fun _ => rfl) rfl rfl
abbrev o_X2_copyOf_q34_q16 : Type := Int32 × Int32 × Int32 × Int32 × Int32 × Int32 × Int32 × Int32 × (Nat → Int32) × (Nat → Int32) × (Nat → Int32) × (Nat → Int32) × (Nat → Int32) × (Nat → Int32) × (Nat → Int32) × (Nat → Int32) × (Nat → Int32) × (Nat → Int32)
def f_X2_copyOf_q34_q16 (S : wd_W) : Option o_X2_copyOf_q34_q16 :=
lz ((S.1 1600)) fun x1 =>
lz ((S.1 1601)) fun x2 =>
lz ((S.1 1607)) fun x3 =>
lz ((S.1 1610)) fun x4 =>
bd (f_X2_countBy_q34 (wd_o S [(3400, x1), (3401, x2), (3407, x3), (3410, x4), (3414, (S.1 3414)), (3415, (S.1 3415)), (3416, (S.1 3416)), (3417, (S.1 3417))] [] [(35, (S.2.2.1 35)), (36, (S.2.2.1 36)), (37, (S.2.2.1 37)), (38, (S.2.2.1 38)), (39, (S.2.2.1 39)), (40, (S.2.2.1 40)), (41, (S.2.2.1 41)), (42, (S.2.2.1 42)), (43, (S.2.2.1 43)), (44, (S.2.2.1 44))] [] []) (S.1 1614) (S.1 1615) (S.1 1616) (S.1 1617)) fun o5 =>
some (x1, x2, x3, x4, o5.1, o5.2.1, o5.2.2.1, o5.2.2.2, (va_cpy (S.2.2.1 17) (S.2.2.1 35) 0 0 13), (va_cpy (S.2.2.1 18) (S.2.2.1 36) 0 0 13), (va_cpy (S.2.2.1 19) (S.2.2.1 37) 0 0 13), (va_cpy (S.2.2.1 20) (S.2.2.1 38) 0 0 13), (va_cpy (S.2.2.1 21) (S.2.2.1 39) 0 0 13), (va_cpy (S.2.2.1 22) (S.2.2.1 40) 0 0 10), (va_cpy (S.2.2.1 23) (S.2.2.1 41) 0 0 10), (va_cpy (S.2.2.1 24) (S.2.2.1 42) 0 0 3), (va_cpy (S.2.2.1 25) (S.2.2.1 43) 0 0 3), (va_cpy (S.2.2.1 26) (S.2.2.1 44) 0 0 3))
set_option maxRecDepth 100000 in
set_option maxHeartbeats 4000000 in
theorem c_X2_copyOf_q34_q16 (l : Launch) (D : va_G) (q g : Nat → Nat) (cy : Nat → ClassId) (z : (Nat → Nat) × (Nat → Nat) × Nat) (S : wd_W) (o : o_X2_copyOf_q34_q16) (hf : f_X2_copyOf_q34_q16 S = some o) : MX layX l yX2_copyOf cX2_copyOf 2 none ({ frames := 2, cells := 0, slots := 0, locals := 81 } : Room) D q g cy z [.ref (q 34), .ref (q 16)] S false (none) (wd_o S [(3400, o.1), (3401, o.2.1), (3407, o.2.2.1), (3410, o.2.2.2.1), (3414, o.2.2.2.2.1), (3415, o.2.2.2.2.2.1), (3416, o.2.2.2.2.2.2.1), (3417, o.2.2.2.2.2.2.2.1)] [] [(35, o.2.2.2.2.2.2.2.2.1), (36, o.2.2.2.2.2.2.2.2.2.1), (37, o.2.2.2.2.2.2.2.2.2.2.1), (38, o.2.2.2.2.2.2.2.2.2.2.2.1), (39, o.2.2.2.2.2.2.2.2.2.2.2.2.1), (40, o.2.2.2.2.2.2.2.2.2.2.2.2.2.1), (41, o.2.2.2.2.2.2.2.2.2.2.2.2.2.2.1), (42, o.2.2.2.2.2.2.2.2.2.2.2.2.2.2.2.1), (43, o.2.2.2.2.2.2.2.2.2.2.2.2.2.2.2.2.1), (44, o.2.2.2.2.2.2.2.2.2.2.2.2.2.2.2.2.2)] [] []) 0 0 := by
  refine mx_of (own := RX2) (lc := [(0, .ref (q 34)), (1, .ref (q 16))]) (by decide +kernel) rfl layX_ok (Nat.le_of_ble_eq_true rfl) rfl ?_
  intro X hXl hXq hXz hC hQ
  subst hXl; subst hXq; subst hXz
  unfold f_X2_copyOf_q34_q16 at hf
  refine go_keys (L1 := [(3400, (S.1 3400)), (3401, (S.1 3401)), (3407, (S.1 3407)), (3410, (S.1 3410)), (3414, (S.1 3414)), (3415, (S.1 3415)), (3416, (S.1 3416)), (3417, (S.1 3417))]) (L2 := []) (L3 := [(35, (S.2.2.1 35)), (36, (S.2.2.1 36)), (37, (S.2.2.1 37)), (38, (S.2.2.1 38)), (39, (S.2.2.1 39)), (40, (S.2.2.1 40)), (41, (S.2.2.1 41)), (42, (S.2.2.1 42)), (43, (S.2.2.1 43)), (44, (S.2.2.1 44))]) (L4 := []) (L5 := []) [3400, 3401, 3407, 3410, 3414, 3415, 3416, 3417] [] [35, 36, 37, 38, 39, 40, 41, 42, 43, 44] [] [] rfl rfl rfl rfl rfl ?_
  refine go_aload_n (pc' := 1) hC dX2_copyOf_0 rfl rfl ?_
  refine go_aload_n (pc' := 2) hC dX2_copyOf_1 rfl rfl ?_
  refine go_geti (v := (S.1 1600)) (pc' := 5) hC 16 0 layX_16 rfl rfl inlX2 (Nat.le_of_ble_eq_true rfl) mw_58 rfl dX2_copyOf_2 rfl rfl ?_
  refine go_namei (fun x1 hx => ?_)
  have hf := lz_r hx hf
  clear hx
  refine go_puti (L1' := [(3400, x1), (3401, (S.1 3401)), (3407, (S.1 3407)), (3410, (S.1 3410)), (3414, (S.1 3414)), (3415, (S.1 3415)), (3416, (S.1 3416)), (3417, (S.1 3417))]) (pc' := 8) hC 34 0 layX_34 rfl rfl inlX2 tyX2_ok nmX2 (Nat.le_of_ble_eq_true rfl) mw_58 rfl rfl rfl rfl dX2_copyOf_5 rfl rfl rfl ?_
  refine go_aload_n (pc' := 9) hC dX2_copyOf_8 rfl rfl ?_
  refine go_aload_n (pc' := 10) hC dX2_copyOf_9 rfl rfl ?_
  refine go_geti (v := (S.1 1601)) (pc' := 13) hC 16 1 layX_16 rfl rfl inlX2 (Nat.le_of_ble_eq_true rfl) mw_309 rfl dX2_copyOf_10 rfl rfl ?_
  refine go_namei (fun x2 hx => ?_)
  have hf := lz_r hx hf
  clear hx
  refine go_puti (L1' := [(3400, x1), (3401, x2), (3407, (S.1 3407)), (3410, (S.1 3410)), (3414, (S.1 3414)), (3415, (S.1 3415)), (3416, (S.1 3416)), (3417, (S.1 3417))]) (pc' := 16) hC 34 1 layX_34 rfl rfl inlX2 tyX2_ok nmX2 (Nat.le_of_ble_eq_true rfl) mw_309 rfl rfl rfl rfl dX2_copyOf_13 rfl rfl rfl ?_
  refine go_aload_n (pc' := 17) hC dX2_copyOf_16 rfl rfl ?_
  refine go_aload_n (pc' := 18) hC dX2_copyOf_17 rfl rfl ?_
  refine go_geti (v := (S.1 1607)) (pc' := 21) hC 16 7 layX_16 rfl rfl inlX2 (Nat.le_of_ble_eq_true rfl) mw_310 rfl dX2_copyOf_18 rfl rfl ?_
  refine go_namei (fun x3 hx => ?_)
  have hf := lz_r hx hf
  clear hx
  refine go_puti (L1' := [(3400, x1), (3401, x2), (3407, x3), (3410, (S.1 3410)), (3414, (S.1 3414)), (3415, (S.1 3415)), (3416, (S.1 3416)), (3417, (S.1 3417))]) (pc' := 24) hC 34 7 layX_34 rfl rfl inlX2 tyX2_ok nmX2 (Nat.le_of_ble_eq_true rfl) mw_310 rfl rfl rfl rfl dX2_copyOf_21 rfl rfl rfl ?_
  refine go_aload_n (pc' := 25) hC dX2_copyOf_24 rfl rfl ?_
  refine go_aload_n (pc' := 26) hC dX2_copyOf_25 rfl rfl ?_
  refine go_geti (v := (S.1 1610)) (pc' := 29) hC 16 10 layX_16 rfl rfl inlX2 (Nat.le_of_ble_eq_true rfl) mw_311 rfl dX2_copyOf_26 rfl rfl ?_
  refine go_namei (fun x4 hx => ?_)
  have hf := lz_r hx hf
  clear hx
  refine go_puti (L1' := [(3400, x1), (3401, x2), (3407, x3), (3410, x4), (3414, (S.1 3414)), (3415, (S.1 3415)), (3416, (S.1 3416)), (3417, (S.1 3417))]) (pc' := 32) hC 34 10 layX_34 rfl rfl inlX2 tyX2_ok nmX2 (Nat.le_of_ble_eq_true rfl) mw_311 rfl rfl rfl rfl dX2_copyOf_29 rfl rfl rfl ?_
  refine go_aload_n (pc' := 33) hC dX2_copyOf_32 rfl rfl ?_
  refine go_aload_n (pc' := 34) hC dX2_copyOf_33 rfl rfl ?_
  refine go_geti (v := (S.1 1614)) (pc' := 37) hC 16 14 layX_16 rfl rfl inlX2 (Nat.le_of_ble_eq_true rfl) mw_70 rfl dX2_copyOf_34 rfl rfl ?_
  refine go_aload_n (pc' := 38) hC dX2_copyOf_37 rfl rfl ?_
  refine go_geti (v := (S.1 1615)) (pc' := 41) hC 16 15 layX_16 rfl rfl inlX2 (Nat.le_of_ble_eq_true rfl) mw_316 rfl dX2_copyOf_38 rfl rfl ?_
  refine go_aload_n (pc' := 42) hC dX2_copyOf_41 rfl rfl ?_
  refine go_geti (v := (S.1 1616)) (pc' := 45) hC 16 16 layX_16 rfl rfl inlX2 (Nat.le_of_ble_eq_true rfl) mw_317 rfl dX2_copyOf_42 rfl rfl ?_
  refine go_aload_n (pc' := 46) hC dX2_copyOf_45 rfl rfl ?_
  refine go_geti (v := (S.1 1617)) (pc' := 49) hC 16 17 layX_16 rfl rfl inlX2 (Nat.le_of_ble_eq_true rfl) mw_318 rfl dX2_copyOf_46 rfl rfl ?_
  obtain ⟨o5, ho5, hf⟩ := bd_e hf
  refine go_callV1 (pc' := 52) (As := [.int (S.1 1614), .int (S.1 1615), .int (S.1 1616), .int (S.1 1617)]) (st := []) (st' := []) (L1' := [(3400, x1), (3401, x2), (3407, x3), (3410, x4), (3414, o5.1), (3415, o5.2.1), (3416, o5.2.2.1), (3417, o5.2.2.2)]) (L2' := []) (L3' := [(35, (S.2.2.1 35)), (36, (S.2.2.1 36)), (37, (S.2.2.1 37)), (38, (S.2.2.1 38)), (39, (S.2.2.1 39)), (40, (S.2.2.1 40)), (41, (S.2.2.1 41)), (42, (S.2.2.1 42)), (43, (S.2.2.1 43)), (44, (S.2.2.1 44))]) (L4' := []) (L5' := []) (cells' := 0) (slots' := 0)  (b := 34) hC dX2_copyOf_49 ⟨mw_312, mw_315, mw_14, yd_yX2_countBy, yp_yX2_countBy, Nat.le_of_ble_eq_true rfl, Nat.le_of_ble_eq_true rfl, (Nat.le_of_ble_eq_true rfl), (Nat.le_of_ble_eq_true rfl)⟩ mw_313 mw_314 layX_34 rfl rfl rfl (Nat.le_of_ble_eq_true rfl) (c_X2_countBy_q34 (x_l X) (x_D X) (x_q X) g (x_cy X) (x_z X) _ (S.1 1614) (S.1 1615) (S.1 1616) (S.1 1617) o5 ho5) rfl rfl rfl rfl rfl rfl rfl rfl rfl rfl rfl rfl rfl rfl ?_
  refine go_aload_n (pc' := 53) hC dX2_copyOf_52 rfl rfl ?_
  refine go_getq (pc' := 56) hC 16 2 layX_16 rfl rfl inlX2 (Nat.le_of_ble_eq_true rfl) mw_60 rfl dX2_copyOf_53 rfl ?_
  refine go_aload_n (pc' := 57) hC dX2_copyOf_56 rfl rfl ?_
  refine go_getq (pc' := 60) hC 34 2 layX_34 rfl rfl inlX2 (Nat.le_of_ble_eq_true rfl) mw_60 rfl dX2_copyOf_57 rfl ?_
  refine go_callS1 (pc' := 63) (As := [.ref (x_q X 17), .ref (x_q X 35)]) (st := []) (st' := []) (L1' := [(3400, x1), (3401, x2), (3407, x3), (3410, x4), (3414, o5.1), (3415, o5.2.1), (3416, o5.2.2.1), (3417, o5.2.2.2)]) (L2' := []) (L3' := [(35, (va_cpy (S.2.2.1 17) (S.2.2.1 35) 0 0 13)), (36, (S.2.2.1 36)), (37, (S.2.2.1 37)), (38, (S.2.2.1 38)), (39, (S.2.2.1 39)), (40, (S.2.2.1 40)), (41, (S.2.2.1 41)), (42, (S.2.2.1 42)), (43, (S.2.2.1 43)), (44, (S.2.2.1 44))]) (L4' := []) (L5' := []) (cells' := 0) (slots' := 0) hC dX2_copyOf_60 ⟨mw_465, mw_467, mw_14, yd_yX2_copyRow, yp_yX2_copyRow, Nat.le_of_ble_eq_true rfl, Nat.le_of_ble_eq_true rfl, Nat.le_of_ble_eq_true rfl, Nat.le_of_ble_eq_true rfl⟩ mw_466 rfl rfl (Nat.le_of_ble_eq_true rfl) (c_copyRow (x_l X) (x_D X) (x_q X) g (x_cy X) (x_z X) _ layX layX_ok 17 35 13 layX_17 layX_35 (by decide)) rfl rfl rfl rfl rfl rfl rfl rfl rfl rfl rfl rfl rfl rfl ?_
  refine go_aload_n (pc' := 64) hC dX2_copyOf_63 rfl rfl ?_
  refine go_getq (pc' := 67) hC 16 3 layX_16 rfl rfl inlX2 (Nat.le_of_ble_eq_true rfl) mw_61 rfl dX2_copyOf_64 rfl ?_
  refine go_aload_n (pc' := 68) hC dX2_copyOf_67 rfl rfl ?_
  refine go_getq (pc' := 71) hC 34 3 layX_34 rfl rfl inlX2 (Nat.le_of_ble_eq_true rfl) mw_61 rfl dX2_copyOf_68 rfl ?_
  refine go_callS1 (pc' := 74) (As := [.ref (x_q X 18), .ref (x_q X 36)]) (st := []) (st' := []) (L1' := [(3400, x1), (3401, x2), (3407, x3), (3410, x4), (3414, o5.1), (3415, o5.2.1), (3416, o5.2.2.1), (3417, o5.2.2.2)]) (L2' := []) (L3' := [(35, (va_cpy (S.2.2.1 17) (S.2.2.1 35) 0 0 13)), (36, (va_cpy (S.2.2.1 18) (S.2.2.1 36) 0 0 13)), (37, (S.2.2.1 37)), (38, (S.2.2.1 38)), (39, (S.2.2.1 39)), (40, (S.2.2.1 40)), (41, (S.2.2.1 41)), (42, (S.2.2.1 42)), (43, (S.2.2.1 43)), (44, (S.2.2.1 44))]) (L4' := []) (L5' := []) (cells' := 0) (slots' := 0) hC dX2_copyOf_71 ⟨mw_465, mw_467, mw_14, yd_yX2_copyRow, yp_yX2_copyRow, Nat.le_of_ble_eq_true rfl, Nat.le_of_ble_eq_true rfl, Nat.le_of_ble_eq_true rfl, Nat.le_of_ble_eq_true rfl⟩ mw_466 rfl rfl (Nat.le_of_ble_eq_true rfl) (c_copyRow (x_l X) (x_D X) (x_q X) g (x_cy X) (x_z X) _ layX layX_ok 18 36 13 layX_18 layX_36 (by decide)) rfl rfl rfl rfl rfl rfl rfl rfl rfl rfl rfl rfl rfl rfl ?_
  refine go_aload_n (pc' := 75) hC dX2_copyOf_74 rfl rfl ?_
  refine go_getq (pc' := 78) hC 16 4 layX_16 rfl rfl inlX2 (Nat.le_of_ble_eq_true rfl) mw_62 rfl dX2_copyOf_75 rfl ?_
  refine go_aload_n (pc' := 79) hC dX2_copyOf_78 rfl rfl ?_
  refine go_getq (pc' := 82) hC 34 4 layX_34 rfl rfl inlX2 (Nat.le_of_ble_eq_true rfl) mw_62 rfl dX2_copyOf_79 rfl ?_
  refine go_callS1 (pc' := 85) (As := [.ref (x_q X 19), .ref (x_q X 37)]) (st := []) (st' := []) (L1' := [(3400, x1), (3401, x2), (3407, x3), (3410, x4), (3414, o5.1), (3415, o5.2.1), (3416, o5.2.2.1), (3417, o5.2.2.2)]) (L2' := []) (L3' := [(35, (va_cpy (S.2.2.1 17) (S.2.2.1 35) 0 0 13)), (36, (va_cpy (S.2.2.1 18) (S.2.2.1 36) 0 0 13)), (37, (va_cpy (S.2.2.1 19) (S.2.2.1 37) 0 0 13)), (38, (S.2.2.1 38)), (39, (S.2.2.1 39)), (40, (S.2.2.1 40)), (41, (S.2.2.1 41)), (42, (S.2.2.1 42)), (43, (S.2.2.1 43)), (44, (S.2.2.1 44))]) (L4' := []) (L5' := []) (cells' := 0) (slots' := 0) hC dX2_copyOf_82 ⟨mw_465, mw_467, mw_14, yd_yX2_copyRow, yp_yX2_copyRow, Nat.le_of_ble_eq_true rfl, Nat.le_of_ble_eq_true rfl, Nat.le_of_ble_eq_true rfl, Nat.le_of_ble_eq_true rfl⟩ mw_466 rfl rfl (Nat.le_of_ble_eq_true rfl) (c_copyRow (x_l X) (x_D X) (x_q X) g (x_cy X) (x_z X) _ layX layX_ok 19 37 13 layX_19 layX_37 (by decide)) rfl rfl rfl rfl rfl rfl rfl rfl rfl rfl rfl rfl rfl rfl ?_
  refine go_aload_n (pc' := 86) hC dX2_copyOf_85 rfl rfl ?_
  refine go_getq (pc' := 89) hC 16 5 layX_16 rfl rfl inlX2 (Nat.le_of_ble_eq_true rfl) mw_63 rfl dX2_copyOf_86 rfl ?_
  refine go_aload_n (pc' := 90) hC dX2_copyOf_89 rfl rfl ?_
  refine go_getq (pc' := 93) hC 34 5 layX_34 rfl rfl inlX2 (Nat.le_of_ble_eq_true rfl) mw_63 rfl dX2_copyOf_90 rfl ?_
  refine go_callS1 (pc' := 96) (As := [.ref (x_q X 20), .ref (x_q X 38)]) (st := []) (st' := []) (L1' := [(3400, x1), (3401, x2), (3407, x3), (3410, x4), (3414, o5.1), (3415, o5.2.1), (3416, o5.2.2.1), (3417, o5.2.2.2)]) (L2' := []) (L3' := [(35, (va_cpy (S.2.2.1 17) (S.2.2.1 35) 0 0 13)), (36, (va_cpy (S.2.2.1 18) (S.2.2.1 36) 0 0 13)), (37, (va_cpy (S.2.2.1 19) (S.2.2.1 37) 0 0 13)), (38, (va_cpy (S.2.2.1 20) (S.2.2.1 38) 0 0 13)), (39, (S.2.2.1 39)), (40, (S.2.2.1 40)), (41, (S.2.2.1 41)), (42, (S.2.2.1 42)), (43, (S.2.2.1 43)), (44, (S.2.2.1 44))]) (L4' := []) (L5' := []) (cells' := 0) (slots' := 0) hC dX2_copyOf_93 ⟨mw_465, mw_467, mw_14, yd_yX2_copyRow, yp_yX2_copyRow, Nat.le_of_ble_eq_true rfl, Nat.le_of_ble_eq_true rfl, Nat.le_of_ble_eq_true rfl, Nat.le_of_ble_eq_true rfl⟩ mw_466 rfl rfl (Nat.le_of_ble_eq_true rfl) (c_copyRow (x_l X) (x_D X) (x_q X) g (x_cy X) (x_z X) _ layX layX_ok 20 38 13 layX_20 layX_38 (by decide)) rfl rfl rfl rfl rfl rfl rfl rfl rfl rfl rfl rfl rfl rfl ?_
  refine go_aload_n (pc' := 97) hC dX2_copyOf_96 rfl rfl ?_
  refine go_getq (pc' := 100) hC 16 6 layX_16 rfl rfl inlX2 (Nat.le_of_ble_eq_true rfl) mw_64 rfl dX2_copyOf_97 rfl ?_
  refine go_aload_n (pc' := 101) hC dX2_copyOf_100 rfl rfl ?_
  refine go_getq (pc' := 104) hC 34 6 layX_34 rfl rfl inlX2 (Nat.le_of_ble_eq_true rfl) mw_64 rfl dX2_copyOf_101 rfl ?_
  refine go_callS1 (pc' := 107) (As := [.ref (x_q X 21), .ref (x_q X 39)]) (st := []) (st' := []) (L1' := [(3400, x1), (3401, x2), (3407, x3), (3410, x4), (3414, o5.1), (3415, o5.2.1), (3416, o5.2.2.1), (3417, o5.2.2.2)]) (L2' := []) (L3' := [(35, (va_cpy (S.2.2.1 17) (S.2.2.1 35) 0 0 13)), (36, (va_cpy (S.2.2.1 18) (S.2.2.1 36) 0 0 13)), (37, (va_cpy (S.2.2.1 19) (S.2.2.1 37) 0 0 13)), (38, (va_cpy (S.2.2.1 20) (S.2.2.1 38) 0 0 13)), (39, (va_cpy (S.2.2.1 21) (S.2.2.1 39) 0 0 13)), (40, (S.2.2.1 40)), (41, (S.2.2.1 41)), (42, (S.2.2.1 42)), (43, (S.2.2.1 43)), (44, (S.2.2.1 44))]) (L4' := []) (L5' := []) (cells' := 0) (slots' := 0) hC dX2_copyOf_104 ⟨mw_465, mw_467, mw_14, yd_yX2_copyRow, yp_yX2_copyRow, Nat.le_of_ble_eq_true rfl, Nat.le_of_ble_eq_true rfl, Nat.le_of_ble_eq_true rfl, Nat.le_of_ble_eq_true rfl⟩ mw_466 rfl rfl (Nat.le_of_ble_eq_true rfl) (c_copyRow (x_l X) (x_D X) (x_q X) g (x_cy X) (x_z X) _ layX layX_ok 21 39 13 layX_21 layX_39 (by decide)) rfl rfl rfl rfl rfl rfl rfl rfl rfl rfl rfl rfl rfl rfl ?_
  refine go_aload_n (pc' := 108) hC dX2_copyOf_107 rfl rfl ?_
  refine go_getq (pc' := 111) hC 16 8 layX_16 rfl rfl inlX2 (Nat.le_of_ble_eq_true rfl) mw_65 rfl dX2_copyOf_108 rfl ?_
  refine go_aload_n (pc' := 112) hC dX2_copyOf_111 rfl rfl ?_
  refine go_getq (pc' := 115) hC 34 8 layX_34 rfl rfl inlX2 (Nat.le_of_ble_eq_true rfl) mw_65 rfl dX2_copyOf_112 rfl ?_
  refine go_callS1 (pc' := 118) (As := [.ref (x_q X 22), .ref (x_q X 40)]) (st := []) (st' := []) (L1' := [(3400, x1), (3401, x2), (3407, x3), (3410, x4), (3414, o5.1), (3415, o5.2.1), (3416, o5.2.2.1), (3417, o5.2.2.2)]) (L2' := []) (L3' := [(35, (va_cpy (S.2.2.1 17) (S.2.2.1 35) 0 0 13)), (36, (va_cpy (S.2.2.1 18) (S.2.2.1 36) 0 0 13)), (37, (va_cpy (S.2.2.1 19) (S.2.2.1 37) 0 0 13)), (38, (va_cpy (S.2.2.1 20) (S.2.2.1 38) 0 0 13)), (39, (va_cpy (S.2.2.1 21) (S.2.2.1 39) 0 0 13)), (40, (va_cpy (S.2.2.1 22) (S.2.2.1 40) 0 0 10)), (41, (S.2.2.1 41)), (42, (S.2.2.1 42)), (43, (S.2.2.1 43)), (44, (S.2.2.1 44))]) (L4' := []) (L5' := []) (cells' := 0) (slots' := 0) hC dX2_copyOf_115 ⟨mw_465, mw_467, mw_14, yd_yX2_copyRow, yp_yX2_copyRow, Nat.le_of_ble_eq_true rfl, Nat.le_of_ble_eq_true rfl, Nat.le_of_ble_eq_true rfl, Nat.le_of_ble_eq_true rfl⟩ mw_466 rfl rfl (Nat.le_of_ble_eq_true rfl) (c_copyRow (x_l X) (x_D X) (x_q X) g (x_cy X) (x_z X) _ layX layX_ok 22 40 10 layX_22 layX_40 (by decide)) rfl rfl rfl rfl rfl rfl rfl rfl rfl rfl rfl rfl rfl rfl ?_
  refine go_aload_n (pc' := 119) hC dX2_copyOf_118 rfl rfl ?_
  refine go_getq (pc' := 122) hC 16 9 layX_16 rfl rfl inlX2 (Nat.le_of_ble_eq_true rfl) mw_66 rfl dX2_copyOf_119 rfl ?_
  refine go_aload_n (pc' := 123) hC dX2_copyOf_122 rfl rfl ?_
  refine go_getq (pc' := 126) hC 34 9 layX_34 rfl rfl inlX2 (Nat.le_of_ble_eq_true rfl) mw_66 rfl dX2_copyOf_123 rfl ?_
  refine go_callS1 (pc' := 129) (As := [.ref (x_q X 23), .ref (x_q X 41)]) (st := []) (st' := []) (L1' := [(3400, x1), (3401, x2), (3407, x3), (3410, x4), (3414, o5.1), (3415, o5.2.1), (3416, o5.2.2.1), (3417, o5.2.2.2)]) (L2' := []) (L3' := [(35, (va_cpy (S.2.2.1 17) (S.2.2.1 35) 0 0 13)), (36, (va_cpy (S.2.2.1 18) (S.2.2.1 36) 0 0 13)), (37, (va_cpy (S.2.2.1 19) (S.2.2.1 37) 0 0 13)), (38, (va_cpy (S.2.2.1 20) (S.2.2.1 38) 0 0 13)), (39, (va_cpy (S.2.2.1 21) (S.2.2.1 39) 0 0 13)), (40, (va_cpy (S.2.2.1 22) (S.2.2.1 40) 0 0 10)), (41, (va_cpy (S.2.2.1 23) (S.2.2.1 41) 0 0 10)), (42, (S.2.2.1 42)), (43, (S.2.2.1 43)), (44, (S.2.2.1 44))]) (L4' := []) (L5' := []) (cells' := 0) (slots' := 0) hC dX2_copyOf_126 ⟨mw_465, mw_467, mw_14, yd_yX2_copyRow, yp_yX2_copyRow, Nat.le_of_ble_eq_true rfl, Nat.le_of_ble_eq_true rfl, Nat.le_of_ble_eq_true rfl, Nat.le_of_ble_eq_true rfl⟩ mw_466 rfl rfl (Nat.le_of_ble_eq_true rfl) (c_copyRow (x_l X) (x_D X) (x_q X) g (x_cy X) (x_z X) _ layX layX_ok 23 41 10 layX_23 layX_41 (by decide)) rfl rfl rfl rfl rfl rfl rfl rfl rfl rfl rfl rfl rfl rfl ?_
  refine go_aload_n (pc' := 130) hC dX2_copyOf_129 rfl rfl ?_
  refine go_getq (pc' := 133) hC 16 11 layX_16 rfl rfl inlX2 (Nat.le_of_ble_eq_true rfl) mw_67 rfl dX2_copyOf_130 rfl ?_
  refine go_aload_n (pc' := 134) hC dX2_copyOf_133 rfl rfl ?_
  refine go_getq (pc' := 137) hC 34 11 layX_34 rfl rfl inlX2 (Nat.le_of_ble_eq_true rfl) mw_67 rfl dX2_copyOf_134 rfl ?_
  refine go_callS1 (pc' := 140) (As := [.ref (x_q X 24), .ref (x_q X 42)]) (st := []) (st' := []) (L1' := [(3400, x1), (3401, x2), (3407, x3), (3410, x4), (3414, o5.1), (3415, o5.2.1), (3416, o5.2.2.1), (3417, o5.2.2.2)]) (L2' := []) (L3' := [(35, (va_cpy (S.2.2.1 17) (S.2.2.1 35) 0 0 13)), (36, (va_cpy (S.2.2.1 18) (S.2.2.1 36) 0 0 13)), (37, (va_cpy (S.2.2.1 19) (S.2.2.1 37) 0 0 13)), (38, (va_cpy (S.2.2.1 20) (S.2.2.1 38) 0 0 13)), (39, (va_cpy (S.2.2.1 21) (S.2.2.1 39) 0 0 13)), (40, (va_cpy (S.2.2.1 22) (S.2.2.1 40) 0 0 10)), (41, (va_cpy (S.2.2.1 23) (S.2.2.1 41) 0 0 10)), (42, (va_cpy (S.2.2.1 24) (S.2.2.1 42) 0 0 3)), (43, (S.2.2.1 43)), (44, (S.2.2.1 44))]) (L4' := []) (L5' := []) (cells' := 0) (slots' := 0) hC dX2_copyOf_137 ⟨mw_465, mw_467, mw_14, yd_yX2_copyRow, yp_yX2_copyRow, Nat.le_of_ble_eq_true rfl, Nat.le_of_ble_eq_true rfl, Nat.le_of_ble_eq_true rfl, Nat.le_of_ble_eq_true rfl⟩ mw_466 rfl rfl (Nat.le_of_ble_eq_true rfl) (c_copyRow (x_l X) (x_D X) (x_q X) g (x_cy X) (x_z X) _ layX layX_ok 24 42 3 layX_24 layX_42 (by decide)) rfl rfl rfl rfl rfl rfl rfl rfl rfl rfl rfl rfl rfl rfl ?_
  refine go_aload_n (pc' := 141) hC dX2_copyOf_140 rfl rfl ?_
  refine go_getq (pc' := 144) hC 16 12 layX_16 rfl rfl inlX2 (Nat.le_of_ble_eq_true rfl) mw_68 rfl dX2_copyOf_141 rfl ?_
  refine go_aload_n (pc' := 145) hC dX2_copyOf_144 rfl rfl ?_
  refine go_getq (pc' := 148) hC 34 12 layX_34 rfl rfl inlX2 (Nat.le_of_ble_eq_true rfl) mw_68 rfl dX2_copyOf_145 rfl ?_
  refine go_callS1 (pc' := 151) (As := [.ref (x_q X 25), .ref (x_q X 43)]) (st := []) (st' := []) (L1' := [(3400, x1), (3401, x2), (3407, x3), (3410, x4), (3414, o5.1), (3415, o5.2.1), (3416, o5.2.2.1), (3417, o5.2.2.2)]) (L2' := []) (L3' := [(35, (va_cpy (S.2.2.1 17) (S.2.2.1 35) 0 0 13)), (36, (va_cpy (S.2.2.1 18) (S.2.2.1 36) 0 0 13)), (37, (va_cpy (S.2.2.1 19) (S.2.2.1 37) 0 0 13)), (38, (va_cpy (S.2.2.1 20) (S.2.2.1 38) 0 0 13)), (39, (va_cpy (S.2.2.1 21) (S.2.2.1 39) 0 0 13)), (40, (va_cpy (S.2.2.1 22) (S.2.2.1 40) 0 0 10)), (41, (va_cpy (S.2.2.1 23) (S.2.2.1 41) 0 0 10)), (42, (va_cpy (S.2.2.1 24) (S.2.2.1 42) 0 0 3)), (43, (va_cpy (S.2.2.1 25) (S.2.2.1 43) 0 0 3)), (44, (S.2.2.1 44))]) (L4' := []) (L5' := []) (cells' := 0) (slots' := 0) hC dX2_copyOf_148 ⟨mw_465, mw_467, mw_14, yd_yX2_copyRow, yp_yX2_copyRow, Nat.le_of_ble_eq_true rfl, Nat.le_of_ble_eq_true rfl, Nat.le_of_ble_eq_true rfl, Nat.le_of_ble_eq_true rfl⟩ mw_466 rfl rfl (Nat.le_of_ble_eq_true rfl) (c_copyRow (x_l X) (x_D X) (x_q X) g (x_cy X) (x_z X) _ layX layX_ok 25 43 3 layX_25 layX_43 (by decide)) rfl rfl rfl rfl rfl rfl rfl rfl rfl rfl rfl rfl rfl rfl ?_
  refine go_aload_n (pc' := 152) hC dX2_copyOf_151 rfl rfl ?_
  refine go_getq (pc' := 155) hC 16 13 layX_16 rfl rfl inlX2 (Nat.le_of_ble_eq_true rfl) mw_69 rfl dX2_copyOf_152 rfl ?_
  refine go_aload_n (pc' := 156) hC dX2_copyOf_155 rfl rfl ?_
  refine go_getq (pc' := 159) hC 34 13 layX_34 rfl rfl inlX2 (Nat.le_of_ble_eq_true rfl) mw_69 rfl dX2_copyOf_156 rfl ?_
  refine go_callS1 (pc' := 162) (As := [.ref (x_q X 26), .ref (x_q X 44)]) (st := []) (st' := []) (L1' := [(3400, x1), (3401, x2), (3407, x3), (3410, x4), (3414, o5.1), (3415, o5.2.1), (3416, o5.2.2.1), (3417, o5.2.2.2)]) (L2' := []) (L3' := [(35, (va_cpy (S.2.2.1 17) (S.2.2.1 35) 0 0 13)), (36, (va_cpy (S.2.2.1 18) (S.2.2.1 36) 0 0 13)), (37, (va_cpy (S.2.2.1 19) (S.2.2.1 37) 0 0 13)), (38, (va_cpy (S.2.2.1 20) (S.2.2.1 38) 0 0 13)), (39, (va_cpy (S.2.2.1 21) (S.2.2.1 39) 0 0 13)), (40, (va_cpy (S.2.2.1 22) (S.2.2.1 40) 0 0 10)), (41, (va_cpy (S.2.2.1 23) (S.2.2.1 41) 0 0 10)), (42, (va_cpy (S.2.2.1 24) (S.2.2.1 42) 0 0 3)), (43, (va_cpy (S.2.2.1 25) (S.2.2.1 43) 0 0 3)), (44, (va_cpy (S.2.2.1 26) (S.2.2.1 44) 0 0 3))]) (L4' := []) (L5' := []) (cells' := 0) (slots' := 0) hC dX2_copyOf_159 ⟨mw_465, mw_467, mw_14, yd_yX2_copyRow, yp_yX2_copyRow, Nat.le_of_ble_eq_true rfl, Nat.le_of_ble_eq_true rfl, Nat.le_of_ble_eq_true rfl, Nat.le_of_ble_eq_true rfl⟩ mw_466 rfl rfl (Nat.le_of_ble_eq_true rfl) (c_copyRow (x_l X) (x_D X) (x_q X) g (x_cy X) (x_z X) _ layX layX_ok 26 44 3 layX_26 layX_44 (by decide)) rfl rfl rfl rfl rfl rfl rfl rfl rfl rfl rfl rfl rfl rfl ?_
  obtain rfl := Option.some.inj hf
  exact go_vret hC hQ dX2_copyOf_162 rfl rfl rfl (fun _ => rfl) rfl rfl
abbrev o_X6_copyOf_q78_q27 : Type := Int32 × Int32 × (Nat → Int32) × (Nat → Int32) × (Nat → Int32) × (Nat → Int32) × (Nat → Int32) × (Nat → Int32)
def f_X6_copyOf_q78_q27 (S : wd_W) : Option o_X6_copyOf_q78_q27 :=
lz ((S.1 2700)) fun x1 =>
lz ((S.1 2704)) fun x2 =>
some (x1, x2, (va_cpy (S.2.2.1 28) (S.2.2.1 79) 0 0 9), (va_cpy (S.2.2.1 29) (S.2.2.1 80) 0 0 9), (va_cpy (S.2.2.1 30) (S.2.2.1 81) 0 0 9), (va_cpy (S.2.2.1 31) (S.2.2.1 82) 0 0 6), (va_cpy (S.2.2.1 32) (S.2.2.1 83) 0 0 6), (va_cpy (S.2.2.1 33) (S.2.2.1 84) 0 0 6))
set_option maxRecDepth 100000 in
set_option maxHeartbeats 4000000 in
theorem c_X6_copyOf_q78_q27 (l : Launch) (D : va_G) (q g : Nat → Nat) (cy : Nat → ClassId) (z : (Nat → Nat) × (Nat → Nat) × Nat) (S : wd_W) (o : o_X6_copyOf_q78_q27) (hf : f_X6_copyOf_q78_q27 S = some o) : MX layX l yX6_copyOf cX6_copyOf 2 none ({ frames := 2, cells := 0, slots := 0, locals := 81 } : Room) D q g cy z [.ref (q 78), .ref (q 27)] S false (none) (wd_o S [(7800, o.1), (7804, o.2.1)] [] [(79, o.2.2.1), (80, o.2.2.2.1), (81, o.2.2.2.2.1), (82, o.2.2.2.2.2.1), (83, o.2.2.2.2.2.2.1), (84, o.2.2.2.2.2.2.2)] [] []) 0 0 := by
  refine mx_of (own := RX6) (lc := [(0, .ref (q 78)), (1, .ref (q 27))]) (by decide +kernel) rfl layX_ok (Nat.le_of_ble_eq_true rfl) rfl ?_
  intro X hXl hXq hXz hC hQ
  subst hXl; subst hXq; subst hXz
  unfold f_X6_copyOf_q78_q27 at hf
  refine go_keys (L1 := [(7800, (S.1 7800)), (7804, (S.1 7804))]) (L2 := []) (L3 := [(79, (S.2.2.1 79)), (80, (S.2.2.1 80)), (81, (S.2.2.1 81)), (82, (S.2.2.1 82)), (83, (S.2.2.1 83)), (84, (S.2.2.1 84))]) (L4 := []) (L5 := []) [7800, 7804] [] [79, 80, 81, 82, 83, 84] [] [] rfl rfl rfl rfl rfl ?_
  refine go_aload_n (pc' := 1) hC dX6_copyOf_0 rfl rfl ?_
  refine go_aload_n (pc' := 2) hC dX6_copyOf_1 rfl rfl ?_
  refine go_geti (v := (S.1 2700)) (pc' := 5) hC 27 0 layX_27 rfl rfl inlX6 (Nat.le_of_ble_eq_true rfl) mw_477 rfl dX6_copyOf_2 rfl rfl ?_
  refine go_namei (fun x1 hx => ?_)
  have hf := lz_r hx hf
  clear hx
  refine go_puti (L1' := [(7800, x1), (7804, (S.1 7804))]) (pc' := 8) hC 78 0 layX_78 rfl rfl inlX6 tyX6_ok nmX6 (Nat.le_of_ble_eq_true rfl) mw_477 rfl rfl rfl rfl dX6_copyOf_5 rfl rfl rfl ?_
  refine go_aload_n (pc' := 9) hC dX6_copyOf_8 rfl rfl ?_
  refine go_aload_n (pc' := 10) hC dX6_copyOf_9 rfl rfl ?_
  refine go_geti (v := (S.1 2704)) (pc' := 13) hC 27 4 layX_27 rfl rfl inlX6 (Nat.le_of_ble_eq_true rfl) mw_478 rfl dX6_copyOf_10 rfl rfl ?_
  refine go_namei (fun x2 hx => ?_)
  have hf := lz_r hx hf
  clear hx
  refine go_puti (L1' := [(7800, x1), (7804, x2)]) (pc' := 16) hC 78 4 layX_78 rfl rfl inlX6 tyX6_ok nmX6 (Nat.le_of_ble_eq_true rfl) mw_478 rfl rfl rfl rfl dX6_copyOf_13 rfl rfl rfl ?_
  refine go_aload_n (pc' := 17) hC dX6_copyOf_16 rfl rfl ?_
  refine go_getq (pc' := 20) hC 27 1 layX_27 rfl rfl inlX6 (Nat.le_of_ble_eq_true rfl) mw_81 rfl dX6_copyOf_17 rfl ?_
  refine go_aload_n (pc' := 21) hC dX6_copyOf_20 rfl rfl ?_
  refine go_getq (pc' := 24) hC 78 1 layX_78 rfl rfl inlX6 (Nat.le_of_ble_eq_true rfl) mw_81 rfl dX6_copyOf_21 rfl ?_
  refine go_callS1 (pc' := 27) (As := [.ref (x_q X 28), .ref (x_q X 79)]) (st := []) (st' := []) (L1' := [(7800, x1), (7804, x2)]) (L2' := []) (L3' := [(79, (va_cpy (S.2.2.1 28) (S.2.2.1 79) 0 0 9)), (80, (S.2.2.1 80)), (81, (S.2.2.1 81)), (82, (S.2.2.1 82)), (83, (S.2.2.1 83)), (84, (S.2.2.1 84))]) (L4' := []) (L5' := []) (cells' := 0) (slots' := 0) hC dX6_copyOf_24 ⟨mw_1517, mw_467, mw_14, yd_yX2_copyRow, yp_yX2_copyRow, Nat.le_of_ble_eq_true rfl, Nat.le_of_ble_eq_true rfl, Nat.le_of_ble_eq_true rfl, Nat.le_of_ble_eq_true rfl⟩ mw_466 rfl rfl (Nat.le_of_ble_eq_true rfl) (c_copyRow (x_l X) (x_D X) (x_q X) g (x_cy X) (x_z X) _ layX layX_ok 28 79 9 layX_28 layX_79 (by decide)) rfl rfl rfl rfl rfl rfl rfl rfl rfl rfl rfl rfl rfl rfl ?_
  refine go_aload_n (pc' := 28) hC dX6_copyOf_27 rfl rfl ?_
  refine go_getq (pc' := 31) hC 27 2 layX_27 rfl rfl inlX6 (Nat.le_of_ble_eq_true rfl) mw_82 rfl dX6_copyOf_28 rfl ?_
  refine go_aload_n (pc' := 32) hC dX6_copyOf_31 rfl rfl ?_
  refine go_getq (pc' := 35) hC 78 2 layX_78 rfl rfl inlX6 (Nat.le_of_ble_eq_true rfl) mw_82 rfl dX6_copyOf_32 rfl ?_
  refine go_callS1 (pc' := 38) (As := [.ref (x_q X 29), .ref (x_q X 80)]) (st := []) (st' := []) (L1' := [(7800, x1), (7804, x2)]) (L2' := []) (L3' := [(79, (va_cpy (S.2.2.1 28) (S.2.2.1 79) 0 0 9)), (80, (va_cpy (S.2.2.1 29) (S.2.2.1 80) 0 0 9)), (81, (S.2.2.1 81)), (82, (S.2.2.1 82)), (83, (S.2.2.1 83)), (84, (S.2.2.1 84))]) (L4' := []) (L5' := []) (cells' := 0) (slots' := 0) hC dX6_copyOf_35 ⟨mw_1517, mw_467, mw_14, yd_yX2_copyRow, yp_yX2_copyRow, Nat.le_of_ble_eq_true rfl, Nat.le_of_ble_eq_true rfl, Nat.le_of_ble_eq_true rfl, Nat.le_of_ble_eq_true rfl⟩ mw_466 rfl rfl (Nat.le_of_ble_eq_true rfl) (c_copyRow (x_l X) (x_D X) (x_q X) g (x_cy X) (x_z X) _ layX layX_ok 29 80 9 layX_29 layX_80 (by decide)) rfl rfl rfl rfl rfl rfl rfl rfl rfl rfl rfl rfl rfl rfl ?_
  refine go_aload_n (pc' := 39) hC dX6_copyOf_38 rfl rfl ?_
  refine go_getq (pc' := 42) hC 27 3 layX_27 rfl rfl inlX6 (Nat.le_of_ble_eq_true rfl) mw_83 rfl dX6_copyOf_39 rfl ?_
  refine go_aload_n (pc' := 43) hC dX6_copyOf_42 rfl rfl ?_
  refine go_getq (pc' := 46) hC 78 3 layX_78 rfl rfl inlX6 (Nat.le_of_ble_eq_true rfl) mw_83 rfl dX6_copyOf_43 rfl ?_
  refine go_callS1 (pc' := 49) (As := [.ref (x_q X 30), .ref (x_q X 81)]) (st := []) (st' := []) (L1' := [(7800, x1), (7804, x2)]) (L2' := []) (L3' := [(79, (va_cpy (S.2.2.1 28) (S.2.2.1 79) 0 0 9)), (80, (va_cpy (S.2.2.1 29) (S.2.2.1 80) 0 0 9)), (81, (va_cpy (S.2.2.1 30) (S.2.2.1 81) 0 0 9)), (82, (S.2.2.1 82)), (83, (S.2.2.1 83)), (84, (S.2.2.1 84))]) (L4' := []) (L5' := []) (cells' := 0) (slots' := 0) hC dX6_copyOf_46 ⟨mw_1517, mw_467, mw_14, yd_yX2_copyRow, yp_yX2_copyRow, Nat.le_of_ble_eq_true rfl, Nat.le_of_ble_eq_true rfl, Nat.le_of_ble_eq_true rfl, Nat.le_of_ble_eq_true rfl⟩ mw_466 rfl rfl (Nat.le_of_ble_eq_true rfl) (c_copyRow (x_l X) (x_D X) (x_q X) g (x_cy X) (x_z X) _ layX layX_ok 30 81 9 layX_30 layX_81 (by decide)) rfl rfl rfl rfl rfl rfl rfl rfl rfl rfl rfl rfl rfl rfl ?_
  refine go_aload_n (pc' := 50) hC dX6_copyOf_49 rfl rfl ?_
  refine go_getq (pc' := 53) hC 27 5 layX_27 rfl rfl inlX6 (Nat.le_of_ble_eq_true rfl) mw_84 rfl dX6_copyOf_50 rfl ?_
  refine go_aload_n (pc' := 54) hC dX6_copyOf_53 rfl rfl ?_
  refine go_getq (pc' := 57) hC 78 5 layX_78 rfl rfl inlX6 (Nat.le_of_ble_eq_true rfl) mw_84 rfl dX6_copyOf_54 rfl ?_
  refine go_callS1 (pc' := 60) (As := [.ref (x_q X 31), .ref (x_q X 82)]) (st := []) (st' := []) (L1' := [(7800, x1), (7804, x2)]) (L2' := []) (L3' := [(79, (va_cpy (S.2.2.1 28) (S.2.2.1 79) 0 0 9)), (80, (va_cpy (S.2.2.1 29) (S.2.2.1 80) 0 0 9)), (81, (va_cpy (S.2.2.1 30) (S.2.2.1 81) 0 0 9)), (82, (va_cpy (S.2.2.1 31) (S.2.2.1 82) 0 0 6)), (83, (S.2.2.1 83)), (84, (S.2.2.1 84))]) (L4' := []) (L5' := []) (cells' := 0) (slots' := 0) hC dX6_copyOf_57 ⟨mw_1517, mw_467, mw_14, yd_yX2_copyRow, yp_yX2_copyRow, Nat.le_of_ble_eq_true rfl, Nat.le_of_ble_eq_true rfl, Nat.le_of_ble_eq_true rfl, Nat.le_of_ble_eq_true rfl⟩ mw_466 rfl rfl (Nat.le_of_ble_eq_true rfl) (c_copyRow (x_l X) (x_D X) (x_q X) g (x_cy X) (x_z X) _ layX layX_ok 31 82 6 layX_31 layX_82 (by decide)) rfl rfl rfl rfl rfl rfl rfl rfl rfl rfl rfl rfl rfl rfl ?_
  refine go_aload_n (pc' := 61) hC dX6_copyOf_60 rfl rfl ?_
  refine go_getq (pc' := 64) hC 27 6 layX_27 rfl rfl inlX6 (Nat.le_of_ble_eq_true rfl) mw_85 rfl dX6_copyOf_61 rfl ?_
  refine go_aload_n (pc' := 65) hC dX6_copyOf_64 rfl rfl ?_
  refine go_getq (pc' := 68) hC 78 6 layX_78 rfl rfl inlX6 (Nat.le_of_ble_eq_true rfl) mw_85 rfl dX6_copyOf_65 rfl ?_
  refine go_callS1 (pc' := 71) (As := [.ref (x_q X 32), .ref (x_q X 83)]) (st := []) (st' := []) (L1' := [(7800, x1), (7804, x2)]) (L2' := []) (L3' := [(79, (va_cpy (S.2.2.1 28) (S.2.2.1 79) 0 0 9)), (80, (va_cpy (S.2.2.1 29) (S.2.2.1 80) 0 0 9)), (81, (va_cpy (S.2.2.1 30) (S.2.2.1 81) 0 0 9)), (82, (va_cpy (S.2.2.1 31) (S.2.2.1 82) 0 0 6)), (83, (va_cpy (S.2.2.1 32) (S.2.2.1 83) 0 0 6)), (84, (S.2.2.1 84))]) (L4' := []) (L5' := []) (cells' := 0) (slots' := 0) hC dX6_copyOf_68 ⟨mw_1517, mw_467, mw_14, yd_yX2_copyRow, yp_yX2_copyRow, Nat.le_of_ble_eq_true rfl, Nat.le_of_ble_eq_true rfl, Nat.le_of_ble_eq_true rfl, Nat.le_of_ble_eq_true rfl⟩ mw_466 rfl rfl (Nat.le_of_ble_eq_true rfl) (c_copyRow (x_l X) (x_D X) (x_q X) g (x_cy X) (x_z X) _ layX layX_ok 32 83 6 layX_32 layX_83 (by decide)) rfl rfl rfl rfl rfl rfl rfl rfl rfl rfl rfl rfl rfl rfl ?_
  refine go_aload_n (pc' := 72) hC dX6_copyOf_71 rfl rfl ?_
  refine go_getq (pc' := 75) hC 27 7 layX_27 rfl rfl inlX6 (Nat.le_of_ble_eq_true rfl) mw_86 rfl dX6_copyOf_72 rfl ?_
  refine go_aload_n (pc' := 76) hC dX6_copyOf_75 rfl rfl ?_
  refine go_getq (pc' := 79) hC 78 7 layX_78 rfl rfl inlX6 (Nat.le_of_ble_eq_true rfl) mw_86 rfl dX6_copyOf_76 rfl ?_
  refine go_callS1 (pc' := 82) (As := [.ref (x_q X 33), .ref (x_q X 84)]) (st := []) (st' := []) (L1' := [(7800, x1), (7804, x2)]) (L2' := []) (L3' := [(79, (va_cpy (S.2.2.1 28) (S.2.2.1 79) 0 0 9)), (80, (va_cpy (S.2.2.1 29) (S.2.2.1 80) 0 0 9)), (81, (va_cpy (S.2.2.1 30) (S.2.2.1 81) 0 0 9)), (82, (va_cpy (S.2.2.1 31) (S.2.2.1 82) 0 0 6)), (83, (va_cpy (S.2.2.1 32) (S.2.2.1 83) 0 0 6)), (84, (va_cpy (S.2.2.1 33) (S.2.2.1 84) 0 0 6))]) (L4' := []) (L5' := []) (cells' := 0) (slots' := 0) hC dX6_copyOf_79 ⟨mw_1517, mw_467, mw_14, yd_yX2_copyRow, yp_yX2_copyRow, Nat.le_of_ble_eq_true rfl, Nat.le_of_ble_eq_true rfl, Nat.le_of_ble_eq_true rfl, Nat.le_of_ble_eq_true rfl⟩ mw_466 rfl rfl (Nat.le_of_ble_eq_true rfl) (c_copyRow (x_l X) (x_D X) (x_q X) g (x_cy X) (x_z X) _ layX layX_ok 33 84 6 layX_33 layX_84 (by decide)) rfl rfl rfl rfl rfl rfl rfl rfl rfl rfl rfl rfl rfl rfl ?_
  obtain rfl := Option.some.inj hf
  exact go_vret hC hQ dX6_copyOf_82 rfl rfl rfl (fun _ => rfl) rfl rfl
theorem dX11_image_0 : decode cX11_image 0 = .ok (.iload_n 1, 1) := by decide +kernel
theorem dX11_image_1 : decode cX11_image 1 = .ok (.ifCond .lt 8, 3) := by decide +kernel
theorem dX11_image_4 : decode cX11_image 4 = .ok (.iload_n 1, 1) := by decide +kernel
theorem dX11_image_5 : decode cX11_image 5 = .ok (.iconst 4, 1) := by decide +kernel
theorem dX11_image_6 : decode cX11_image 6 = .ok (.if_icmp .lt 5, 3) := by decide +kernel
theorem dX11_image_9 : decode cX11_image 9 = .ok (.iconst (-1), 1) := by decide +kernel
theorem dX11_image_10 : decode cX11_image 10 = .ok (.ireturn, 1) := by decide +kernel
theorem dX11_image_11 : decode cX11_image 11 = .ok (.aload_n 0, 1) := by decide +kernel
theorem dX11_image_12 : decode cX11_image 12 = .ok (.getfield 35, 3) := by decide +kernel
theorem dX11_image_15 : decode cX11_image 15 = .ok (.iload_n 1, 1) := by decide +kernel
theorem dX11_image_16 : decode cX11_image 16 = .ok (.aaload, 1) := by decide +kernel
theorem dX11_image_17 : decode cX11_image 17 = .ok (.aload_n 0, 1) := by decide +kernel
theorem dX11_image_18 : decode cX11_image 18 = .ok (.getfield 25, 3) := by decide +kernel
theorem dX11_image_21 : decode cX11_image 21 = .ok (.invokevirtual 120, 3) := by decide +kernel
theorem dX11_image_24 : decode cX11_image 24 = .ok (.aload_n 0, 1) := by decide +kernel
theorem dX11_image_25 : decode cX11_image 25 = .ok (.getfield 39, 3) := by decide +kernel
theorem dX11_image_28 : decode cX11_image 28 = .ok (.iload_n 1, 1) := by decide +kernel
theorem dX11_image_29 : decode cX11_image 29 = .ok (.aaload, 1) := by decide +kernel
theorem dX11_image_30 : decode cX11_image 30 = .ok (.aload_n 0, 1) := by decide +kernel
theorem dX11_image_31 : decode cX11_image 31 = .ok (.getfield 31, 3) := by decide +kernel
theorem dX11_image_34 : decode cX11_image 34 = .ok (.invokevirtual 341, 3) := by decide +kernel
theorem dX11_image_37 : decode cX11_image 37 = .ok (.aload_n 0, 1) := by decide +kernel
theorem dX11_image_38 : decode cX11_image 38 = .ok (.dup, 1) := by decide +kernel
theorem dX11_image_39 : decode cX11_image 39 = .ok (.getfield 344, 3) := by decide +kernel
theorem dX11_image_42 : decode cX11_image 42 = .ok (.iconst 1, 1) := by decide +kernel
theorem dX11_image_43 : decode cX11_image 43 = .ok (.iload_n 1, 1) := by decide +kernel
theorem dX11_image_44 : decode cX11_image 44 = .ok (.ishl, 1) := by decide +kernel
theorem dX11_image_45 : decode cX11_image 45 = .ok (.ior, 1) := by decide +kernel
theorem dX11_image_46 : decode cX11_image 46 = .ok (.putfield 344, 3) := by decide +kernel
theorem dX11_image_49 : decode cX11_image 49 = .ok (.aload_n 0, 1) := by decide +kernel
theorem dX11_image_50 : decode cX11_image 50 = .ok (.getfield 25, 3) := by decide +kernel
theorem dX11_image_53 : decode cX11_image 53 = .ok (.invokevirtual 129, 3) := by decide +kernel
theorem dX11_image_56 : decode cX11_image 56 = .ok (.ireturn, 1) := by decide +kernel
abbrev o_X11_image : Type := Int32 × wd_W
def f_X11_image (S : wd_W) (p1 : Int32) : Option o_X11_image :=
if p1 < 0 then (
some ((-1 : Int32), S)) else (
if p1 < (4 : Int32) then (
if p1 = (0 : Int32) then (
bd (f_X2_copyOf_q34_q16 (wd_o S [(3400, (S.1 3400)), (3401, (S.1 3401)), (3407, (S.1 3407)), (3410, (S.1 3410)), (3414, (S.1 3414)), (3415, (S.1 3415)), (3416, (S.1 3416)), (3417, (S.1 3417))] [] [(35, (S.2.2.1 35)), (36, (S.2.2.1 36)), (37, (S.2.2.1 37)), (38, (S.2.2.1 38)), (39, (S.2.2.1 39)), (40, (S.2.2.1 40)), (41, (S.2.2.1 41)), (42, (S.2.2.1 42)), (43, (S.2.2.1 43)), (44, (S.2.2.1 44))] [] [])) fun o1 =>
lz (wd_o S [(3400, o1.1), (3401, o1.2.1), (3407, o1.2.2.1), (3410, o1.2.2.2.1), (3414, o1.2.2.2.2.1), (3415, o1.2.2.2.2.2.1), (3416, o1.2.2.2.2.2.2.1), (3417, o1.2.2.2.2.2.2.2.1)] [] [(35, o1.2.2.2.2.2.2.2.2.1), (36, o1.2.2.2.2.2.2.2.2.2.1), (37, o1.2.2.2.2.2.2.2.2.2.2.1), (38, o1.2.2.2.2.2.2.2.2.2.2.2.1), (39, o1.2.2.2.2.2.2.2.2.2.2.2.2.1), (40, o1.2.2.2.2.2.2.2.2.2.2.2.2.2.1), (41, o1.2.2.2.2.2.2.2.2.2.2.2.2.2.2.1), (42, o1.2.2.2.2.2.2.2.2.2.2.2.2.2.2.2.1), (43, o1.2.2.2.2.2.2.2.2.2.2.2.2.2.2.2.2.1), (44, o1.2.2.2.2.2.2.2.2.2.2.2.2.2.2.2.2.2)] [] []) fun S3 =>
bd (f_X6_copyOf_q78_q27 (wd_o S3 [(7800, (S3.1 7800)), (7804, (S3.1 7804))] [] [(79, (S3.2.2.1 79)), (80, (S3.2.2.1 80)), (81, (S3.2.2.1 81)), (82, (S3.2.2.1 82)), (83, (S3.2.2.1 83)), (84, (S3.2.2.1 84))] [] [])) fun o2 =>
lz (wd_o S3 [(7800, o2.1), (7804, o2.2.1)] [] [(79, o2.2.2.1), (80, o2.2.2.2.1), (81, o2.2.2.2.2.1), (82, o2.2.2.2.2.2.1), (83, o2.2.2.2.2.2.2.1), (84, o2.2.2.2.2.2.2.2)] [] []) fun S4 =>
lz ((S3.1 6) ||| ((1 : Int32) <<< ((0 : Int32) &&& 31))) fun x5 =>
bd (f_X2_things_q16 (wd_o S4 [(6, x5)] [] [] [] [])) fun o6 =>
some (o6, (wd_o S4 [(6, x5)] [] [] [] []))) else (
if p1 = (1 : Int32) then (
bd (f_X2_copyOf_q45_q16 (wd_o S [(4500, (S.1 4500)), (4501, (S.1 4501)), (4507, (S.1 4507)), (4510, (S.1 4510)), (4514, (S.1 4514)), (4515, (S.1 4515)), (4516, (S.1 4516)), (4517, (S.1 4517))] [] [(46, (S.2.2.1 46)), (47, (S.2.2.1 47)), (48, (S.2.2.1 48)), (49, (S.2.2.1 49)), (50, (S.2.2.1 50)), (51, (S.2.2.1 51)), (52, (S.2.2.1 52)), (53, (S.2.2.1 53)), (54, (S.2.2.1 54)), (55, (S.2.2.1 55))] [] [])) fun o8 =>
lz (wd_o S [(4500, o8.1), (4501, o8.2.1), (4507, o8.2.2.1), (4510, o8.2.2.2.1), (4514, o8.2.2.2.2.1), (4515, o8.2.2.2.2.2.1), (4516, o8.2.2.2.2.2.2.1), (4517, o8.2.2.2.2.2.2.2.1)] [] [(46, o8.2.2.2.2.2.2.2.2.1), (47, o8.2.2.2.2.2.2.2.2.2.1), (48, o8.2.2.2.2.2.2.2.2.2.2.1), (49, o8.2.2.2.2.2.2.2.2.2.2.2.1), (50, o8.2.2.2.2.2.2.2.2.2.2.2.2.1), (51, o8.2.2.2.2.2.2.2.2.2.2.2.2.2.1), (52, o8.2.2.2.2.2.2.2.2.2.2.2.2.2.2.1), (53, o8.2.2.2.2.2.2.2.2.2.2.2.2.2.2.2.1), (54, o8.2.2.2.2.2.2.2.2.2.2.2.2.2.2.2.2.1), (55, o8.2.2.2.2.2.2.2.2.2.2.2.2.2.2.2.2.2)] [] []) fun S10 =>
bd (f_X6_copyOf_q85_q27 (wd_o S10 [(8500, (S10.1 8500)), (8504, (S10.1 8504))] [] [(86, (S10.2.2.1 86)), (87, (S10.2.2.1 87)), (88, (S10.2.2.1 88)), (89, (S10.2.2.1 89)), (90, (S10.2.2.1 90)), (91, (S10.2.2.1 91))] [] [])) fun o9 =>
lz (wd_o S10 [(8500, o9.1), (8504, o9.2.1)] [] [(86, o9.2.2.1), (87, o9.2.2.2.1), (88, o9.2.2.2.2.1), (89, o9.2.2.2.2.2.1), (90, o9.2.2.2.2.2.2.1), (91, o9.2.2.2.2.2.2.2)] [] []) fun S11 =>
lz ((S10.1 6) ||| ((1 : Int32) <<< ((1 : Int32) &&& 31))) fun x12 =>
bd (f_X2_things_q16 (wd_o S11 [(6, x12)] [] [] [] [])) fun o13 =>
some (o13, (wd_o S11 [(6, x12)] [] [] [] []))) else (
if p1 = (2 : Int32) then (
bd (f_X2_copyOf_q56_q16 (wd_o S [(5600, (S.1 5600)), (5601, (S.1 5601)), (5607, (S.1 5607)), (5610, (S.1 5610)), (5614, (S.1 5614)), (5615, (S.1 5615)), (5616, (S.1 5616)), (5617, (S.1 5617))] [] [(57, (S.2.2.1 57)), (58, (S.2.2.1 58)), (59, (S.2.2.1 59)), (60, (S.2.2.1 60)), (61, (S.2.2.1 61)), (62, (S.2.2.1 62)), (63, (S.2.2.1 63)), (64, (S.2.2.1 64)), (65, (S.2.2.1 65)), (66, (S.2.2.1 66))] [] [])) fun o15 =>
lz (wd_o S [(5600, o15.1), (5601, o15.2.1), (5607, o15.2.2.1), (5610, o15.2.2.2.1), (5614, o15.2.2.2.2.1), (5615, o15.2.2.2.2.2.1), (5616, o15.2.2.2.2.2.2.1), (5617, o15.2.2.2.2.2.2.2.1)] [] [(57, o15.2.2.2.2.2.2.2.2.1), (58, o15.2.2.2.2.2.2.2.2.2.1), (59, o15.2.2.2.2.2.2.2.2.2.2.1), (60, o15.2.2.2.2.2.2.2.2.2.2.2.1), (61, o15.2.2.2.2.2.2.2.2.2.2.2.2.1), (62, o15.2.2.2.2.2.2.2.2.2.2.2.2.2.1), (63, o15.2.2.2.2.2.2.2.2.2.2.2.2.2.2.1), (64, o15.2.2.2.2.2.2.2.2.2.2.2.2.2.2.2.1), (65, o15.2.2.2.2.2.2.2.2.2.2.2.2.2.2.2.2.1), (66, o15.2.2.2.2.2.2.2.2.2.2.2.2.2.2.2.2.2)] [] []) fun S17 =>
bd (f_X6_copyOf_q92_q27 (wd_o S17 [(9200, (S17.1 9200)), (9204, (S17.1 9204))] [] [(93, (S17.2.2.1 93)), (94, (S17.2.2.1 94)), (95, (S17.2.2.1 95)), (96, (S17.2.2.1 96)), (97, (S17.2.2.1 97)), (98, (S17.2.2.1 98))] [] [])) fun o16 =>
lz (wd_o S17 [(9200, o16.1), (9204, o16.2.1)] [] [(93, o16.2.2.1), (94, o16.2.2.2.1), (95, o16.2.2.2.2.1), (96, o16.2.2.2.2.2.1), (97, o16.2.2.2.2.2.2.1), (98, o16.2.2.2.2.2.2.2)] [] []) fun S18 =>
lz ((S17.1 6) ||| ((1 : Int32) <<< ((2 : Int32) &&& 31))) fun x19 =>
bd (f_X2_things_q16 (wd_o S18 [(6, x19)] [] [] [] [])) fun o20 =>
some (o20, (wd_o S18 [(6, x19)] [] [] [] []))) else (
if p1 = (3 : Int32) then (
bd (f_X2_copyOf_q67_q16 (wd_o S [(6700, (S.1 6700)), (6701, (S.1 6701)), (6707, (S.1 6707)), (6710, (S.1 6710)), (6714, (S.1 6714)), (6715, (S.1 6715)), (6716, (S.1 6716)), (6717, (S.1 6717))] [] [(68, (S.2.2.1 68)), (69, (S.2.2.1 69)), (70, (S.2.2.1 70)), (71, (S.2.2.1 71)), (72, (S.2.2.1 72)), (73, (S.2.2.1 73)), (74, (S.2.2.1 74)), (75, (S.2.2.1 75)), (76, (S.2.2.1 76)), (77, (S.2.2.1 77))] [] [])) fun o22 =>
lz (wd_o S [(6700, o22.1), (6701, o22.2.1), (6707, o22.2.2.1), (6710, o22.2.2.2.1), (6714, o22.2.2.2.2.1), (6715, o22.2.2.2.2.2.1), (6716, o22.2.2.2.2.2.2.1), (6717, o22.2.2.2.2.2.2.2.1)] [] [(68, o22.2.2.2.2.2.2.2.2.1), (69, o22.2.2.2.2.2.2.2.2.2.1), (70, o22.2.2.2.2.2.2.2.2.2.2.1), (71, o22.2.2.2.2.2.2.2.2.2.2.2.1), (72, o22.2.2.2.2.2.2.2.2.2.2.2.2.1), (73, o22.2.2.2.2.2.2.2.2.2.2.2.2.2.1), (74, o22.2.2.2.2.2.2.2.2.2.2.2.2.2.2.1), (75, o22.2.2.2.2.2.2.2.2.2.2.2.2.2.2.2.1), (76, o22.2.2.2.2.2.2.2.2.2.2.2.2.2.2.2.2.1), (77, o22.2.2.2.2.2.2.2.2.2.2.2.2.2.2.2.2.2)] [] []) fun S24 =>
bd (f_X6_copyOf_q99_q27 (wd_o S24 [(9900, (S24.1 9900)), (9904, (S24.1 9904))] [] [(100, (S24.2.2.1 100)), (101, (S24.2.2.1 101)), (102, (S24.2.2.1 102)), (103, (S24.2.2.1 103)), (104, (S24.2.2.1 104)), (105, (S24.2.2.1 105))] [] [])) fun o23 =>
lz (wd_o S24 [(9900, o23.1), (9904, o23.2.1)] [] [(100, o23.2.2.1), (101, o23.2.2.2.1), (102, o23.2.2.2.2.1), (103, o23.2.2.2.2.2.1), (104, o23.2.2.2.2.2.2.1), (105, o23.2.2.2.2.2.2.2)] [] []) fun S25 =>
lz ((S24.1 6) ||| ((1 : Int32) <<< ((3 : Int32) &&& 31))) fun x26 =>
bd (f_X2_things_q16 (wd_o S25 [(6, x26)] [] [] [] [])) fun o27 =>
some (o27, (wd_o S25 [(6, x26)] [] [] [] []))) else (
none))))) else (
some ((-1 : Int32), S)))
set_option maxRecDepth 100000 in
set_option maxHeartbeats 4000000 in
theorem c_X11_image (l : Launch) (D : va_G) (q g : Nat → Nat) (cy : Nat → ClassId) (z : (Nat → Nat) × (Nat → Nat) × Nat) (S : wd_W) (p1 : Int32) (o : o_X11_image) (hf : f_X11_image S p1 = some o) : MX layX l yX11_image cX11_image 2 (some .int) ({ frames := 3, cells := 0, slots := 0, locals := 102 } : Room) D q g cy z [.ref (q 0), .int p1] S false (some (.int o.1)) o.2 0 0 := by
  refine mx_of (own := RX11) (lc := [(0, .ref (q 0)), (1, .int p1)]) (by decide +kernel) rfl layX_ok (Nat.le_of_ble_eq_true rfl) rfl ?_
  intro X hXl hXq hXz hC hQ
  subst hXl; subst hXq; subst hXz
  unfold f_X11_image at hf
  refine go_iload_n (pc' := 1) hC dX11_image_0 rfl rfl ?_
  refine go_if_lt (tgt := 9) (pc' := 4) hC dX11_image_1 (by decide) rfl (fun h30 => ?_) (fun h30 => ?_)
  · have hf := ite_t h30 hf
    refine go_iconst (pc' := 10) hC dX11_image_9 ki_m1 rfl ?_
    obtain rfl := Option.some.inj hf
    exact go_iret hC hQ dX11_image_10 rfl rfl rfl rfl (fun _ => rfl) rfl rfl
  · have hf := ite_f h30 hf
    refine go_iload_n (pc' := 5) hC dX11_image_4 rfl rfl ?_
    refine go_iconst (pc' := 6) hC dX11_image_5 ki_4 rfl ?_
    refine go_icmp_lt (tgt := 11) (pc' := 9) hC dX11_image_6 (by decide) rfl (fun h29 => ?_) (fun h29 => ?_)
    · have hf := ite_t h29 hf
      refine go_aload_n (pc' := 12) hC dX11_image_11 rfl rfl ?_
      refine go_getq (pc' := 15) hC 0 4 layX_0 rfl rfl inlX11 (Nat.le_of_ble_eq_true rfl) mw_25 rfl dX11_image_12 rfl ?_
      refine go_iload_n (pc' := 16) hC dX11_image_15 rfl rfl ?_
      by_cases h7 : p1 = (0 : Int32)
      · subst h7
        have hf := ite_t rfl hf
        refine go_aald (x := 34) (pc' := 17) hC 1 layX_1 (by decide) rfl dX11_image_16 (by decide) (by decide) rfl ?_
        refine go_aload_n (pc' := 18) hC dX11_image_17 rfl rfl ?_
        refine go_getq (pc' := 21) hC 0 2 layX_0 rfl rfl inlX11 (Nat.le_of_ble_eq_true rfl) mw_20 rfl dX11_image_18 rfl ?_
        refine go_keys (L1 := [(3400, (S.1 3400)), (3401, (S.1 3401)), (3407, (S.1 3407)), (3410, (S.1 3410)), (3414, (S.1 3414)), (3415, (S.1 3415)), (3416, (S.1 3416)), (3417, (S.1 3417))]) (L2 := []) (L3 := [(35, (S.2.2.1 35)), (36, (S.2.2.1 36)), (37, (S.2.2.1 37)), (38, (S.2.2.1 38)), (39, (S.2.2.1 39)), (40, (S.2.2.1 40)), (41, (S.2.2.1 41)), (42, (S.2.2.1 42)), (43, (S.2.2.1 43)), (44, (S.2.2.1 44))]) (L4 := []) (L5 := []) [3400, 3401, 3407, 3410, 3414, 3415, 3416, 3417] [] [35, 36, 37, 38, 39, 40, 41, 42, 43, 44] [] [] rfl rfl rfl rfl rfl ?_
        obtain ⟨o1, ho1, hf⟩ := bd_e hf
        refine go_callV1 (pc' := 24) (As := [.ref (x_q X 16)]) (st := []) (st' := []) (L1' := [(3400, o1.1), (3401, o1.2.1), (3407, o1.2.2.1), (3410, o1.2.2.2.1), (3414, o1.2.2.2.2.1), (3415, o1.2.2.2.2.2.1), (3416, o1.2.2.2.2.2.2.1), (3417, o1.2.2.2.2.2.2.2.1)]) (L2' := []) (L3' := [(35, o1.2.2.2.2.2.2.2.2.1), (36, o1.2.2.2.2.2.2.2.2.2.1), (37, o1.2.2.2.2.2.2.2.2.2.2.1), (38, o1.2.2.2.2.2.2.2.2.2.2.2.1), (39, o1.2.2.2.2.2.2.2.2.2.2.2.2.1), (40, o1.2.2.2.2.2.2.2.2.2.2.2.2.2.1), (41, o1.2.2.2.2.2.2.2.2.2.2.2.2.2.2.1), (42, o1.2.2.2.2.2.2.2.2.2.2.2.2.2.2.2.1), (43, o1.2.2.2.2.2.2.2.2.2.2.2.2.2.2.2.2.1), (44, o1.2.2.2.2.2.2.2.2.2.2.2.2.2.2.2.2.2)]) (L4' := []) (L5' := []) (cells' := 0) (slots' := 0)  (b := 34) hC dX11_image_21 ⟨mw_461, mw_464, mw_14, yd_yX2_copyOf, yp_yX2_copyOf, Nat.le_of_ble_eq_true rfl, Nat.le_of_ble_eq_true rfl, (Nat.le_of_ble_eq_true rfl), (Nat.le_of_ble_eq_true rfl)⟩ mw_462 mw_463 layX_34 rfl rfl rfl (Nat.le_of_ble_eq_true rfl) (c_X2_copyOf_q34_q16 (x_l X) (x_D X) (x_q X) g (x_cy X) (x_z X) _  o1 ho1) rfl rfl rfl rfl rfl rfl rfl rfl rfl rfl rfl rfl rfl rfl ?_
        refine go_aload_n (pc' := 25) hC dX11_image_24 rfl rfl ?_
        refine go_getq (pc' := 28) hC 0 5 layX_0 rfl rfl inlX11 (Nat.le_of_ble_eq_true rfl) mw_26 rfl dX11_image_25 rfl ?_
        refine go_iload_n (pc' := 29) hC dX11_image_28 rfl rfl ?_
        refine go_aald (x := 78) (pc' := 30) hC 2 layX_2 (by decide) rfl dX11_image_29 (by decide) (by decide) rfl ?_
        refine go_aload_n (pc' := 31) hC dX11_image_30 rfl rfl ?_
        refine go_getq (pc' := 34) hC 0 3 layX_0 rfl rfl inlX11 (Nat.le_of_ble_eq_true rfl) mw_24 rfl dX11_image_31 rfl ?_
        refine go_base (fun S3 hx => ?_)
        have hf := lz_r hx hf
        clear hx
        refine go_keys (L1 := [(7800, (S3.1 7800)), (7804, (S3.1 7804))]) (L2 := []) (L3 := [(79, (S3.2.2.1 79)), (80, (S3.2.2.1 80)), (81, (S3.2.2.1 81)), (82, (S3.2.2.1 82)), (83, (S3.2.2.1 83)), (84, (S3.2.2.1 84))]) (L4 := []) (L5 := []) [7800, 7804] [] [79, 80, 81, 82, 83, 84] [] [] rfl rfl rfl rfl rfl ?_
        obtain ⟨o2, ho2, hf⟩ := bd_e hf
        refine go_callV1 (pc' := 37) (As := [.ref (x_q X 27)]) (st := []) (st' := []) (L1' := [(7800, o2.1), (7804, o2.2.1)]) (L2' := []) (L3' := [(79, o2.2.2.1), (80, o2.2.2.2.1), (81, o2.2.2.2.2.1), (82, o2.2.2.2.2.2.1), (83, o2.2.2.2.2.2.2.1), (84, o2.2.2.2.2.2.2.2)]) (L4' := []) (L5' := []) (cells' := 0) (slots' := 0)  (b := 78) hC dX11_image_34 ⟨mw_1513, mw_1516, mw_23, yd_yX6_copyOf, yp_yX6_copyOf, Nat.le_of_ble_eq_true rfl, Nat.le_of_ble_eq_true rfl, (Nat.le_of_ble_eq_true rfl), (Nat.le_of_ble_eq_true rfl)⟩ mw_1514 mw_1515 layX_78 rfl rfl rfl (Nat.le_of_ble_eq_true rfl) (c_X6_copyOf_q78_q27 (x_l X) (x_D X) (x_q X) g (x_cy X) (x_z X) _  o2 ho2) rfl rfl rfl rfl rfl rfl rfl rfl rfl rfl rfl rfl rfl rfl ?_
        refine go_aload_n (pc' := 38) hC dX11_image_37 rfl rfl ?_
        refine go_dup (pc' := 39) hC dX11_image_38 rfl rfl ?_
        refine go_geti (v := (S3.1 6)) (pc' := 42) hC 0 6 layX_0 rfl rfl inlX11 (Nat.le_of_ble_eq_true rfl) mw_1512 rfl dX11_image_39 rfl rfl ?_
        refine go_iconst (pc' := 43) hC dX11_image_42 ki_1 rfl ?_
        refine go_iload_n (pc' := 44) hC dX11_image_43 rfl rfl ?_
        refine go_ishl (pc' := 45) hC dX11_image_44 rfl ?_
        refine go_ior (pc' := 46) hC dX11_image_45 rfl ?_
        refine go_base (fun S4 hx => ?_)
        have hf := lz_r hx hf
        clear hx
        refine go_keys (L1 := [(6, (S4.1 6))]) (L2 := []) (L3 := []) (L4 := []) (L5 := []) [6] [] [] [] [] rfl rfl rfl rfl rfl ?_
        refine go_namei (fun x5 hx => ?_)
        have hf := lz_r hx hf
        clear hx
        refine go_puti (L1' := [(6, x5)]) (pc' := 49) hC 0 6 layX_0 rfl rfl inlX11 tyX11_ok nmX11 (Nat.le_of_ble_eq_true rfl) mw_1512 rfl rfl rfl rfl dX11_image_46 rfl rfl rfl ?_
        refine go_aload_n (pc' := 50) hC dX11_image_49 rfl rfl ?_
        refine go_getq (pc' := 53) hC 0 2 layX_0 rfl rfl inlX11 (Nat.le_of_ble_eq_true rfl) mw_20 rfl dX11_image_50 rfl ?_
        obtain ⟨o6, ho6, hf⟩ := bd_e hf
        refine go_callV0 (pc' := 56) (As := []) (st := []) (st' := [.int o6])    (b := 16) hC dX11_image_53 ⟨mw_484, mw_418, mw_14, yd_yX2_things, yp_yX2_things, Nat.le_of_ble_eq_true rfl, Nat.le_of_ble_eq_true rfl, (Nat.le_of_ble_eq_true rfl), (Nat.le_of_ble_eq_true rfl)⟩ mw_416 mw_417 layX_16 rfl rfl rfl (Nat.le_of_ble_eq_true rfl) (c_X2_things_q16 (x_l X) (x_D X) (x_q X) g (x_cy X) (x_z X) _  o6 ho6) rfl rfl ?_
        obtain rfl := Option.some.inj hf
        exact go_iret hC hQ dX11_image_56 rfl rfl rfl rfl (fun _ => rfl) rfl rfl
      · have hf := ite_f h7 hf
        by_cases h14 : p1 = (1 : Int32)
        · subst h14
          have hf := ite_t rfl hf
          refine go_aald (x := 45) (pc' := 17) hC 1 layX_1 (by decide) rfl dX11_image_16 (by decide) (by decide) rfl ?_
          refine go_aload_n (pc' := 18) hC dX11_image_17 rfl rfl ?_
          refine go_getq (pc' := 21) hC 0 2 layX_0 rfl rfl inlX11 (Nat.le_of_ble_eq_true rfl) mw_20 rfl dX11_image_18 rfl ?_
          refine go_keys (L1 := [(4500, (S.1 4500)), (4501, (S.1 4501)), (4507, (S.1 4507)), (4510, (S.1 4510)), (4514, (S.1 4514)), (4515, (S.1 4515)), (4516, (S.1 4516)), (4517, (S.1 4517))]) (L2 := []) (L3 := [(46, (S.2.2.1 46)), (47, (S.2.2.1 47)), (48, (S.2.2.1 48)), (49, (S.2.2.1 49)), (50, (S.2.2.1 50)), (51, (S.2.2.1 51)), (52, (S.2.2.1 52)), (53, (S.2.2.1 53)), (54, (S.2.2.1 54)), (55, (S.2.2.1 55))]) (L4 := []) (L5 := []) [4500, 4501, 4507, 4510, 4514, 4515, 4516, 4517] [] [46, 47, 48, 49, 50, 51, 52, 53, 54, 55] [] [] rfl rfl rfl rfl rfl ?_
          obtain ⟨o8, ho8, hf⟩ := bd_e hf
          refine go_callV1 (pc' := 24) (As := [.ref (x_q X 16)]) (st := []) (st' := []) (L1' := [(4500, o8.1), (4501, o8.2.1), (4507, o8.2.2.1), (4510, o8.2.2.2.1), (4514, o8.2.2.2.2.1), (4515, o8.2.2.2.2.2.1), (4516, o8.2.2.2.2.2.2.1), (4517, o8.2.2.2.2.2.2.2.1)]) (L2' := []) (L3' := [(46, o8.2.2.2.2.2.2.2.2.1), (47, o8.2.2.2.2.2.2.2.2.2.1), (48, o8.2.2.2.2.2.2.2.2.2.2.1), (49, o8.2.2.2.2.2.2.2.2.2.2.2.1), (50, o8.2.2.2.2.2.2.2.2.2.2.2.2.1), (51, o8.2.2.2.2.2.2.2.2.2.2.2.2.2.1), (52, o8.2.2.2.2.2.2.2.2.2.2.2.2.2.2.1), (53, o8.2.2.2.2.2.2.2.2.2.2.2.2.2.2.2.1), (54, o8.2.2.2.2.2.2.2.2.2.2.2.2.2.2.2.2.1), (55, o8.2.2.2.2.2.2.2.2.2.2.2.2.2.2.2.2.2)]) (L4' := []) (L5' := []) (cells' := 0) (slots' := 0)  (b := 45) hC dX11_image_21 ⟨mw_461, mw_464, mw_14, yd_yX2_copyOf, yp_yX2_copyOf, Nat.le_of_ble_eq_true rfl, Nat.le_of_ble_eq_true rfl, (Nat.le_of_ble_eq_true rfl), (Nat.le_of_ble_eq_true rfl)⟩ mw_462 mw_463 layX_45 rfl rfl rfl (Nat.le_of_ble_eq_true rfl) (c_X2_copyOf_q45_q16 (x_l X) (x_D X) (x_q X) g (x_cy X) (x_z X) _  o8 ho8) rfl rfl rfl rfl rfl rfl rfl rfl rfl rfl rfl rfl rfl rfl ?_
          refine go_aload_n (pc' := 25) hC dX11_image_24 rfl rfl ?_
          refine go_getq (pc' := 28) hC 0 5 layX_0 rfl rfl inlX11 (Nat.le_of_ble_eq_true rfl) mw_26 rfl dX11_image_25 rfl ?_
          refine go_iload_n (pc' := 29) hC dX11_image_28 rfl rfl ?_
          refine go_aald (x := 85) (pc' := 30) hC 2 layX_2 (by decide) rfl dX11_image_29 (by decide) (by decide) rfl ?_
          refine go_aload_n (pc' := 31) hC dX11_image_30 rfl rfl ?_
          refine go_getq (pc' := 34) hC 0 3 layX_0 rfl rfl inlX11 (Nat.le_of_ble_eq_true rfl) mw_24 rfl dX11_image_31 rfl ?_
          refine go_base (fun S10 hx => ?_)
          have hf := lz_r hx hf
          clear hx
          refine go_keys (L1 := [(8500, (S10.1 8500)), (8504, (S10.1 8504))]) (L2 := []) (L3 := [(86, (S10.2.2.1 86)), (87, (S10.2.2.1 87)), (88, (S10.2.2.1 88)), (89, (S10.2.2.1 89)), (90, (S10.2.2.1 90)), (91, (S10.2.2.1 91))]) (L4 := []) (L5 := []) [8500, 8504] [] [86, 87, 88, 89, 90, 91] [] [] rfl rfl rfl rfl rfl ?_
          obtain ⟨o9, ho9, hf⟩ := bd_e hf
          refine go_callV1 (pc' := 37) (As := [.ref (x_q X 27)]) (st := []) (st' := []) (L1' := [(8500, o9.1), (8504, o9.2.1)]) (L2' := []) (L3' := [(86, o9.2.2.1), (87, o9.2.2.2.1), (88, o9.2.2.2.2.1), (89, o9.2.2.2.2.2.1), (90, o9.2.2.2.2.2.2.1), (91, o9.2.2.2.2.2.2.2)]) (L4' := []) (L5' := []) (cells' := 0) (slots' := 0)  (b := 85) hC dX11_image_34 ⟨mw_1513, mw_1516, mw_23, yd_yX6_copyOf, yp_yX6_copyOf, Nat.le_of_ble_eq_true rfl, Nat.le_of_ble_eq_true rfl, (Nat.le_of_ble_eq_true rfl), (Nat.le_of_ble_eq_true rfl)⟩ mw_1514 mw_1515 layX_85 rfl rfl rfl (Nat.le_of_ble_eq_true rfl) (c_X6_copyOf_q85_q27 (x_l X) (x_D X) (x_q X) g (x_cy X) (x_z X) _  o9 ho9) rfl rfl rfl rfl rfl rfl rfl rfl rfl rfl rfl rfl rfl rfl ?_
          refine go_aload_n (pc' := 38) hC dX11_image_37 rfl rfl ?_
          refine go_dup (pc' := 39) hC dX11_image_38 rfl rfl ?_
          refine go_geti (v := (S10.1 6)) (pc' := 42) hC 0 6 layX_0 rfl rfl inlX11 (Nat.le_of_ble_eq_true rfl) mw_1512 rfl dX11_image_39 rfl rfl ?_
          refine go_iconst (pc' := 43) hC dX11_image_42 ki_1 rfl ?_
          refine go_iload_n (pc' := 44) hC dX11_image_43 rfl rfl ?_
          refine go_ishl (pc' := 45) hC dX11_image_44 rfl ?_
          refine go_ior (pc' := 46) hC dX11_image_45 rfl ?_
          refine go_base (fun S11 hx => ?_)
          have hf := lz_r hx hf
          clear hx
          refine go_keys (L1 := [(6, (S11.1 6))]) (L2 := []) (L3 := []) (L4 := []) (L5 := []) [6] [] [] [] [] rfl rfl rfl rfl rfl ?_
          refine go_namei (fun x12 hx => ?_)
          have hf := lz_r hx hf
          clear hx
          refine go_puti (L1' := [(6, x12)]) (pc' := 49) hC 0 6 layX_0 rfl rfl inlX11 tyX11_ok nmX11 (Nat.le_of_ble_eq_true rfl) mw_1512 rfl rfl rfl rfl dX11_image_46 rfl rfl rfl ?_
          refine go_aload_n (pc' := 50) hC dX11_image_49 rfl rfl ?_
          refine go_getq (pc' := 53) hC 0 2 layX_0 rfl rfl inlX11 (Nat.le_of_ble_eq_true rfl) mw_20 rfl dX11_image_50 rfl ?_
          obtain ⟨o13, ho13, hf⟩ := bd_e hf
          refine go_callV0 (pc' := 56) (As := []) (st := []) (st' := [.int o13])    (b := 16) hC dX11_image_53 ⟨mw_484, mw_418, mw_14, yd_yX2_things, yp_yX2_things, Nat.le_of_ble_eq_true rfl, Nat.le_of_ble_eq_true rfl, (Nat.le_of_ble_eq_true rfl), (Nat.le_of_ble_eq_true rfl)⟩ mw_416 mw_417 layX_16 rfl rfl rfl (Nat.le_of_ble_eq_true rfl) (c_X2_things_q16 (x_l X) (x_D X) (x_q X) g (x_cy X) (x_z X) _  o13 ho13) rfl rfl ?_
          obtain rfl := Option.some.inj hf
          exact go_iret hC hQ dX11_image_56 rfl rfl rfl rfl (fun _ => rfl) rfl rfl
        · have hf := ite_f h14 hf
          by_cases h21 : p1 = (2 : Int32)
          · subst h21
            have hf := ite_t rfl hf
            refine go_aald (x := 56) (pc' := 17) hC 1 layX_1 (by decide) rfl dX11_image_16 (by decide) (by decide) rfl ?_
            refine go_aload_n (pc' := 18) hC dX11_image_17 rfl rfl ?_
            refine go_getq (pc' := 21) hC 0 2 layX_0 rfl rfl inlX11 (Nat.le_of_ble_eq_true rfl) mw_20 rfl dX11_image_18 rfl ?_
            refine go_keys (L1 := [(5600, (S.1 5600)), (5601, (S.1 5601)), (5607, (S.1 5607)), (5610, (S.1 5610)), (5614, (S.1 5614)), (5615, (S.1 5615)), (5616, (S.1 5616)), (5617, (S.1 5617))]) (L2 := []) (L3 := [(57, (S.2.2.1 57)), (58, (S.2.2.1 58)), (59, (S.2.2.1 59)), (60, (S.2.2.1 60)), (61, (S.2.2.1 61)), (62, (S.2.2.1 62)), (63, (S.2.2.1 63)), (64, (S.2.2.1 64)), (65, (S.2.2.1 65)), (66, (S.2.2.1 66))]) (L4 := []) (L5 := []) [5600, 5601, 5607, 5610, 5614, 5615, 5616, 5617] [] [57, 58, 59, 60, 61, 62, 63, 64, 65, 66] [] [] rfl rfl rfl rfl rfl ?_
            obtain ⟨o15, ho15, hf⟩ := bd_e hf
            refine go_callV1 (pc' := 24) (As := [.ref (x_q X 16)]) (st := []) (st' := []) (L1' := [(5600, o15.1), (5601, o15.2.1), (5607, o15.2.2.1), (5610, o15.2.2.2.1), (5614, o15.2.2.2.2.1), (5615, o15.2.2.2.2.2.1), (5616, o15.2.2.2.2.2.2.1), (5617, o15.2.2.2.2.2.2.2.1)]) (L2' := []) (L3' := [(57, o15.2.2.2.2.2.2.2.2.1), (58, o15.2.2.2.2.2.2.2.2.2.1), (59, o15.2.2.2.2.2.2.2.2.2.2.1), (60, o15.2.2.2.2.2.2.2.2.2.2.2.1), (61, o15.2.2.2.2.2.2.2.2.2.2.2.2.1), (62, o15.2.2.2.2.2.2.2.2.2.2.2.2.2.1), (63, o15.2.2.2.2.2.2.2.2.2.2.2.2.2.2.1), (64, o15.2.2.2.2.2.2.2.2.2.2.2.2.2.2.2.1), (65, o15.2.2.2.2.2.2.2.2.2.2.2.2.2.2.2.2.1), (66, o15.2.2.2.2.2.2.2.2.2.2.2.2.2.2.2.2.2)]) (L4' := []) (L5' := []) (cells' := 0) (slots' := 0)  (b := 56) hC dX11_image_21 ⟨mw_461, mw_464, mw_14, yd_yX2_copyOf, yp_yX2_copyOf, Nat.le_of_ble_eq_true rfl, Nat.le_of_ble_eq_true rfl, (Nat.le_of_ble_eq_true rfl), (Nat.le_of_ble_eq_true rfl)⟩ mw_462 mw_463 layX_56 rfl rfl rfl (Nat.le_of_ble_eq_true rfl) (c_X2_copyOf_q56_q16 (x_l X) (x_D X) (x_q X) g (x_cy X) (x_z X) _  o15 ho15) rfl rfl rfl rfl rfl rfl rfl rfl rfl rfl rfl rfl rfl rfl ?_
            refine go_aload_n (pc' := 25) hC dX11_image_24 rfl rfl ?_
            refine go_getq (pc' := 28) hC 0 5 layX_0 rfl rfl inlX11 (Nat.le_of_ble_eq_true rfl) mw_26 rfl dX11_image_25 rfl ?_
            refine go_iload_n (pc' := 29) hC dX11_image_28 rfl rfl ?_
            refine go_aald (x := 92) (pc' := 30) hC 2 layX_2 (by decide) rfl dX11_image_29 (by decide) (by decide) rfl ?_
            refine go_aload_n (pc' := 31) hC dX11_image_30 rfl rfl ?_
            refine go_getq (pc' := 34) hC 0 3 layX_0 rfl rfl inlX11 (Nat.le_of_ble_eq_true rfl) mw_24 rfl dX11_image_31 rfl ?_
            refine go_base (fun S17 hx => ?_)
            have hf := lz_r hx hf
            clear hx
            refine go_keys (L1 := [(9200, (S17.1 9200)), (9204, (S17.1 9204))]) (L2 := []) (L3 := [(93, (S17.2.2.1 93)), (94, (S17.2.2.1 94)), (95, (S17.2.2.1 95)), (96, (S17.2.2.1 96)), (97, (S17.2.2.1 97)), (98, (S17.2.2.1 98))]) (L4 := []) (L5 := []) [9200, 9204] [] [93, 94, 95, 96, 97, 98] [] [] rfl rfl rfl rfl rfl ?_
            obtain ⟨o16, ho16, hf⟩ := bd_e hf
            refine go_callV1 (pc' := 37) (As := [.ref (x_q X 27)]) (st := []) (st' := []) (L1' := [(9200, o16.1), (9204, o16.2.1)]) (L2' := []) (L3' := [(93, o16.2.2.1), (94, o16.2.2.2.1), (95, o16.2.2.2.2.1), (96, o16.2.2.2.2.2.1), (97, o16.2.2.2.2.2.2.1), (98, o16.2.2.2.2.2.2.2)]) (L4' := []) (L5' := []) (cells' := 0) (slots' := 0)  (b := 92) hC dX11_image_34 ⟨mw_1513, mw_1516, mw_23, yd_yX6_copyOf, yp_yX6_copyOf, Nat.le_of_ble_eq_true rfl, Nat.le_of_ble_eq_true rfl, (Nat.le_of_ble_eq_true rfl), (Nat.le_of_ble_eq_true rfl)⟩ mw_1514 mw_1515 layX_92 rfl rfl rfl (Nat.le_of_ble_eq_true rfl) (c_X6_copyOf_q92_q27 (x_l X) (x_D X) (x_q X) g (x_cy X) (x_z X) _  o16 ho16) rfl rfl rfl rfl rfl rfl rfl rfl rfl rfl rfl rfl rfl rfl ?_
            refine go_aload_n (pc' := 38) hC dX11_image_37 rfl rfl ?_
            refine go_dup (pc' := 39) hC dX11_image_38 rfl rfl ?_
            refine go_geti (v := (S17.1 6)) (pc' := 42) hC 0 6 layX_0 rfl rfl inlX11 (Nat.le_of_ble_eq_true rfl) mw_1512 rfl dX11_image_39 rfl rfl ?_
            refine go_iconst (pc' := 43) hC dX11_image_42 ki_1 rfl ?_
            refine go_iload_n (pc' := 44) hC dX11_image_43 rfl rfl ?_
            refine go_ishl (pc' := 45) hC dX11_image_44 rfl ?_
            refine go_ior (pc' := 46) hC dX11_image_45 rfl ?_
            refine go_base (fun S18 hx => ?_)
            have hf := lz_r hx hf
            clear hx
            refine go_keys (L1 := [(6, (S18.1 6))]) (L2 := []) (L3 := []) (L4 := []) (L5 := []) [6] [] [] [] [] rfl rfl rfl rfl rfl ?_
            refine go_namei (fun x19 hx => ?_)
            have hf := lz_r hx hf
            clear hx
            refine go_puti (L1' := [(6, x19)]) (pc' := 49) hC 0 6 layX_0 rfl rfl inlX11 tyX11_ok nmX11 (Nat.le_of_ble_eq_true rfl) mw_1512 rfl rfl rfl rfl dX11_image_46 rfl rfl rfl ?_
            refine go_aload_n (pc' := 50) hC dX11_image_49 rfl rfl ?_
            refine go_getq (pc' := 53) hC 0 2 layX_0 rfl rfl inlX11 (Nat.le_of_ble_eq_true rfl) mw_20 rfl dX11_image_50 rfl ?_
            obtain ⟨o20, ho20, hf⟩ := bd_e hf
            refine go_callV0 (pc' := 56) (As := []) (st := []) (st' := [.int o20])    (b := 16) hC dX11_image_53 ⟨mw_484, mw_418, mw_14, yd_yX2_things, yp_yX2_things, Nat.le_of_ble_eq_true rfl, Nat.le_of_ble_eq_true rfl, (Nat.le_of_ble_eq_true rfl), (Nat.le_of_ble_eq_true rfl)⟩ mw_416 mw_417 layX_16 rfl rfl rfl (Nat.le_of_ble_eq_true rfl) (c_X2_things_q16 (x_l X) (x_D X) (x_q X) g (x_cy X) (x_z X) _  o20 ho20) rfl rfl ?_
            obtain rfl := Option.some.inj hf
            exact go_iret hC hQ dX11_image_56 rfl rfl rfl rfl (fun _ => rfl) rfl rfl
          · have hf := ite_f h21 hf
            by_cases h28 : p1 = (3 : Int32)
            · subst h28
              have hf := ite_t rfl hf
              refine go_aald (x := 67) (pc' := 17) hC 1 layX_1 (by decide) rfl dX11_image_16 (by decide) (by decide) rfl ?_
              refine go_aload_n (pc' := 18) hC dX11_image_17 rfl rfl ?_
              refine go_getq (pc' := 21) hC 0 2 layX_0 rfl rfl inlX11 (Nat.le_of_ble_eq_true rfl) mw_20 rfl dX11_image_18 rfl ?_
              refine go_keys (L1 := [(6700, (S.1 6700)), (6701, (S.1 6701)), (6707, (S.1 6707)), (6710, (S.1 6710)), (6714, (S.1 6714)), (6715, (S.1 6715)), (6716, (S.1 6716)), (6717, (S.1 6717))]) (L2 := []) (L3 := [(68, (S.2.2.1 68)), (69, (S.2.2.1 69)), (70, (S.2.2.1 70)), (71, (S.2.2.1 71)), (72, (S.2.2.1 72)), (73, (S.2.2.1 73)), (74, (S.2.2.1 74)), (75, (S.2.2.1 75)), (76, (S.2.2.1 76)), (77, (S.2.2.1 77))]) (L4 := []) (L5 := []) [6700, 6701, 6707, 6710, 6714, 6715, 6716, 6717] [] [68, 69, 70, 71, 72, 73, 74, 75, 76, 77] [] [] rfl rfl rfl rfl rfl ?_
              obtain ⟨o22, ho22, hf⟩ := bd_e hf
              refine go_callV1 (pc' := 24) (As := [.ref (x_q X 16)]) (st := []) (st' := []) (L1' := [(6700, o22.1), (6701, o22.2.1), (6707, o22.2.2.1), (6710, o22.2.2.2.1), (6714, o22.2.2.2.2.1), (6715, o22.2.2.2.2.2.1), (6716, o22.2.2.2.2.2.2.1), (6717, o22.2.2.2.2.2.2.2.1)]) (L2' := []) (L3' := [(68, o22.2.2.2.2.2.2.2.2.1), (69, o22.2.2.2.2.2.2.2.2.2.1), (70, o22.2.2.2.2.2.2.2.2.2.2.1), (71, o22.2.2.2.2.2.2.2.2.2.2.2.1), (72, o22.2.2.2.2.2.2.2.2.2.2.2.2.1), (73, o22.2.2.2.2.2.2.2.2.2.2.2.2.2.1), (74, o22.2.2.2.2.2.2.2.2.2.2.2.2.2.2.1), (75, o22.2.2.2.2.2.2.2.2.2.2.2.2.2.2.2.1), (76, o22.2.2.2.2.2.2.2.2.2.2.2.2.2.2.2.2.1), (77, o22.2.2.2.2.2.2.2.2.2.2.2.2.2.2.2.2.2)]) (L4' := []) (L5' := []) (cells' := 0) (slots' := 0)  (b := 67) hC dX11_image_21 ⟨mw_461, mw_464, mw_14, yd_yX2_copyOf, yp_yX2_copyOf, Nat.le_of_ble_eq_true rfl, Nat.le_of_ble_eq_true rfl, (Nat.le_of_ble_eq_true rfl), (Nat.le_of_ble_eq_true rfl)⟩ mw_462 mw_463 layX_67 rfl rfl rfl (Nat.le_of_ble_eq_true rfl) (c_X2_copyOf_q67_q16 (x_l X) (x_D X) (x_q X) g (x_cy X) (x_z X) _  o22 ho22) rfl rfl rfl rfl rfl rfl rfl rfl rfl rfl rfl rfl rfl rfl ?_
              refine go_aload_n (pc' := 25) hC dX11_image_24 rfl rfl ?_
              refine go_getq (pc' := 28) hC 0 5 layX_0 rfl rfl inlX11 (Nat.le_of_ble_eq_true rfl) mw_26 rfl dX11_image_25 rfl ?_
              refine go_iload_n (pc' := 29) hC dX11_image_28 rfl rfl ?_
              refine go_aald (x := 99) (pc' := 30) hC 2 layX_2 (by decide) rfl dX11_image_29 (by decide) (by decide) rfl ?_
              refine go_aload_n (pc' := 31) hC dX11_image_30 rfl rfl ?_
              refine go_getq (pc' := 34) hC 0 3 layX_0 rfl rfl inlX11 (Nat.le_of_ble_eq_true rfl) mw_24 rfl dX11_image_31 rfl ?_
              refine go_base (fun S24 hx => ?_)
              have hf := lz_r hx hf
              clear hx
              refine go_keys (L1 := [(9900, (S24.1 9900)), (9904, (S24.1 9904))]) (L2 := []) (L3 := [(100, (S24.2.2.1 100)), (101, (S24.2.2.1 101)), (102, (S24.2.2.1 102)), (103, (S24.2.2.1 103)), (104, (S24.2.2.1 104)), (105, (S24.2.2.1 105))]) (L4 := []) (L5 := []) [9900, 9904] [] [100, 101, 102, 103, 104, 105] [] [] rfl rfl rfl rfl rfl ?_
              obtain ⟨o23, ho23, hf⟩ := bd_e hf
              refine go_callV1 (pc' := 37) (As := [.ref (x_q X 27)]) (st := []) (st' := []) (L1' := [(9900, o23.1), (9904, o23.2.1)]) (L2' := []) (L3' := [(100, o23.2.2.1), (101, o23.2.2.2.1), (102, o23.2.2.2.2.1), (103, o23.2.2.2.2.2.1), (104, o23.2.2.2.2.2.2.1), (105, o23.2.2.2.2.2.2.2)]) (L4' := []) (L5' := []) (cells' := 0) (slots' := 0)  (b := 99) hC dX11_image_34 ⟨mw_1513, mw_1516, mw_23, yd_yX6_copyOf, yp_yX6_copyOf, Nat.le_of_ble_eq_true rfl, Nat.le_of_ble_eq_true rfl, (Nat.le_of_ble_eq_true rfl), (Nat.le_of_ble_eq_true rfl)⟩ mw_1514 mw_1515 layX_99 rfl rfl rfl (Nat.le_of_ble_eq_true rfl) (c_X6_copyOf_q99_q27 (x_l X) (x_D X) (x_q X) g (x_cy X) (x_z X) _  o23 ho23) rfl rfl rfl rfl rfl rfl rfl rfl rfl rfl rfl rfl rfl rfl ?_
              refine go_aload_n (pc' := 38) hC dX11_image_37 rfl rfl ?_
              refine go_dup (pc' := 39) hC dX11_image_38 rfl rfl ?_
              refine go_geti (v := (S24.1 6)) (pc' := 42) hC 0 6 layX_0 rfl rfl inlX11 (Nat.le_of_ble_eq_true rfl) mw_1512 rfl dX11_image_39 rfl rfl ?_
              refine go_iconst (pc' := 43) hC dX11_image_42 ki_1 rfl ?_
              refine go_iload_n (pc' := 44) hC dX11_image_43 rfl rfl ?_
              refine go_ishl (pc' := 45) hC dX11_image_44 rfl ?_
              refine go_ior (pc' := 46) hC dX11_image_45 rfl ?_
              refine go_base (fun S25 hx => ?_)
              have hf := lz_r hx hf
              clear hx
              refine go_keys (L1 := [(6, (S25.1 6))]) (L2 := []) (L3 := []) (L4 := []) (L5 := []) [6] [] [] [] [] rfl rfl rfl rfl rfl ?_
              refine go_namei (fun x26 hx => ?_)
              have hf := lz_r hx hf
              clear hx
              refine go_puti (L1' := [(6, x26)]) (pc' := 49) hC 0 6 layX_0 rfl rfl inlX11 tyX11_ok nmX11 (Nat.le_of_ble_eq_true rfl) mw_1512 rfl rfl rfl rfl dX11_image_46 rfl rfl rfl ?_
              refine go_aload_n (pc' := 50) hC dX11_image_49 rfl rfl ?_
              refine go_getq (pc' := 53) hC 0 2 layX_0 rfl rfl inlX11 (Nat.le_of_ble_eq_true rfl) mw_20 rfl dX11_image_50 rfl ?_
              obtain ⟨o27, ho27, hf⟩ := bd_e hf
              refine go_callV0 (pc' := 56) (As := []) (st := []) (st' := [.int o27])    (b := 16) hC dX11_image_53 ⟨mw_484, mw_418, mw_14, yd_yX2_things, yp_yX2_things, Nat.le_of_ble_eq_true rfl, Nat.le_of_ble_eq_true rfl, (Nat.le_of_ble_eq_true rfl), (Nat.le_of_ble_eq_true rfl)⟩ mw_416 mw_417 layX_16 rfl rfl rfl (Nat.le_of_ble_eq_true rfl) (c_X2_things_q16 (x_l X) (x_D X) (x_q X) g (x_cy X) (x_z X) _  o27 ho27) rfl rfl ?_
              obtain rfl := Option.some.inj hf
              exact go_iret hC hQ dX11_image_56 rfl rfl rfl rfl (fun _ => rfl) rfl rfl
            · have hf := ite_f h28 hf
              exact none_no hf
    · have hf := ite_f h29 hf
      refine go_iconst (pc' := 10) hC dX11_image_9 ki_m1 rfl ?_
      obtain rfl := Option.some.inj hf
      exact go_iret hC hQ dX11_image_10 rfl rfl rfl rfl (fun _ => rfl) rfl rfl
