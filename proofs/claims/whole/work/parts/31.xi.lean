abbrev o_X2_copyOf_q142_q16 : Type := Int32 × Int32 × Int32 × Int32 × Int32 × Int32 × Int32 × Int32 × (Nat → Int32) × (Nat → Int32) × (Nat → Int32) × (Nat → Int32) × (Nat → Int32) × (Nat → Int32) × (Nat → Int32) × (Nat → Int32) × (Nat → Int32) × (Nat → Int32)
def f_X2_copyOf_q142_q16 (S : wd_W) : Option o_X2_copyOf_q142_q16 :=
lz ((S.1 1600)) fun x1 =>
lz ((S.1 1601)) fun x2 =>
lz ((S.1 1607)) fun x3 =>
lz ((S.1 1610)) fun x4 =>
bd (f_X2_countBy_q142 (wd_o S [(14200, x1), (14201, x2), (14207, x3), (14210, x4), (14214, (S.1 14214)), (14215, (S.1 14215)), (14216, (S.1 14216)), (14217, (S.1 14217))] [] [(143, (S.2.2.1 143)), (144, (S.2.2.1 144)), (145, (S.2.2.1 145)), (146, (S.2.2.1 146)), (147, (S.2.2.1 147)), (148, (S.2.2.1 148)), (149, (S.2.2.1 149)), (150, (S.2.2.1 150)), (151, (S.2.2.1 151)), (152, (S.2.2.1 152))] [] []) (S.1 1614) (S.1 1615) (S.1 1616) (S.1 1617)) fun o5 =>
some (x1, x2, x3, x4, o5.1, o5.2.1, o5.2.2.1, o5.2.2.2, (va_cpy (S.2.2.1 17) (S.2.2.1 143) 0 0 13), (va_cpy (S.2.2.1 18) (S.2.2.1 144) 0 0 13), (va_cpy (S.2.2.1 19) (S.2.2.1 145) 0 0 13), (va_cpy (S.2.2.1 20) (S.2.2.1 146) 0 0 13), (va_cpy (S.2.2.1 21) (S.2.2.1 147) 0 0 13), (va_cpy (S.2.2.1 22) (S.2.2.1 148) 0 0 10), (va_cpy (S.2.2.1 23) (S.2.2.1 149) 0 0 10), (va_cpy (S.2.2.1 24) (S.2.2.1 150) 0 0 3), (va_cpy (S.2.2.1 25) (S.2.2.1 151) 0 0 3), (va_cpy (S.2.2.1 26) (S.2.2.1 152) 0 0 3))
set_option maxRecDepth 100000 in
set_option maxHeartbeats 4000000 in
theorem c_X2_copyOf_q142_q16 (l : Launch) (D : va_G) (q g : Nat → Nat) (cy : Nat → ClassId) (z : (Nat → Nat) × (Nat → Nat) × Nat) (S : wd_W) (o : o_X2_copyOf_q142_q16) (hf : f_X2_copyOf_q142_q16 S = some o) : MX layX l yX2_copyOf cX2_copyOf 2 none ({ frames := 2, cells := 0, slots := 0, locals := 81 } : Room) D q g cy z [.ref (q 142), .ref (q 16)] S false (none) (wd_o S [(14200, o.1), (14201, o.2.1), (14207, o.2.2.1), (14210, o.2.2.2.1), (14214, o.2.2.2.2.1), (14215, o.2.2.2.2.2.1), (14216, o.2.2.2.2.2.2.1), (14217, o.2.2.2.2.2.2.2.1)] [] [(143, o.2.2.2.2.2.2.2.2.1), (144, o.2.2.2.2.2.2.2.2.2.1), (145, o.2.2.2.2.2.2.2.2.2.2.1), (146, o.2.2.2.2.2.2.2.2.2.2.2.1), (147, o.2.2.2.2.2.2.2.2.2.2.2.2.1), (148, o.2.2.2.2.2.2.2.2.2.2.2.2.2.1), (149, o.2.2.2.2.2.2.2.2.2.2.2.2.2.2.1), (150, o.2.2.2.2.2.2.2.2.2.2.2.2.2.2.2.1), (151, o.2.2.2.2.2.2.2.2.2.2.2.2.2.2.2.2.1), (152, o.2.2.2.2.2.2.2.2.2.2.2.2.2.2.2.2.2)] [] []) 0 0 := by
  refine mx_of (own := RX2) (lc := [(0, .ref (q 142)), (1, .ref (q 16))]) (by decide +kernel) rfl layX_ok (Nat.le_of_ble_eq_true rfl) rfl ?_
  intro X hXl hXq hXz hC hQ
  subst hXl; subst hXq; subst hXz
  unfold f_X2_copyOf_q142_q16 at hf
  refine go_keys (L1 := [(14200, (S.1 14200)), (14201, (S.1 14201)), (14207, (S.1 14207)), (14210, (S.1 14210)), (14214, (S.1 14214)), (14215, (S.1 14215)), (14216, (S.1 14216)), (14217, (S.1 14217))]) (L2 := []) (L3 := [(143, (S.2.2.1 143)), (144, (S.2.2.1 144)), (145, (S.2.2.1 145)), (146, (S.2.2.1 146)), (147, (S.2.2.1 147)), (148, (S.2.2.1 148)), (149, (S.2.2.1 149)), (150, (S.2.2.1 150)), (151, (S.2.2.1 151)), (152, (S.2.2.1 152))]) (L4 := []) (L5 := []) [14200, 14201, 14207, 14210, 14214, 14215, 14216, 14217] [] [143, 144, 145, 146, 147, 148, 149, 150, 151, 152] [] [] rfl rfl rfl rfl rfl ?_
  refine go_aload_n (pc' := 1) hC dX2_copyOf_0 rfl rfl ?_
  refine go_aload_n (pc' := 2) hC dX2_copyOf_1 rfl rfl ?_
  refine go_geti (v := (S.1 1600)) (pc' := 5) hC 16 0 layX_16 rfl rfl inlX2 (Nat.le_of_ble_eq_true rfl) mw_58 rfl dX2_copyOf_2 rfl rfl ?_
  refine go_namei (fun x1 hx => ?_)
  have hf := lz_r hx hf
  clear hx
  refine go_puti (L1' := [(14200, x1), (14201, (S.1 14201)), (14207, (S.1 14207)), (14210, (S.1 14210)), (14214, (S.1 14214)), (14215, (S.1 14215)), (14216, (S.1 14216)), (14217, (S.1 14217))]) (pc' := 8) hC 142 0 layX_142 rfl rfl inlX2 tyX2_ok nmX2 (Nat.le_of_ble_eq_true rfl) mw_58 rfl rfl rfl rfl dX2_copyOf_5 rfl rfl rfl ?_
  refine go_aload_n (pc' := 9) hC dX2_copyOf_8 rfl rfl ?_
  refine go_aload_n (pc' := 10) hC dX2_copyOf_9 rfl rfl ?_
  refine go_geti (v := (S.1 1601)) (pc' := 13) hC 16 1 layX_16 rfl rfl inlX2 (Nat.le_of_ble_eq_true rfl) mw_309 rfl dX2_copyOf_10 rfl rfl ?_
  refine go_namei (fun x2 hx => ?_)
  have hf := lz_r hx hf
  clear hx
  refine go_puti (L1' := [(14200, x1), (14201, x2), (14207, (S.1 14207)), (14210, (S.1 14210)), (14214, (S.1 14214)), (14215, (S.1 14215)), (14216, (S.1 14216)), (14217, (S.1 14217))]) (pc' := 16) hC 142 1 layX_142 rfl rfl inlX2 tyX2_ok nmX2 (Nat.le_of_ble_eq_true rfl) mw_309 rfl rfl rfl rfl dX2_copyOf_13 rfl rfl rfl ?_
  refine go_aload_n (pc' := 17) hC dX2_copyOf_16 rfl rfl ?_
  refine go_aload_n (pc' := 18) hC dX2_copyOf_17 rfl rfl ?_
  refine go_geti (v := (S.1 1607)) (pc' := 21) hC 16 7 layX_16 rfl rfl inlX2 (Nat.le_of_ble_eq_true rfl) mw_310 rfl dX2_copyOf_18 rfl rfl ?_
  refine go_namei (fun x3 hx => ?_)
  have hf := lz_r hx hf
  clear hx
  refine go_puti (L1' := [(14200, x1), (14201, x2), (14207, x3), (14210, (S.1 14210)), (14214, (S.1 14214)), (14215, (S.1 14215)), (14216, (S.1 14216)), (14217, (S.1 14217))]) (pc' := 24) hC 142 7 layX_142 rfl rfl inlX2 tyX2_ok nmX2 (Nat.le_of_ble_eq_true rfl) mw_310 rfl rfl rfl rfl dX2_copyOf_21 rfl rfl rfl ?_
  refine go_aload_n (pc' := 25) hC dX2_copyOf_24 rfl rfl ?_
  refine go_aload_n (pc' := 26) hC dX2_copyOf_25 rfl rfl ?_
  refine go_geti (v := (S.1 1610)) (pc' := 29) hC 16 10 layX_16 rfl rfl inlX2 (Nat.le_of_ble_eq_true rfl) mw_311 rfl dX2_copyOf_26 rfl rfl ?_
  refine go_namei (fun x4 hx => ?_)
  have hf := lz_r hx hf
  clear hx
  refine go_puti (L1' := [(14200, x1), (14201, x2), (14207, x3), (14210, x4), (14214, (S.1 14214)), (14215, (S.1 14215)), (14216, (S.1 14216)), (14217, (S.1 14217))]) (pc' := 32) hC 142 10 layX_142 rfl rfl inlX2 tyX2_ok nmX2 (Nat.le_of_ble_eq_true rfl) mw_311 rfl rfl rfl rfl dX2_copyOf_29 rfl rfl rfl ?_
  refine go_aload_n (pc' := 33) hC dX2_copyOf_32 rfl rfl ?_
  refine go_aload_n (pc' := 34) hC dX2_copyOf_33 rfl rfl ?_
  refine go_geti (v := (S.1 1614)) (pc' := 37) hC 16 14 layX_16 rfl rfl inlX2 (Nat.le_of_ble_eq_true rfl) mw_70 rfl dX2_copyOf_34 rfl rfl ?_
  refine go_aload_n (pc' := 38) hC dX2_copyOf_37 rfl rfl ?_
  refine go_geti (v := (S.1 1615)) (pc' := 41) hC 16 15 layX_16 rfl rfl inlX2 (Nat.le_of_ble_eq_true rfl) mw_316 rfl dX2_copyOf_38 rfl rfl ?_
  refine go_aload_n (pc' := 42) hC dX2_copyOf_41 rfl rfl ?_
  refine go_geti (v := (S.1 1616)) (pc' := 45) hC 16 16 layX_16 rfl rfl inlX2 (Nat.le_of_ble_eq_true rfl) mw_317 rfl dX2_copyOf_42 rfl rfl ?_
  refine go_aload_n (pc' := 46) hC dX2_copyOf_45 rfl rfl ?_
  refine go_geti (v := (S.1 1617)) (pc' := 49) hC 16 17 layX_16 rfl rfl inlX2 (Nat.le_of_ble_eq_true rfl) mw_318 rfl dX2_copyOf_46 rfl rfl ?_
  obtain ⟨o5, ho5, hf⟩ := bd_e hf
  refine go_callV1 (pc' := 52) (As := [.int (S.1 1614), .int (S.1 1615), .int (S.1 1616), .int (S.1 1617)]) (st := []) (st' := []) (L1' := [(14200, x1), (14201, x2), (14207, x3), (14210, x4), (14214, o5.1), (14215, o5.2.1), (14216, o5.2.2.1), (14217, o5.2.2.2)]) (L2' := []) (L3' := [(143, (S.2.2.1 143)), (144, (S.2.2.1 144)), (145, (S.2.2.1 145)), (146, (S.2.2.1 146)), (147, (S.2.2.1 147)), (148, (S.2.2.1 148)), (149, (S.2.2.1 149)), (150, (S.2.2.1 150)), (151, (S.2.2.1 151)), (152, (S.2.2.1 152))]) (L4' := []) (L5' := []) (cells' := 0) (slots' := 0)  (b := 142) hC dX2_copyOf_49 ⟨mw_312, mw_315, mw_14, yd_yX2_countBy, yp_yX2_countBy, Nat.le_of_ble_eq_true rfl, Nat.le_of_ble_eq_true rfl, (Nat.le_of_ble_eq_true rfl), (Nat.le_of_ble_eq_true rfl)⟩ mw_313 mw_314 layX_142 rfl rfl rfl (Nat.le_of_ble_eq_true rfl) (c_X2_countBy_q142 (x_l X) (x_D X) (x_q X) g (x_cy X) (x_z X) _ (S.1 1614) (S.1 1615) (S.1 1616) (S.1 1617) o5 ho5) rfl rfl rfl rfl rfl rfl rfl rfl rfl rfl rfl rfl rfl rfl ?_
  refine go_aload_n (pc' := 53) hC dX2_copyOf_52 rfl rfl ?_
  refine go_getq (pc' := 56) hC 16 2 layX_16 rfl rfl inlX2 (Nat.le_of_ble_eq_true rfl) mw_60 rfl dX2_copyOf_53 rfl ?_
  refine go_aload_n (pc' := 57) hC dX2_copyOf_56 rfl rfl ?_
  refine go_getq (pc' := 60) hC 142 2 layX_142 rfl rfl inlX2 (Nat.le_of_ble_eq_true rfl) mw_60 rfl dX2_copyOf_57 rfl ?_
  refine go_callS1 (pc' := 63) (As := [.ref (x_q X 17), .ref (x_q X 143)]) (st := []) (st' := []) (L1' := [(14200, x1), (14201, x2), (14207, x3), (14210, x4), (14214, o5.1), (14215, o5.2.1), (14216, o5.2.2.1), (14217, o5.2.2.2)]) (L2' := []) (L3' := [(143, (va_cpy (S.2.2.1 17) (S.2.2.1 143) 0 0 13)), (144, (S.2.2.1 144)), (145, (S.2.2.1 145)), (146, (S.2.2.1 146)), (147, (S.2.2.1 147)), (148, (S.2.2.1 148)), (149, (S.2.2.1 149)), (150, (S.2.2.1 150)), (151, (S.2.2.1 151)), (152, (S.2.2.1 152))]) (L4' := []) (L5' := []) (cells' := 0) (slots' := 0) hC dX2_copyOf_60 ⟨mw_465, mw_467, mw_14, yd_yX2_copyRow, yp_yX2_copyRow, Nat.le_of_ble_eq_true rfl, Nat.le_of_ble_eq_true rfl, Nat.le_of_ble_eq_true rfl, Nat.le_of_ble_eq_true rfl⟩ mw_466 rfl rfl (Nat.le_of_ble_eq_true rfl) (c_copyRow (x_l X) (x_D X) (x_q X) g (x_cy X) (x_z X) _ layX layX_ok 17 143 13 layX_17 layX_143 (by decide)) rfl rfl rfl rfl rfl rfl rfl rfl rfl rfl rfl rfl rfl rfl ?_
  refine go_aload_n (pc' := 64) hC dX2_copyOf_63 rfl rfl ?_
  refine go_getq (pc' := 67) hC 16 3 layX_16 rfl rfl inlX2 (Nat.le_of_ble_eq_true rfl) mw_61 rfl dX2_copyOf_64 rfl ?_
  refine go_aload_n (pc' := 68) hC dX2_copyOf_67 rfl rfl ?_
  refine go_getq (pc' := 71) hC 142 3 layX_142 rfl rfl inlX2 (Nat.le_of_ble_eq_true rfl) mw_61 rfl dX2_copyOf_68 rfl ?_
  refine go_callS1 (pc' := 74) (As := [.ref (x_q X 18), .ref (x_q X 144)]) (st := []) (st' := []) (L1' := [(14200, x1), (14201, x2), (14207, x3), (14210, x4), (14214, o5.1), (14215, o5.2.1), (14216, o5.2.2.1), (14217, o5.2.2.2)]) (L2' := []) (L3' := [(143, (va_cpy (S.2.2.1 17) (S.2.2.1 143) 0 0 13)), (144, (va_cpy (S.2.2.1 18) (S.2.2.1 144) 0 0 13)), (145, (S.2.2.1 145)), (146, (S.2.2.1 146)), (147, (S.2.2.1 147)), (148, (S.2.2.1 148)), (149, (S.2.2.1 149)), (150, (S.2.2.1 150)), (151, (S.2.2.1 151)), (152, (S.2.2.1 152))]) (L4' := []) (L5' := []) (cells' := 0) (slots' := 0) hC dX2_copyOf_71 ⟨mw_465, mw_467, mw_14, yd_yX2_copyRow, yp_yX2_copyRow, Nat.le_of_ble_eq_true rfl, Nat.le_of_ble_eq_true rfl, Nat.le_of_ble_eq_true rfl, Nat.le_of_ble_eq_true rfl⟩ mw_466 rfl rfl (Nat.le_of_ble_eq_true rfl) (c_copyRow (x_l X) (x_D X) (x_q X) g (x_cy X) (x_z X) _ layX layX_ok 18 144 13 layX_18 layX_144 (by decide)) rfl rfl rfl rfl rfl rfl rfl rfl rfl rfl rfl rfl rfl rfl ?_
  refine go_aload_n (pc' := 75) hC dX2_copyOf_74 rfl rfl ?_
  refine go_getq (pc' := 78) hC 16 4 layX_16 rfl rfl inlX2 (Nat.le_of_ble_eq_true rfl) mw_62 rfl dX2_copyOf_75 rfl ?_
  refine go_aload_n (pc' := 79) hC dX2_copyOf_78 rfl rfl ?_
  refine go_getq (pc' := 82) hC 142 4 layX_142 rfl rfl inlX2 (Nat.le_of_ble_eq_true rfl) mw_62 rfl dX2_copyOf_79 rfl ?_
  refine go_callS1 (pc' := 85) (As := [.ref (x_q X 19), .ref (x_q X 145)]) (st := []) (st' := []) (L1' := [(14200, x1), (14201, x2), (14207, x3), (14210, x4), (14214, o5.1), (14215, o5.2.1), (14216, o5.2.2.1), (14217, o5.2.2.2)]) (L2' := []) (L3' := [(143, (va_cpy (S.2.2.1 17) (S.2.2.1 143) 0 0 13)), (144, (va_cpy (S.2.2.1 18) (S.2.2.1 144) 0 0 13)), (145, (va_cpy (S.2.2.1 19) (S.2.2.1 145) 0 0 13)), (146, (S.2.2.1 146)), (147, (S.2.2.1 147)), (148, (S.2.2.1 148)), (149, (S.2.2.1 149)), (150, (S.2.2.1 150)), (151, (S.2.2.1 151)), (152, (S.2.2.1 152))]) (L4' := []) (L5' := []) (cells' := 0) (slots' := 0) hC dX2_copyOf_82 ⟨mw_465, mw_467, mw_14, yd_yX2_copyRow, yp_yX2_copyRow, Nat.le_of_ble_eq_true rfl, Nat.le_of_ble_eq_true rfl, Nat.le_of_ble_eq_true rfl, Nat.le_of_ble_eq_true rfl⟩ mw_466 rfl rfl (Nat.le_of_ble_eq_true rfl) (c_copyRow (x_l X) (x_D X) (x_q X) g (x_cy X) (x_z X) _ layX layX_ok 19 145 13 layX_19 layX_145 (by decide)) rfl rfl rfl rfl rfl rfl rfl rfl rfl rfl rfl rfl rfl rfl ?_
  refine go_aload_n (pc' := 86) hC dX2_copyOf_85 rfl rfl ?_
  refine go_getq (pc' := 89) hC 16 5 layX_16 rfl rfl inlX2 (Nat.le_of_ble_eq_true rfl) mw_63 rfl dX2_copyOf_86 rfl ?_
  refine go_aload_n (pc' := 90) hC dX2_copyOf_89 rfl rfl ?_
  refine go_getq (pc' := 93) hC 142 5 layX_142 rfl rfl inlX2 (Nat.le_of_ble_eq_true rfl) mw_63 rfl dX2_copyOf_90 rfl ?_
  refine go_callS1 (pc' := 96) (As := [.ref (x_q X 20), .ref (x_q X 146)]) (st := []) (st' := []) (L1' := [(14200, x1), (14201, x2), (14207, x3), (14210, x4), (14214, o5.1), (14215, o5.2.1), (14216, o5.2.2.1), (14217, o5.2.2.2)]) (L2' := []) (L3' := [(143, (va_cpy (S.2.2.1 17) (S.2.2.1 143) 0 0 13)), (144, (va_cpy (S.2.2.1 18) (S.2.2.1 144) 0 0 13)), (145, (va_cpy (S.2.2.1 19) (S.2.2.1 145) 0 0 13)), (146, (va_cpy (S.2.2.1 20) (S.2.2.1 146) 0 0 13)), (147, (S.2.2.1 147)), (148, (S.2.2.1 148)), (149, (S.2.2.1 149)), (150, (S.2.2.1 150)), (151, (S.2.2.1 151)), (152, (S.2.2.1 152))]) (L4' := []) (L5' := []) (cells' := 0) (slots' := 0) hC dX2_copyOf_93 ⟨mw_465, mw_467, mw_14, yd_yX2_copyRow, yp_yX2_copyRow, Nat.le_of_ble_eq_true rfl, Nat.le_of_ble_eq_true rfl, Nat.le_of_ble_eq_true rfl, Nat.le_of_ble_eq_true rfl⟩ mw_466 rfl rfl (Nat.le_of_ble_eq_true rfl) (c_copyRow (x_l X) (x_D X) (x_q X) g (x_cy X) (x_z X) _ layX layX_ok 20 146 13 layX_20 layX_146 (by decide)) rfl rfl rfl rfl rfl rfl rfl rfl rfl rfl rfl rfl rfl rfl ?_
  refine go_aload_n (pc' := 97) hC dX2_copyOf_96 rfl rfl ?_
  refine go_getq (pc' := 100) hC 16 6 layX_16 rfl rfl inlX2 (Nat.le_of_ble_eq_true rfl) mw_64 rfl dX2_copyOf_97 rfl ?_
  refine go_aload_n (pc' := 101) hC dX2_copyOf_100 rfl rfl ?_
  refine go_getq (pc' := 104) hC 142 6 layX_142 rfl rfl inlX2 (Nat.le_of_ble_eq_true rfl) mw_64 rfl dX2_copyOf_101 rfl ?_
  refine go_callS1 (pc' := 107) (As := [.ref (x_q X 21), .ref (x_q X 147)]) (st := []) (st' := []) (L1' := [(14200, x1), (14201, x2), (14207, x3), (14210, x4), (14214, o5.1), (14215, o5.2.1), (14216, o5.2.2.1), (14217, o5.2.2.2)]) (L2' := []) (L3' := [(143, (va_cpy (S.2.2.1 17) (S.2.2.1 143) 0 0 13)), (144, (va_cpy (S.2.2.1 18) (S.2.2.1 144) 0 0 13)), (145, (va_cpy (S.2.2.1 19) (S.2.2.1 145) 0 0 13)), (146, (va_cpy (S.2.2.1 20) (S.2.2.1 146) 0 0 13)), (147, (va_cpy (S.2.2.1 21) (S.2.2.1 147) 0 0 13)), (148, (S.2.2.1 148)), (149, (S.2.2.1 149)), (150, (S.2.2.1 150)), (151, (S.2.2.1 151)), (152, (S.2.2.1 152))]) (L4' := []) (L5' := []) (cells' := 0) (slots' := 0) hC dX2_copyOf_104 ⟨mw_465, mw_467, mw_14, yd_yX2_copyRow, yp_yX2_copyRow, Nat.le_of_ble_eq_true rfl, Nat.le_of_ble_eq_true rfl, Nat.le_of_ble_eq_true rfl, Nat.le_of_ble_eq_true rfl⟩ mw_466 rfl rfl (Nat.le_of_ble_eq_true rfl) (c_copyRow (x_l X) (x_D X) (x_q X) g (x_cy X) (x_z X) _ layX layX_ok 21 147 13 layX_21 layX_147 (by decide)) rfl rfl rfl rfl rfl rfl rfl rfl rfl rfl rfl rfl rfl rfl ?_
  refine go_aload_n (pc' := 108) hC dX2_copyOf_107 rfl rfl ?_
  refine go_getq (pc' := 111) hC 16 8 layX_16 rfl rfl inlX2 (Nat.le_of_ble_eq_true rfl) mw_65 rfl dX2_copyOf_108 rfl ?_
  refine go_aload_n (pc' := 112) hC dX2_copyOf_111 rfl rfl ?_
  refine go_getq (pc' := 115) hC 142 8 layX_142 rfl rfl inlX2 (Nat.le_of_ble_eq_true rfl) mw_65 rfl dX2_copyOf_112 rfl ?_
  refine go_callS1 (pc' := 118) (As := [.ref (x_q X 22), .ref (x_q X 148)]) (st := []) (st' := []) (L1' := [(14200, x1), (14201, x2), (14207, x3), (14210, x4), (14214, o5.1), (14215, o5.2.1), (14216, o5.2.2.1), (14217, o5.2.2.2)]) (L2' := []) (L3' := [(143, (va_cpy (S.2.2.1 17) (S.2.2.1 143) 0 0 13)), (144, (va_cpy (S.2.2.1 18) (S.2.2.1 144) 0 0 13)), (145, (va_cpy (S.2.2.1 19) (S.2.2.1 145) 0 0 13)), (146, (va_cpy (S.2.2.1 20) (S.2.2.1 146) 0 0 13)), (147, (va_cpy (S.2.2.1 21) (S.2.2.1 147) 0 0 13)), (148, (va_cpy (S.2.2.1 22) (S.2.2.1 148) 0 0 10)), (149, (S.2.2.1 149)), (150, (S.2.2.1 150)), (151, (S.2.2.1 151)), (152, (S.2.2.1 152))]) (L4' := []) (L5' := []) (cells' := 0) (slots' := 0) hC dX2_copyOf_115 ⟨mw_465, mw_467, mw_14, yd_yX2_copyRow, yp_yX2_copyRow, Nat.le_of_ble_eq_true rfl, Nat.le_of_ble_eq_true rfl, Nat.le_of_ble_eq_true rfl, Nat.le_of_ble_eq_true rfl⟩ mw_466 rfl rfl (Nat.le_of_ble_eq_true rfl) (c_copyRow (x_l X) (x_D X) (x_q X) g (x_cy X) (x_z X) _ layX layX_ok 22 148 10 layX_22 layX_148 (by decide)) rfl rfl rfl rfl rfl rfl rfl rfl rfl rfl rfl rfl rfl rfl ?_
  refine go_aload_n (pc' := 119) hC dX2_copyOf_118 rfl rfl ?_
  refine go_getq (pc' := 122) hC 16 9 layX_16 rfl rfl inlX2 (Nat.le_of_ble_eq_true rfl) mw_66 rfl dX2_copyOf_119 rfl ?_
  refine go_aload_n (pc' := 123) hC dX2_copyOf_122 rfl rfl ?_
  refine go_getq (pc' := 126) hC 142 9 layX_142 rfl rfl inlX2 (Nat.le_of_ble_eq_true rfl) mw_66 rfl dX2_copyOf_123 rfl ?_
  refine go_callS1 (pc' := 129) (As := [.ref (x_q X 23), .ref (x_q X 149)]) (st := []) (st' := []) (L1' := [(14200, x1), (14201, x2), (14207, x3), (14210, x4), (14214, o5.1), (14215, o5.2.1), (14216, o5.2.2.1), (14217, o5.2.2.2)]) (L2' := []) (L3' := [(143, (va_cpy (S.2.2.1 17) (S.2.2.1 143) 0 0 13)), (144, (va_cpy (S.2.2.1 18) (S.2.2.1 144) 0 0 13)), (145, (va_cpy (S.2.2.1 19) (S.2.2.1 145) 0 0 13)), (146, (va_cpy (S.2.2.1 20) (S.2.2.1 146) 0 0 13)), (147, (va_cpy (S.2.2.1 21) (S.2.2.1 147) 0 0 13)), (148, (va_cpy (S.2.2.1 22) (S.2.2.1 148) 0 0 10)), (149, (va_cpy (S.2.2.1 23) (S.2.2.1 149) 0 0 10)), (150, (S.2.2.1 150)), (151, (S.2.2.1 151)), (152, (S.2.2.1 152))]) (L4' := []) (L5' := []) (cells' := 0) (slots' := 0) hC dX2_copyOf_126 ⟨mw_465, mw_467, mw_14, yd_yX2_copyRow, yp_yX2_copyRow, Nat.le_of_ble_eq_true rfl, Nat.le_of_ble_eq_true rfl, Nat.le_of_ble_eq_true rfl, Nat.le_of_ble_eq_true rfl⟩ mw_466 rfl rfl (Nat.le_of_ble_eq_true rfl) (c_copyRow (x_l X) (x_D X) (x_q X) g (x_cy X) (x_z X) _ layX layX_ok 23 149 10 layX_23 layX_149 (by decide)) rfl rfl rfl rfl rfl rfl rfl rfl rfl rfl rfl rfl rfl rfl ?_
  refine go_aload_n (pc' := 130) hC dX2_copyOf_129 rfl rfl ?_
  refine go_getq (pc' := 133) hC 16 11 layX_16 rfl rfl inlX2 (Nat.le_of_ble_eq_true rfl) mw_67 rfl dX2_copyOf_130 rfl ?_
  refine go_aload_n (pc' := 134) hC dX2_copyOf_133 rfl rfl ?_
  refine go_getq (pc' := 137) hC 142 11 layX_142 rfl rfl inlX2 (Nat.le_of_ble_eq_true rfl) mw_67 rfl dX2_copyOf_134 rfl ?_
  refine go_callS1 (pc' := 140) (As := [.ref (x_q X 24), .ref (x_q X 150)]) (st := []) (st' := []) (L1' := [(14200, x1), (14201, x2), (14207, x3), (14210, x4), (14214, o5.1), (14215, o5.2.1), (14216, o5.2.2.1), (14217, o5.2.2.2)]) (L2' := []) (L3' := [(143, (va_cpy (S.2.2.1 17) (S.2.2.1 143) 0 0 13)), (144, (va_cpy (S.2.2.1 18) (S.2.2.1 144) 0 0 13)), (145, (va_cpy (S.2.2.1 19) (S.2.2.1 145) 0 0 13)), (146, (va_cpy (S.2.2.1 20) (S.2.2.1 146) 0 0 13)), (147, (va_cpy (S.2.2.1 21) (S.2.2.1 147) 0 0 13)), (148, (va_cpy (S.2.2.1 22) (S.2.2.1 148) 0 0 10)), (149, (va_cpy (S.2.2.1 23) (S.2.2.1 149) 0 0 10)), (150, (va_cpy (S.2.2.1 24) (S.2.2.1 150) 0 0 3)), (151, (S.2.2.1 151)), (152, (S.2.2.1 152))]) (L4' := []) (L5' := []) (cells' := 0) (slots' := 0) hC dX2_copyOf_137 ⟨mw_465, mw_467, mw_14, yd_yX2_copyRow, yp_yX2_copyRow, Nat.le_of_ble_eq_true rfl, Nat.le_of_ble_eq_true rfl, Nat.le_of_ble_eq_true rfl, Nat.le_of_ble_eq_true rfl⟩ mw_466 rfl rfl (Nat.le_of_ble_eq_true rfl) (c_copyRow (x_l X) (x_D X) (x_q X) g (x_cy X) (x_z X) _ layX layX_ok 24 150 3 layX_24 layX_150 (by decide)) rfl rfl rfl rfl rfl rfl rfl rfl rfl rfl rfl rfl rfl rfl ?_
  refine go_aload_n (pc' := 141) hC dX2_copyOf_140 rfl rfl ?_
  refine go_getq (pc' := 144) hC 16 12 layX_16 rfl rfl inlX2 (Nat.le_of_ble_eq_true rfl) mw_68 rfl dX2_copyOf_141 rfl ?_
  refine go_aload_n (pc' := 145) hC dX2_copyOf_144 rfl rfl ?_
  refine go_getq (pc' := 148) hC 142 12 layX_142 rfl rfl inlX2 (Nat.le_of_ble_eq_true rfl) mw_68 rfl dX2_copyOf_145 rfl ?_
  refine go_callS1 (pc' := 151) (As := [.ref (x_q X 25), .ref (x_q X 151)]) (st := []) (st' := []) (L1' := [(14200, x1), (14201, x2), (14207, x3), (14210, x4), (14214, o5.1), (14215, o5.2.1), (14216, o5.2.2.1), (14217, o5.2.2.2)]) (L2' := []) (L3' := [(143, (va_cpy (S.2.2.1 17) (S.2.2.1 143) 0 0 13)), (144, (va_cpy (S.2.2.1 18) (S.2.2.1 144) 0 0 13)), (145, (va_cpy (S.2.2.1 19) (S.2.2.1 145) 0 0 13)), (146, (va_cpy (S.2.2.1 20) (S.2.2.1 146) 0 0 13)), (147, (va_cpy (S.2.2.1 21) (S.2.2.1 147) 0 0 13)), (148, (va_cpy (S.2.2.1 22) (S.2.2.1 148) 0 0 10)), (149, (va_cpy (S.2.2.1 23) (S.2.2.1 149) 0 0 10)), (150, (va_cpy (S.2.2.1 24) (S.2.2.1 150) 0 0 3)), (151, (va_cpy (S.2.2.1 25) (S.2.2.1 151) 0 0 3)), (152, (S.2.2.1 152))]) (L4' := []) (L5' := []) (cells' := 0) (slots' := 0) hC dX2_copyOf_148 ⟨mw_465, mw_467, mw_14, yd_yX2_copyRow, yp_yX2_copyRow, Nat.le_of_ble_eq_true rfl, Nat.le_of_ble_eq_true rfl, Nat.le_of_ble_eq_true rfl, Nat.le_of_ble_eq_true rfl⟩ mw_466 rfl rfl (Nat.le_of_ble_eq_true rfl) (c_copyRow (x_l X) (x_D X) (x_q X) g (x_cy X) (x_z X) _ layX layX_ok 25 151 3 layX_25 layX_151 (by decide)) rfl rfl rfl rfl rfl rfl rfl rfl rfl rfl rfl rfl rfl rfl ?_
  refine go_aload_n (pc' := 152) hC dX2_copyOf_151 rfl rfl ?_
  refine go_getq (pc' := 155) hC 16 13 layX_16 rfl rfl inlX2 (Nat.le_of_ble_eq_true rfl) mw_69 rfl dX2_copyOf_152 rfl ?_
  refine go_aload_n (pc' := 156) hC dX2_copyOf_155 rfl rfl ?_
  refine go_getq (pc' := 159) hC 142 13 layX_142 rfl rfl inlX2 (Nat.le_of_ble_eq_true rfl) mw_69 rfl dX2_copyOf_156 rfl ?_
  refine go_callS1 (pc' := 162) (As := [.ref (x_q X 26), .ref (x_q X 152)]) (st := []) (st' := []) (L1' := [(14200, x1), (14201, x2), (14207, x3), (14210, x4), (14214, o5.1), (14215, o5.2.1), (14216, o5.2.2.1), (14217, o5.2.2.2)]) (L2' := []) (L3' := [(143, (va_cpy (S.2.2.1 17) (S.2.2.1 143) 0 0 13)), (144, (va_cpy (S.2.2.1 18) (S.2.2.1 144) 0 0 13)), (145, (va_cpy (S.2.2.1 19) (S.2.2.1 145) 0 0 13)), (146, (va_cpy (S.2.2.1 20) (S.2.2.1 146) 0 0 13)), (147, (va_cpy (S.2.2.1 21) (S.2.2.1 147) 0 0 13)), (148, (va_cpy (S.2.2.1 22) (S.2.2.1 148) 0 0 10)), (149, (va_cpy (S.2.2.1 23) (S.2.2.1 149) 0 0 10)), (150, (va_cpy (S.2.2.1 24) (S.2.2.1 150) 0 0 3)), (151, (va_cpy (S.2.2.1 25) (S.2.2.1 151) 0 0 3)), (152, (va_cpy (S.2.2.1 26) (S.2.2.1 152) 0 0 3))]) (L4' := []) (L5' := []) (cells' := 0) (slots' := 0) hC dX2_copyOf_159 ⟨mw_465, mw_467, mw_14, yd_yX2_copyRow, yp_yX2_copyRow, Nat.le_of_ble_eq_true rfl, Nat.le_of_ble_eq_true rfl, Nat.le_of_ble_eq_true rfl, Nat.le_of_ble_eq_true rfl⟩ mw_466 rfl rfl (Nat.le_of_ble_eq_true rfl) (c_copyRow (x_l X) (x_D X) (x_q X) g (x_cy X) (x_z X) _ layX layX_ok 26 152 3 layX_26 layX_152 (by decide)) rfl rfl rfl rfl rfl rfl rfl rfl rfl rfl rfl rfl rfl rfl ?_
  obtain rfl := Option.some.inj hf
  exact go_vret hC hQ dX2_copyOf_162 rfl rfl rfl (fun _ => rfl) rfl rfl
abbrev o_X2_addLine_q142 : Type := Int32 × (Nat → Int32) × (Nat → Int32) × (Nat → Int32) × (Nat → Int32) × (Nat → Int32)
def f_X2_addLine_q142 (S : wd_W) (p1 : Int32) (p2 : Int32) (p3 : Int32) (p4 : Int32) (p5 : Int32) : Option o_X2_addLine_q142 :=
if (13 : Int32) ≤ (S.1 14201) then (
some ((S.1 14201), (S.2.2.1 143), (S.2.2.1 144), (S.2.2.1 145), (S.2.2.1 146), (S.2.2.1 147))) else (
gd (okx (S.1 14201) 13) <|
lz (upd (S.2.2.1 143) (S.1 14201).toNatClampNeg p1) fun a2 =>
gd (okx (S.1 14201) 13) <|
lz (upd (S.2.2.1 144) (S.1 14201).toNatClampNeg p2) fun a4 =>
gd (okx (S.1 14201) 13) <|
lz (upd (S.2.2.1 145) (S.1 14201).toNatClampNeg p3) fun a6 =>
gd (okx (S.1 14201) 13) <|
lz (upd (S.2.2.1 146) (S.1 14201).toNatClampNeg p4) fun a8 =>
gd (okx (S.1 14201) 13) <|
lz (upd (S.2.2.1 147) (S.1 14201).toNatClampNeg p5) fun a10 =>
lz ((S.1 14201) + (1 : Int32)) fun x11 =>
some (x11, a2, a4, a6, a8, a10))
set_option maxRecDepth 100000 in
set_option maxHeartbeats 4000000 in
theorem c_X2_addLine_q142 (l : Launch) (D : va_G) (q g : Nat → Nat) (cy : Nat → ClassId) (z : (Nat → Nat) × (Nat → Nat) × Nat) (S : wd_W) (p1 : Int32) (p2 : Int32) (p3 : Int32) (p4 : Int32) (p5 : Int32) (o : o_X2_addLine_q142) (hf : f_X2_addLine_q142 S p1 p2 p3 p4 p5 = some o) : MX layX l yX2_addLine cX2_addLine 6 none ({ frames := 0, cells := 0, slots := 0, locals := 0 } : Room) D q g cy z [.ref (q 142), .int p1, .int p2, .int p3, .int p4, .int p5] S false (none) (wd_o S [(14201, o.1)] [] [(143, o.2.1), (144, o.2.2.1), (145, o.2.2.2.1), (146, o.2.2.2.2.1), (147, o.2.2.2.2.2)] [] []) 0 0 := by
  refine mx_of (own := RX2) (lc := [(0, .ref (q 142)), (1, .int p1), (2, .int p2), (3, .int p3), (4, .int p4), (5, .int p5)]) (by decide +kernel) rfl layX_ok (Nat.le_of_ble_eq_true rfl) rfl ?_
  intro X hXl hXq hXz hC hQ
  subst hXl; subst hXq; subst hXz
  unfold f_X2_addLine_q142 at hf
  refine go_keys (L1 := [(14201, (S.1 14201))]) (L2 := []) (L3 := [(143, (S.2.2.1 143)), (144, (S.2.2.1 144)), (145, (S.2.2.1 145)), (146, (S.2.2.1 146)), (147, (S.2.2.1 147))]) (L4 := []) (L5 := []) [14201] [] [143, 144, 145, 146, 147] [] [] rfl rfl rfl rfl rfl ?_
  refine go_aload_n (pc' := 1) hC dX2_addLine_0 rfl rfl ?_
  refine go_geti (v := (S.1 14201)) (pc' := 4) hC 142 1 layX_142 rfl rfl inlX2 (Nat.le_of_ble_eq_true rfl) mw_309 rfl dX2_addLine_1 rfl rfl ?_
  refine go_aload_n (pc' := 5) hC dX2_addLine_4 rfl rfl ?_
  refine go_getq (pc' := 8) hC 142 2 layX_142 rfl rfl inlX2 (Nat.le_of_ble_eq_true rfl) mw_60 rfl dX2_addLine_5 rfl ?_
  refine go_alen (v := (13 : Int32)) (pc' := 9) hC 143 layX_143 rfl (Nat.le_of_ble_eq_true rfl) kn_13 dX2_addLine_8 rfl ?_
  refine go_icmp_ge (tgt := 74) (pc' := 12) hC dX2_addLine_9 (by decide) rfl (fun h12 => ?_) (fun h12 => ?_)
  · have hf := ite_t h12 hf
    obtain rfl := Option.some.inj hf
    exact go_vret hC hQ dX2_addLine_74 rfl rfl rfl (fun _ => rfl) rfl rfl
  · have hf := ite_f h12 hf
    refine go_aload_n (pc' := 13) hC dX2_addLine_12 rfl rfl ?_
    refine go_getq (pc' := 16) hC 142 2 layX_142 rfl rfl inlX2 (Nat.le_of_ble_eq_true rfl) mw_60 rfl dX2_addLine_13 rfl ?_
    refine go_aload_n (pc' := 17) hC dX2_addLine_16 rfl rfl ?_
    refine go_geti (v := (S.1 14201)) (pc' := 20) hC 142 1 layX_142 rfl rfl inlX2 (Nat.le_of_ble_eq_true rfl) mw_309 rfl dX2_addLine_17 rfl rfl ?_
    refine go_iload_n (pc' := 21) hC dX2_addLine_20 rfl rfl ?_
    obtain ⟨h1, hf⟩ := gd_e hf
    refine go_iast (f := (S.2.2.1 143)) (pc' := 22) hC 143 layX_143 rfl rfl dX2_addLine_21 (okx_in h1) rfl rfl (fun a2 ha L3' hL => ?_)
    have hf := lz_r ha hf
    clear ha
    obtain rfl : L3' = [(143, a2), (144, (S.2.2.1 144)), (145, (S.2.2.1 145)), (146, (S.2.2.1 146)), (147, (S.2.2.1 147))] := hL.symm
    refine go_aload_n (pc' := 23) hC dX2_addLine_22 rfl rfl ?_
    refine go_getq (pc' := 26) hC 142 3 layX_142 rfl rfl inlX2 (Nat.le_of_ble_eq_true rfl) mw_61 rfl dX2_addLine_23 rfl ?_
    refine go_aload_n (pc' := 27) hC dX2_addLine_26 rfl rfl ?_
    refine go_geti (v := (S.1 14201)) (pc' := 30) hC 142 1 layX_142 rfl rfl inlX2 (Nat.le_of_ble_eq_true rfl) mw_309 rfl dX2_addLine_27 rfl rfl ?_
    refine go_iload_n (pc' := 31) hC dX2_addLine_30 rfl rfl ?_
    obtain ⟨h3, hf⟩ := gd_e hf
    refine go_iast (f := (S.2.2.1 144)) (pc' := 32) hC 144 layX_144 rfl rfl dX2_addLine_31 (okx_in h3) rfl rfl (fun a4 ha L3' hL => ?_)
    have hf := lz_r ha hf
    clear ha
    obtain rfl : L3' = [(143, a2), (144, a4), (145, (S.2.2.1 145)), (146, (S.2.2.1 146)), (147, (S.2.2.1 147))] := hL.symm
    refine go_aload_n (pc' := 33) hC dX2_addLine_32 rfl rfl ?_
    refine go_getq (pc' := 36) hC 142 4 layX_142 rfl rfl inlX2 (Nat.le_of_ble_eq_true rfl) mw_62 rfl dX2_addLine_33 rfl ?_
    refine go_aload_n (pc' := 37) hC dX2_addLine_36 rfl rfl ?_
    refine go_geti (v := (S.1 14201)) (pc' := 40) hC 142 1 layX_142 rfl rfl inlX2 (Nat.le_of_ble_eq_true rfl) mw_309 rfl dX2_addLine_37 rfl rfl ?_
    refine go_iload_n (pc' := 41) hC dX2_addLine_40 rfl rfl ?_
    obtain ⟨h5, hf⟩ := gd_e hf
    refine go_iast (f := (S.2.2.1 145)) (pc' := 42) hC 145 layX_145 rfl rfl dX2_addLine_41 (okx_in h5) rfl rfl (fun a6 ha L3' hL => ?_)
    have hf := lz_r ha hf
    clear ha
    obtain rfl : L3' = [(143, a2), (144, a4), (145, a6), (146, (S.2.2.1 146)), (147, (S.2.2.1 147))] := hL.symm
    refine go_aload_n (pc' := 43) hC dX2_addLine_42 rfl rfl ?_
    refine go_getq (pc' := 46) hC 142 5 layX_142 rfl rfl inlX2 (Nat.le_of_ble_eq_true rfl) mw_63 rfl dX2_addLine_43 rfl ?_
    refine go_aload_n (pc' := 47) hC dX2_addLine_46 rfl rfl ?_
    refine go_geti (v := (S.1 14201)) (pc' := 50) hC 142 1 layX_142 rfl rfl inlX2 (Nat.le_of_ble_eq_true rfl) mw_309 rfl dX2_addLine_47 rfl rfl ?_
    refine go_iload (pc' := 52) hC dX2_addLine_50 rfl rfl ?_
    obtain ⟨h7, hf⟩ := gd_e hf
    refine go_iast (f := (S.2.2.1 146)) (pc' := 53) hC 146 layX_146 rfl rfl dX2_addLine_52 (okx_in h7) rfl rfl (fun a8 ha L3' hL => ?_)
    have hf := lz_r ha hf
    clear ha
    obtain rfl : L3' = [(143, a2), (144, a4), (145, a6), (146, a8), (147, (S.2.2.1 147))] := hL.symm
    refine go_aload_n (pc' := 54) hC dX2_addLine_53 rfl rfl ?_
    refine go_getq (pc' := 57) hC 142 6 layX_142 rfl rfl inlX2 (Nat.le_of_ble_eq_true rfl) mw_64 rfl dX2_addLine_54 rfl ?_
    refine go_aload_n (pc' := 58) hC dX2_addLine_57 rfl rfl ?_
    refine go_geti (v := (S.1 14201)) (pc' := 61) hC 142 1 layX_142 rfl rfl inlX2 (Nat.le_of_ble_eq_true rfl) mw_309 rfl dX2_addLine_58 rfl rfl ?_
    refine go_iload (pc' := 63) hC dX2_addLine_61 rfl rfl ?_
    obtain ⟨h9, hf⟩ := gd_e hf
    refine go_iast (f := (S.2.2.1 147)) (pc' := 64) hC 147 layX_147 rfl rfl dX2_addLine_63 (okx_in h9) rfl rfl (fun a10 ha L3' hL => ?_)
    have hf := lz_r ha hf
    clear ha
    obtain rfl : L3' = [(143, a2), (144, a4), (145, a6), (146, a8), (147, a10)] := hL.symm
    refine go_aload_n (pc' := 65) hC dX2_addLine_64 rfl rfl ?_
    refine go_dup (pc' := 66) hC dX2_addLine_65 rfl rfl ?_
    refine go_geti (v := (S.1 14201)) (pc' := 69) hC 142 1 layX_142 rfl rfl inlX2 (Nat.le_of_ble_eq_true rfl) mw_309 rfl dX2_addLine_66 rfl rfl ?_
    refine go_iconst (pc' := 70) hC dX2_addLine_69 ki_1 rfl ?_
    refine go_iadd (pc' := 71) hC dX2_addLine_70 rfl ?_
    refine go_namei (fun x11 hx => ?_)
    have hf := lz_r hx hf
    clear hx
    refine go_puti (L1' := [(14201, x11)]) (pc' := 74) hC 142 1 layX_142 rfl rfl inlX2 tyX2_ok nmX2 (Nat.le_of_ble_eq_true rfl) mw_309 rfl rfl rfl rfl dX2_addLine_71 rfl rfl rfl ?_
    obtain rfl := Option.some.inj hf
    exact go_vret hC hQ dX2_addLine_74 rfl rfl rfl (fun _ => rfl) rfl rfl
abbrev o_X7_neededPlaces_q153 : Type := Int32
def f_X7_neededPlaces_q153 (S : wd_W) : Option o_X7_neededPlaces_q153 :=
if (S.1 14214) = (1 : Int32) then (
some (S.1 15301)) else (
if (S.1 14214) = (2 : Int32) then (
some ((1 : Int32) <<< ((S.1 14216) &&& 31))) else (
some (((1 : Int32) <<< ((S.1 14216) &&& 31)) ||| ((1 : Int32) <<< ((S.1 14217) &&& 31)))))
set_option maxRecDepth 100000 in
set_option maxHeartbeats 4000000 in
theorem c_X7_neededPlaces_q153 (l : Launch) (D : va_G) (q g : Nat → Nat) (cy : Nat → ClassId) (z : (Nat → Nat) × (Nat → Nat) × Nat) (S : wd_W) (o : o_X7_neededPlaces_q153) (hf : f_X7_neededPlaces_q153 S = some o) : MX layX l yX7_neededPlaces cX7_neededPlaces 1 (some .int) ({ frames := 0, cells := 0, slots := 0, locals := 0 } : Room) D q g cy z [.ref (q 153)] S false (some (.int o)) (wd_o S [] [] [] [] []) 0 0 := by
  refine mx_of (own := RX7) (lc := [(0, .ref (q 153))]) (by decide +kernel) rfl layX_ok (Nat.le_of_ble_eq_true rfl) rfl ?_
  intro X hXl hXq hXz hC hQ
  subst hXl; subst hXq; subst hXz
  unfold f_X7_neededPlaces_q153 at hf
  refine go_aload_n (pc' := 1) hC dX7_neededPlaces_0 rfl rfl ?_
  refine go_getq (pc' := 4) hC 153 4 layX_153 rfl rfl inlX7 (Nat.le_of_ble_eq_true rfl) mw_115 rfl dX7_neededPlaces_1 rfl ?_
  refine go_geti (v := (S.1 14214)) (pc' := 7) hC 142 14 layX_142 rfl rfl inlX2 (Nat.le_of_ble_eq_true rfl) mw_630 rfl dX7_neededPlaces_4 rfl rfl ?_
  by_cases h1 : (S.1 14214) = (1 : Int32)
  · have hf := ite_t h1 hf
    refine go_lkIn' (v := (1 : Int32)) (tgt := 32) hC dX7_neededPlaces_7 h1 kt_1 (by decide) rfl (by decide) ?_
    refine go_aload_n (pc' := 33) hC dX7_neededPlaces_32 rfl rfl ?_
    refine go_geti (v := (S.1 15301)) (pc' := 36) hC 153 1 layX_153 rfl rfl inlX7 (Nat.le_of_ble_eq_true rfl) mw_621 rfl dX7_neededPlaces_33 rfl rfl ?_
    obtain rfl := Option.some.inj hf
    exact go_iret hC hQ dX7_neededPlaces_36 rfl rfl rfl rfl (fun _ => rfl) rfl rfl
  · have hf := ite_f h1 hf
    by_cases h2 : (S.1 14214) = (2 : Int32)
    · have hf := ite_t h2 hf
      refine go_lkIn' (v := (2 : Int32)) (tgt := 37) hC dX7_neededPlaces_7 h2 kt_2 (by decide) rfl (by decide) ?_
      refine go_iconst (pc' := 38) hC dX7_neededPlaces_37 ki_1 rfl ?_
      refine go_aload_n (pc' := 39) hC dX7_neededPlaces_38 rfl rfl ?_
      refine go_getq (pc' := 42) hC 153 4 layX_153 rfl rfl inlX7 (Nat.le_of_ble_eq_true rfl) mw_115 rfl dX7_neededPlaces_39 rfl ?_
      refine go_geti (v := (S.1 14216)) (pc' := 45) hC 142 16 layX_142 rfl rfl inlX2 (Nat.le_of_ble_eq_true rfl) mw_631 rfl dX7_neededPlaces_42 rfl rfl ?_
      refine go_ishl (pc' := 46) hC dX7_neededPlaces_45 rfl ?_
      obtain rfl := Option.some.inj hf
      exact go_iret hC hQ dX7_neededPlaces_46 rfl rfl rfl rfl (fun _ => rfl) rfl rfl
    · have hf := ite_f h2 hf
      refine go_lookup (tgt := 47) (off := 40) hC dX7_neededPlaces_7 (by decide) ?_ (by decide) ?_
      · show Op.lookupswitch.offset [(1, 25), (2, 30)] 40 _ = _
        rw [lv_osw h1 kt_1, lv_osw h2 kt_2]; rfl
      · refine go_iconst (pc' := 48) hC dX7_neededPlaces_47 ki_1 rfl ?_
        refine go_aload_n (pc' := 49) hC dX7_neededPlaces_48 rfl rfl ?_
        refine go_getq (pc' := 52) hC 153 4 layX_153 rfl rfl inlX7 (Nat.le_of_ble_eq_true rfl) mw_115 rfl dX7_neededPlaces_49 rfl ?_
        refine go_geti (v := (S.1 14216)) (pc' := 55) hC 142 16 layX_142 rfl rfl inlX2 (Nat.le_of_ble_eq_true rfl) mw_631 rfl dX7_neededPlaces_52 rfl rfl ?_
        refine go_ishl (pc' := 56) hC dX7_neededPlaces_55 rfl ?_
        refine go_iconst (pc' := 57) hC dX7_neededPlaces_56 ki_1 rfl ?_
        refine go_aload_n (pc' := 58) hC dX7_neededPlaces_57 rfl rfl ?_
        refine go_getq (pc' := 61) hC 153 4 layX_153 rfl rfl inlX7 (Nat.le_of_ble_eq_true rfl) mw_115 rfl dX7_neededPlaces_58 rfl ?_
        refine go_geti (v := (S.1 14217)) (pc' := 64) hC 142 17 layX_142 rfl rfl inlX2 (Nat.le_of_ble_eq_true rfl) mw_632 rfl dX7_neededPlaces_61 rfl rfl ?_
        refine go_ishl (pc' := 65) hC dX7_neededPlaces_64 rfl ?_
        refine go_ior (pc' := 66) hC dX7_neededPlaces_65 rfl ?_
        obtain rfl := Option.some.inj hf
        exact go_iret hC hQ dX7_neededPlaces_66 rfl rfl rfl rfl (fun _ => rfl) rfl rfl
abbrev o_X7_follow_q153 : Type := Int32 × Int32 × Int32 × Int32 × (Nat → Int32) × (Nat → Int32) × (Nat → Int32)
def f_X7_follow_q153_L44 (S : wd_W) (x1 : Int32) (x2 : Int32) (x3 : Int32) (o4 : o_X7_neededPlaces_q153) (r9 : (Int32) → (Nat → Int32) → (Nat → Int32) → (Nat → Int32) → (Option o_X7_follow_q153)) (x5 : Int32) (a6 : Nat → Int32) (a7 : Nat → Int32) (a8 : Nat → Int32) : Option o_X7_follow_q153 :=
if x2 ≤ x5 then (
some (x2, x3, o4, x1, a6, a7, a8)) else (
gd (okx x5 13) <|
lz ((1 : Int32) <<< (((S.2.2.1 143) x5.toNatClampNeg) &&& 31)) fun x11 =>
gd (okx x5 13) <|
lz ((1 : Int32) <<< (((S.2.2.1 144) x5.toNatClampNeg) &&& 31)) fun x13 =>
lz (x11 ||| x13) fun x14 =>
gd (okx x5 13) <|
lz (upd a6 x5.toNatClampNeg x14) fun a16 =>
gd (okx x5 13) <|
lk (fun x18 x19 =>
gd (okx x19 13) <|
lz (upd a7 x19.toNatClampNeg x18) fun a22 =>
gd (okx x5 13) <|
lk (fun x24 x25 =>
gd (okx x25 13) <|
lz (upd a8 x25.toNatClampNeg x24) fun a28 =>
r9 (x5 + (1 : Int32)) a16 a22 a28) fun k134_26 =>
if ((S.2.2.1 146) x5.toNatClampNeg) = 0 then (
k134_26 (x11 ||| x13) x5) else (
k134_26 x13 x5)) fun k109_20 =>
if ((S.2.2.1 146) x5.toNatClampNeg) = 0 then (
k109_20 (x11 ||| x13) x5) else (
k109_20 x11 x5))
def f_X7_follow_q153 (S : wd_W) : Option o_X7_follow_q153 :=
lz ((S.1 14200)) fun x1 =>
lz ((S.1 14201)) fun x2 =>
lz (((1 : Int32) <<< (x1 &&& 31)) - (1 : Int32)) fun x3 =>
bd (f_X7_neededPlaces_q153 (wd_o S [(15300, x2), (15301, x3), (15302, (S.1 15302)), (15303, x1)] [] [(154, (S.2.2.1 154)), (155, (S.2.2.1 155)), (156, (S.2.2.1 156))] [] [])) fun o4 =>
it4 (f_X7_follow_q153_L44 S x1 x2 x3 o4) fuel (0 : Int32) (S.2.2.1 154) (S.2.2.1 155) (S.2.2.1 156)
set_option maxRecDepth 100000 in
set_option maxHeartbeats 4000000 in
theorem c_X7_follow_q153 (l : Launch) (D : va_G) (q g : Nat → Nat) (cy : Nat → ClassId) (z : (Nat → Nat) × (Nat → Nat) × Nat) (S : wd_W) (o : o_X7_follow_q153) (hf : f_X7_follow_q153 S = some o) : MX layX l yX7_follow cX7_follow 4 none ({ frames := 1, cells := 0, slots := 0, locals := 20 } : Room) D q g cy z [.ref (q 153)] S false (none) (wd_o S [(15300, o.1), (15301, o.2.1), (15302, o.2.2.1), (15303, o.2.2.2.1)] [] [(154, o.2.2.2.2.1), (155, o.2.2.2.2.2.1), (156, o.2.2.2.2.2.2)] [] []) 0 0 := by
  refine mx_of (own := RX7) (lc := [(0, .ref (q 153))]) (by decide +kernel) rfl layX_ok (Nat.le_of_ble_eq_true rfl) rfl ?_
  intro X hXl hXq hXz hC hQ
  subst hXl; subst hXq; subst hXz
  unfold f_X7_follow_q153 at hf
  refine go_keys (L1 := [(15300, (S.1 15300)), (15301, (S.1 15301)), (15302, (S.1 15302)), (15303, (S.1 15303))]) (L2 := []) (L3 := [(154, (S.2.2.1 154)), (155, (S.2.2.1 155)), (156, (S.2.2.1 156))]) (L4 := []) (L5 := []) [15300, 15301, 15302, 15303] [] [154, 155, 156] [] [] rfl rfl rfl rfl rfl ?_
  refine go_aload_n (pc' := 1) hC dX7_follow_0 rfl rfl ?_
  refine go_aload_n (pc' := 2) hC dX7_follow_1 rfl rfl ?_
  refine go_getq (pc' := 5) hC 153 4 layX_153 rfl rfl inlX7 (Nat.le_of_ble_eq_true rfl) mw_115 rfl dX7_follow_2 rfl ?_
  refine go_geti (v := (S.1 14200)) (pc' := 8) hC 142 0 layX_142 rfl rfl inlX2 (Nat.le_of_ble_eq_true rfl) mw_617 rfl dX7_follow_5 rfl rfl ?_
  refine go_namei (fun x1 hx => ?_)
  have hf := lz_r hx hf
  clear hx
  refine go_puti (L1' := [(15300, (S.1 15300)), (15301, (S.1 15301)), (15302, (S.1 15302)), (15303, x1)]) (pc' := 11) hC 153 3 layX_153 rfl rfl inlX7 tyX7_ok nmX7 (Nat.le_of_ble_eq_true rfl) mw_618 rfl rfl rfl rfl dX7_follow_8 rfl rfl rfl ?_
  refine go_aload_n (pc' := 12) hC dX7_follow_11 rfl rfl ?_
  refine go_aload_n (pc' := 13) hC dX7_follow_12 rfl rfl ?_
  refine go_getq (pc' := 16) hC 153 4 layX_153 rfl rfl inlX7 (Nat.le_of_ble_eq_true rfl) mw_115 rfl dX7_follow_13 rfl ?_
  refine go_geti (v := (S.1 14201)) (pc' := 19) hC 142 1 layX_142 rfl rfl inlX2 (Nat.le_of_ble_eq_true rfl) mw_619 rfl dX7_follow_16 rfl rfl ?_
  refine go_namei (fun x2 hx => ?_)
  have hf := lz_r hx hf
  clear hx
  refine go_puti (L1' := [(15300, x2), (15301, (S.1 15301)), (15302, (S.1 15302)), (15303, x1)]) (pc' := 22) hC 153 0 layX_153 rfl rfl inlX7 tyX7_ok nmX7 (Nat.le_of_ble_eq_true rfl) mw_620 rfl rfl rfl rfl dX7_follow_19 rfl rfl rfl ?_
  refine go_aload_n (pc' := 23) hC dX7_follow_22 rfl rfl ?_
  refine go_iconst (pc' := 24) hC dX7_follow_23 ki_1 rfl ?_
  refine go_aload_n (pc' := 25) hC dX7_follow_24 rfl rfl ?_
  refine go_geti (v := x1) (pc' := 28) hC 153 3 layX_153 rfl rfl inlX7 (Nat.le_of_ble_eq_true rfl) mw_618 rfl dX7_follow_25 rfl rfl ?_
  refine go_ishl (pc' := 29) hC dX7_follow_28 rfl ?_
  refine go_iconst (pc' := 30) hC dX7_follow_29 ki_1 rfl ?_
  refine go_isub (pc' := 31) hC dX7_follow_30 rfl ?_
  refine go_namei (fun x3 hx => ?_)
  have hf := lz_r hx hf
  clear hx
  refine go_puti (L1' := [(15300, x2), (15301, x3), (15302, (S.1 15302)), (15303, x1)]) (pc' := 34) hC 153 1 layX_153 rfl rfl inlX7 tyX7_ok nmX7 (Nat.le_of_ble_eq_true rfl) mw_621 rfl rfl rfl rfl dX7_follow_31 rfl rfl rfl ?_
  refine go_aload_n (pc' := 35) hC dX7_follow_34 rfl rfl ?_
  refine go_aload_n (pc' := 36) hC dX7_follow_35 rfl rfl ?_
  obtain ⟨o4, ho4, hf⟩ := bd_e hf
  refine go_callV0 (pc' := 39) (As := []) (st := [.ref (x_q X 153)]) (st' := [.int o4, .ref (x_q X 153)])    (b := 153) hC dX7_follow_36 ⟨mw_626, mw_629, mw_99, yd_yX7_neededPlaces, yp_yX7_neededPlaces, Nat.le_of_ble_eq_true rfl, Nat.le_of_ble_eq_true rfl, (Nat.le_of_ble_eq_true rfl), (Nat.le_of_ble_eq_true rfl)⟩ mw_627 mw_628 layX_153 rfl rfl rfl (Nat.le_of_ble_eq_true rfl) (c_X7_neededPlaces_q153 (x_l X) (x_D X) (x_q X) g (x_cy X) (x_z X) _  o4 ho4) rfl rfl ?_
  refine go_puti (L1' := [(15300, x2), (15301, x3), (15302, o4), (15303, x1)]) (pc' := 42) hC 153 2 layX_153 rfl rfl inlX7 tyX7_ok nmX7 (Nat.le_of_ble_eq_true rfl) mw_622 rfl rfl rfl rfl dX7_follow_39 rfl rfl rfl ?_
  refine go_iconst (pc' := 43) hC dX7_follow_42 ki_0 rfl ?_
  refine go_istore_n (lc' := [(0, .ref (x_q X 153)), (1, .int (0 : Int32))]) (pc' := 44) hC dX7_follow_43 (Nat.le_of_ble_eq_true rfl) rfl rfl ?_
  have l44_32 : ∀ (nn : Nat) (x5 : Int32) (a6 : Nat → Int32) (a7 : Nat → Int32) (a8 : Nat → Int32), it4 (f_X7_follow_q153_L44 S x1 x2 x3 o4) nn x5 a6 a7 a8 = some o → Go X layX S 44 [(0, .ref (x_q X 153)), (1, .int x5)] [] g [(15300, x2), (15301, x3), (15302, o4), (15303, x1)] [] [(154, a6), (155, a7), (156, a8)] [] [] 0 0 := by
    intro nn
    induction nn with
    | zero =>
      intro x5 a6 a7 a8 hf
      exact none_no hf
    | succ nn ih =>
      intro x5 a6 a7 a8 hf
      have hf : f_X7_follow_q153_L44 S x1 x2 x3 o4 (it4 (f_X7_follow_q153_L44 S x1 x2 x3 o4) nn) x5 a6 a7 a8 = some o := hf
      generalize it4 (f_X7_follow_q153_L44 S x1 x2 x3 o4) nn = r9 at ih hf
      unfold f_X7_follow_q153_L44 at hf
      refine go_iload_n (pc' := 45) hC dX7_follow_44 rfl rfl ?_
      refine go_aload_n (pc' := 46) hC dX7_follow_45 rfl rfl ?_
      refine go_geti (v := x2) (pc' := 49) hC 153 0 layX_153 rfl rfl inlX7 (Nat.le_of_ble_eq_true rfl) mw_620 rfl dX7_follow_46 rfl rfl ?_
      refine go_icmp_ge (tgt := 141) (pc' := 52) hC dX7_follow_49 (by decide) rfl (fun h31 => ?_) (fun h31 => ?_)
      · have hf := ite_t h31 hf
        obtain rfl := Option.some.inj hf
        exact go_vret hC hQ dX7_follow_141 rfl rfl rfl (fun _ => rfl) rfl rfl
      · have hf := ite_f h31 hf
        refine go_iconst (pc' := 53) hC dX7_follow_52 ki_1 rfl ?_
        refine go_aload_n (pc' := 54) hC dX7_follow_53 rfl rfl ?_
        refine go_getq (pc' := 57) hC 153 4 layX_153 rfl rfl inlX7 (Nat.le_of_ble_eq_true rfl) mw_115 rfl dX7_follow_54 rfl ?_
        refine go_getq (pc' := 60) hC 142 2 layX_142 rfl rfl inlX2 (Nat.le_of_ble_eq_true rfl) mw_623 rfl dX7_follow_57 rfl ?_
        refine go_iload_n (pc' := 61) hC dX7_follow_60 rfl rfl ?_
        obtain ⟨h10, hf⟩ := gd_e hf
        refine go_iald (f := (S.2.2.1 143)) (pc' := 62) hC 143 layX_143 rfl rfl dX7_follow_61 (okx_in h10) rfl ?_
        refine go_ishl (pc' := 63) hC dX7_follow_62 rfl ?_
        refine go_namei (fun x11 hx => ?_)
        have hf := lz_r hx hf
        clear hx
        refine go_istore_n (lc' := [(0, .ref (x_q X 153)), (1, .int x5), (2, .int x11)]) (pc' := 64) hC dX7_follow_63 (Nat.le_of_ble_eq_true rfl) rfl rfl ?_
        refine go_iconst (pc' := 65) hC dX7_follow_64 ki_1 rfl ?_
        refine go_aload_n (pc' := 66) hC dX7_follow_65 rfl rfl ?_
        refine go_getq (pc' := 69) hC 153 4 layX_153 rfl rfl inlX7 (Nat.le_of_ble_eq_true rfl) mw_115 rfl dX7_follow_66 rfl ?_
        refine go_getq (pc' := 72) hC 142 3 layX_142 rfl rfl inlX2 (Nat.le_of_ble_eq_true rfl) mw_624 rfl dX7_follow_69 rfl ?_
        refine go_iload_n (pc' := 73) hC dX7_follow_72 rfl rfl ?_
        obtain ⟨h12, hf⟩ := gd_e hf
        refine go_iald (f := (S.2.2.1 144)) (pc' := 74) hC 144 layX_144 rfl rfl dX7_follow_73 (okx_in h12) rfl ?_
        refine go_ishl (pc' := 75) hC dX7_follow_74 rfl ?_
        refine go_namei (fun x13 hx => ?_)
        have hf := lz_r hx hf
        clear hx
        refine go_istore_n (lc' := [(0, .ref (x_q X 153)), (1, .int x5), (2, .int x11), (3, .int x13)]) (pc' := 76) hC dX7_follow_75 (Nat.le_of_ble_eq_true rfl) rfl rfl ?_
        refine go_aload_n (pc' := 77) hC dX7_follow_76 rfl rfl ?_
        refine go_getq (pc' := 80) hC 153 5 layX_153 rfl rfl inlX7 (Nat.le_of_ble_eq_true rfl) mw_110 rfl dX7_follow_77 rfl ?_
        refine go_iload_n (pc' := 81) hC dX7_follow_80 rfl rfl ?_
        refine go_iload_n (pc' := 82) hC dX7_follow_81 rfl rfl ?_
        refine go_iload_n (pc' := 83) hC dX7_follow_82 rfl rfl ?_
        refine go_ior (pc' := 84) hC dX7_follow_83 rfl ?_
        refine go_namei (fun x14 hx => ?_)
        have hf := lz_r hx hf
        clear hx
        obtain ⟨h15, hf⟩ := gd_e hf
        refine go_iast (f := a6) (pc' := 85) hC 154 layX_154 rfl rfl dX7_follow_84 (okx_in h15) rfl rfl (fun a16 ha L3' hL => ?_)
        have hf := lz_r ha hf
        clear ha
        obtain rfl : L3' = [(154, a16), (155, a7), (156, a8)] := hL.symm
        refine go_aload_n (pc' := 86) hC dX7_follow_85 rfl rfl ?_
        refine go_getq (pc' := 89) hC 153 6 layX_153 rfl rfl inlX7 (Nat.le_of_ble_eq_true rfl) mw_111 rfl dX7_follow_86 rfl ?_
        refine go_iload_n (pc' := 90) hC dX7_follow_89 rfl rfl ?_
        refine go_aload_n (pc' := 91) hC dX7_follow_90 rfl rfl ?_
        refine go_getq (pc' := 94) hC 153 4 layX_153 rfl rfl inlX7 (Nat.le_of_ble_eq_true rfl) mw_115 rfl dX7_follow_91 rfl ?_
        refine go_getq (pc' := 97) hC 142 5 layX_142 rfl rfl inlX2 (Nat.le_of_ble_eq_true rfl) mw_625 rfl dX7_follow_94 rfl ?_
        refine go_iload_n (pc' := 98) hC dX7_follow_97 rfl rfl ?_
        obtain ⟨h17, hf⟩ := gd_e hf
        refine go_iald (f := (S.2.2.1 146)) (pc' := 99) hC 146 layX_146 rfl rfl dX7_follow_98 (okx_in h17) rfl ?_
        obtain ⟨k109_20, hk109_20, hf⟩ := lk_e2 hf
        have jk109_20 : ∀ (x18 : Int32) (x19 : Int32), k109_20 x18 x19 = some o → Go X layX S 109 [(0, .ref (x_q X 153)), (1, .int x5), (2, .int x11), (3, .int x13)] [.int x18, .int x19, .ref (x_q X 155)] g [(15300, x2), (15301, x3), (15302, o4), (15303, x1)] [] [(154, a16), (155, a7), (156, a8)] [] [] 0 0 := by
          intro x18 x19 hf
          have hf := hk109_20 x18 x19 hf
          clear hk109_20
          obtain ⟨h21, hf⟩ := gd_e hf
          refine go_iast (f := a7) (pc' := 110) hC 155 layX_155 rfl rfl dX7_follow_109 (okx_in h21) rfl rfl (fun a22 ha L3' hL => ?_)
          have hf := lz_r ha hf
          clear ha
          obtain rfl : L3' = [(154, a16), (155, a22), (156, a8)] := hL.symm
          refine go_aload_n (pc' := 111) hC dX7_follow_110 rfl rfl ?_
          refine go_getq (pc' := 114) hC 153 7 layX_153 rfl rfl inlX7 (Nat.le_of_ble_eq_true rfl) mw_112 rfl dX7_follow_111 rfl ?_
          refine go_iload_n (pc' := 115) hC dX7_follow_114 rfl rfl ?_
          refine go_aload_n (pc' := 116) hC dX7_follow_115 rfl rfl ?_
          refine go_getq (pc' := 119) hC 153 4 layX_153 rfl rfl inlX7 (Nat.le_of_ble_eq_true rfl) mw_115 rfl dX7_follow_116 rfl ?_
          refine go_getq (pc' := 122) hC 142 5 layX_142 rfl rfl inlX2 (Nat.le_of_ble_eq_true rfl) mw_625 rfl dX7_follow_119 rfl ?_
          refine go_iload_n (pc' := 123) hC dX7_follow_122 rfl rfl ?_
          obtain ⟨h23, hf⟩ := gd_e hf
          refine go_iald (f := (S.2.2.1 146)) (pc' := 124) hC 146 layX_146 rfl rfl dX7_follow_123 (okx_in h23) rfl ?_
          obtain ⟨k134_26, hk134_26, hf⟩ := lk_e2 hf
          have jk134_26 : ∀ (x24 : Int32) (x25 : Int32), k134_26 x24 x25 = some o → Go X layX S 134 [(0, .ref (x_q X 153)), (1, .int x5)] [.int x24, .int x25, .ref (x_q X 156)] g [(15300, x2), (15301, x3), (15302, o4), (15303, x1)] [] [(154, a16), (155, a22), (156, a8)] [] [] 0 0 := by
            intro x24 x25 hf
            have hf := hk134_26 x24 x25 hf
            clear hk134_26
            obtain ⟨h27, hf⟩ := gd_e hf
            refine go_iast (f := a8) (pc' := 135) hC 156 layX_156 rfl rfl dX7_follow_134 (okx_in h27) rfl rfl (fun a28 ha L3' hL => ?_)
            have hf := lz_r ha hf
            clear ha
            obtain rfl : L3' = [(154, a16), (155, a22), (156, a28)] := hL.symm
            refine go_iinc (lc' := [(0, .ref (x_q X 153)), (1, .int (x5 + (1 : Int32)))]) (pc' := 138) hC dX7_follow_135 rfl ki_1 (Nat.le_of_ble_eq_true rfl) rfl rfl ?_
            refine go_goto (tgt := 44) hC dX7_follow_138 (by decide) ?_
            exact ih (x5 + (1 : Int32)) a16 a22 a28 hf
          clear hk134_26
          refine go_if_ne (tgt := 133) (pc' := 127) hC dX7_follow_124 (by decide) rfl (fun h29 => ?_) (fun h29 => ?_)
          · have hf := ite_f h29 hf
            refine go_iload_n (pc' := 134) hC dX7_follow_133 rfl rfl ?_
            refine go_sub [0, 1] rfl ?_
            exact jk134_26 x13 x5 hf
          · have hf := ite_t h29 hf
            refine go_iload_n (pc' := 128) hC dX7_follow_127 rfl rfl ?_
            refine go_iload_n (pc' := 129) hC dX7_follow_128 rfl rfl ?_
            refine go_ior (pc' := 130) hC dX7_follow_129 rfl ?_
            refine go_goto (tgt := 134) hC dX7_follow_130 (by decide) ?_
            refine go_sub [0, 1] rfl ?_
            exact jk134_26 (x11 ||| x13) x5 hf
        clear hk109_20
        refine go_if_ne (tgt := 108) (pc' := 102) hC dX7_follow_99 (by decide) rfl (fun h30 => ?_) (fun h30 => ?_)
        · have hf := ite_f h30 hf
          refine go_iload_n (pc' := 109) hC dX7_follow_108 rfl rfl ?_
          exact jk109_20 x11 x5 hf
        · have hf := ite_t h30 hf
          refine go_iload_n (pc' := 103) hC dX7_follow_102 rfl rfl ?_
          refine go_iload_n (pc' := 104) hC dX7_follow_103 rfl rfl ?_
          refine go_ior (pc' := 105) hC dX7_follow_104 rfl ?_
          refine go_goto (tgt := 109) hC dX7_follow_105 (by decide) ?_
          exact jk109_20 (x11 ||| x13) x5 hf
  exact l44_32 fuel (0 : Int32) (S.2.2.1 154) (S.2.2.1 155) (S.2.2.1 156) hf
abbrev o_J7_fill_53178_q157 : Type := (Nat → Int32)
def f_J7_fill_53178_q157_L5 (p1 : Int32) (r3 : (Int32) → (Nat → Int32) → (Option o_J7_fill_53178_q157)) (x1 : Int32) (a2 : Nat → Int32) : Option o_J7_fill_53178_q157 :=
if (10 : Int32) ≤ x1 then (
some a2) else (
gd (okx x1 10) <|
lz (upd a2 x1.toNatClampNeg p1) fun a5 =>
r3 (x1 + (1 : Int32)) a5)
def f_J7_fill_53178_q157 (S : wd_W) (p1 : Int32) : Option o_J7_fill_53178_q157 :=
it2 (f_J7_fill_53178_q157_L5 p1) fuel (0 : Int32) (S.2.2.1 157)
set_option maxRecDepth 100000 in
set_option maxHeartbeats 4000000 in
theorem c_J7_fill_53178_q157 (l : Launch) (D : va_G) (q g : Nat → Nat) (cy : Nat → ClassId) (z : (Nat → Nat) × (Nat → Nat) × Nat) (S : wd_W) (p1 : Int32) (o : o_J7_fill_53178_q157) (hf : f_J7_fill_53178_q157 S p1 = some o) : MX layX l yJ7_fill_53178 cJ7_fill_53178 4 none ({ frames := 0, cells := 0, slots := 0, locals := 0 } : Room) D q g cy z [.ref (q 157), .int p1] S false (none) (wd_o S [] [] [(157, o)] [] []) 0 0 := by
  refine mx_of (own := RJ7) (lc := [(0, .ref (q 157)), (1, .int p1)]) (by decide +kernel) rfl layX_ok (Nat.le_of_ble_eq_true rfl) rfl ?_
  intro X hXl hXq hXz hC hQ
  subst hXl; subst hXq; subst hXz
  unfold f_J7_fill_53178_q157 at hf
  refine go_keys (L1 := []) (L2 := []) (L3 := [(157, (S.2.2.1 157))]) (L4 := []) (L5 := []) [] [] [157] [] [] rfl rfl rfl rfl rfl ?_
  refine go_iconst (pc' := 1) hC dJ7_fill_53178_0 ki_0 rfl ?_
  refine go_istore_n (lc' := [(0, .ref (x_q X 157)), (1, .int p1), (2, .int (0 : Int32))]) (pc' := 2) hC dJ7_fill_53178_1 (Nat.le_of_ble_eq_true rfl) rfl rfl ?_
  refine go_aload_n (pc' := 3) hC dJ7_fill_53178_2 rfl rfl ?_
  refine go_alen (v := (10 : Int32)) (pc' := 4) hC 157 layX_157 rfl (Nat.le_of_ble_eq_true rfl) kn_10 dJ7_fill_53178_3 rfl ?_
  refine go_istore_n (lc' := [(0, .ref (x_q X 157)), (1, .int p1), (2, .int (0 : Int32)), (3, .int (10 : Int32))]) (pc' := 5) hC dJ7_fill_53178_4 (Nat.le_of_ble_eq_true rfl) rfl rfl ?_
  have l5_7 : ∀ (nn : Nat) (x1 : Int32) (a2 : Nat → Int32), it2 (f_J7_fill_53178_q157_L5 p1) nn x1 a2 = some o → Go X layX S 5 [(0, .ref (x_q X 157)), (1, .int p1), (2, .int x1), (3, .int (10 : Int32))] [] g [] [] [(157, a2)] [] [] 0 0 := by
    intro nn
    induction nn with
    | zero =>
      intro x1 a2 hf
      exact none_no hf
    | succ nn ih =>
      intro x1 a2 hf
      have hf : f_J7_fill_53178_q157_L5 p1 (it2 (f_J7_fill_53178_q157_L5 p1) nn) x1 a2 = some o := hf
      generalize it2 (f_J7_fill_53178_q157_L5 p1) nn = r3 at ih hf
      unfold f_J7_fill_53178_q157_L5 at hf
      refine go_iload_n (pc' := 6) hC dJ7_fill_53178_5 rfl rfl ?_
      refine go_iload_n (pc' := 7) hC dJ7_fill_53178_6 rfl rfl ?_
      refine go_icmp_ge (tgt := 20) (pc' := 10) hC dJ7_fill_53178_7 (by decide) rfl (fun h6 => ?_) (fun h6 => ?_)
      · have hf := ite_t h6 hf
        obtain rfl := Option.some.inj hf
        exact go_vret hC hQ dJ7_fill_53178_20 rfl rfl rfl (fun _ => rfl) rfl rfl
      · have hf := ite_f h6 hf
        refine go_aload_n (pc' := 11) hC dJ7_fill_53178_10 rfl rfl ?_
        refine go_iload_n (pc' := 12) hC dJ7_fill_53178_11 rfl rfl ?_
        refine go_iload_n (pc' := 13) hC dJ7_fill_53178_12 rfl rfl ?_
        obtain ⟨h4, hf⟩ := gd_e hf
        refine go_iast (f := a2) (pc' := 14) hC 157 layX_157 rfl rfl dJ7_fill_53178_13 (okx_in h4) rfl rfl (fun a5 ha L3' hL => ?_)
        have hf := lz_r ha hf
        clear ha
        obtain rfl : L3' = [(157, a5)] := hL.symm
        refine go_iinc (lc' := [(0, .ref (x_q X 157)), (1, .int p1), (2, .int (x1 + (1 : Int32))), (3, .int (10 : Int32))]) (pc' := 17) hC dJ7_fill_53178_14 rfl ki_1 (Nat.le_of_ble_eq_true rfl) rfl rfl ?_
        refine go_goto (tgt := 5) hC dJ7_fill_53178_17 (by decide) ?_
        exact ih (x1 + (1 : Int32)) a5 hf
  exact l5_7 fuel (0 : Int32) (S.2.2.1 157) hf
abbrev o_X7_goAlong_q153 : Type := Int32 × (Nat → Int32)
def f_X7_goAlong_q153 (S : wd_W) (p1 : Int32) : Option o_X7_goAlong_q153 :=
gd (okx p1 13) <|
lz ((S.2.2.1 143) p1.toNatClampNeg) fun x2 =>
gd (okx p1 13) <|
lz ((S.2.2.1 144) p1.toNatClampNeg) fun x4 =>
gd (okx p1 13) <|
lz ((S.2.2.1 147) p1.toNatClampNeg) fun x6 =>
gd (okx x2 10) <|
gd (okx x4 10) <|
if ((S.2.2.1 157) x4.toNatClampNeg) ≤ (((S.2.2.1 157) x2.toNatClampNeg) + x6) then (
gd (okx p1 13) <|
if ((S.2.2.1 146) p1.toNatClampNeg) = 0 then (
gd (okx x4 10) <|
gd (okx x2 10) <|
if ((S.2.2.1 157) x2.toNatClampNeg) ≤ (((S.2.2.1 157) x4.toNatClampNeg) + x6) then (
some ((0 : Int32), (S.2.2.1 157))) else (
gd (okx x4 10) <|
lz (((S.2.2.1 157) x4.toNatClampNeg) + x6) fun x13 =>
gd (okx x2 10) <|
lz (upd (S.2.2.1 157) x2.toNatClampNeg x13) fun a15 =>
some ((1 : Int32), a15))) else (
some ((0 : Int32), (S.2.2.1 157)))) else (
gd (okx x2 10) <|
lz (((S.2.2.1 157) x2.toNatClampNeg) + x6) fun x19 =>
gd (okx x4 10) <|
lz (upd (S.2.2.1 157) x4.toNatClampNeg x19) fun a21 =>
some ((1 : Int32), a21))
set_option maxRecDepth 100000 in
set_option maxHeartbeats 4000000 in
theorem c_X7_goAlong_q153 (l : Launch) (D : va_G) (q g : Nat → Nat) (cy : Nat → ClassId) (z : (Nat → Nat) × (Nat → Nat) × Nat) (S : wd_W) (p1 : Int32) (o : o_X7_goAlong_q153) (hf : f_X7_goAlong_q153 S p1 = some o) : MX layX l yX7_goAlong cX7_goAlong 5 (some .boolean) ({ frames := 0, cells := 0, slots := 0, locals := 0 } : Room) D q g cy z [.ref (q 153), .int p1] S false (some (.int o.1)) (wd_o S [] [] [(157, o.2)] [] []) 0 0 := by
  refine mx_of (own := RX7) (lc := [(0, .ref (q 153)), (1, .int p1)]) (by decide +kernel) rfl layX_ok (Nat.le_of_ble_eq_true rfl) rfl ?_
  intro X hXl hXq hXz hC hQ
  subst hXl; subst hXq; subst hXz
  unfold f_X7_goAlong_q153 at hf
  refine go_keys (L1 := []) (L2 := []) (L3 := [(157, (S.2.2.1 157))]) (L4 := []) (L5 := []) [] [] [157] [] [] rfl rfl rfl rfl rfl ?_
  refine go_aload_n (pc' := 1) hC dX7_goAlong_0 rfl rfl ?_
  refine go_getq (pc' := 4) hC 153 4 layX_153 rfl rfl inlX7 (Nat.le_of_ble_eq_true rfl) mw_115 rfl dX7_goAlong_1 rfl ?_
  refine go_getq (pc' := 7) hC 142 2 layX_142 rfl rfl inlX2 (Nat.le_of_ble_eq_true rfl) mw_623 rfl dX7_goAlong_4 rfl ?_
  refine go_iload_n (pc' := 8) hC dX7_goAlong_7 rfl rfl ?_
  obtain ⟨h1, hf⟩ := gd_e hf
  refine go_iald (f := (S.2.2.1 143)) (pc' := 9) hC 143 layX_143 rfl rfl dX7_goAlong_8 (okx_in h1) rfl ?_
  refine go_namei (fun x2 hx => ?_)
  have hf := lz_r hx hf
  clear hx
  refine go_istore_n (lc' := [(0, .ref (x_q X 153)), (1, .int p1), (2, .int x2)]) (pc' := 10) hC dX7_goAlong_9 (Nat.le_of_ble_eq_true rfl) rfl rfl ?_
  refine go_aload_n (pc' := 11) hC dX7_goAlong_10 rfl rfl ?_
  refine go_getq (pc' := 14) hC 153 4 layX_153 rfl rfl inlX7 (Nat.le_of_ble_eq_true rfl) mw_115 rfl dX7_goAlong_11 rfl ?_
  refine go_getq (pc' := 17) hC 142 3 layX_142 rfl rfl inlX2 (Nat.le_of_ble_eq_true rfl) mw_624 rfl dX7_goAlong_14 rfl ?_
  refine go_iload_n (pc' := 18) hC dX7_goAlong_17 rfl rfl ?_
  obtain ⟨h3, hf⟩ := gd_e hf
  refine go_iald (f := (S.2.2.1 144)) (pc' := 19) hC 144 layX_144 rfl rfl dX7_goAlong_18 (okx_in h3) rfl ?_
  refine go_namei (fun x4 hx => ?_)
  have hf := lz_r hx hf
  clear hx
  refine go_istore_n (lc' := [(0, .ref (x_q X 153)), (1, .int p1), (2, .int x2), (3, .int x4)]) (pc' := 20) hC dX7_goAlong_19 (Nat.le_of_ble_eq_true rfl) rfl rfl ?_
  refine go_aload_n (pc' := 21) hC dX7_goAlong_20 rfl rfl ?_
  refine go_getq (pc' := 24) hC 153 4 layX_153 rfl rfl inlX7 (Nat.le_of_ble_eq_true rfl) mw_115 rfl dX7_goAlong_21 rfl ?_
  refine go_getq (pc' := 27) hC 142 6 layX_142 rfl rfl inlX2 (Nat.le_of_ble_eq_true rfl) mw_693 rfl dX7_goAlong_24 rfl ?_
  refine go_iload_n (pc' := 28) hC dX7_goAlong_27 rfl rfl ?_
  obtain ⟨h5, hf⟩ := gd_e hf
  refine go_iald (f := (S.2.2.1 147)) (pc' := 29) hC 147 layX_147 rfl rfl dX7_goAlong_28 (okx_in h5) rfl ?_
  refine go_namei (fun x6 hx => ?_)
  have hf := lz_r hx hf
  clear hx
  refine go_istore (lc' := [(0, .ref (x_q X 153)), (1, .int p1), (2, .int x2), (3, .int x4), (4, .int x6)]) (pc' := 31) hC dX7_goAlong_29 (Nat.le_of_ble_eq_true rfl) rfl rfl ?_
  refine go_aload_n (pc' := 32) hC dX7_goAlong_31 rfl rfl ?_
  refine go_getq (pc' := 35) hC 153 8 layX_153 rfl rfl inlX7 (Nat.le_of_ble_eq_true rfl) mw_113 rfl dX7_goAlong_32 rfl ?_
  refine go_iload_n (pc' := 36) hC dX7_goAlong_35 rfl rfl ?_
  obtain ⟨h7, hf⟩ := gd_e hf
  refine go_iald (f := (S.2.2.1 157)) (pc' := 37) hC 157 layX_157 rfl rfl dX7_goAlong_36 (okx_in h7) rfl ?_
  refine go_iload (pc' := 39) hC dX7_goAlong_37 rfl rfl ?_
  refine go_iadd (pc' := 40) hC dX7_goAlong_39 rfl ?_
  refine go_aload_n (pc' := 41) hC dX7_goAlong_40 rfl rfl ?_
  refine go_getq (pc' := 44) hC 153 8 layX_153 rfl rfl inlX7 (Nat.le_of_ble_eq_true rfl) mw_113 rfl dX7_goAlong_41 rfl ?_
  refine go_iload_n (pc' := 45) hC dX7_goAlong_44 rfl rfl ?_
  obtain ⟨h8, hf⟩ := gd_e hf
  refine go_iald (f := (S.2.2.1 157)) (pc' := 46) hC 157 layX_157 rfl rfl dX7_goAlong_45 (okx_in h8) rfl ?_
  refine go_icmp_ge (tgt := 66) (pc' := 49) hC dX7_goAlong_46 (by decide) rfl (fun h22 => ?_) (fun h22 => ?_)
  · have hf := ite_t h22 hf
    refine go_aload_n (pc' := 67) hC dX7_goAlong_66 rfl rfl ?_
    refine go_getq (pc' := 70) hC 153 4 layX_153 rfl rfl inlX7 (Nat.le_of_ble_eq_true rfl) mw_115 rfl dX7_goAlong_67 rfl ?_
    refine go_getq (pc' := 73) hC 142 5 layX_142 rfl rfl inlX2 (Nat.le_of_ble_eq_true rfl) mw_625 rfl dX7_goAlong_70 rfl ?_
    refine go_iload_n (pc' := 74) hC dX7_goAlong_73 rfl rfl ?_
    obtain ⟨h9, hf⟩ := gd_e hf
    refine go_iald (f := (S.2.2.1 146)) (pc' := 75) hC 146 layX_146 rfl rfl dX7_goAlong_74 (okx_in h9) rfl ?_
    refine go_if_ne (tgt := 113) (pc' := 78) hC dX7_goAlong_75 (by decide) rfl (fun h17 => ?_) (fun h17 => ?_)
    · have hf := ite_f h17 hf
      refine go_iconst (pc' := 114) hC dX7_goAlong_113 ki_0 rfl ?_
      obtain rfl := Option.some.inj hf
      exact go_iret hC hQ dX7_goAlong_114 rfl rfl rfl rfl (fun _ => rfl) rfl rfl
    · have hf := ite_t h17 hf
      refine go_aload_n (pc' := 79) hC dX7_goAlong_78 rfl rfl ?_
      refine go_getq (pc' := 82) hC 153 8 layX_153 rfl rfl inlX7 (Nat.le_of_ble_eq_true rfl) mw_113 rfl dX7_goAlong_79 rfl ?_
      refine go_iload_n (pc' := 83) hC dX7_goAlong_82 rfl rfl ?_
      obtain ⟨h10, hf⟩ := gd_e hf
      refine go_iald (f := (S.2.2.1 157)) (pc' := 84) hC 157 layX_157 rfl rfl dX7_goAlong_83 (okx_in h10) rfl ?_
      refine go_iload (pc' := 86) hC dX7_goAlong_84 rfl rfl ?_
      refine go_iadd (pc' := 87) hC dX7_goAlong_86 rfl ?_
      refine go_aload_n (pc' := 88) hC dX7_goAlong_87 rfl rfl ?_
      refine go_getq (pc' := 91) hC 153 8 layX_153 rfl rfl inlX7 (Nat.le_of_ble_eq_true rfl) mw_113 rfl dX7_goAlong_88 rfl ?_
      refine go_iload_n (pc' := 92) hC dX7_goAlong_91 rfl rfl ?_
      obtain ⟨h11, hf⟩ := gd_e hf
      refine go_iald (f := (S.2.2.1 157)) (pc' := 93) hC 157 layX_157 rfl rfl dX7_goAlong_92 (okx_in h11) rfl ?_
      refine go_icmp_ge (tgt := 113) (pc' := 96) hC dX7_goAlong_93 (by decide) rfl (fun h16 => ?_) (fun h16 => ?_)
      · have hf := ite_t h16 hf
        refine go_iconst (pc' := 114) hC dX7_goAlong_113 ki_0 rfl ?_
        obtain rfl := Option.some.inj hf
        exact go_iret hC hQ dX7_goAlong_114 rfl rfl rfl rfl (fun _ => rfl) rfl rfl
      · have hf := ite_f h16 hf
        refine go_aload_n (pc' := 97) hC dX7_goAlong_96 rfl rfl ?_
        refine go_getq (pc' := 100) hC 153 8 layX_153 rfl rfl inlX7 (Nat.le_of_ble_eq_true rfl) mw_113 rfl dX7_goAlong_97 rfl ?_
        refine go_iload_n (pc' := 101) hC dX7_goAlong_100 rfl rfl ?_
        refine go_aload_n (pc' := 102) hC dX7_goAlong_101 rfl rfl ?_
        refine go_getq (pc' := 105) hC 153 8 layX_153 rfl rfl inlX7 (Nat.le_of_ble_eq_true rfl) mw_113 rfl dX7_goAlong_102 rfl ?_
        refine go_iload_n (pc' := 106) hC dX7_goAlong_105 rfl rfl ?_
        obtain ⟨h12, hf⟩ := gd_e hf
        refine go_iald (f := (S.2.2.1 157)) (pc' := 107) hC 157 layX_157 rfl rfl dX7_goAlong_106 (okx_in h12) rfl ?_
        refine go_iload (pc' := 109) hC dX7_goAlong_107 rfl rfl ?_
        refine go_iadd (pc' := 110) hC dX7_goAlong_109 rfl ?_
        refine go_namei (fun x13 hx => ?_)
        have hf := lz_r hx hf
        clear hx
        obtain ⟨h14, hf⟩ := gd_e hf
        refine go_iast (f := (S.2.2.1 157)) (pc' := 111) hC 157 layX_157 rfl rfl dX7_goAlong_110 (okx_in h14) rfl rfl (fun a15 ha L3' hL => ?_)
        have hf := lz_r ha hf
        clear ha
        obtain rfl : L3' = [(157, a15)] := hL.symm
        refine go_iconst (pc' := 112) hC dX7_goAlong_111 ki_1 rfl ?_
        obtain rfl := Option.some.inj hf
        exact go_iret hC hQ dX7_goAlong_112 rfl rfl rfl rfl (fun _ => rfl) rfl rfl
  · have hf := ite_f h22 hf
    refine go_aload_n (pc' := 50) hC dX7_goAlong_49 rfl rfl ?_
    refine go_getq (pc' := 53) hC 153 8 layX_153 rfl rfl inlX7 (Nat.le_of_ble_eq_true rfl) mw_113 rfl dX7_goAlong_50 rfl ?_
    refine go_iload_n (pc' := 54) hC dX7_goAlong_53 rfl rfl ?_
    refine go_aload_n (pc' := 55) hC dX7_goAlong_54 rfl rfl ?_
    refine go_getq (pc' := 58) hC 153 8 layX_153 rfl rfl inlX7 (Nat.le_of_ble_eq_true rfl) mw_113 rfl dX7_goAlong_55 rfl ?_
    refine go_iload_n (pc' := 59) hC dX7_goAlong_58 rfl rfl ?_
    obtain ⟨h18, hf⟩ := gd_e hf
    refine go_iald (f := (S.2.2.1 157)) (pc' := 60) hC 157 layX_157 rfl rfl dX7_goAlong_59 (okx_in h18) rfl ?_
    refine go_iload (pc' := 62) hC dX7_goAlong_60 rfl rfl ?_
    refine go_iadd (pc' := 63) hC dX7_goAlong_62 rfl ?_
    refine go_namei (fun x19 hx => ?_)
    have hf := lz_r hx hf
    clear hx
    obtain ⟨h20, hf⟩ := gd_e hf
    refine go_iast (f := (S.2.2.1 157)) (pc' := 64) hC 157 layX_157 rfl rfl dX7_goAlong_63 (okx_in h20) rfl rfl (fun a21 ha L3' hL => ?_)
    have hf := lz_r ha hf
    clear ha
    obtain rfl : L3' = [(157, a21)] := hL.symm
    refine go_iconst (pc' := 65) hC dX7_goAlong_64 ki_1 rfl ?_
    obtain rfl := Option.some.inj hf
    exact go_iret hC hQ dX7_goAlong_65 rfl rfl rfl rfl (fun _ => rfl) rfl rfl
abbrev o_X7_daysBetween_q153 : Type := Int32 × (Nat → Int32)
def f_X7_daysBetween_q153_L35 (S : wd_W) (p3 : Int32) (k70_14 : (Int32) → (Nat → Int32) → (Option o_X7_daysBetween_q153)) (r19 : (Int32) → (Int32) → (Nat → Int32) → (Option o_X7_daysBetween_q153)) (x16 : Int32) (x17 : Int32) (a18 : Nat → Int32) : Option o_X7_daysBetween_q153 :=
if (S.1 15300) ≤ x17 then (
k70_14 x16 a18) else (
lk (fun x20 a21 =>
r19 x20 (x17 + (1 : Int32)) a21) fun k64_22 =>
if ((p3 >>> (x17 &&& 31)) &&& (1 : Int32)) = 0 then (
k64_22 x16 a18) else (
bd (f_X7_goAlong_q153 (wd_o S [] [] [(157, a18)] [] []) x17) fun o23 =>
lz (x16 ||| o23.1) fun x24 =>
k64_22 x24 o23.2))
def f_X7_daysBetween_q153_L20 (S : wd_W) (p3 : Int32) (k84_5 : (Nat → Int32) → (Option o_X7_daysBetween_q153)) (k75_8 : (Nat → Int32) → (Option o_X7_daysBetween_q153)) (r11 : (Int32) → (Nat → Int32) → (Option o_X7_daysBetween_q153)) (x9 : Int32) (a10 : Nat → Int32) : Option o_X7_daysBetween_q153 :=
if (S.1 15303) ≤ x9 then (
k84_5 a10) else (
lk (fun x12 a13 =>
if x12 = 0 then (
k75_8 a13) else (
r11 (x9 + (1 : Int32)) a13)) fun k70_14 =>
it3 (f_X7_daysBetween_q153_L35 S p3 k70_14) fuel (0 : Int32) (0 : Int32) a10)
def f_X7_daysBetween_q153 (S : wd_W) (p1 : Int32) (p2 : Int32) (p3 : Int32) : Option o_X7_daysBetween_q153 :=
bd (f_J7_fill_53178_q157 (wd_o S [] [] [(157, (S.2.2.1 157))] [] []) (1000 : Int32)) fun o1 =>
gd (okx p1 10) <|
lz (upd o1 p1.toNatClampNeg (0 : Int32)) fun a3 =>
lk (fun a4 =>
gd (okx p2 10) <|
some (a4 p2.toNatClampNeg, a4)) fun k84_5 =>
lk (fun a7 =>
k84_5 a7) fun k75_8 =>
it2 (f_X7_daysBetween_q153_L20 S p3 k84_5 k75_8) fuel (1 : Int32) a3
set_option maxRecDepth 100000 in
set_option maxHeartbeats 4000000 in
theorem c_X7_daysBetween_q153 (l : Launch) (D : va_G) (q g : Nat → Nat) (cy : Nat → ClassId) (z : (Nat → Nat) × (Nat → Nat) × Nat) (S : wd_W) (p1 : Int32) (p2 : Int32) (p3 : Int32) (o : o_X7_daysBetween_q153) (hf : f_X7_daysBetween_q153 S p1 p2 p3 = some o) : MX layX l yX7_daysBetween cX7_daysBetween 7 (some .int) ({ frames := 1, cells := 0, slots := 0, locals := 24 } : Room) D q g cy z [.ref (q 153), .int p1, .int p2, .int p3] S false (some (.int o.1)) (wd_o S [] [] [(157, o.2)] [] []) 0 0 := by
  refine mx_of (own := RX7) (lc := [(0, .ref (q 153)), (1, .int p1), (2, .int p2), (3, .int p3)]) (by decide +kernel) rfl layX_ok (Nat.le_of_ble_eq_true rfl) rfl ?_
  intro X hXl hXq hXz hC hQ
  subst hXl; subst hXq; subst hXz
  unfold f_X7_daysBetween_q153 at hf
  refine go_keys (L1 := []) (L2 := []) (L3 := [(157, (S.2.2.1 157))]) (L4 := []) (L5 := []) [] [] [157] [] [] rfl rfl rfl rfl rfl ?_
  refine go_aload_n (pc' := 1) hC dX7_daysBetween_0 rfl rfl ?_
  refine go_getq (pc' := 4) hC 153 8 layX_153 rfl rfl inlX7 (Nat.le_of_ble_eq_true rfl) mw_113 rfl dX7_daysBetween_1 rfl ?_
  refine go_sipush (pc' := 7) hC dX7_daysBetween_4 ks_1000 rfl ?_
  obtain ⟨o1, ho1, hf⟩ := bd_e hf
  refine go_callS1 (pc' := 10) (As := [.ref (x_q X 157), .int (1000 : Int32)]) (st := []) (st' := []) (L1' := []) (L2' := []) (L3' := [(157, o1)]) (L4' := []) (L5' := []) (cells' := 0) (slots' := 0)  hC dX7_daysBetween_7 ⟨mw_685, mw_688, mw_687, yd_yJ7_fill_53178, yp_yJ7_fill_53178, Nat.le_of_ble_eq_true rfl, Nat.le_of_ble_eq_true rfl, (Nat.le_of_ble_eq_true rfl), (Nat.le_of_ble_eq_true rfl)⟩ mw_686 rfl rfl (Nat.le_of_ble_eq_true rfl) (c_J7_fill_53178_q157 (x_l X) (x_D X) (x_q X) g (x_cy X) (x_z X) _ (1000 : Int32) o1 ho1) rfl rfl rfl rfl rfl rfl rfl rfl rfl rfl rfl rfl rfl rfl ?_
  refine go_aload_n (pc' := 11) hC dX7_daysBetween_10 rfl rfl ?_
  refine go_getq (pc' := 14) hC 153 8 layX_153 rfl rfl inlX7 (Nat.le_of_ble_eq_true rfl) mw_113 rfl dX7_daysBetween_11 rfl ?_
  refine go_iload_n (pc' := 15) hC dX7_daysBetween_14 rfl rfl ?_
  refine go_iconst (pc' := 16) hC dX7_daysBetween_15 ki_0 rfl ?_
  obtain ⟨h2, hf⟩ := gd_e hf
  refine go_iast (f := o1) (pc' := 17) hC 157 layX_157 rfl rfl dX7_daysBetween_16 (okx_in h2) rfl rfl (fun a3 ha L3' hL => ?_)
  have hf := lz_r ha hf
  clear ha
  obtain rfl : L3' = [(157, a3)] := hL.symm
  refine go_iconst (pc' := 18) hC dX7_daysBetween_17 ki_1 rfl ?_
  refine go_istore (lc' := [(0, .ref (x_q X 153)), (1, .int p1), (2, .int p2), (3, .int p3), (4, .int (1 : Int32))]) (pc' := 20) hC dX7_daysBetween_18 (Nat.le_of_ble_eq_true rfl) rfl rfl ?_
  obtain ⟨k84_5, hk84_5, hf⟩ := lk_e1 hf
  have jk84_5 : ∀ (a4 : Nat → Int32), k84_5 a4 = some o → Go X layX S 84 [(0, .ref (x_q X 153)), (2, .int p2)] [] g [] [] [(157, a4)] [] [] 0 0 := by
    intro a4 hf
    have hf := hk84_5 a4 hf
    clear hk84_5
    refine go_aload_n (pc' := 85) hC dX7_daysBetween_84 rfl rfl ?_
    refine go_getq (pc' := 88) hC 153 8 layX_153 rfl rfl inlX7 (Nat.le_of_ble_eq_true rfl) mw_113 rfl dX7_daysBetween_85 rfl ?_
    refine go_iload_n (pc' := 89) hC dX7_daysBetween_88 rfl rfl ?_
    obtain ⟨h6, hf⟩ := gd_e hf
    refine go_iald (f := a4) (pc' := 90) hC 157 layX_157 rfl rfl dX7_daysBetween_89 (okx_in h6) rfl ?_
    obtain rfl := Option.some.inj hf
    exact go_iret hC hQ dX7_daysBetween_90 rfl rfl rfl rfl (fun _ => rfl) rfl rfl
  clear hk84_5
  obtain ⟨k75_8, hk75_8, hf⟩ := lk_e1 hf
  have jk75_8 : ∀ (a7 : Nat → Int32), k75_8 a7 = some o → Go X layX S 75 [(0, .ref (x_q X 153)), (2, .int p2)] [] g [] [] [(157, a7)] [] [] 0 0 := by
    intro a7 hf
    have hf := hk75_8 a7 hf
    clear hk75_8
    refine go_goto (tgt := 84) hC dX7_daysBetween_75 (by decide) ?_
    exact jk84_5 a7 hf
  clear hk75_8
  have l20_29 : ∀ (nn : Nat) (x9 : Int32) (a10 : Nat → Int32), it2 (f_X7_daysBetween_q153_L20 S p3 k84_5 k75_8) nn x9 a10 = some o → Go X layX S 20 [(0, .ref (x_q X 153)), (2, .int p2), (3, .int p3), (4, .int x9)] [] g [] [] [(157, a10)] [] [] 0 0 := by
    intro nn
    induction nn with
    | zero =>
      intro x9 a10 hf
      exact none_no hf
    | succ nn ih =>
      intro x9 a10 hf
      have hf : f_X7_daysBetween_q153_L20 S p3 k84_5 k75_8 (it2 (f_X7_daysBetween_q153_L20 S p3 k84_5 k75_8) nn) x9 a10 = some o := hf
      generalize it2 (f_X7_daysBetween_q153_L20 S p3 k84_5 k75_8) nn = r11 at ih hf
      unfold f_X7_daysBetween_q153_L20 at hf
      refine go_iload (pc' := 22) hC dX7_daysBetween_20 rfl rfl ?_
      refine go_aload_n (pc' := 23) hC dX7_daysBetween_22 rfl rfl ?_
      refine go_geti (v := (S.1 15303)) (pc' := 26) hC 153 3 layX_153 rfl rfl inlX7 (Nat.le_of_ble_eq_true rfl) mw_618 rfl dX7_daysBetween_23 rfl rfl ?_
      refine go_icmp_ge (tgt := 84) (pc' := 29) hC dX7_daysBetween_26 (by decide) rfl (fun h28 => ?_) (fun h28 => ?_)
      · have hf := ite_t h28 hf
        refine go_sub [0, 2] rfl ?_
        exact jk84_5 a10 hf
      · have hf := ite_f h28 hf
        refine go_iconst (pc' := 30) hC dX7_daysBetween_29 ki_0 rfl ?_
        refine go_istore (lc' := [(0, .ref (x_q X 153)), (2, .int p2), (3, .int p3), (4, .int x9), (5, .int (0 : Int32))]) (pc' := 32) hC dX7_daysBetween_30 (Nat.le_of_ble_eq_true rfl) rfl rfl ?_
        refine go_iconst (pc' := 33) hC dX7_daysBetween_32 ki_0 rfl ?_
        refine go_istore (lc' := [(0, .ref (x_q X 153)), (2, .int p2), (3, .int p3), (4, .int x9), (5, .int (0 : Int32)), (6, .int (0 : Int32))]) (pc' := 35) hC dX7_daysBetween_33 (Nat.le_of_ble_eq_true rfl) rfl rfl ?_
        obtain ⟨k70_14, hk70_14, hf⟩ := lk_e2 hf
        have jk70_14 : ∀ (x12 : Int32) (a13 : Nat → Int32), k70_14 x12 a13 = some o → Go X layX S 70 [(0, .ref (x_q X 153)), (2, .int p2), (3, .int p3), (4, .int x9), (5, .int x12)] [] g [] [] [(157, a13)] [] [] 0 0 := by
          intro x12 a13 hf
          have hf := hk70_14 x12 a13 hf
          clear hk70_14
          refine go_iload (pc' := 72) hC dX7_daysBetween_70 rfl rfl ?_
          refine go_if_ne (tgt := 78) (pc' := 75) hC dX7_daysBetween_72 (by decide) rfl (fun h15 => ?_) (fun h15 => ?_)
          · have hf := ite_f h15 hf
            refine go_iinc (lc' := [(0, .ref (x_q X 153)), (2, .int p2), (3, .int p3), (4, .int (x9 + (1 : Int32))), (5, .int x12)]) (pc' := 81) hC dX7_daysBetween_78 rfl ki_1 (Nat.le_of_ble_eq_true rfl) rfl rfl ?_
            refine go_goto (tgt := 20) hC dX7_daysBetween_81 (by decide) ?_
            refine go_sub [0, 2, 3, 4] rfl ?_
            exact ih (x9 + (1 : Int32)) a13 hf
          · have hf := ite_t h15 hf
            refine go_sub [0, 2] rfl ?_
            exact jk75_8 a13 hf
        clear hk70_14
        have l35_27 : ∀ (nn : Nat) (x16 : Int32) (x17 : Int32) (a18 : Nat → Int32), it3 (f_X7_daysBetween_q153_L35 S p3 k70_14) nn x16 x17 a18 = some o → Go X layX S 35 [(0, .ref (x_q X 153)), (2, .int p2), (3, .int p3), (4, .int x9), (5, .int x16), (6, .int x17)] [] g [] [] [(157, a18)] [] [] 0 0 := by
          intro nn
          induction nn with
          | zero =>
            intro x16 x17 a18 hf
            exact none_no hf
          | succ nn ih =>
            intro x16 x17 a18 hf
            have hf : f_X7_daysBetween_q153_L35 S p3 k70_14 (it3 (f_X7_daysBetween_q153_L35 S p3 k70_14) nn) x16 x17 a18 = some o := hf
            generalize it3 (f_X7_daysBetween_q153_L35 S p3 k70_14) nn = r19 at ih hf
            unfold f_X7_daysBetween_q153_L35 at hf
            refine go_iload (pc' := 37) hC dX7_daysBetween_35 rfl rfl ?_
            refine go_aload_n (pc' := 38) hC dX7_daysBetween_37 rfl rfl ?_
            refine go_geti (v := (S.1 15300)) (pc' := 41) hC 153 0 layX_153 rfl rfl inlX7 (Nat.le_of_ble_eq_true rfl) mw_620 rfl dX7_daysBetween_38 rfl rfl ?_
            refine go_icmp_ge (tgt := 70) (pc' := 44) hC dX7_daysBetween_41 (by decide) rfl (fun h26 => ?_) (fun h26 => ?_)
            · have hf := ite_t h26 hf
              refine go_sub [0, 2, 3, 4, 5] rfl ?_
              exact jk70_14 x16 a18 hf
            · have hf := ite_f h26 hf
              refine go_iload_n (pc' := 45) hC dX7_daysBetween_44 rfl rfl ?_
              refine go_iload (pc' := 47) hC dX7_daysBetween_45 rfl rfl ?_
              refine go_ishr (pc' := 48) hC dX7_daysBetween_47 rfl ?_
              refine go_iconst (pc' := 49) hC dX7_daysBetween_48 ki_1 rfl ?_
              refine go_iand (pc' := 50) hC dX7_daysBetween_49 rfl ?_
              obtain ⟨k64_22, hk64_22, hf⟩ := lk_e2 hf
              have jk64_22 : ∀ (x20 : Int32) (a21 : Nat → Int32), k64_22 x20 a21 = some o → Go X layX S 64 [(0, .ref (x_q X 153)), (2, .int p2), (3, .int p3), (4, .int x9), (5, .int x20), (6, .int x17)] [] g [] [] [(157, a21)] [] [] 0 0 := by
                intro x20 a21 hf
                have hf := hk64_22 x20 a21 hf
                clear hk64_22
                refine go_iinc (lc' := [(0, .ref (x_q X 153)), (2, .int p2), (3, .int p3), (4, .int x9), (5, .int x20), (6, .int (x17 + (1 : Int32)))]) (pc' := 67) hC dX7_daysBetween_64 rfl ki_1 (Nat.le_of_ble_eq_true rfl) rfl rfl ?_
                refine go_goto (tgt := 35) hC dX7_daysBetween_67 (by decide) ?_
                exact ih x20 (x17 + (1 : Int32)) a21 hf
              clear hk64_22
              refine go_if_eq (tgt := 64) (pc' := 53) hC dX7_daysBetween_50 (by decide) rfl (fun h25 => ?_) (fun h25 => ?_)
              · have hf := ite_t h25 hf
                exact jk64_22 x16 a18 hf
              · have hf := ite_f h25 hf
                refine go_iload (pc' := 55) hC dX7_daysBetween_53 rfl rfl ?_
                refine go_aload_n (pc' := 56) hC dX7_daysBetween_55 rfl rfl ?_
                refine go_iload (pc' := 58) hC dX7_daysBetween_56 rfl rfl ?_
                obtain ⟨o23, ho23, hf⟩ := bd_e hf
                refine go_callV1 (pc' := 61) (As := [.int x17]) (st := [.int x16]) (st' := [.int o23.1, .int x16]) (L1' := []) (L2' := []) (L3' := [(157, o23.2)]) (L4' := []) (L5' := []) (cells' := 0) (slots' := 0)  (b := 153) hC dX7_daysBetween_58 ⟨mw_689, mw_692, mw_99, yd_yX7_goAlong, yp_yX7_goAlong, Nat.le_of_ble_eq_true rfl, Nat.le_of_ble_eq_true rfl, (Nat.le_of_ble_eq_true rfl), (Nat.le_of_ble_eq_true rfl)⟩ mw_690 mw_691 layX_153 rfl rfl rfl (Nat.le_of_ble_eq_true rfl) (c_X7_goAlong_q153 (x_l X) (x_D X) (x_q X) g (x_cy X) (x_z X) _ x17 o23 ho23) rfl rfl rfl rfl rfl rfl rfl rfl rfl rfl rfl rfl rfl rfl ?_
                refine go_ior (pc' := 62) hC dX7_daysBetween_61 rfl ?_
                refine go_namei (fun x24 hx => ?_)
                have hf := lz_r hx hf
                clear hx
                refine go_istore (lc' := [(0, .ref (x_q X 153)), (2, .int p2), (3, .int p3), (4, .int x9), (5, .int x24), (6, .int x17)]) (pc' := 64) hC dX7_daysBetween_62 (Nat.le_of_ble_eq_true rfl) rfl rfl ?_
                exact jk64_22 x24 o23.2 hf
        exact l35_27 fuel (0 : Int32) (0 : Int32) a10 hf
  refine go_sub [0, 2, 3, 4] rfl ?_
  exact l20_29 fuel (1 : Int32) a3 hf
abbrev o_X7_reached_q153_q155 : Type := Int32
def f_X7_reached_q153_q155_L24 (S : wd_W) (p2 : Int32) (k70_6 : (Int32) → (Option o_X7_reached_q153_q155)) (r10 : (Int32) → (Int32) → (Option o_X7_reached_q153_q155)) (x8 : Int32) (x9 : Int32) : Option o_X7_reached_q153_q155 :=
if (S.1 15300) ≤ x9 then (
k70_6 x8) else (
lk (fun x11 =>
r10 x11 (x9 + (1 : Int32))) fun k64_12 =>
if ((p2 >>> (x9 &&& 31)) &&& (1 : Int32)) = 0 then (
k64_12 x8) else (
gd (okx x9 13) <|
if (x8 &&& ((S.2.2.1 155) x9.toNatClampNeg)) = 0 then (
k64_12 x8) else (
gd (okx x9 13) <|
lz (x8 ||| ((S.2.2.1 154) x9.toNatClampNeg)) fun x15 =>
k64_12 x15)))
def f_X7_reached_q153_q155_L8 (S : wd_W) (p2 : Int32) (r4 : (Int32) → (Int32) → (Option o_X7_reached_q153_q155)) (x2 : Int32) (x3 : Int32) : Option o_X7_reached_q153_q155 :=
if (S.1 15303) ≤ x3 then (
some x2) else (
lk (fun x5 =>
if x5 = x2 then (
some x5) else (
r4 x5 (x3 + (1 : Int32)))) fun k70_6 =>
it2 (f_X7_reached_q153_q155_L24 S p2 k70_6) fuel x2 (0 : Int32))
def f_X7_reached_q153_q155 (S : wd_W) (p1 : Int32) (p2 : Int32) : Option o_X7_reached_q153_q155 :=
lz ((1 : Int32) <<< (p1 &&& 31)) fun x1 =>
it2 (f_X7_reached_q153_q155_L8 S p2) fuel x1 (1 : Int32)
set_option maxRecDepth 100000 in
set_option maxHeartbeats 4000000 in
theorem c_X7_reached_q153_q155 (l : Launch) (D : va_G) (q g : Nat → Nat) (cy : Nat → ClassId) (z : (Nat → Nat) × (Nat → Nat) × Nat) (S : wd_W) (p1 : Int32) (p2 : Int32) (o : o_X7_reached_q153_q155) (hf : f_X7_reached_q153_q155 S p1 p2 = some o) : MX layX l yX7_reached cX7_reached 8 (some .int) ({ frames := 0, cells := 0, slots := 0, locals := 0 } : Room) D q g cy z [.ref (q 153), .int p1, .int p2, .ref (q 155)] S false (some (.int o)) (wd_o S [] [] [] [] []) 0 0 := by
  refine mx_of (own := RX7) (lc := [(0, .ref (q 153)), (1, .int p1), (2, .int p2), (3, .ref (q 155))]) (by decide +kernel) rfl layX_ok (Nat.le_of_ble_eq_true rfl) rfl ?_
  intro X hXl hXq hXz hC hQ
  subst hXl; subst hXq; subst hXz
  unfold f_X7_reached_q153_q155 at hf
  refine go_iconst (pc' := 1) hC dX7_reached_0 ki_1 rfl ?_
  refine go_iload_n (pc' := 2) hC dX7_reached_1 rfl rfl ?_
  refine go_ishl (pc' := 3) hC dX7_reached_2 rfl ?_
  refine go_namei (fun x1 hx => ?_)
  have hf := lz_r hx hf
  clear hx
  refine go_istore (lc' := [(0, .ref (x_q X 153)), (1, .int p1), (2, .int p2), (3, .ref (x_q X 155)), (4, .int x1)]) (pc' := 5) hC dX7_reached_3 (Nat.le_of_ble_eq_true rfl) rfl rfl ?_
  refine go_iconst (pc' := 6) hC dX7_reached_5 ki_1 rfl ?_
  refine go_istore (lc' := [(0, .ref (x_q X 153)), (1, .int p1), (2, .int p2), (3, .ref (x_q X 155)), (4, .int x1), (5, .int (1 : Int32))]) (pc' := 8) hC dX7_reached_6 (Nat.le_of_ble_eq_true rfl) rfl rfl ?_
  have l8_21 : ∀ (nn : Nat) (x2 : Int32) (x3 : Int32), it2 (f_X7_reached_q153_q155_L8 S p2) nn x2 x3 = some o → Go X layX S 8 [(0, .ref (x_q X 153)), (2, .int p2), (3, .ref (x_q X 155)), (4, .int x2), (5, .int x3)] [] g [] [] [] [] [] 0 0 := by
    intro nn
    induction nn with
    | zero =>
      intro x2 x3 hf
      exact none_no hf
    | succ nn ih =>
      intro x2 x3 hf
      have hf : f_X7_reached_q153_q155_L8 S p2 (it2 (f_X7_reached_q153_q155_L8 S p2) nn) x2 x3 = some o := hf
      generalize it2 (f_X7_reached_q153_q155_L8 S p2) nn = r4 at ih hf
      unfold f_X7_reached_q153_q155_L8 at hf
      refine go_iload (pc' := 10) hC dX7_reached_8 rfl rfl ?_
      refine go_aload_n (pc' := 11) hC dX7_reached_10 rfl rfl ?_
      refine go_geti (v := (S.1 15303)) (pc' := 14) hC 153 3 layX_153 rfl rfl inlX7 (Nat.le_of_ble_eq_true rfl) mw_618 rfl dX7_reached_11 rfl rfl ?_
      refine go_icmp_ge (tgt := 86) (pc' := 17) hC dX7_reached_14 (by decide) rfl (fun h20 => ?_) (fun h20 => ?_)
      · have hf := ite_t h20 hf
        refine go_iload (pc' := 88) hC dX7_reached_86 rfl rfl ?_
        obtain rfl := Option.some.inj hf
        exact go_iret hC hQ dX7_reached_88 rfl rfl rfl rfl (fun _ => rfl) rfl rfl
      · have hf := ite_f h20 hf
        refine go_iload (pc' := 19) hC dX7_reached_17 rfl rfl ?_
        refine go_istore (lc' := [(0, .ref (x_q X 153)), (2, .int p2), (3, .ref (x_q X 155)), (4, .int x2), (5, .int x3), (6, .int x2)]) (pc' := 21) hC dX7_reached_19 (Nat.le_of_ble_eq_true rfl) rfl rfl ?_
        refine go_iconst (pc' := 22) hC dX7_reached_21 ki_0 rfl ?_
        refine go_istore (lc' := [(0, .ref (x_q X 153)), (2, .int p2), (3, .ref (x_q X 155)), (4, .int x2), (5, .int x3), (6, .int x2), (7, .int (0 : Int32))]) (pc' := 24) hC dX7_reached_22 (Nat.le_of_ble_eq_true rfl) rfl rfl ?_
        obtain ⟨k70_6, hk70_6, hf⟩ := lk_e1 hf
        have jk70_6 : ∀ (x5 : Int32), k70_6 x5 = some o → Go X layX S 70 [(0, .ref (x_q X 153)), (2, .int p2), (3, .ref (x_q X 155)), (4, .int x5), (5, .int x3), (6, .int x2)] [] g [] [] [] [] [] 0 0 := by
          intro x5 hf
          have hf := hk70_6 x5 hf
          clear hk70_6
          refine go_iload (pc' := 72) hC dX7_reached_70 rfl rfl ?_
          refine go_iload (pc' := 74) hC dX7_reached_72 rfl rfl ?_
          refine go_icmp_ne (tgt := 80) (pc' := 77) hC dX7_reached_74 (by decide) rfl (fun h7 => ?_) (fun h7 => ?_)
          · have hf := ite_f h7 hf
            refine go_iinc (lc' := [(0, .ref (x_q X 153)), (2, .int p2), (3, .ref (x_q X 155)), (4, .int x5), (5, .int (x3 + (1 : Int32))), (6, .int x2)]) (pc' := 83) hC dX7_reached_80 rfl ki_1 (Nat.le_of_ble_eq_true rfl) rfl rfl ?_
            refine go_goto (tgt := 8) hC dX7_reached_83 (by decide) ?_
            refine go_sub [0, 2, 3, 4, 5] rfl ?_
            exact ih x5 (x3 + (1 : Int32)) hf
          · have hf := ite_t h7 hf
            refine go_goto (tgt := 86) hC dX7_reached_77 (by decide) ?_
            refine go_iload (pc' := 88) hC dX7_reached_86 rfl rfl ?_
            obtain rfl := Option.some.inj hf
            exact go_iret hC hQ dX7_reached_88 rfl rfl rfl rfl (fun _ => rfl) rfl rfl
        clear hk70_6
        have l24_19 : ∀ (nn : Nat) (x8 : Int32) (x9 : Int32), it2 (f_X7_reached_q153_q155_L24 S p2 k70_6) nn x8 x9 = some o → Go X layX S 24 [(0, .ref (x_q X 153)), (2, .int p2), (3, .ref (x_q X 155)), (4, .int x8), (5, .int x3), (6, .int x2), (7, .int x9)] [] g [] [] [] [] [] 0 0 := by
          intro nn
          induction nn with
          | zero =>
            intro x8 x9 hf
            exact none_no hf
          | succ nn ih =>
            intro x8 x9 hf
            have hf : f_X7_reached_q153_q155_L24 S p2 k70_6 (it2 (f_X7_reached_q153_q155_L24 S p2 k70_6) nn) x8 x9 = some o := hf
            generalize it2 (f_X7_reached_q153_q155_L24 S p2 k70_6) nn = r10 at ih hf
            unfold f_X7_reached_q153_q155_L24 at hf
            refine go_iload (pc' := 26) hC dX7_reached_24 rfl rfl ?_
            refine go_aload_n (pc' := 27) hC dX7_reached_26 rfl rfl ?_
            refine go_geti (v := (S.1 15300)) (pc' := 30) hC 153 0 layX_153 rfl rfl inlX7 (Nat.le_of_ble_eq_true rfl) mw_620 rfl dX7_reached_27 rfl rfl ?_
            refine go_icmp_ge (tgt := 70) (pc' := 33) hC dX7_reached_30 (by decide) rfl (fun h18 => ?_) (fun h18 => ?_)
            · have hf := ite_t h18 hf
              refine go_sub [0, 2, 3, 4, 5, 6] rfl ?_
              exact jk70_6 x8 hf
            · have hf := ite_f h18 hf
              refine go_iload_n (pc' := 34) hC dX7_reached_33 rfl rfl ?_
              refine go_iload (pc' := 36) hC dX7_reached_34 rfl rfl ?_
              refine go_ishr (pc' := 37) hC dX7_reached_36 rfl ?_
              refine go_iconst (pc' := 38) hC dX7_reached_37 ki_1 rfl ?_
              refine go_iand (pc' := 39) hC dX7_reached_38 rfl ?_
              obtain ⟨k64_12, hk64_12, hf⟩ := lk_e1 hf
              have jk64_12 : ∀ (x11 : Int32), k64_12 x11 = some o → Go X layX S 64 [(0, .ref (x_q X 153)), (2, .int p2), (3, .ref (x_q X 155)), (4, .int x11), (5, .int x3), (6, .int x2), (7, .int x9)] [] g [] [] [] [] [] 0 0 := by
                intro x11 hf
                have hf := hk64_12 x11 hf
                clear hk64_12
                refine go_iinc (lc' := [(0, .ref (x_q X 153)), (2, .int p2), (3, .ref (x_q X 155)), (4, .int x11), (5, .int x3), (6, .int x2), (7, .int (x9 + (1 : Int32)))]) (pc' := 67) hC dX7_reached_64 rfl ki_1 (Nat.le_of_ble_eq_true rfl) rfl rfl ?_
                refine go_goto (tgt := 24) hC dX7_reached_67 (by decide) ?_
                exact ih x11 (x9 + (1 : Int32)) hf
              clear hk64_12
              refine go_if_eq (tgt := 64) (pc' := 42) hC dX7_reached_39 (by decide) rfl (fun h17 => ?_) (fun h17 => ?_)
              · have hf := ite_t h17 hf
                exact jk64_12 x8 hf
              · have hf := ite_f h17 hf
                refine go_iload (pc' := 44) hC dX7_reached_42 rfl rfl ?_
                refine go_aload_n (pc' := 45) hC dX7_reached_44 rfl rfl ?_
                refine go_iload (pc' := 47) hC dX7_reached_45 rfl rfl ?_
                obtain ⟨h13, hf⟩ := gd_e hf
                refine go_iald (f := (S.2.2.1 155)) (pc' := 48) hC 155 layX_155 rfl rfl dX7_reached_47 (okx_in h13) rfl ?_
                refine go_iand (pc' := 49) hC dX7_reached_48 rfl ?_
                refine go_if_eq (tgt := 64) (pc' := 52) hC dX7_reached_49 (by decide) rfl (fun h16 => ?_) (fun h16 => ?_)
                · have hf := ite_t h16 hf
                  exact jk64_12 x8 hf
                · have hf := ite_f h16 hf
                  refine go_iload (pc' := 54) hC dX7_reached_52 rfl rfl ?_
                  refine go_aload_n (pc' := 55) hC dX7_reached_54 rfl rfl ?_
                  refine go_getq (pc' := 58) hC 153 5 layX_153 rfl rfl inlX7 (Nat.le_of_ble_eq_true rfl) mw_110 rfl dX7_reached_55 rfl ?_
                  refine go_iload (pc' := 60) hC dX7_reached_58 rfl rfl ?_
                  obtain ⟨h14, hf⟩ := gd_e hf
                  refine go_iald (f := (S.2.2.1 154)) (pc' := 61) hC 154 layX_154 rfl rfl dX7_reached_60 (okx_in h14) rfl ?_
                  refine go_ior (pc' := 62) hC dX7_reached_61 rfl ?_
                  refine go_namei (fun x15 hx => ?_)
                  have hf := lz_r hx hf
                  clear hx
                  refine go_istore (lc' := [(0, .ref (x_q X 153)), (2, .int p2), (3, .ref (x_q X 155)), (4, .int x15), (5, .int x3), (6, .int x2), (7, .int x9)]) (pc' := 64) hC dX7_reached_62 (Nat.le_of_ble_eq_true rfl) rfl rfl ?_
                  exact jk64_12 x15 hf
        exact l24_19 fuel x2 (0 : Int32) hf
  refine go_sub [0, 2, 3, 4, 5] rfl ?_
  exact l8_21 fuel x1 (1 : Int32) hf
abbrev o_X7_reached_q153_q156 : Type := Int32
def f_X7_reached_q153_q156_L24 (S : wd_W) (p2 : Int32) (k70_6 : (Int32) → (Option o_X7_reached_q153_q156)) (r10 : (Int32) → (Int32) → (Option o_X7_reached_q153_q156)) (x8 : Int32) (x9 : Int32) : Option o_X7_reached_q153_q156 :=
if (S.1 15300) ≤ x9 then (
k70_6 x8) else (
lk (fun x11 =>
r10 x11 (x9 + (1 : Int32))) fun k64_12 =>
if ((p2 >>> (x9 &&& 31)) &&& (1 : Int32)) = 0 then (
k64_12 x8) else (
gd (okx x9 13) <|
if (x8 &&& ((S.2.2.1 156) x9.toNatClampNeg)) = 0 then (
k64_12 x8) else (
gd (okx x9 13) <|
lz (x8 ||| ((S.2.2.1 154) x9.toNatClampNeg)) fun x15 =>
k64_12 x15)))
def f_X7_reached_q153_q156_L8 (S : wd_W) (p2 : Int32) (r4 : (Int32) → (Int32) → (Option o_X7_reached_q153_q156)) (x2 : Int32) (x3 : Int32) : Option o_X7_reached_q153_q156 :=
if (S.1 15303) ≤ x3 then (
some x2) else (
lk (fun x5 =>
if x5 = x2 then (
some x5) else (
r4 x5 (x3 + (1 : Int32)))) fun k70_6 =>
it2 (f_X7_reached_q153_q156_L24 S p2 k70_6) fuel x2 (0 : Int32))
def f_X7_reached_q153_q156 (S : wd_W) (p1 : Int32) (p2 : Int32) : Option o_X7_reached_q153_q156 :=
lz ((1 : Int32) <<< (p1 &&& 31)) fun x1 =>
it2 (f_X7_reached_q153_q156_L8 S p2) fuel x1 (1 : Int32)
set_option maxRecDepth 100000 in
set_option maxHeartbeats 4000000 in
theorem c_X7_reached_q153_q156 (l : Launch) (D : va_G) (q g : Nat → Nat) (cy : Nat → ClassId) (z : (Nat → Nat) × (Nat → Nat) × Nat) (S : wd_W) (p1 : Int32) (p2 : Int32) (o : o_X7_reached_q153_q156) (hf : f_X7_reached_q153_q156 S p1 p2 = some o) : MX layX l yX7_reached cX7_reached 8 (some .int) ({ frames := 0, cells := 0, slots := 0, locals := 0 } : Room) D q g cy z [.ref (q 153), .int p1, .int p2, .ref (q 156)] S false (some (.int o)) (wd_o S [] [] [] [] []) 0 0 := by
  refine mx_of (own := RX7) (lc := [(0, .ref (q 153)), (1, .int p1), (2, .int p2), (3, .ref (q 156))]) (by decide +kernel) rfl layX_ok (Nat.le_of_ble_eq_true rfl) rfl ?_
  intro X hXl hXq hXz hC hQ
  subst hXl; subst hXq; subst hXz
  unfold f_X7_reached_q153_q156 at hf
  refine go_iconst (pc' := 1) hC dX7_reached_0 ki_1 rfl ?_
  refine go_iload_n (pc' := 2) hC dX7_reached_1 rfl rfl ?_
  refine go_ishl (pc' := 3) hC dX7_reached_2 rfl ?_
  refine go_namei (fun x1 hx => ?_)
  have hf := lz_r hx hf
  clear hx
  refine go_istore (lc' := [(0, .ref (x_q X 153)), (1, .int p1), (2, .int p2), (3, .ref (x_q X 156)), (4, .int x1)]) (pc' := 5) hC dX7_reached_3 (Nat.le_of_ble_eq_true rfl) rfl rfl ?_
  refine go_iconst (pc' := 6) hC dX7_reached_5 ki_1 rfl ?_
  refine go_istore (lc' := [(0, .ref (x_q X 153)), (1, .int p1), (2, .int p2), (3, .ref (x_q X 156)), (4, .int x1), (5, .int (1 : Int32))]) (pc' := 8) hC dX7_reached_6 (Nat.le_of_ble_eq_true rfl) rfl rfl ?_
  have l8_21 : ∀ (nn : Nat) (x2 : Int32) (x3 : Int32), it2 (f_X7_reached_q153_q156_L8 S p2) nn x2 x3 = some o → Go X layX S 8 [(0, .ref (x_q X 153)), (2, .int p2), (3, .ref (x_q X 156)), (4, .int x2), (5, .int x3)] [] g [] [] [] [] [] 0 0 := by
    intro nn
    induction nn with
    | zero =>
      intro x2 x3 hf
      exact none_no hf
    | succ nn ih =>
      intro x2 x3 hf
      have hf : f_X7_reached_q153_q156_L8 S p2 (it2 (f_X7_reached_q153_q156_L8 S p2) nn) x2 x3 = some o := hf
      generalize it2 (f_X7_reached_q153_q156_L8 S p2) nn = r4 at ih hf
      unfold f_X7_reached_q153_q156_L8 at hf
      refine go_iload (pc' := 10) hC dX7_reached_8 rfl rfl ?_
      refine go_aload_n (pc' := 11) hC dX7_reached_10 rfl rfl ?_
      refine go_geti (v := (S.1 15303)) (pc' := 14) hC 153 3 layX_153 rfl rfl inlX7 (Nat.le_of_ble_eq_true rfl) mw_618 rfl dX7_reached_11 rfl rfl ?_
      refine go_icmp_ge (tgt := 86) (pc' := 17) hC dX7_reached_14 (by decide) rfl (fun h20 => ?_) (fun h20 => ?_)
      · have hf := ite_t h20 hf
        refine go_iload (pc' := 88) hC dX7_reached_86 rfl rfl ?_
        obtain rfl := Option.some.inj hf
        exact go_iret hC hQ dX7_reached_88 rfl rfl rfl rfl (fun _ => rfl) rfl rfl
      · have hf := ite_f h20 hf
        refine go_iload (pc' := 19) hC dX7_reached_17 rfl rfl ?_
        refine go_istore (lc' := [(0, .ref (x_q X 153)), (2, .int p2), (3, .ref (x_q X 156)), (4, .int x2), (5, .int x3), (6, .int x2)]) (pc' := 21) hC dX7_reached_19 (Nat.le_of_ble_eq_true rfl) rfl rfl ?_
        refine go_iconst (pc' := 22) hC dX7_reached_21 ki_0 rfl ?_
        refine go_istore (lc' := [(0, .ref (x_q X 153)), (2, .int p2), (3, .ref (x_q X 156)), (4, .int x2), (5, .int x3), (6, .int x2), (7, .int (0 : Int32))]) (pc' := 24) hC dX7_reached_22 (Nat.le_of_ble_eq_true rfl) rfl rfl ?_
        obtain ⟨k70_6, hk70_6, hf⟩ := lk_e1 hf
        have jk70_6 : ∀ (x5 : Int32), k70_6 x5 = some o → Go X layX S 70 [(0, .ref (x_q X 153)), (2, .int p2), (3, .ref (x_q X 156)), (4, .int x5), (5, .int x3), (6, .int x2)] [] g [] [] [] [] [] 0 0 := by
          intro x5 hf
          have hf := hk70_6 x5 hf
          clear hk70_6
          refine go_iload (pc' := 72) hC dX7_reached_70 rfl rfl ?_
          refine go_iload (pc' := 74) hC dX7_reached_72 rfl rfl ?_
          refine go_icmp_ne (tgt := 80) (pc' := 77) hC dX7_reached_74 (by decide) rfl (fun h7 => ?_) (fun h7 => ?_)
          · have hf := ite_f h7 hf
            refine go_iinc (lc' := [(0, .ref (x_q X 153)), (2, .int p2), (3, .ref (x_q X 156)), (4, .int x5), (5, .int (x3 + (1 : Int32))), (6, .int x2)]) (pc' := 83) hC dX7_reached_80 rfl ki_1 (Nat.le_of_ble_eq_true rfl) rfl rfl ?_
            refine go_goto (tgt := 8) hC dX7_reached_83 (by decide) ?_
            refine go_sub [0, 2, 3, 4, 5] rfl ?_
            exact ih x5 (x3 + (1 : Int32)) hf
          · have hf := ite_t h7 hf
            refine go_goto (tgt := 86) hC dX7_reached_77 (by decide) ?_
            refine go_iload (pc' := 88) hC dX7_reached_86 rfl rfl ?_
            obtain rfl := Option.some.inj hf
            exact go_iret hC hQ dX7_reached_88 rfl rfl rfl rfl (fun _ => rfl) rfl rfl
        clear hk70_6
        have l24_19 : ∀ (nn : Nat) (x8 : Int32) (x9 : Int32), it2 (f_X7_reached_q153_q156_L24 S p2 k70_6) nn x8 x9 = some o → Go X layX S 24 [(0, .ref (x_q X 153)), (2, .int p2), (3, .ref (x_q X 156)), (4, .int x8), (5, .int x3), (6, .int x2), (7, .int x9)] [] g [] [] [] [] [] 0 0 := by
          intro nn
          induction nn with
          | zero =>
            intro x8 x9 hf
            exact none_no hf
          | succ nn ih =>
            intro x8 x9 hf
            have hf : f_X7_reached_q153_q156_L24 S p2 k70_6 (it2 (f_X7_reached_q153_q156_L24 S p2 k70_6) nn) x8 x9 = some o := hf
            generalize it2 (f_X7_reached_q153_q156_L24 S p2 k70_6) nn = r10 at ih hf
            unfold f_X7_reached_q153_q156_L24 at hf
            refine go_iload (pc' := 26) hC dX7_reached_24 rfl rfl ?_
            refine go_aload_n (pc' := 27) hC dX7_reached_26 rfl rfl ?_
            refine go_geti (v := (S.1 15300)) (pc' := 30) hC 153 0 layX_153 rfl rfl inlX7 (Nat.le_of_ble_eq_true rfl) mw_620 rfl dX7_reached_27 rfl rfl ?_
            refine go_icmp_ge (tgt := 70) (pc' := 33) hC dX7_reached_30 (by decide) rfl (fun h18 => ?_) (fun h18 => ?_)
            · have hf := ite_t h18 hf
              refine go_sub [0, 2, 3, 4, 5, 6] rfl ?_
              exact jk70_6 x8 hf
            · have hf := ite_f h18 hf
              refine go_iload_n (pc' := 34) hC dX7_reached_33 rfl rfl ?_
              refine go_iload (pc' := 36) hC dX7_reached_34 rfl rfl ?_
              refine go_ishr (pc' := 37) hC dX7_reached_36 rfl ?_
              refine go_iconst (pc' := 38) hC dX7_reached_37 ki_1 rfl ?_
              refine go_iand (pc' := 39) hC dX7_reached_38 rfl ?_
              obtain ⟨k64_12, hk64_12, hf⟩ := lk_e1 hf
              have jk64_12 : ∀ (x11 : Int32), k64_12 x11 = some o → Go X layX S 64 [(0, .ref (x_q X 153)), (2, .int p2), (3, .ref (x_q X 156)), (4, .int x11), (5, .int x3), (6, .int x2), (7, .int x9)] [] g [] [] [] [] [] 0 0 := by
                intro x11 hf
                have hf := hk64_12 x11 hf
                clear hk64_12
                refine go_iinc (lc' := [(0, .ref (x_q X 153)), (2, .int p2), (3, .ref (x_q X 156)), (4, .int x11), (5, .int x3), (6, .int x2), (7, .int (x9 + (1 : Int32)))]) (pc' := 67) hC dX7_reached_64 rfl ki_1 (Nat.le_of_ble_eq_true rfl) rfl rfl ?_
                refine go_goto (tgt := 24) hC dX7_reached_67 (by decide) ?_
                exact ih x11 (x9 + (1 : Int32)) hf
              clear hk64_12
              refine go_if_eq (tgt := 64) (pc' := 42) hC dX7_reached_39 (by decide) rfl (fun h17 => ?_) (fun h17 => ?_)
              · have hf := ite_t h17 hf
                exact jk64_12 x8 hf
              · have hf := ite_f h17 hf
                refine go_iload (pc' := 44) hC dX7_reached_42 rfl rfl ?_
                refine go_aload_n (pc' := 45) hC dX7_reached_44 rfl rfl ?_
                refine go_iload (pc' := 47) hC dX7_reached_45 rfl rfl ?_
                obtain ⟨h13, hf⟩ := gd_e hf
                refine go_iald (f := (S.2.2.1 156)) (pc' := 48) hC 156 layX_156 rfl rfl dX7_reached_47 (okx_in h13) rfl ?_
                refine go_iand (pc' := 49) hC dX7_reached_48 rfl ?_
                refine go_if_eq (tgt := 64) (pc' := 52) hC dX7_reached_49 (by decide) rfl (fun h16 => ?_) (fun h16 => ?_)
                · have hf := ite_t h16 hf
                  exact jk64_12 x8 hf
                · have hf := ite_f h16 hf
                  refine go_iload (pc' := 54) hC dX7_reached_52 rfl rfl ?_
                  refine go_aload_n (pc' := 55) hC dX7_reached_54 rfl rfl ?_
                  refine go_getq (pc' := 58) hC 153 5 layX_153 rfl rfl inlX7 (Nat.le_of_ble_eq_true rfl) mw_110 rfl dX7_reached_55 rfl ?_
                  refine go_iload (pc' := 60) hC dX7_reached_58 rfl rfl ?_
                  obtain ⟨h14, hf⟩ := gd_e hf
                  refine go_iald (f := (S.2.2.1 154)) (pc' := 61) hC 154 layX_154 rfl rfl dX7_reached_60 (okx_in h14) rfl ?_
                  refine go_ior (pc' := 62) hC dX7_reached_61 rfl ?_
                  refine go_namei (fun x15 hx => ?_)
                  have hf := lz_r hx hf
                  clear hx
                  refine go_istore (lc' := [(0, .ref (x_q X 153)), (2, .int p2), (3, .ref (x_q X 156)), (4, .int x15), (5, .int x3), (6, .int x2), (7, .int x9)]) (pc' := 64) hC dX7_reached_62 (Nat.le_of_ble_eq_true rfl) rfl rfl ?_
                  exact jk64_12 x15 hf
        exact l24_19 fuel x2 (0 : Int32) hf
  refine go_sub [0, 2, 3, 4, 5] rfl ?_
  exact l8_21 fuel x1 (1 : Int32) hf
abbrev o_X7_leads_q153 : Type := Int32
def f_X7_leads_q153 (S : wd_W) (p1 : Int32) (p2 : Int32) (p3 : Int32) : Option o_X7_leads_q153 :=
bd (f_X7_reached_q153_q155 (wd_o S [] [] [] [] []) p1 p3) fun o1 =>
if ((o1 >>> (p2 &&& 31)) &&& (1 : Int32)) = 0 then (
some (0 : Int32)) else (
some (1 : Int32))
set_option maxRecDepth 100000 in
set_option maxHeartbeats 4000000 in
theorem c_X7_leads_q153 (l : Launch) (D : va_G) (q g : Nat → Nat) (cy : Nat → ClassId) (z : (Nat → Nat) × (Nat → Nat) × Nat) (S : wd_W) (p1 : Int32) (p2 : Int32) (p3 : Int32) (o : o_X7_leads_q153) (hf : f_X7_leads_q153 S p1 p2 p3 = some o) : MX layX l yX7_leads cX7_leads 4 (some .boolean) ({ frames := 1, cells := 0, slots := 0, locals := 27 } : Room) D q g cy z [.ref (q 153), .int p1, .int p2, .int p3] S false (some (.int o)) (wd_o S [] [] [] [] []) 0 0 := by
  refine mx_of (own := RX7) (lc := [(0, .ref (q 153)), (1, .int p1), (2, .int p2), (3, .int p3)]) (by decide +kernel) rfl layX_ok (Nat.le_of_ble_eq_true rfl) rfl ?_
  intro X hXl hXq hXz hC hQ
  subst hXl; subst hXq; subst hXz
  unfold f_X7_leads_q153 at hf
  refine go_aload_n (pc' := 1) hC dX7_leads_0 rfl rfl ?_
  refine go_iload_n (pc' := 2) hC dX7_leads_1 rfl rfl ?_
  refine go_iload_n (pc' := 3) hC dX7_leads_2 rfl rfl ?_
  refine go_aload_n (pc' := 4) hC dX7_leads_3 rfl rfl ?_
  refine go_getq (pc' := 7) hC 153 6 layX_153 rfl rfl inlX7 (Nat.le_of_ble_eq_true rfl) mw_111 rfl dX7_leads_4 rfl ?_
  obtain ⟨o1, ho1, hf⟩ := bd_e hf
  refine go_callV0 (pc' := 10) (As := [.int p1, .int p3, .ref (x_q X 155)]) (st := []) (st' := [.int o1])    (b := 153) hC dX7_leads_7 ⟨mw_670, mw_673, mw_99, yd_yX7_reached, yp_yX7_reached, Nat.le_of_ble_eq_true rfl, Nat.le_of_ble_eq_true rfl, (Nat.le_of_ble_eq_true rfl), (Nat.le_of_ble_eq_true rfl)⟩ mw_671 mw_672 layX_153 rfl rfl rfl (Nat.le_of_ble_eq_true rfl) (c_X7_reached_q153_q155 (x_l X) (x_D X) (x_q X) g (x_cy X) (x_z X) _ p1 p3 o1 ho1) rfl rfl ?_
  refine go_iload_n (pc' := 11) hC dX7_leads_10 rfl rfl ?_
  refine go_ishr (pc' := 12) hC dX7_leads_11 rfl ?_
  refine go_iconst (pc' := 13) hC dX7_leads_12 ki_1 rfl ?_
  refine go_iand (pc' := 14) hC dX7_leads_13 rfl ?_
  refine go_if_eq (tgt := 21) (pc' := 17) hC dX7_leads_14 (by decide) rfl (fun h2 => ?_) (fun h2 => ?_)
  · have hf := ite_t h2 hf
    refine go_iconst (pc' := 22) hC dX7_leads_21 ki_0 rfl ?_
    obtain rfl := Option.some.inj hf
    exact go_iret hC hQ dX7_leads_22 rfl rfl rfl rfl (fun _ => rfl) rfl rfl
  · have hf := ite_f h2 hf
    refine go_iconst (pc' := 18) hC dX7_leads_17 ki_1 rfl ?_
    refine go_goto (tgt := 22) hC dX7_leads_18 (by decide) ?_
    obtain rfl := Option.some.inj hf
    exact go_iret hC hQ dX7_leads_22 rfl rfl rfl rfl (fun _ => rfl) rfl rfl
abbrev o_X7_leadsWithoutAny_q153 : Type := Int32
def f_X7_leadsWithoutAny_q153_L3 (S : wd_W) (p1 : Int32) (p2 : Int32) (p3 : Int32) (r2 : (Int32) → (Option o_X7_leadsWithoutAny_q153)) (x1 : Int32) : Option o_X7_leadsWithoutAny_q153 :=
if (S.1 15300) ≤ x1 then (
some (1 : Int32)) else (
lk (r2 (x1 + (1 : Int32))) fun k45_3 =>
if ((p3 >>> (x1 &&& 31)) &&& (1 : Int32)) = 0 then (
k45_3) else (
bd (f_X7_reached_q153_q155 (wd_o S [] [] [] [] []) p1 (p3 ^^^ ((1 : Int32) <<< (x1 &&& 31)))) fun o4 =>
if ((o4 >>> (p2 &&& 31)) &&& (1 : Int32)) = 0 then (
some (0 : Int32)) else (
k45_3)))
def f_X7_leadsWithoutAny_q153 (S : wd_W) (p1 : Int32) (p2 : Int32) (p3 : Int32) : Option o_X7_leadsWithoutAny_q153 :=
it1 (f_X7_leadsWithoutAny_q153_L3 S p1 p2 p3) fuel (0 : Int32)
set_option maxRecDepth 100000 in
set_option maxHeartbeats 4000000 in
theorem c_X7_leadsWithoutAny_q153 (l : Launch) (D : va_G) (q g : Nat → Nat) (cy : Nat → ClassId) (z : (Nat → Nat) × (Nat → Nat) × Nat) (S : wd_W) (p1 : Int32) (p2 : Int32) (p3 : Int32) (o : o_X7_leadsWithoutAny_q153) (hf : f_X7_leadsWithoutAny_q153 S p1 p2 p3 = some o) : MX layX l yX7_leadsWithoutAny cX7_leadsWithoutAny 5 (some .boolean) ({ frames := 1, cells := 0, slots := 0, locals := 27 } : Room) D q g cy z [.ref (q 153), .int p1, .int p2, .int p3] S false (some (.int o)) (wd_o S [] [] [] [] []) 0 0 := by
  refine mx_of (own := RX7) (lc := [(0, .ref (q 153)), (1, .int p1), (2, .int p2), (3, .int p3)]) (by decide +kernel) rfl layX_ok (Nat.le_of_ble_eq_true rfl) rfl ?_
  intro X hXl hXq hXz hC hQ
  subst hXl; subst hXq; subst hXz
  unfold f_X7_leadsWithoutAny_q153 at hf
  refine go_iconst (pc' := 1) hC dX7_leadsWithoutAny_0 ki_0 rfl ?_
  refine go_istore (lc' := [(0, .ref (x_q X 153)), (1, .int p1), (2, .int p2), (3, .int p3), (4, .int (0 : Int32))]) (pc' := 3) hC dX7_leadsWithoutAny_1 (Nat.le_of_ble_eq_true rfl) rfl rfl ?_
  have l3_8 : ∀ (nn : Nat) (x1 : Int32), it1 (f_X7_leadsWithoutAny_q153_L3 S p1 p2 p3) nn x1 = some o → Go X layX S 3 [(0, .ref (x_q X 153)), (1, .int p1), (2, .int p2), (3, .int p3), (4, .int x1)] [] g [] [] [] [] [] 0 0 := by
    intro nn
    induction nn with
    | zero =>
      intro x1 hf
      exact none_no hf
    | succ nn ih =>
      intro x1 hf
      have hf : f_X7_leadsWithoutAny_q153_L3 S p1 p2 p3 (it1 (f_X7_leadsWithoutAny_q153_L3 S p1 p2 p3) nn) x1 = some o := hf
      generalize it1 (f_X7_leadsWithoutAny_q153_L3 S p1 p2 p3) nn = r2 at ih hf
      unfold f_X7_leadsWithoutAny_q153_L3 at hf
      refine go_iload (pc' := 5) hC dX7_leadsWithoutAny_3 rfl rfl ?_
      refine go_aload_n (pc' := 6) hC dX7_leadsWithoutAny_5 rfl rfl ?_
      refine go_geti (v := (S.1 15300)) (pc' := 9) hC 153 0 layX_153 rfl rfl inlX7 (Nat.le_of_ble_eq_true rfl) mw_620 rfl dX7_leadsWithoutAny_6 rfl rfl ?_
      refine go_icmp_ge (tgt := 51) (pc' := 12) hC dX7_leadsWithoutAny_9 (by decide) rfl (fun h7 => ?_) (fun h7 => ?_)
      · have hf := ite_t h7 hf
        refine go_iconst (pc' := 52) hC dX7_leadsWithoutAny_51 ki_1 rfl ?_
        obtain rfl := Option.some.inj hf
        exact go_iret hC hQ dX7_leadsWithoutAny_52 rfl rfl rfl rfl (fun _ => rfl) rfl rfl
      · have hf := ite_f h7 hf
        refine go_iload_n (pc' := 13) hC dX7_leadsWithoutAny_12 rfl rfl ?_
        refine go_iload (pc' := 15) hC dX7_leadsWithoutAny_13 rfl rfl ?_
        refine go_ishr (pc' := 16) hC dX7_leadsWithoutAny_15 rfl ?_
        refine go_iconst (pc' := 17) hC dX7_leadsWithoutAny_16 ki_1 rfl ?_
        refine go_iand (pc' := 18) hC dX7_leadsWithoutAny_17 rfl ?_
        obtain ⟨k45_3, hk45_3, hf⟩ := lk_e0 hf
        have jk45_3 : ∀ (_ : Unit), k45_3 = some o → Go X layX S 45 [(0, .ref (x_q X 153)), (1, .int p1), (2, .int p2), (3, .int p3), (4, .int x1)] [] g [] [] [] [] [] 0 0 := by
          intro _ hf
          have hf := hk45_3 hf
          clear hk45_3
          refine go_iinc (lc' := [(0, .ref (x_q X 153)), (1, .int p1), (2, .int p2), (3, .int p3), (4, .int (x1 + (1 : Int32)))]) (pc' := 48) hC dX7_leadsWithoutAny_45 rfl ki_1 (Nat.le_of_ble_eq_true rfl) rfl rfl ?_
          refine go_goto (tgt := 3) hC dX7_leadsWithoutAny_48 (by decide) ?_
          exact ih (x1 + (1 : Int32)) hf
        clear hk45_3
        refine go_if_eq (tgt := 45) (pc' := 21) hC dX7_leadsWithoutAny_18 (by decide) rfl (fun h6 => ?_) (fun h6 => ?_)
        · have hf := ite_t h6 hf
          exact jk45_3 () hf
        · have hf := ite_f h6 hf
          refine go_aload_n (pc' := 22) hC dX7_leadsWithoutAny_21 rfl rfl ?_
          refine go_iload_n (pc' := 23) hC dX7_leadsWithoutAny_22 rfl rfl ?_
          refine go_iload_n (pc' := 24) hC dX7_leadsWithoutAny_23 rfl rfl ?_
          refine go_iconst (pc' := 25) hC dX7_leadsWithoutAny_24 ki_1 rfl ?_
          refine go_iload (pc' := 27) hC dX7_leadsWithoutAny_25 rfl rfl ?_
          refine go_ishl (pc' := 28) hC dX7_leadsWithoutAny_27 rfl ?_
          refine go_ixor (pc' := 29) hC dX7_leadsWithoutAny_28 rfl ?_
          refine go_aload_n (pc' := 30) hC dX7_leadsWithoutAny_29 rfl rfl ?_
          refine go_getq (pc' := 33) hC 153 6 layX_153 rfl rfl inlX7 (Nat.le_of_ble_eq_true rfl) mw_111 rfl dX7_leadsWithoutAny_30 rfl ?_
          obtain ⟨o4, ho4, hf⟩ := bd_e hf
          refine go_callV0 (pc' := 36) (As := [.int p1, .int (p3 ^^^ ((1 : Int32) <<< (x1 &&& 31))), .ref (x_q X 155)]) (st := []) (st' := [.int o4])    (b := 153) hC dX7_leadsWithoutAny_33 ⟨mw_670, mw_673, mw_99, yd_yX7_reached, yp_yX7_reached, Nat.le_of_ble_eq_true rfl, Nat.le_of_ble_eq_true rfl, (Nat.le_of_ble_eq_true rfl), (Nat.le_of_ble_eq_true rfl)⟩ mw_671 mw_672 layX_153 rfl rfl rfl (Nat.le_of_ble_eq_true rfl) (c_X7_reached_q153_q155 (x_l X) (x_D X) (x_q X) g (x_cy X) (x_z X) _ p1 (p3 ^^^ ((1 : Int32) <<< (x1 &&& 31))) o4 ho4) rfl rfl ?_
          refine go_iload_n (pc' := 37) hC dX7_leadsWithoutAny_36 rfl rfl ?_
          refine go_ishr (pc' := 38) hC dX7_leadsWithoutAny_37 rfl ?_
          refine go_iconst (pc' := 39) hC dX7_leadsWithoutAny_38 ki_1 rfl ?_
          refine go_iand (pc' := 40) hC dX7_leadsWithoutAny_39 rfl ?_
          refine go_if_ne (tgt := 45) (pc' := 43) hC dX7_leadsWithoutAny_40 (by decide) rfl (fun h5 => ?_) (fun h5 => ?_)
          · have hf := ite_f h5 hf
            exact jk45_3 () hf
          · have hf := ite_t h5 hf
            refine go_iconst (pc' := 44) hC dX7_leadsWithoutAny_43 ki_0 rfl ?_
            obtain rfl := Option.some.inj hf
            exact go_iret hC hQ dX7_leadsWithoutAny_44 rfl rfl rfl rfl (fun _ => rfl) rfl rfl
  exact l3_8 fuel (0 : Int32) hf
abbrev o_X7_carries_q153 : Type := Int32 × (Nat → Int32)
def f_X7_carries_q153 (S : wd_W) (p1 : Int32) : Option o_X7_carries_q153 :=
lz ((S.1 14216)) fun x1 =>
lz ((S.1 14217)) fun x2 =>
if (S.1 14214) = (0 : Int32) then (
bd (f_X7_leads_q153 (wd_o S [] [] [(157, (S.2.2.1 157))] [] []) x1 x2 p1) fun o3 =>
gd (okz o3) <|
some (o3, (S.2.2.1 157))) else (
if (S.1 14214) = (1 : Int32) then (
bd (f_X7_reached_q153_q155 (wd_o S [] [] [(157, (S.2.2.1 157))] [] []) (0 : Int32) p1) fun o6 =>
if o6 = (S.1 15301) then (
bd (f_X7_reached_q153_q156 (wd_o S [] [] [(157, (S.2.2.1 157))] [] []) (0 : Int32) p1) fun o7 =>
if o7 = (S.1 15301) then (
some ((1 : Int32), (S.2.2.1 157))) else (
some ((0 : Int32), (S.2.2.1 157)))) else (
some ((0 : Int32), (S.2.2.1 157)))) else (
if (S.1 14214) = (2 : Int32) then (
bd (f_X7_reached_q153_q155 (wd_o S [] [] [(157, (S.2.2.1 157))] [] []) x1 p1) fun o11 =>
bd (f_J6_bitCount_0f7a4 o11) fun o12 =>
if o12 < (S.1 14215) then (
some ((0 : Int32), (S.2.2.1 157))) else (
some ((1 : Int32), (S.2.2.1 157)))) else (
if (S.1 14214) = (3 : Int32) then (
bd (f_X7_daysBetween_q153 (wd_o S [] [] [(157, (S.2.2.1 157))] [] []) x1 x2 p1) fun o15 =>
if (S.1 14215) < o15.1 then (
some ((0 : Int32), o15.2)) else (
some ((1 : Int32), o15.2))) else (
bd (f_X7_leads_q153 (wd_o S [] [] [(157, (S.2.2.1 157))] [] []) x1 x2 p1) fun o18 =>
if o18 = 0 then (
some ((0 : Int32), (S.2.2.1 157))) else (
bd (f_X7_leadsWithoutAny_q153 (wd_o S [] [] [(157, (S.2.2.1 157))] [] []) x1 x2 p1) fun o19 =>
if o19 = 0 then (
some ((0 : Int32), (S.2.2.1 157))) else (
some ((1 : Int32), (S.2.2.1 157))))))))
set_option maxRecDepth 100000 in
set_option maxHeartbeats 4000000 in
theorem c_X7_carries_q153 (l : Launch) (D : va_G) (q g : Nat → Nat) (cy : Nat → ClassId) (z : (Nat → Nat) × (Nat → Nat) × Nat) (S : wd_W) (p1 : Int32) (o : o_X7_carries_q153) (hf : f_X7_carries_q153 S p1 = some o) : MX layX l yX7_carries cX7_carries 4 (some .boolean) ({ frames := 2, cells := 0, slots := 0, locals := 51 } : Room) D q g cy z [.ref (q 153), .int p1] S false (some (.int o.1)) (wd_o S [] [] [(157, o.2)] [] []) 0 0 := by
  refine mx_of (own := RX7) (lc := [(0, .ref (q 153)), (1, .int p1)]) (by decide +kernel) rfl layX_ok (Nat.le_of_ble_eq_true rfl) rfl ?_
  intro X hXl hXq hXz hC hQ
  subst hXl; subst hXq; subst hXz
  unfold f_X7_carries_q153 at hf
  refine go_keys (L1 := []) (L2 := []) (L3 := [(157, (S.2.2.1 157))]) (L4 := []) (L5 := []) [] [] [157] [] [] rfl rfl rfl rfl rfl ?_
  refine go_aload_n (pc' := 1) hC dX7_carries_0 rfl rfl ?_
  refine go_getq (pc' := 4) hC 153 4 layX_153 rfl rfl inlX7 (Nat.le_of_ble_eq_true rfl) mw_115 rfl dX7_carries_1 rfl ?_
  refine go_geti (v := (S.1 14216)) (pc' := 7) hC 142 16 layX_142 rfl rfl inlX2 (Nat.le_of_ble_eq_true rfl) mw_631 rfl dX7_carries_4 rfl rfl ?_
  refine go_namei (fun x1 hx => ?_)
  have hf := lz_r hx hf
  clear hx
  refine go_istore_n (lc' := [(0, .ref (x_q X 153)), (1, .int p1), (2, .int x1)]) (pc' := 8) hC dX7_carries_7 (Nat.le_of_ble_eq_true rfl) rfl rfl ?_
  refine go_aload_n (pc' := 9) hC dX7_carries_8 rfl rfl ?_
  refine go_getq (pc' := 12) hC 153 4 layX_153 rfl rfl inlX7 (Nat.le_of_ble_eq_true rfl) mw_115 rfl dX7_carries_9 rfl ?_
  refine go_geti (v := (S.1 14217)) (pc' := 15) hC 142 17 layX_142 rfl rfl inlX2 (Nat.le_of_ble_eq_true rfl) mw_632 rfl dX7_carries_12 rfl rfl ?_
  refine go_namei (fun x2 hx => ?_)
  have hf := lz_r hx hf
  clear hx
  refine go_istore_n (lc' := [(0, .ref (x_q X 153)), (1, .int p1), (2, .int x1), (3, .int x2)]) (pc' := 16) hC dX7_carries_15 (Nat.le_of_ble_eq_true rfl) rfl rfl ?_
  refine go_aload_n (pc' := 17) hC dX7_carries_16 rfl rfl ?_
  refine go_getq (pc' := 20) hC 153 4 layX_153 rfl rfl inlX7 (Nat.le_of_ble_eq_true rfl) mw_115 rfl dX7_carries_17 rfl ?_
  refine go_geti (v := (S.1 14214)) (pc' := 23) hC 142 14 layX_142 rfl rfl inlX2 (Nat.le_of_ble_eq_true rfl) mw_630 rfl dX7_carries_20 rfl rfl ?_
  by_cases h5 : (S.1 14214) = (0 : Int32)
  · have hf := ite_t h5 hf
    refine go_tabIn' (v := (0 : Int32)) (tgt := 52) hC dX7_carries_23 h5 kt_0 (by decide) (by decide) rfl (by decide) ?_
    refine go_aload_n (pc' := 53) hC dX7_carries_52 rfl rfl ?_
    refine go_iload_n (pc' := 54) hC dX7_carries_53 rfl rfl ?_
    refine go_iload_n (pc' := 55) hC dX7_carries_54 rfl rfl ?_
    refine go_iload_n (pc' := 56) hC dX7_carries_55 rfl rfl ?_
    obtain ⟨o3, ho3, hf⟩ := bd_e hf
    refine go_callV0 (pc' := 59) (As := [.int x1, .int x2, .int p1]) (st := []) (st' := [.int o3])    (b := 153) hC dX7_carries_56 ⟨mw_666, mw_669, mw_99, yd_yX7_leads, yp_yX7_leads, Nat.le_of_ble_eq_true rfl, Nat.le_of_ble_eq_true rfl, (Nat.le_of_ble_eq_true rfl), (Nat.le_of_ble_eq_true rfl)⟩ mw_667 mw_668 layX_153 rfl rfl rfl (Nat.le_of_ble_eq_true rfl) (c_X7_leads_q153 (x_l X) (x_D X) (x_q X) g (x_cy X) (x_z X) _ x1 x2 p1 o3 ho3) rfl rfl ?_
    obtain ⟨h4, hf⟩ := gd_e hf
    obtain rfl := Option.some.inj hf
    exact go_iret hC hQ dX7_carries_59 rfl (okz_n h4) rfl rfl (fun _ => rfl) rfl rfl
  · have hf := ite_f h5 hf
    by_cases h10 : (S.1 14214) = (1 : Int32)
    · have hf := ite_t h10 hf
      refine go_tabIn' (v := (1 : Int32)) (tgt := 60) hC dX7_carries_23 h10 kt_1 (by decide) (by decide) rfl (by decide) ?_
      refine go_aload_n (pc' := 61) hC dX7_carries_60 rfl rfl ?_
      refine go_iconst (pc' := 62) hC dX7_carries_61 ki_0 rfl ?_
      refine go_iload_n (pc' := 63) hC dX7_carries_62 rfl rfl ?_
      refine go_aload_n (pc' := 64) hC dX7_carries_63 rfl rfl ?_
      refine go_getq (pc' := 67) hC 153 6 layX_153 rfl rfl inlX7 (Nat.le_of_ble_eq_true rfl) mw_111 rfl dX7_carries_64 rfl ?_
      obtain ⟨o6, ho6, hf⟩ := bd_e hf
      refine go_callV0 (pc' := 70) (As := [.int (0 : Int32), .int p1, .ref (x_q X 155)]) (st := []) (st' := [.int o6])    (b := 153) hC dX7_carries_67 ⟨mw_670, mw_673, mw_99, yd_yX7_reached, yp_yX7_reached, Nat.le_of_ble_eq_true rfl, Nat.le_of_ble_eq_true rfl, (Nat.le_of_ble_eq_true rfl), (Nat.le_of_ble_eq_true rfl)⟩ mw_671 mw_672 layX_153 rfl rfl rfl (Nat.le_of_ble_eq_true rfl) (c_X7_reached_q153_q155 (x_l X) (x_D X) (x_q X) g (x_cy X) (x_z X) _ (0 : Int32) p1 o6 ho6) rfl rfl ?_
      refine go_aload_n (pc' := 71) hC dX7_carries_70 rfl rfl ?_
      refine go_geti (v := (S.1 15301)) (pc' := 74) hC 153 1 layX_153 rfl rfl inlX7 (Nat.le_of_ble_eq_true rfl) mw_621 rfl dX7_carries_71 rfl rfl ?_
      refine go_icmp_ne (tgt := 98) (pc' := 77) hC dX7_carries_74 (by decide) rfl (fun h9 => ?_) (fun h9 => ?_)
      · have hf := ite_f h9 hf
        refine go_iconst (pc' := 99) hC dX7_carries_98 ki_0 rfl ?_
        obtain rfl := Option.some.inj hf
        exact go_iret hC hQ dX7_carries_99 rfl rfl rfl rfl (fun _ => rfl) rfl rfl
      · have hf := ite_t h9 hf
        refine go_aload_n (pc' := 78) hC dX7_carries_77 rfl rfl ?_
        refine go_iconst (pc' := 79) hC dX7_carries_78 ki_0 rfl ?_
        refine go_iload_n (pc' := 80) hC dX7_carries_79 rfl rfl ?_
        refine go_aload_n (pc' := 81) hC dX7_carries_80 rfl rfl ?_
        refine go_getq (pc' := 84) hC 153 7 layX_153 rfl rfl inlX7 (Nat.le_of_ble_eq_true rfl) mw_112 rfl dX7_carries_81 rfl ?_
        obtain ⟨o7, ho7, hf⟩ := bd_e hf
        refine go_callV0 (pc' := 87) (As := [.int (0 : Int32), .int p1, .ref (x_q X 156)]) (st := []) (st' := [.int o7])    (b := 153) hC dX7_carries_84 ⟨mw_670, mw_673, mw_99, yd_yX7_reached, yp_yX7_reached, Nat.le_of_ble_eq_true rfl, Nat.le_of_ble_eq_true rfl, (Nat.le_of_ble_eq_true rfl), (Nat.le_of_ble_eq_true rfl)⟩ mw_671 mw_672 layX_153 rfl rfl rfl (Nat.le_of_ble_eq_true rfl) (c_X7_reached_q153_q156 (x_l X) (x_D X) (x_q X) g (x_cy X) (x_z X) _ (0 : Int32) p1 o7 ho7) rfl rfl ?_
        refine go_aload_n (pc' := 88) hC dX7_carries_87 rfl rfl ?_
        refine go_geti (v := (S.1 15301)) (pc' := 91) hC 153 1 layX_153 rfl rfl inlX7 (Nat.le_of_ble_eq_true rfl) mw_621 rfl dX7_carries_88 rfl rfl ?_
        refine go_icmp_ne (tgt := 98) (pc' := 94) hC dX7_carries_91 (by decide) rfl (fun h8 => ?_) (fun h8 => ?_)
        · have hf := ite_f h8 hf
          refine go_iconst (pc' := 99) hC dX7_carries_98 ki_0 rfl ?_
          obtain rfl := Option.some.inj hf
          exact go_iret hC hQ dX7_carries_99 rfl rfl rfl rfl (fun _ => rfl) rfl rfl
        · have hf := ite_t h8 hf
          refine go_iconst (pc' := 95) hC dX7_carries_94 ki_1 rfl ?_
          refine go_goto (tgt := 99) hC dX7_carries_95 (by decide) ?_
          obtain rfl := Option.some.inj hf
          exact go_iret hC hQ dX7_carries_99 rfl rfl rfl rfl (fun _ => rfl) rfl rfl
    · have hf := ite_f h10 hf
      by_cases h14 : (S.1 14214) = (2 : Int32)
      · have hf := ite_t h14 hf
        refine go_tabIn' (v := (2 : Int32)) (tgt := 100) hC dX7_carries_23 h14 kt_2 (by decide) (by decide) rfl (by decide) ?_
        refine go_aload_n (pc' := 101) hC dX7_carries_100 rfl rfl ?_
        refine go_iload_n (pc' := 102) hC dX7_carries_101 rfl rfl ?_
        refine go_iload_n (pc' := 103) hC dX7_carries_102 rfl rfl ?_
        refine go_aload_n (pc' := 104) hC dX7_carries_103 rfl rfl ?_
        refine go_getq (pc' := 107) hC 153 6 layX_153 rfl rfl inlX7 (Nat.le_of_ble_eq_true rfl) mw_111 rfl dX7_carries_104 rfl ?_
        obtain ⟨o11, ho11, hf⟩ := bd_e hf
        refine go_callV0 (pc' := 110) (As := [.int x1, .int p1, .ref (x_q X 155)]) (st := []) (st' := [.int o11])    (b := 153) hC dX7_carries_107 ⟨mw_670, mw_673, mw_99, yd_yX7_reached, yp_yX7_reached, Nat.le_of_ble_eq_true rfl, Nat.le_of_ble_eq_true rfl, (Nat.le_of_ble_eq_true rfl), (Nat.le_of_ble_eq_true rfl)⟩ mw_671 mw_672 layX_153 rfl rfl rfl (Nat.le_of_ble_eq_true rfl) (c_X7_reached_q153_q155 (x_l X) (x_D X) (x_q X) g (x_cy X) (x_z X) _ x1 p1 o11 ho11) rfl rfl ?_
        obtain ⟨o12, ho12, hf⟩ := bd_e hf
        refine go_callS0 (pc' := 113) (As := [.int o11]) (st := []) (st' := [.int o12])    hC dX7_carries_110 ⟨mw_674, mw_677, mw_676, yd_yJ6_bitCount_0f7a4, yp_yJ6_bitCount_0f7a4, Nat.le_of_ble_eq_true rfl, Nat.le_of_ble_eq_true rfl, (Nat.le_of_ble_eq_true rfl), (Nat.le_of_ble_eq_true rfl)⟩ mw_675 rfl rfl (Nat.le_of_ble_eq_true rfl) (c_J6_bitCount_0f7a4 (x_l X) (x_D X) (x_q X) g (x_cy X) (x_z X) _ o11 o12 ho12) rfl rfl ?_
        refine go_aload_n (pc' := 114) hC dX7_carries_113 rfl rfl ?_
        refine go_getq (pc' := 117) hC 153 4 layX_153 rfl rfl inlX7 (Nat.le_of_ble_eq_true rfl) mw_115 rfl dX7_carries_114 rfl ?_
        refine go_geti (v := (S.1 14215)) (pc' := 120) hC 142 15 layX_142 rfl rfl inlX2 (Nat.le_of_ble_eq_true rfl) mw_665 rfl dX7_carries_117 rfl rfl ?_
        refine go_icmp_lt (tgt := 127) (pc' := 123) hC dX7_carries_120 (by decide) rfl (fun h13 => ?_) (fun h13 => ?_)
        · have hf := ite_t h13 hf
          refine go_iconst (pc' := 128) hC dX7_carries_127 ki_0 rfl ?_
          obtain rfl := Option.some.inj hf
          exact go_iret hC hQ dX7_carries_128 rfl rfl rfl rfl (fun _ => rfl) rfl rfl
        · have hf := ite_f h13 hf
          refine go_iconst (pc' := 124) hC dX7_carries_123 ki_1 rfl ?_
          refine go_goto (tgt := 128) hC dX7_carries_124 (by decide) ?_
          obtain rfl := Option.some.inj hf
          exact go_iret hC hQ dX7_carries_128 rfl rfl rfl rfl (fun _ => rfl) rfl rfl
      · have hf := ite_f h14 hf
        by_cases h17 : (S.1 14214) = (3 : Int32)
        · have hf := ite_t h17 hf
          refine go_tabIn' (v := (3 : Int32)) (tgt := 129) hC dX7_carries_23 h17 kt_3 (by decide) (by decide) rfl (by decide) ?_
          refine go_aload_n (pc' := 130) hC dX7_carries_129 rfl rfl ?_
          refine go_iload_n (pc' := 131) hC dX7_carries_130 rfl rfl ?_
          refine go_iload_n (pc' := 132) hC dX7_carries_131 rfl rfl ?_
          refine go_iload_n (pc' := 133) hC dX7_carries_132 rfl rfl ?_
          obtain ⟨o15, ho15, hf⟩ := bd_e hf
          refine go_callV1 (pc' := 136) (As := [.int x1, .int x2, .int p1]) (st := []) (st' := [.int o15.1]) (L1' := []) (L2' := []) (L3' := [(157, o15.2)]) (L4' := []) (L5' := []) (cells' := 0) (slots' := 0)  (b := 153) hC dX7_carries_133 ⟨mw_681, mw_684, mw_99, yd_yX7_daysBetween, yp_yX7_daysBetween, Nat.le_of_ble_eq_true rfl, Nat.le_of_ble_eq_true rfl, (Nat.le_of_ble_eq_true rfl), (Nat.le_of_ble_eq_true rfl)⟩ mw_682 mw_683 layX_153 rfl rfl rfl (Nat.le_of_ble_eq_true rfl) (c_X7_daysBetween_q153 (x_l X) (x_D X) (x_q X) g (x_cy X) (x_z X) _ x1 x2 p1 o15 ho15) rfl rfl rfl rfl rfl rfl rfl rfl rfl rfl rfl rfl rfl rfl ?_
          refine go_aload_n (pc' := 137) hC dX7_carries_136 rfl rfl ?_
          refine go_getq (pc' := 140) hC 153 4 layX_153 rfl rfl inlX7 (Nat.le_of_ble_eq_true rfl) mw_115 rfl dX7_carries_137 rfl ?_
          refine go_geti (v := (S.1 14215)) (pc' := 143) hC 142 15 layX_142 rfl rfl inlX2 (Nat.le_of_ble_eq_true rfl) mw_665 rfl dX7_carries_140 rfl rfl ?_
          refine go_icmp_gt (tgt := 150) (pc' := 146) hC dX7_carries_143 (by decide) rfl (fun h16 => ?_) (fun h16 => ?_)
          · have hf := ite_t h16 hf
            refine go_iconst (pc' := 151) hC dX7_carries_150 ki_0 rfl ?_
            obtain rfl := Option.some.inj hf
            exact go_iret hC hQ dX7_carries_151 rfl rfl rfl rfl (fun _ => rfl) rfl rfl
          · have hf := ite_f h16 hf
            refine go_iconst (pc' := 147) hC dX7_carries_146 ki_1 rfl ?_
            refine go_goto (tgt := 151) hC dX7_carries_147 (by decide) ?_
            obtain rfl := Option.some.inj hf
            exact go_iret hC hQ dX7_carries_151 rfl rfl rfl rfl (fun _ => rfl) rfl rfl
        · have hf := ite_f h17 hf
          refine go_tabOut (tgt := 152) hC dX7_carries_23 ?_ (by decide) ?_
          · have e0 := lv_neT h5 kt_0; have e1 := lv_neT h10 kt_1; have e2 := lv_neT h14 kt_2; have e3 := lv_neT h17 kt_3; omega
          · refine go_aload_n (pc' := 153) hC dX7_carries_152 rfl rfl ?_
            refine go_iload_n (pc' := 154) hC dX7_carries_153 rfl rfl ?_
            refine go_iload_n (pc' := 155) hC dX7_carries_154 rfl rfl ?_
            refine go_iload_n (pc' := 156) hC dX7_carries_155 rfl rfl ?_
            obtain ⟨o18, ho18, hf⟩ := bd_e hf
            refine go_callV0 (pc' := 159) (As := [.int x1, .int x2, .int p1]) (st := []) (st' := [.int o18])    (b := 153) hC dX7_carries_156 ⟨mw_666, mw_669, mw_99, yd_yX7_leads, yp_yX7_leads, Nat.le_of_ble_eq_true rfl, Nat.le_of_ble_eq_true rfl, (Nat.le_of_ble_eq_true rfl), (Nat.le_of_ble_eq_true rfl)⟩ mw_667 mw_668 layX_153 rfl rfl rfl (Nat.le_of_ble_eq_true rfl) (c_X7_leads_q153 (x_l X) (x_D X) (x_q X) g (x_cy X) (x_z X) _ x1 x2 p1 o18 ho18) rfl rfl ?_
            refine go_if_eq (tgt := 176) (pc' := 162) hC dX7_carries_159 (by decide) rfl (fun h21 => ?_) (fun h21 => ?_)
            · have hf := ite_t h21 hf
              refine go_iconst (pc' := 177) hC dX7_carries_176 ki_0 rfl ?_
              obtain rfl := Option.some.inj hf
              exact go_iret hC hQ dX7_carries_177 rfl rfl rfl rfl (fun _ => rfl) rfl rfl
            · have hf := ite_f h21 hf
              refine go_aload_n (pc' := 163) hC dX7_carries_162 rfl rfl ?_
              refine go_iload_n (pc' := 164) hC dX7_carries_163 rfl rfl ?_
              refine go_iload_n (pc' := 165) hC dX7_carries_164 rfl rfl ?_
              refine go_iload_n (pc' := 166) hC dX7_carries_165 rfl rfl ?_
              obtain ⟨o19, ho19, hf⟩ := bd_e hf
              refine go_callV0 (pc' := 169) (As := [.int x1, .int x2, .int p1]) (st := []) (st' := [.int o19])    (b := 153) hC dX7_carries_166 ⟨mw_694, mw_697, mw_99, yd_yX7_leadsWithoutAny, yp_yX7_leadsWithoutAny, Nat.le_of_ble_eq_true rfl, Nat.le_of_ble_eq_true rfl, (Nat.le_of_ble_eq_true rfl), (Nat.le_of_ble_eq_true rfl)⟩ mw_695 mw_696 layX_153 rfl rfl rfl (Nat.le_of_ble_eq_true rfl) (c_X7_leadsWithoutAny_q153 (x_l X) (x_D X) (x_q X) g (x_cy X) (x_z X) _ x1 x2 p1 o19 ho19) rfl rfl ?_
              refine go_if_eq (tgt := 176) (pc' := 172) hC dX7_carries_169 (by decide) rfl (fun h20 => ?_) (fun h20 => ?_)
              · have hf := ite_t h20 hf
                refine go_iconst (pc' := 177) hC dX7_carries_176 ki_0 rfl ?_
                obtain rfl := Option.some.inj hf
                exact go_iret hC hQ dX7_carries_177 rfl rfl rfl rfl (fun _ => rfl) rfl rfl
              · have hf := ite_f h20 hf
                refine go_iconst (pc' := 173) hC dX7_carries_172 ki_1 rfl ?_
                refine go_goto (tgt := 177) hC dX7_carries_173 (by decide) ?_
                obtain rfl := Option.some.inj hf
                exact go_iret hC hQ dX7_carries_177 rfl rfl rfl rfl (fun _ => rfl) rfl rfl
