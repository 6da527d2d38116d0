theorem dX8_stand_0 : decode cX8_stand 0 = .ok (.aload_n 0, 1) := by decide +kernel
theorem dX8_stand_1 : decode cX8_stand 1 = .ok (.getfield 18, 3) := by decide +kernel
theorem dX8_stand_4 : decode cX8_stand 4 = .ok (.iload_n 1, 1) := by decide +kernel
theorem dX8_stand_5 : decode cX8_stand 5 = .ok (.iaload, 1) := by decide +kernel
theorem dX8_stand_6 : decode cX8_stand 6 = .ok (.bipush 12, 2) := by decide +kernel
theorem dX8_stand_8 : decode cX8_stand 8 = .ok (.ishr, 1) := by decide +kernel
theorem dX8_stand_9 : decode cX8_stand 9 = .ok (.iload_n 2, 1) := by decide +kernel
theorem dX8_stand_10 : decode cX8_stand 10 = .ok (.iand, 1) := by decide +kernel
theorem dX8_stand_11 : decode cX8_stand 11 = .ok (.ifCond .ne 7, 3) := by decide +kernel
theorem dX8_stand_14 : decode cX8_stand 14 = .ok (.iconst 1, 1) := by decide +kernel
theorem dX8_stand_15 : decode cX8_stand 15 = .ok (.goto 4, 3) := by decide +kernel
theorem dX8_stand_18 : decode cX8_stand 18 = .ok (.iconst 0, 1) := by decide +kernel
theorem dX8_stand_19 : decode cX8_stand 19 = .ok (.ireturn, 1) := by decide +kernel
abbrev o_X8_stand_q106 : Type := Int32
def f_X8_stand_q106 (S : wd_W) (p1 : Int32) (p2 : Int32) : Option o_X8_stand_q106 :=
gd (okx p1 (S.2.2.2.2 109)) <|
if ((((S.2.2.1 109) p1.toNatClampNeg) >>> ((12 : Int32) &&& 31)) &&& p2) = 0 then (
some (1 : Int32)) else (
some (0 : Int32))
set_option maxRecDepth 100000 in
set_option maxHeartbeats 4000000 in
theorem c_X8_stand_q106 (l : Launch) (D : va_G) (q g : Nat → Nat) (cy : Nat → ClassId) (z : (Nat → Nat) × (Nat → Nat) × Nat) (S : wd_W) (p1 : Int32) (p2 : Int32) (o : o_X8_stand_q106) (hf : f_X8_stand_q106 S p1 p2 = some o) : MX layX l yX8_stand cX8_stand 3 (some .boolean) ({ frames := 0, cells := 0, slots := 0, locals := 0 } : Room) D q g cy z [.ref (q 106), .int p1, .int p2] S false (some (.int o)) (wd_o S [] [] [] [] []) 0 0 := by
  refine mx_of (own := RX8) (lc := [(0, .ref (q 106)), (1, .int p1), (2, .int p2)]) (by decide +kernel) rfl layX_ok (Nat.le_of_ble_eq_true rfl) rfl ?_
  intro X hXl hXq hXz hC hQ
  subst hXl; subst hXq; subst hXz
  unfold f_X8_stand_q106 at hf
  refine go_aload_n (pc' := 1) hC dX8_stand_0 rfl rfl ?_
  refine go_getg (pc' := 4) hC 106 6 layX_106 rfl rfl inlX8 (Nat.le_of_ble_eq_true rfl) mw_94 rfl dX8_stand_1 rfl ?_
  refine go_iload_n (pc' := 5) hC dX8_stand_4 rfl rfl ?_
  obtain ⟨h1, hf⟩ := gd_e hf
  refine go_ialdg (f := (S.2.2.1 109)) (pc' := 6) hC 109 layX_109 rfl rfl dX8_stand_5 (okx_in h1) rfl ?_
  refine go_bipush (pc' := 8) hC dX8_stand_6 kb_12 rfl ?_
  refine go_ishr (pc' := 9) hC dX8_stand_8 rfl ?_
  refine go_iload_n (pc' := 10) hC dX8_stand_9 rfl rfl ?_
  refine go_iand (pc' := 11) hC dX8_stand_10 rfl ?_
  refine go_if_ne (tgt := 18) (pc' := 14) hC dX8_stand_11 (by decide) rfl (fun h2 => ?_) (fun h2 => ?_)
  · have hf := ite_f h2 hf
    refine go_iconst (pc' := 19) hC dX8_stand_18 ki_0 rfl ?_
    obtain rfl := Option.some.inj hf
    exact go_iret hC hQ dX8_stand_19 rfl rfl rfl rfl (fun _ => rfl) rfl rfl
  · have hf := ite_t h2 hf
    refine go_iconst (pc' := 15) hC dX8_stand_14 ki_1 rfl ?_
    refine go_goto (tgt := 19) hC dX8_stand_15 (by decide) ?_
    obtain rfl := Option.some.inj hf
    exact go_iret hC hQ dX8_stand_19 rfl rfl rfl rfl (fun _ => rfl) rfl rfl
theorem dX1_isThroughWith_0 : decode cX1_isThroughWith 0 = .ok (.aload_n 0, 1) := by decide +kernel
theorem dX1_isThroughWith_1 : decode cX1_isThroughWith 1 = .ok (.getfield 34, 3) := by decide +kernel
theorem dX1_isThroughWith_4 : decode cX1_isThroughWith 4 = .ok (.iload_n 1, 1) := by decide +kernel
theorem dX1_isThroughWith_5 : decode cX1_isThroughWith 5 = .ok (.iload_n 2, 1) := by decide +kernel
theorem dX1_isThroughWith_6 : decode cX1_isThroughWith 6 = .ok (.invokevirtual 90, 3) := by decide +kernel
theorem dX1_isThroughWith_9 : decode cX1_isThroughWith 9 = .ok (.ifCond .ne 12, 3) := by decide +kernel
theorem dX1_isThroughWith_12 : decode cX1_isThroughWith 12 = .ok (.aload_n 0, 1) := by decide +kernel
theorem dX1_isThroughWith_13 : decode cX1_isThroughWith 13 = .ok (.getfield 34, 3) := by decide +kernel
theorem dX1_isThroughWith_16 : decode cX1_isThroughWith 16 = .ok (.iload_n 1, 1) := by decide +kernel
theorem dX1_isThroughWith_17 : decode cX1_isThroughWith 17 = .ok (.invokevirtual 93, 3) := by decide +kernel
theorem dX1_isThroughWith_20 : decode cX1_isThroughWith 20 = .ok (.ireturn, 1) := by decide +kernel
theorem dX1_isThroughWith_21 : decode cX1_isThroughWith 21 = .ok (.aload_n 0, 1) := by decide +kernel
theorem dX1_isThroughWith_22 : decode cX1_isThroughWith 22 = .ok (.getfield 34, 3) := by decide +kernel
theorem dX1_isThroughWith_25 : decode cX1_isThroughWith 25 = .ok (.iload_n 1, 1) := by decide +kernel
theorem dX1_isThroughWith_26 : decode cX1_isThroughWith 26 = .ok (.aload_n 0, 1) := by decide +kernel
theorem dX1_isThroughWith_27 : decode cX1_isThroughWith 27 = .ok (.getfield 23, 3) := by decide +kernel
theorem dX1_isThroughWith_30 : decode cX1_isThroughWith 30 = .ok (.getfield 96, 3) := by decide +kernel
theorem dX1_isThroughWith_33 : decode cX1_isThroughWith 33 = .ok (.invokevirtual 90, 3) := by decide +kernel
theorem dX1_isThroughWith_36 : decode cX1_isThroughWith 36 = .ok (.ifCond .eq 23, 3) := by decide +kernel
theorem dX1_isThroughWith_39 : decode cX1_isThroughWith 39 = .ok (.aload_n 0, 1) := by decide +kernel
theorem dX1_isThroughWith_40 : decode cX1_isThroughWith 40 = .ok (.getfield 27, 3) := by decide +kernel
theorem dX1_isThroughWith_43 : decode cX1_isThroughWith 43 = .ok (.aload_n 0, 1) := by decide +kernel
theorem dX1_isThroughWith_44 : decode cX1_isThroughWith 44 = .ok (.getfield 34, 3) := by decide +kernel
theorem dX1_isThroughWith_47 : decode cX1_isThroughWith 47 = .ok (.iload_n 1, 1) := by decide +kernel
theorem dX1_isThroughWith_48 : decode cX1_isThroughWith 48 = .ok (.invokevirtual 99, 3) := by decide +kernel
theorem dX1_isThroughWith_51 : decode cX1_isThroughWith 51 = .ok (.baload, 1) := by decide +kernel
theorem dX1_isThroughWith_52 : decode cX1_isThroughWith 52 = .ok (.ifCond .eq 7, 3) := by decide +kernel
theorem dX1_isThroughWith_55 : decode cX1_isThroughWith 55 = .ok (.iconst 1, 1) := by decide +kernel
theorem dX1_isThroughWith_56 : decode cX1_isThroughWith 56 = .ok (.goto 4, 3) := by decide +kernel
theorem dX1_isThroughWith_59 : decode cX1_isThroughWith 59 = .ok (.iconst 0, 1) := by decide +kernel
theorem dX1_isThroughWith_60 : decode cX1_isThroughWith 60 = .ok (.ireturn, 1) := by decide +kernel
abbrev o_X1_isThroughWith_q140 : Type := Int32
def f_X1_isThroughWith_q140 (S : wd_W) (p1 : Int32) (p2 : Int32) : Option o_X1_isThroughWith_q140 :=
bd (f_X8_stand_q106 (wd_o S [] [] [] [] []) p1 p2) fun o1 =>
if o1 = 0 then (
bd (f_X8_isThrough_q106 (wd_o S [] [] [] [] []) p1) fun o7 =>
gd (okz o7) <|
some o7) else (
bd (f_X8_stand_q106 (wd_o S [] [] [] [] []) p1 (S.1 15302)) fun o2 =>
if o2 = 0 then (
some (0 : Int32)) else (
bd (f_X8_openIn_q106 (wd_o S [] [] [] [] []) p1) fun o3 =>
gd (okx o3 (S.2.2.2.2 141)) <|
if ((S.2.2.1 141) o3.toNatClampNeg) = 0 then (
some (0 : Int32)) else (
some (1 : Int32))))
set_option maxRecDepth 100000 in
set_option maxHeartbeats 4000000 in
theorem c_X1_isThroughWith_q140 (l : Launch) (D : va_G) (q g : Nat → Nat) (cy : Nat → ClassId) (z : (Nat → Nat) × (Nat → Nat) × Nat) (S : wd_W) (p1 : Int32) (p2 : Int32) (o : o_X1_isThroughWith_q140) (hf : f_X1_isThroughWith_q140 S p1 p2 = some o) : MX layX l yX1_isThroughWith cX1_isThroughWith 3 (some .boolean) ({ frames := 2, cells := 0, slots := 0, locals := 42 } : Room) D q g cy z [.ref (q 140), .int p1, .int p2] S false (some (.int o)) (wd_o S [] [] [] [] []) 0 0 := by
  refine mx_of (own := RX1) (lc := [(0, .ref (q 140)), (1, .int p1), (2, .int p2)]) (by decide +kernel) rfl layX_ok (Nat.le_of_ble_eq_true rfl) rfl ?_
  intro X hXl hXq hXz hC hQ
  subst hXl; subst hXq; subst hXz
  unfold f_X1_isThroughWith_q140 at hf
  refine go_aload_n (pc' := 1) hC dX1_isThroughWith_0 rfl rfl ?_
  refine go_getq (pc' := 4) hC 140 4 layX_140 rfl rfl inlX1 (Nat.le_of_ble_eq_true rfl) mw_167 rfl dX1_isThroughWith_1 rfl ?_
  refine go_iload_n (pc' := 5) hC dX1_isThroughWith_4 rfl rfl ?_
  refine go_iload_n (pc' := 6) hC dX1_isThroughWith_5 rfl rfl ?_
  obtain ⟨o1, ho1, hf⟩ := bd_e hf
  refine go_callV0 (pc' := 9) (As := [.int p1, .int p2]) (st := []) (st' := [.int o1])    (b := 106) hC dX1_isThroughWith_6 ⟨mw_1164, mw_1167, mw_31, yd_yX8_stand, yp_yX8_stand, Nat.le_of_ble_eq_true rfl, Nat.le_of_ble_eq_true rfl, (Nat.le_of_ble_eq_true rfl), (Nat.le_of_ble_eq_true rfl)⟩ mw_1165 mw_1166 layX_106 rfl rfl rfl (Nat.le_of_ble_eq_true rfl) (c_X8_stand_q106 (x_l X) (x_D X) (x_q X) g (x_cy X) (x_z X) _ p1 p2 o1 ho1) rfl rfl ?_
  refine go_if_ne (tgt := 21) (pc' := 12) hC dX1_isThroughWith_9 (by decide) rfl (fun h9 => ?_) (fun h9 => ?_)
  · have hf := ite_f h9 hf
    refine go_aload_n (pc' := 22) hC dX1_isThroughWith_21 rfl rfl ?_
    refine go_getq (pc' := 25) hC 140 4 layX_140 rfl rfl inlX1 (Nat.le_of_ble_eq_true rfl) mw_167 rfl dX1_isThroughWith_22 rfl ?_
    refine go_iload_n (pc' := 26) hC dX1_isThroughWith_25 rfl rfl ?_
    refine go_aload_n (pc' := 27) hC dX1_isThroughWith_26 rfl rfl ?_
    refine go_getq (pc' := 30) hC 140 6 layX_140 rfl rfl inlX1 (Nat.le_of_ble_eq_true rfl) mw_164 rfl dX1_isThroughWith_27 rfl ?_
    refine go_geti (v := (S.1 15302)) (pc' := 33) hC 153 2 layX_153 rfl rfl inlX7 (Nat.le_of_ble_eq_true rfl) mw_1163 rfl dX1_isThroughWith_30 rfl rfl ?_
    obtain ⟨o2, ho2, hf⟩ := bd_e hf
    refine go_callV0 (pc' := 36) (As := [.int p1, .int (S.1 15302)]) (st := []) (st' := [.int o2])    (b := 106) hC dX1_isThroughWith_33 ⟨mw_1164, mw_1167, mw_31, yd_yX8_stand, yp_yX8_stand, Nat.le_of_ble_eq_true rfl, Nat.le_of_ble_eq_true rfl, (Nat.le_of_ble_eq_true rfl), (Nat.le_of_ble_eq_true rfl)⟩ mw_1165 mw_1166 layX_106 rfl rfl rfl (Nat.le_of_ble_eq_true rfl) (c_X8_stand_q106 (x_l X) (x_D X) (x_q X) g (x_cy X) (x_z X) _ p1 (S.1 15302) o2 ho2) rfl rfl ?_
    refine go_if_eq (tgt := 59) (pc' := 39) hC dX1_isThroughWith_36 (by decide) rfl (fun h6 => ?_) (fun h6 => ?_)
    · have hf := ite_t h6 hf
      refine go_iconst (pc' := 60) hC dX1_isThroughWith_59 ki_0 rfl ?_
      obtain rfl := Option.some.inj hf
      exact go_iret hC hQ dX1_isThroughWith_60 rfl rfl rfl rfl (fun _ => rfl) rfl rfl
    · have hf := ite_f h6 hf
      refine go_aload_n (pc' := 40) hC dX1_isThroughWith_39 rfl rfl ?_
      refine go_getg (pc' := 43) hC 140 7 layX_140 rfl rfl inlX1 (Nat.le_of_ble_eq_true rfl) mw_165 rfl dX1_isThroughWith_40 rfl ?_
      refine go_aload_n (pc' := 44) hC dX1_isThroughWith_43 rfl rfl ?_
      refine go_getq (pc' := 47) hC 140 4 layX_140 rfl rfl inlX1 (Nat.le_of_ble_eq_true rfl) mw_167 rfl dX1_isThroughWith_44 rfl ?_
      refine go_iload_n (pc' := 48) hC dX1_isThroughWith_47 rfl rfl ?_
      obtain ⟨o3, ho3, hf⟩ := bd_e hf
      refine go_callV0 (pc' := 51) (As := [.int p1]) (st := [.ref (g 141)]) (st' := [.int o3, .ref (g 141)])    (b := 106) hC dX1_isThroughWith_48 ⟨mw_1169, mw_710, mw_31, yd_yX8_openIn, yp_yX8_openIn, Nat.le_of_ble_eq_true rfl, Nat.le_of_ble_eq_true rfl, (Nat.le_of_ble_eq_true rfl), (Nat.le_of_ble_eq_true rfl)⟩ mw_708 mw_709 layX_106 rfl rfl rfl (Nat.le_of_ble_eq_true rfl) (c_X8_openIn_q106 (x_l X) (x_D X) (x_q X) g (x_cy X) (x_z X) _ p1 o3 ho3) rfl rfl ?_
      obtain ⟨h4, hf⟩ := gd_e hf
      refine go_baldg (f := (S.2.2.1 141)) (pc' := 52) hC 141 layX_141 rfl rfl dX1_isThroughWith_51 (okx_in h4) rfl ?_
      refine go_if_eq (tgt := 59) (pc' := 55) hC dX1_isThroughWith_52 (by decide) rfl (fun h5 => ?_) (fun h5 => ?_)
      · have hf := ite_t h5 hf
        refine go_iconst (pc' := 60) hC dX1_isThroughWith_59 ki_0 rfl ?_
        obtain rfl := Option.some.inj hf
        exact go_iret hC hQ dX1_isThroughWith_60 rfl rfl rfl rfl (fun _ => rfl) rfl rfl
      · have hf := ite_f h5 hf
        refine go_iconst (pc' := 56) hC dX1_isThroughWith_55 ki_1 rfl ?_
        refine go_goto (tgt := 60) hC dX1_isThroughWith_56 (by decide) ?_
        obtain rfl := Option.some.inj hf
        exact go_iret hC hQ dX1_isThroughWith_60 rfl rfl rfl rfl (fun _ => rfl) rfl rfl
  · have hf := ite_t h9 hf
    refine go_aload_n (pc' := 13) hC dX1_isThroughWith_12 rfl rfl ?_
    refine go_getq (pc' := 16) hC 140 4 layX_140 rfl rfl inlX1 (Nat.le_of_ble_eq_true rfl) mw_167 rfl dX1_isThroughWith_13 rfl ?_
    refine go_iload_n (pc' := 17) hC dX1_isThroughWith_16 rfl rfl ?_
    obtain ⟨o7, ho7, hf⟩ := bd_e hf
    refine go_callV0 (pc' := 20) (As := [.int p1]) (st := []) (st' := [.int o7])    (b := 106) hC dX1_isThroughWith_17 ⟨mw_1168, mw_734, mw_31, yd_yX8_isThrough, yp_yX8_isThrough, Nat.le_of_ble_eq_true rfl, Nat.le_of_ble_eq_true rfl, (Nat.le_of_ble_eq_true rfl), (Nat.le_of_ble_eq_true rfl)⟩ mw_732 mw_733 layX_106 rfl rfl rfl (Nat.le_of_ble_eq_true rfl) (c_X8_isThrough_q106 (x_l X) (x_D X) (x_q X) g (x_cy X) (x_z X) _ p1 o7 ho7) rfl rfl ?_
    obtain ⟨h8, hf⟩ := gd_e hf
    obtain rfl := Option.some.inj hf
    exact go_iret hC hQ dX1_isThroughWith_20 rfl (okz_n h8) rfl rfl (fun _ => rfl) rfl rfl
theorem dX1_chanceWith_0 : decode cX1_chanceWith 0 = .ok (.aload_n 0, 1) := by decide +kernel
theorem dX1_chanceWith_1 : decode cX1_chanceWith 1 = .ok (.getfield 12, 3) := by decide +kernel
theorem dX1_chanceWith_4 : decode cX1_chanceWith 4 = .ok (.aload_n 0, 1) := by decide +kernel
theorem dX1_chanceWith_5 : decode cX1_chanceWith 5 = .ok (.getfield 31, 3) := by decide +kernel
theorem dX1_chanceWith_8 : decode cX1_chanceWith 8 = .ok (.invokevirtual 63, 3) := by decide +kernel
theorem dX1_chanceWith_11 : decode cX1_chanceWith 11 = .ok (.aload_n 0, 1) := by decide +kernel
theorem dX1_chanceWith_12 : decode cX1_chanceWith 12 = .ok (.getfield 12, 3) := by decide +kernel
theorem dX1_chanceWith_15 : decode cX1_chanceWith 15 = .ok (.iload_n 1, 1) := by decide +kernel
theorem dX1_chanceWith_16 : decode cX1_chanceWith 16 = .ok (.iload_n 2, 1) := by decide +kernel
theorem dX1_chanceWith_17 : decode cX1_chanceWith 17 = .ok (.bipush 16, 2) := by decide +kernel
theorem dX1_chanceWith_19 : decode cX1_chanceWith 19 = .ok (.iconst 0, 1) := by decide +kernel
theorem dX1_chanceWith_20 : decode cX1_chanceWith 20 = .ok (.iconst 1, 1) := by decide +kernel
theorem dX1_chanceWith_21 : decode cX1_chanceWith 21 = .ok (.invokevirtual 66, 3) := by decide +kernel
theorem dX1_chanceWith_24 : decode cX1_chanceWith 24 = .ok (.aload_n 0, 1) := by decide +kernel
theorem dX1_chanceWith_25 : decode cX1_chanceWith 25 = .ok (.getfield 23, 3) := by decide +kernel
theorem dX1_chanceWith_28 : decode cX1_chanceWith 28 = .ok (.invokevirtual 70, 3) := by decide +kernel
theorem dX1_chanceWith_31 : decode cX1_chanceWith 31 = .ok (.iconst 0, 1) := by decide +kernel
theorem dX1_chanceWith_32 : decode cX1_chanceWith 32 = .ok (.istore_n 3, 1) := by decide +kernel
theorem dX1_chanceWith_33 : decode cX1_chanceWith 33 = .ok (.iload_n 3, 1) := by decide +kernel
theorem dX1_chanceWith_34 : decode cX1_chanceWith 34 = .ok (.aload_n 0, 1) := by decide +kernel
theorem dX1_chanceWith_35 : decode cX1_chanceWith 35 = .ok (.getfield 34, 3) := by decide +kernel
theorem dX1_chanceWith_38 : decode cX1_chanceWith 38 = .ok (.getfield 38, 3) := by decide +kernel
theorem dX1_chanceWith_41 : decode cX1_chanceWith 41 = .ok (.if_icmp .gt 42, 3) := by decide +kernel
theorem dX1_chanceWith_44 : decode cX1_chanceWith 44 = .ok (.aload_n 0, 1) := by decide +kernel
theorem dX1_chanceWith_45 : decode cX1_chanceWith 45 = .ok (.getfield 27, 3) := by decide +kernel
theorem dX1_chanceWith_48 : decode cX1_chanceWith 48 = .ok (.iload_n 3, 1) := by decide +kernel
theorem dX1_chanceWith_49 : decode cX1_chanceWith 49 = .ok (.aload_n 0, 1) := by decide +kernel
theorem dX1_chanceWith_50 : decode cX1_chanceWith 50 = .ok (.getfield 23, 3) := by decide +kernel
theorem dX1_chanceWith_53 : decode cX1_chanceWith 53 = .ok (.iload_n 3, 1) := by decide +kernel
theorem dX1_chanceWith_54 : decode cX1_chanceWith 54 = .ok (.iconst 1, 1) := by decide +kernel
theorem dX1_chanceWith_55 : decode cX1_chanceWith 55 = .ok (.aload_n 0, 1) := by decide +kernel
theorem dX1_chanceWith_56 : decode cX1_chanceWith 56 = .ok (.getfield 31, 3) := by decide +kernel
theorem dX1_chanceWith_59 : decode cX1_chanceWith 59 = .ok (.getfield 73, 3) := by decide +kernel
theorem dX1_chanceWith_62 : decode cX1_chanceWith 62 = .ok (.ishl, 1) := by decide +kernel
theorem dX1_chanceWith_63 : decode cX1_chanceWith 63 = .ok (.ior, 1) := by decide +kernel
theorem dX1_chanceWith_64 : decode cX1_chanceWith 64 = .ok (.invokevirtual 76, 3) := by decide +kernel
theorem dX1_chanceWith_67 : decode cX1_chanceWith 67 = .ok (.ifCond .eq 7, 3) := by decide +kernel
theorem dX1_chanceWith_70 : decode cX1_chanceWith 70 = .ok (.iconst 1, 1) := by decide +kernel
theorem dX1_chanceWith_71 : decode cX1_chanceWith 71 = .ok (.goto 4, 3) := by decide +kernel
theorem dX1_chanceWith_74 : decode cX1_chanceWith 74 = .ok (.iconst 0, 1) := by decide +kernel
theorem dX1_chanceWith_75 : decode cX1_chanceWith 75 = .ok (.i2b, 1) := by decide +kernel
theorem dX1_chanceWith_76 : decode cX1_chanceWith 76 = .ok (.bastore, 1) := by decide +kernel
theorem dX1_chanceWith_77 : decode cX1_chanceWith 77 = .ok (.iinc 3 1, 3) := by decide +kernel
theorem dX1_chanceWith_80 : decode cX1_chanceWith 80 = .ok (.goto (-47), 3) := by decide +kernel
theorem dX1_chanceWith_83 : decode cX1_chanceWith 83 = .ok (.lconst 0, 1) := by decide +kernel
theorem dX1_chanceWith_84 : decode cX1_chanceWith 84 = .ok (.lstore_n 3, 1) := by decide +kernel
theorem dX1_chanceWith_85 : decode cX1_chanceWith 85 = .ok (.iconst 0, 1) := by decide +kernel
theorem dX1_chanceWith_86 : decode cX1_chanceWith 86 = .ok (.istore 5, 2) := by decide +kernel
theorem dX1_chanceWith_88 : decode cX1_chanceWith 88 = .ok (.iload 5, 2) := by decide +kernel
theorem dX1_chanceWith_90 : decode cX1_chanceWith 90 = .ok (.aload_n 0, 1) := by decide +kernel
theorem dX1_chanceWith_91 : decode cX1_chanceWith 91 = .ok (.getfield 34, 3) := by decide +kernel
theorem dX1_chanceWith_94 : decode cX1_chanceWith 94 = .ok (.getfield 79, 3) := by decide +kernel
theorem dX1_chanceWith_97 : decode cX1_chanceWith 97 = .ok (.if_icmp .ge 38, 3) := by decide +kernel
theorem dX1_chanceWith_100 : decode cX1_chanceWith 100 = .ok (.aload_n 0, 1) := by decide +kernel
theorem dX1_chanceWith_101 : decode cX1_chanceWith 101 = .ok (.iload 5, 2) := by decide +kernel
theorem dX1_chanceWith_103 : decode cX1_chanceWith 103 = .ok (.iconst 1, 1) := by decide +kernel
theorem dX1_chanceWith_104 : decode cX1_chanceWith 104 = .ok (.iload_n 1, 1) := by decide +kernel
theorem dX1_chanceWith_105 : decode cX1_chanceWith 105 = .ok (.ishl, 1) := by decide +kernel
theorem dX1_chanceWith_106 : decode cX1_chanceWith 106 = .ok (.iconst 1, 1) := by decide +kernel
theorem dX1_chanceWith_107 : decode cX1_chanceWith 107 = .ok (.iload_n 2, 1) := by decide +kernel
theorem dX1_chanceWith_108 : decode cX1_chanceWith 108 = .ok (.ishl, 1) := by decide +kernel
theorem dX1_chanceWith_109 : decode cX1_chanceWith 109 = .ok (.ior, 1) := by decide +kernel
theorem dX1_chanceWith_110 : decode cX1_chanceWith 110 = .ok (.invokevirtual 82, 3) := by decide +kernel
theorem dX1_chanceWith_113 : decode cX1_chanceWith 113 = .ok (.ifCond .eq 16, 3) := by decide +kernel
theorem dX1_chanceWith_116 : decode cX1_chanceWith 116 = .ok (.lload_n 3, 1) := by decide +kernel
theorem dX1_chanceWith_117 : decode cX1_chanceWith 117 = .ok (.aload_n 0, 1) := by decide +kernel
theorem dX1_chanceWith_118 : decode cX1_chanceWith 118 = .ok (.getfield 34, 3) := by decide +kernel
theorem dX1_chanceWith_121 : decode cX1_chanceWith 121 = .ok (.getfield 86, 3) := by decide +kernel
theorem dX1_chanceWith_124 : decode cX1_chanceWith 124 = .ok (.iload 5, 2) := by decide +kernel
theorem dX1_chanceWith_126 : decode cX1_chanceWith 126 = .ok (.laload, 1) := by decide +kernel
theorem dX1_chanceWith_127 : decode cX1_chanceWith 127 = .ok (.ladd, 1) := by decide +kernel
theorem dX1_chanceWith_128 : decode cX1_chanceWith 128 = .ok (.lstore_n 3, 1) := by decide +kernel
theorem dX1_chanceWith_129 : decode cX1_chanceWith 129 = .ok (.iinc 5 1, 3) := by decide +kernel
theorem dX1_chanceWith_132 : decode cX1_chanceWith 132 = .ok (.goto (-44), 3) := by decide +kernel
theorem dX1_chanceWith_135 : decode cX1_chanceWith 135 = .ok (.lload_n 3, 1) := by decide +kernel
theorem dX1_chanceWith_136 : decode cX1_chanceWith 136 = .ok (.lreturn, 1) := by decide +kernel
abbrev o_X1_chanceWith_q140 : Type := Int64 × wd_W
def f_X1_chanceWith_q140_L88 (p1 : Int32) (p2 : Int32) (S5 : wd_W) (r9 : (Int64) → (Int32) → (Option o_X1_chanceWith_q140)) (x7 : Int64) (x8 : Int32) : Option o_X1_chanceWith_q140 :=
if (S5.1 10602) ≤ x8 then (
some (x7, S5)) else (
bd (f_X1_isThroughWith_q140 (wd_o S5 [] [] [] [] []) x8 (((1 : Int32) <<< (p1 &&& 31)) ||| ((1 : Int32) <<< (p2 &&& 31)))) fun o10 =>
lk (fun x11 =>
r9 x11 (x8 + (1 : Int32))) fun k129_12 =>
if o10 = 0 then (
k129_12 x7) else (
gd (okx x8 (S5.2.2.2.2 107)) <|
lz (x7 + ((S5.2.2.2.1 107) x8.toNatClampNeg)) fun x14 =>
k129_12 x14))
def f_X1_chanceWith_q140_L33 (k83_6 : (wd_W) → (Option o_X1_chanceWith_q140)) (r20 : (Int32) → (wd_W) → (Option o_X1_chanceWith_q140)) (x18 : Int32) (S19 : wd_W) : Option o_X1_chanceWith_q140 :=
if (S19.1 10603) < x18 then (
k83_6 S19) else (
bd (f_X7_carries_q153 (wd_o S19 [] [] [(157, (S19.2.2.1 157))] [] []) (x18 ||| ((1 : Int32) <<< ((S19.1 1601) &&& 31)))) fun o21 =>
lk (fun x22 x23 =>
lz (wd_o S19 [] [] [(157, o21.2)] [] []) fun S25 =>
lz (x22.toInt8.toInt32) fun x26 =>
gd (okx x23 (S25.2.2.2.2 141)) <|
lz (upd (S25.2.2.1 141) x23.toNatClampNeg (vp_nar .byte x26)) fun a28 =>
r20 (x18 + (1 : Int32)) (wd_o S25 [] [] [(141, a28)] [] [])) fun k75_24 =>
if o21.1 = 0 then (
k75_24 (0 : Int32) x18) else (
k75_24 (1 : Int32) x18))
def f_X1_chanceWith_q140 (S : wd_W) (p1 : Int32) (p2 : Int32) : Option o_X1_chanceWith_q140 :=
bd (f_X2_copyOf_q142_q16 (wd_o S [(14200, (S.1 14200)), (14201, (S.1 14201)), (14207, (S.1 14207)), (14210, (S.1 14210)), (14214, (S.1 14214)), (14215, (S.1 14215)), (14216, (S.1 14216)), (14217, (S.1 14217))] [] [(143, (S.2.2.1 143)), (144, (S.2.2.1 144)), (145, (S.2.2.1 145)), (146, (S.2.2.1 146)), (147, (S.2.2.1 147)), (148, (S.2.2.1 148)), (149, (S.2.2.1 149)), (150, (S.2.2.1 150)), (151, (S.2.2.1 151)), (152, (S.2.2.1 152))] [] [])) fun o1 =>
bd (f_X2_addLine_q142 (wd_o S [(14200, o1.1), (14201, o1.2.1), (14207, o1.2.2.1), (14210, o1.2.2.2.1), (14214, o1.2.2.2.2.1), (14215, o1.2.2.2.2.2.1), (14216, o1.2.2.2.2.2.2.1), (14217, o1.2.2.2.2.2.2.2.1)] [] [(143, o1.2.2.2.2.2.2.2.2.1), (144, o1.2.2.2.2.2.2.2.2.2.1), (145, o1.2.2.2.2.2.2.2.2.2.2.1), (146, o1.2.2.2.2.2.2.2.2.2.2.2.1), (147, o1.2.2.2.2.2.2.2.2.2.2.2.2.1), (148, o1.2.2.2.2.2.2.2.2.2.2.2.2.2.1), (149, o1.2.2.2.2.2.2.2.2.2.2.2.2.2.2.1), (150, o1.2.2.2.2.2.2.2.2.2.2.2.2.2.2.2.1), (151, o1.2.2.2.2.2.2.2.2.2.2.2.2.2.2.2.2.1), (152, o1.2.2.2.2.2.2.2.2.2.2.2.2.2.2.2.2.2)] [] []) p1 p2 (16 : Int32) (0 : Int32) (1 : Int32)) fun o2 =>
lz (wd_o S [(14200, o1.1), (14201, o2.1), (14207, o1.2.2.1), (14210, o1.2.2.2.1), (14214, o1.2.2.2.2.1), (14215, o1.2.2.2.2.2.1), (14216, o1.2.2.2.2.2.2.1), (14217, o1.2.2.2.2.2.2.2.1)] [] [(143, o2.2.1), (144, o2.2.2.1), (145, o2.2.2.2.1), (146, o2.2.2.2.2.1), (147, o2.2.2.2.2.2), (148, o1.2.2.2.2.2.2.2.2.2.2.2.2.2.1), (149, o1.2.2.2.2.2.2.2.2.2.2.2.2.2.2.1), (150, o1.2.2.2.2.2.2.2.2.2.2.2.2.2.2.2.1), (151, o1.2.2.2.2.2.2.2.2.2.2.2.2.2.2.2.2.1), (152, o1.2.2.2.2.2.2.2.2.2.2.2.2.2.2.2.2.2)] [] []) fun S4 =>
bd (f_X7_follow_q153 (wd_o S4 [(15300, (S4.1 15300)), (15301, (S4.1 15301)), (15302, (S4.1 15302)), (15303, (S4.1 15303))] [] [(154, (S4.2.2.1 154)), (155, (S4.2.2.1 155)), (156, (S4.2.2.1 156))] [] [])) fun o3 =>
lk (fun S5 =>
it2 (f_X1_chanceWith_q140_L88 p1 p2 S5) fuel (0 : Int64) (0 : Int32)) fun k83_6 =>
it2 (f_X1_chanceWith_q140_L33 k83_6) fuel (0 : Int32) (wd_o S4 [(15300, o3.1), (15301, o3.2.1), (15302, o3.2.2.1), (15303, o3.2.2.2.1)] [] [(154, o3.2.2.2.2.1), (155, o3.2.2.2.2.2.1), (156, o3.2.2.2.2.2.2)] [] [])
set_option maxRecDepth 100000 in
set_option maxHeartbeats 4000000 in
theorem c_X1_chanceWith_q140 (l : Launch) (D : va_G) (q g : Nat → Nat) (cy : Nat → ClassId) (z : (Nat → Nat) × (Nat → Nat) × Nat) (S : wd_W) (p1 : Int32) (p2 : Int32) (o : o_X1_chanceWith_q140) (hf : f_X1_chanceWith_q140 S p1 p2 = some o) : MX layX l yX1_chanceWith cX1_chanceWith 6 (some .long) ({ frames := 3, cells := 0, slots := 0, locals := 102 } : Room) D q g cy z [.ref (q 140), .int p1, .int p2] S false (some (.long o.1)) o.2 0 0 := by
  refine mx_of (own := RX1) (lc := [(0, .ref (q 140)), (1, .int p1), (2, .int p2)]) (by decide +kernel) rfl layX_ok (Nat.le_of_ble_eq_true rfl) rfl ?_
  intro X hXl hXq hXz hC hQ
  subst hXl; subst hXq; subst hXz
  unfold f_X1_chanceWith_q140 at hf
  refine go_aload_n (pc' := 1) hC dX1_chanceWith_0 rfl rfl ?_
  refine go_getq (pc' := 4) hC 140 5 layX_140 rfl rfl inlX1 (Nat.le_of_ble_eq_true rfl) mw_162 rfl dX1_chanceWith_1 rfl ?_
  refine go_aload_n (pc' := 5) hC dX1_chanceWith_4 rfl rfl ?_
  refine go_getq (pc' := 8) hC 140 3 layX_140 rfl rfl inlX1 (Nat.le_of_ble_eq_true rfl) mw_166 rfl dX1_chanceWith_5 rfl ?_
  refine go_keys (L1 := [(14200, (S.1 14200)), (14201, (S.1 14201)), (14207, (S.1 14207)), (14210, (S.1 14210)), (14214, (S.1 14214)), (14215, (S.1 14215)), (14216, (S.1 14216)), (14217, (S.1 14217))]) (L2 := []) (L3 := [(143, (S.2.2.1 143)), (144, (S.2.2.1 144)), (145, (S.2.2.1 145)), (146, (S.2.2.1 146)), (147, (S.2.2.1 147)), (148, (S.2.2.1 148)), (149, (S.2.2.1 149)), (150, (S.2.2.1 150)), (151, (S.2.2.1 151)), (152, (S.2.2.1 152))]) (L4 := []) (L5 := []) [14200, 14201, 14207, 14210, 14214, 14215, 14216, 14217] [] [143, 144, 145, 146, 147, 148, 149, 150, 151, 152] [] [] rfl rfl rfl rfl rfl ?_
  obtain ⟨o1, ho1, hf⟩ := bd_e hf
  refine go_callV1 (pc' := 11) (As := [.ref (x_q X 16)]) (st := []) (st' := []) (L1' := [(14200, o1.1), (14201, o1.2.1), (14207, o1.2.2.1), (14210, o1.2.2.2.1), (14214, o1.2.2.2.2.1), (14215, o1.2.2.2.2.2.1), (14216, o1.2.2.2.2.2.2.1), (14217, o1.2.2.2.2.2.2.2.1)]) (L2' := []) (L3' := [(143, o1.2.2.2.2.2.2.2.2.1), (144, o1.2.2.2.2.2.2.2.2.2.1), (145, o1.2.2.2.2.2.2.2.2.2.2.1), (146, o1.2.2.2.2.2.2.2.2.2.2.2.1), (147, o1.2.2.2.2.2.2.2.2.2.2.2.2.1), (148, o1.2.2.2.2.2.2.2.2.2.2.2.2.2.1), (149, o1.2.2.2.2.2.2.2.2.2.2.2.2.2.2.1), (150, o1.2.2.2.2.2.2.2.2.2.2.2.2.2.2.2.1), (151, o1.2.2.2.2.2.2.2.2.2.2.2.2.2.2.2.2.1), (152, o1.2.2.2.2.2.2.2.2.2.2.2.2.2.2.2.2.2)]) (L4' := []) (L5' := []) (cells' := 0) (slots' := 0)  (b := 142) hC dX1_chanceWith_8 ⟨mw_1155, mw_464, mw_14, yd_yX2_copyOf, yp_yX2_copyOf, Nat.le_of_ble_eq_true rfl, Nat.le_of_ble_eq_true rfl, (Nat.le_of_ble_eq_true rfl), (Nat.le_of_ble_eq_true rfl)⟩ mw_462 mw_463 layX_142 rfl rfl rfl (Nat.le_of_ble_eq_true rfl) (c_X2_copyOf_q142_q16 (x_l X) (x_D X) (x_q X) g (x_cy X) (x_z X) _  o1 ho1) rfl rfl rfl rfl rfl rfl rfl rfl rfl rfl rfl rfl rfl rfl ?_
  refine go_aload_n (pc' := 12) hC dX1_chanceWith_11 rfl rfl ?_
  refine go_getq (pc' := 15) hC 140 5 layX_140 rfl rfl inlX1 (Nat.le_of_ble_eq_true rfl) mw_162 rfl dX1_chanceWith_12 rfl ?_
  refine go_iload_n (pc' := 16) hC dX1_chanceWith_15 rfl rfl ?_
  refine go_iload_n (pc' := 17) hC dX1_chanceWith_16 rfl rfl ?_
  refine go_bipush (pc' := 19) hC dX1_chanceWith_17 kb_16 rfl ?_
  refine go_iconst (pc' := 20) hC dX1_chanceWith_19 ki_0 rfl ?_
  refine go_iconst (pc' := 21) hC dX1_chanceWith_20 ki_1 rfl ?_
  obtain ⟨o2, ho2, hf⟩ := bd_e hf
  refine go_callV1 (pc' := 24) (As := [.int p1, .int p2, .int (16 : Int32), .int (0 : Int32), .int (1 : Int32)]) (st := []) (st' := []) (L1' := [(14200, o1.1), (14201, o2.1), (14207, o1.2.2.1), (14210, o1.2.2.2.1), (14214, o1.2.2.2.2.1), (14215, o1.2.2.2.2.2.1), (14216, o1.2.2.2.2.2.2.1), (14217, o1.2.2.2.2.2.2.2.1)]) (L2' := []) (L3' := [(143, o2.2.1), (144, o2.2.2.1), (145, o2.2.2.2.1), (146, o2.2.2.2.2.1), (147, o2.2.2.2.2.2), (148, o1.2.2.2.2.2.2.2.2.2.2.2.2.2.1), (149, o1.2.2.2.2.2.2.2.2.2.2.2.2.2.2.1), (150, o1.2.2.2.2.2.2.2.2.2.2.2.2.2.2.2.1), (151, o1.2.2.2.2.2.2.2.2.2.2.2.2.2.2.2.2.1), (152, o1.2.2.2.2.2.2.2.2.2.2.2.2.2.2.2.2.2)]) (L4' := []) (L5' := []) (cells' := 0) (slots' := 0)  (b := 142) hC dX1_chanceWith_21 ⟨mw_1156, mw_430, mw_14, yd_yX2_addLine, yp_yX2_addLine, Nat.le_of_ble_eq_true rfl, Nat.le_of_ble_eq_true rfl, (Nat.le_of_ble_eq_true rfl), (Nat.le_of_ble_eq_true rfl)⟩ mw_428 mw_429 layX_142 rfl rfl rfl (Nat.le_of_ble_eq_true rfl) (c_X2_addLine_q142 (x_l X) (x_D X) (x_q X) g (x_cy X) (x_z X) _ p1 p2 (16 : Int32) (0 : Int32) (1 : Int32) o2 ho2) rfl rfl rfl rfl rfl rfl rfl rfl rfl rfl rfl rfl rfl rfl ?_
  refine go_aload_n (pc' := 25) hC dX1_chanceWith_24 rfl rfl ?_
  refine go_getq (pc' := 28) hC 140 6 layX_140 rfl rfl inlX1 (Nat.le_of_ble_eq_true rfl) mw_164 rfl dX1_chanceWith_25 rfl ?_
  refine go_base (fun S4 hx => ?_)
  have hf := lz_r hx hf
  clear hx
  refine go_keys (L1 := [(15300, (S4.1 15300)), (15301, (S4.1 15301)), (15302, (S4.1 15302)), (15303, (S4.1 15303))]) (L2 := []) (L3 := [(154, (S4.2.2.1 154)), (155, (S4.2.2.1 155)), (156, (S4.2.2.1 156))]) (L4 := []) (L5 := []) [15300, 15301, 15302, 15303] [] [154, 155, 156] [] [] rfl rfl rfl rfl rfl ?_
  obtain ⟨o3, ho3, hf⟩ := bd_e hf
  refine go_callV1 (pc' := 31) (As := []) (st := []) (st' := []) (L1' := [(15300, o3.1), (15301, o3.2.1), (15302, o3.2.2.1), (15303, o3.2.2.2.1)]) (L2' := []) (L3' := [(154, o3.2.2.2.2.1), (155, o3.2.2.2.2.2.1), (156, o3.2.2.2.2.2.2)]) (L4' := []) (L5' := []) (cells' := 0) (slots' := 0)  (b := 153) hC dX1_chanceWith_28 ⟨mw_1157, mw_616, mw_99, yd_yX7_follow, yp_yX7_follow, Nat.le_of_ble_eq_true rfl, Nat.le_of_ble_eq_true rfl, (Nat.le_of_ble_eq_true rfl), (Nat.le_of_ble_eq_true rfl)⟩ mw_614 mw_615 layX_153 rfl rfl rfl (Nat.le_of_ble_eq_true rfl) (c_X7_follow_q153 (x_l X) (x_D X) (x_q X) g (x_cy X) (x_z X) _  o3 ho3) rfl rfl rfl rfl rfl rfl rfl rfl rfl rfl rfl rfl rfl rfl ?_
  refine go_iconst (pc' := 32) hC dX1_chanceWith_31 ki_0 rfl ?_
  refine go_istore_n (lc' := [(0, .ref (x_q X 140)), (1, .int p1), (2, .int p2), (3, .int (0 : Int32))]) (pc' := 33) hC dX1_chanceWith_32 (Nat.le_of_ble_eq_true rfl) rfl rfl ?_
  obtain ⟨k83_6, hk83_6, hf⟩ := lk_e1 hf
  have jk83_6 : ∀ (S5 : wd_W), k83_6 S5 = some o → Go X layX S5 83 [(0, .ref (x_q X 140)), (1, .int p1), (2, .int p2)] [] g [] [] [] [] [] 0 0 := by
    intro S5 hf
    have hf := hk83_6 S5 hf
    clear hk83_6
    refine go_lconst (pc' := 84) hC dX1_chanceWith_83 kl_0 rfl ?_
    refine go_lstore_n (lc' := [(0, .ref (x_q X 140)), (1, .int p1), (2, .int p2), (3, .long (0 : Int64))]) (pc' := 85) hC dX1_chanceWith_84 (Nat.le_of_ble_eq_true rfl) rfl rfl ?_
    refine go_iconst (pc' := 86) hC dX1_chanceWith_85 ki_0 rfl ?_
    refine go_istore (lc' := [(0, .ref (x_q X 140)), (1, .int p1), (2, .int p2), (3, .long (0 : Int64)), (5, .int (0 : Int32))]) (pc' := 88) hC dX1_chanceWith_86 (Nat.le_of_ble_eq_true rfl) rfl rfl ?_
    have l88_17 : ∀ (nn : Nat) (x7 : Int64) (x8 : Int32), it2 (f_X1_chanceWith_q140_L88 p1 p2 S5) nn x7 x8 = some o → Go X layX S5 88 [(0, .ref (x_q X 140)), (1, .int p1), (2, .int p2), (3, .long x7), (5, .int x8)] [] g [] [] [] [] [] 0 0 := by
      intro nn
      induction nn with
      | zero =>
        intro x7 x8 hf
        exact none_no hf
      | succ nn ih =>
        intro x7 x8 hf
        have hf : f_X1_chanceWith_q140_L88 p1 p2 S5 (it2 (f_X1_chanceWith_q140_L88 p1 p2 S5) nn) x7 x8 = some o := hf
        generalize it2 (f_X1_chanceWith_q140_L88 p1 p2 S5) nn = r9 at ih hf
        unfold f_X1_chanceWith_q140_L88 at hf
        refine go_iload (pc' := 90) hC dX1_chanceWith_88 rfl rfl ?_
        refine go_aload_n (pc' := 91) hC dX1_chanceWith_90 rfl rfl ?_
        refine go_getq (pc' := 94) hC 140 4 layX_140 rfl rfl inlX1 (Nat.le_of_ble_eq_true rfl) mw_167 rfl dX1_chanceWith_91 rfl ?_
        refine go_geti (v := (S5.1 10602)) (pc' := 97) hC 106 2 layX_106 rfl rfl inlX8 (Nat.le_of_ble_eq_true rfl) mw_1153 rfl dX1_chanceWith_94 rfl rfl ?_
        refine go_icmp_ge (tgt := 135) (pc' := 100) hC dX1_chanceWith_97 (by decide) rfl (fun h16 => ?_) (fun h16 => ?_)
        · have hf := ite_t h16 hf
          refine go_lload_n (pc' := 136) hC dX1_chanceWith_135 rfl rfl ?_
          obtain rfl := Option.some.inj hf
          exact go_lret hC hQ dX1_chanceWith_136 rfl rfl rfl (fun _ => rfl) rfl rfl
        · have hf := ite_f h16 hf
          refine go_aload_n (pc' := 101) hC dX1_chanceWith_100 rfl rfl ?_
          refine go_iload (pc' := 103) hC dX1_chanceWith_101 rfl rfl ?_
          refine go_iconst (pc' := 104) hC dX1_chanceWith_103 ki_1 rfl ?_
          refine go_iload_n (pc' := 105) hC dX1_chanceWith_104 rfl rfl ?_
          refine go_ishl (pc' := 106) hC dX1_chanceWith_105 rfl ?_
          refine go_iconst (pc' := 107) hC dX1_chanceWith_106 ki_1 rfl ?_
          refine go_iload_n (pc' := 108) hC dX1_chanceWith_107 rfl rfl ?_
          refine go_ishl (pc' := 109) hC dX1_chanceWith_108 rfl ?_
          refine go_ior (pc' := 110) hC dX1_chanceWith_109 rfl ?_
          obtain ⟨o10, ho10, hf⟩ := bd_e hf
          refine go_callV0 (pc' := 113) (As := [.int x8, .int (((1 : Int32) <<< (p1 &&& 31)) ||| ((1 : Int32) <<< (p2 &&& 31)))]) (st := []) (st' := [.int o10])    (b := 140) hC dX1_chanceWith_110 ⟨mw_1159, mw_1162, mw_48, yd_yX1_isThroughWith, yp_yX1_isThroughWith, Nat.le_of_ble_eq_true rfl, Nat.le_of_ble_eq_true rfl, (Nat.le_of_ble_eq_true rfl), (Nat.le_of_ble_eq_true rfl)⟩ mw_1160 mw_1161 layX_140 rfl rfl rfl (Nat.le_of_ble_eq_true rfl) (c_X1_isThroughWith_q140 (x_l X) (x_D X) (x_q X) g (x_cy X) (x_z X) _ x8 (((1 : Int32) <<< (p1 &&& 31)) ||| ((1 : Int32) <<< (p2 &&& 31))) o10 ho10) rfl rfl ?_
          obtain ⟨k129_12, hk129_12, hf⟩ := lk_e1 hf
          have jk129_12 : ∀ (x11 : Int64), k129_12 x11 = some o → Go X layX S5 129 [(0, .ref (x_q X 140)), (1, .int p1), (2, .int p2), (3, .long x11), (5, .int x8)] [] g [] [] [] [] [] 0 0 := by
            intro x11 hf
            have hf := hk129_12 x11 hf
            clear hk129_12
            refine go_iinc (lc' := [(0, .ref (x_q X 140)), (1, .int p1), (2, .int p2), (3, .long x11), (5, .int (x8 + (1 : Int32)))]) (pc' := 132) hC dX1_chanceWith_129 rfl ki_1 (Nat.le_of_ble_eq_true rfl) rfl rfl ?_
            refine go_goto (tgt := 88) hC dX1_chanceWith_132 (by decide) ?_
            exact ih x11 (x8 + (1 : Int32)) hf
          clear hk129_12
          refine go_if_eq (tgt := 129) (pc' := 116) hC dX1_chanceWith_113 (by decide) rfl (fun h15 => ?_) (fun h15 => ?_)
          · have hf := ite_t h15 hf
            exact jk129_12 x7 hf
          · have hf := ite_f h15 hf
            refine go_lload_n (pc' := 117) hC dX1_chanceWith_116 rfl rfl ?_
            refine go_aload_n (pc' := 118) hC dX1_chanceWith_117 rfl rfl ?_
            refine go_getq (pc' := 121) hC 140 4 layX_140 rfl rfl inlX1 (Nat.le_of_ble_eq_true rfl) mw_167 rfl dX1_chanceWith_118 rfl ?_
            refine go_getg (pc' := 124) hC 106 4 layX_106 rfl rfl inlX8 (Nat.le_of_ble_eq_true rfl) mw_1154 rfl dX1_chanceWith_121 rfl ?_
            refine go_iload (pc' := 126) hC dX1_chanceWith_124 rfl rfl ?_
            obtain ⟨h13, hf⟩ := gd_e hf
            refine go_laldg (f := (S5.2.2.2.1 107)) (pc' := 127) hC 107 layX_107 rfl rfl dX1_chanceWith_126 (okx_in h13) rfl ?_
            refine go_ladd (pc' := 128) hC dX1_chanceWith_127 rfl ?_
            refine go_namel (fun x14 hx => ?_)
            have hf := lz_r hx hf
            clear hx
            refine go_lstore_n (lc' := [(0, .ref (x_q X 140)), (1, .int p1), (2, .int p2), (3, .long x14), (5, .int x8)]) (pc' := 129) hC dX1_chanceWith_128 (Nat.le_of_ble_eq_true rfl) rfl rfl ?_
            exact jk129_12 x14 hf
    exact l88_17 fuel (0 : Int64) (0 : Int32) hf
  clear hk83_6
  have l33_31 : ∀ (nn : Nat) (x18 : Int32) (S19 : wd_W), it2 (f_X1_chanceWith_q140_L33 k83_6) nn x18 S19 = some o → Go X layX S19 33 [(0, .ref (x_q X 140)), (1, .int p1), (2, .int p2), (3, .int x18)] [] g [] [] [] [] [] 0 0 := by
    intro nn
    induction nn with
    | zero =>
      intro x18 S19 hf
      exact none_no hf
    | succ nn ih =>
      intro x18 S19 hf
      have hf : f_X1_chanceWith_q140_L33 k83_6 (it2 (f_X1_chanceWith_q140_L33 k83_6) nn) x18 S19 = some o := hf
      generalize it2 (f_X1_chanceWith_q140_L33 k83_6) nn = r20 at ih hf
      unfold f_X1_chanceWith_q140_L33 at hf
      refine go_iload_n (pc' := 34) hC dX1_chanceWith_33 rfl rfl ?_
      refine go_aload_n (pc' := 35) hC dX1_chanceWith_34 rfl rfl ?_
      refine go_getq (pc' := 38) hC 140 4 layX_140 rfl rfl inlX1 (Nat.le_of_ble_eq_true rfl) mw_167 rfl dX1_chanceWith_35 rfl ?_
      refine go_geti (v := (S19.1 10603)) (pc' := 41) hC 106 3 layX_106 rfl rfl inlX8 (Nat.le_of_ble_eq_true rfl) mw_1142 rfl dX1_chanceWith_38 rfl rfl ?_
      refine go_icmp_gt (tgt := 83) (pc' := 44) hC dX1_chanceWith_41 (by decide) rfl (fun h30 => ?_) (fun h30 => ?_)
      · have hf := ite_t h30 hf
        refine go_sub [0, 1, 2] rfl ?_
        exact jk83_6 S19 hf
      · have hf := ite_f h30 hf
        refine go_aload_n (pc' := 45) hC dX1_chanceWith_44 rfl rfl ?_
        refine go_getg (pc' := 48) hC 140 7 layX_140 rfl rfl inlX1 (Nat.le_of_ble_eq_true rfl) mw_165 rfl dX1_chanceWith_45 rfl ?_
        refine go_iload_n (pc' := 49) hC dX1_chanceWith_48 rfl rfl ?_
        refine go_aload_n (pc' := 50) hC dX1_chanceWith_49 rfl rfl ?_
        refine go_getq (pc' := 53) hC 140 6 layX_140 rfl rfl inlX1 (Nat.le_of_ble_eq_true rfl) mw_164 rfl dX1_chanceWith_50 rfl ?_
        refine go_iload_n (pc' := 54) hC dX1_chanceWith_53 rfl rfl ?_
        refine go_iconst (pc' := 55) hC dX1_chanceWith_54 ki_1 rfl ?_
        refine go_aload_n (pc' := 56) hC dX1_chanceWith_55 rfl rfl ?_
        refine go_getq (pc' := 59) hC 140 3 layX_140 rfl rfl inlX1 (Nat.le_of_ble_eq_true rfl) mw_166 rfl dX1_chanceWith_56 rfl ?_
        refine go_geti (v := (S19.1 1601)) (pc' := 62) hC 16 1 layX_16 rfl rfl inlX2 (Nat.le_of_ble_eq_true rfl) mw_1152 rfl dX1_chanceWith_59 rfl rfl ?_
        refine go_ishl (pc' := 63) hC dX1_chanceWith_62 rfl ?_
        refine go_ior (pc' := 64) hC dX1_chanceWith_63 rfl ?_
        refine go_keys (L1 := []) (L2 := []) (L3 := [(157, (S19.2.2.1 157))]) (L4 := []) (L5 := []) [] [] [157] [] [] rfl rfl rfl rfl rfl ?_
        obtain ⟨o21, ho21, hf⟩ := bd_e hf
        refine go_callV1 (pc' := 67) (As := [.int (x18 ||| ((1 : Int32) <<< ((S19.1 1601) &&& 31)))]) (st := [.int x18, .ref (g 141)]) (st' := [.int o21.1, .int x18, .ref (g 141)]) (L1' := []) (L2' := []) (L3' := [(157, o21.2)]) (L4' := []) (L5' := []) (cells' := 0) (slots' := 0)  (b := 153) hC dX1_chanceWith_64 ⟨mw_1158, mw_664, mw_99, yd_yX7_carries, yp_yX7_carries, Nat.le_of_ble_eq_true rfl, Nat.le_of_ble_eq_true rfl, (Nat.le_of_ble_eq_true rfl), (Nat.le_of_ble_eq_true rfl)⟩ mw_662 mw_663 layX_153 rfl rfl rfl (Nat.le_of_ble_eq_true rfl) (c_X7_carries_q153 (x_l X) (x_D X) (x_q X) g (x_cy X) (x_z X) _ (x18 ||| ((1 : Int32) <<< ((S19.1 1601) &&& 31))) o21 ho21) rfl rfl rfl rfl rfl rfl rfl rfl rfl rfl rfl rfl rfl rfl ?_
        obtain ⟨k75_24, hk75_24, hf⟩ := lk_e2 hf
        have jk75_24 : ∀ (x22 : Int32) (x23 : Int32), k75_24 x22 x23 = some o → Go X layX S19 75 [(0, .ref (x_q X 140)), (1, .int p1), (2, .int p2), (3, .int x18)] [.int x22, .int x23, .ref (g 141)] g [] [] [(157, o21.2)] [] [] 0 0 := by
          intro x22 x23 hf
          have hf := hk75_24 x22 x23 hf
          clear hk75_24
          refine go_i2b (pc' := 76) hC dX1_chanceWith_75 rfl ?_
          refine go_base (fun S25 hx => ?_)
          have hf := lz_r hx hf
          clear hx
          refine go_keys (L1 := []) (L2 := []) (L3 := [(141, (S25.2.2.1 141))]) (L4 := []) (L5 := []) [] [] [141] [] [] rfl rfl rfl rfl rfl ?_
          refine go_namei (fun x26 hx => ?_)
          have hf := lz_r hx hf
          clear hx
          obtain ⟨h27, hf⟩ := gd_e hf
          refine go_bastg (f := (S25.2.2.1 141)) (pc' := 77) hC 141 layX_141 rfl rfl dX1_chanceWith_76 (okx_in h27) rfl rfl (fun a28 ha L3' hL => ?_)
          have hf := lz_r ha hf
          clear ha
          obtain rfl : L3' = [(141, a28)] := hL.symm
          refine go_iinc (lc' := [(0, .ref (x_q X 140)), (1, .int p1), (2, .int p2), (3, .int (x18 + (1 : Int32)))]) (pc' := 80) hC dX1_chanceWith_77 rfl ki_1 (Nat.le_of_ble_eq_true rfl) rfl rfl ?_
          refine go_goto (tgt := 33) hC dX1_chanceWith_80 (by decide) ?_
          refine go_base (fun S9 hS9 => ?_)
          subst hS9
          exact ih (x18 + (1 : Int32)) (wd_o S25 [] [] [(141, a28)] [] []) hf
        clear hk75_24
        refine go_if_eq (tgt := 74) (pc' := 70) hC dX1_chanceWith_67 (by decide) rfl (fun h29 => ?_) (fun h29 => ?_)
        · have hf := ite_t h29 hf
          refine go_iconst (pc' := 75) hC dX1_chanceWith_74 ki_0 rfl ?_
          exact jk75_24 (0 : Int32) x18 hf
        · have hf := ite_f h29 hf
          refine go_iconst (pc' := 71) hC dX1_chanceWith_70 ki_1 rfl ?_
          refine go_goto (tgt := 75) hC dX1_chanceWith_71 (by decide) ?_
          exact jk75_24 (1 : Int32) x18 hf
  refine go_base (fun S9 hS9 => ?_)
  subst hS9
  exact l33_31 fuel (0 : Int32) (wd_o S4 [(15300, o3.1), (15301, o3.2.1), (15302, o3.2.2.1), (15303, o3.2.2.2.1)] [] [(154, o3.2.2.2.2.1), (155, o3.2.2.2.2.2.1), (156, o3.2.2.2.2.2.2)] [] []) hf
theorem dX1_tryAll_0 : decode cX1_tryAll 0 = .ok (.aload_n 0, 1) := by decide +kernel
theorem dX1_tryAll_1 : decode cX1_tryAll 1 = .ok (.getfield 27, 3) := by decide +kernel
theorem dX1_tryAll_4 : decode cX1_tryAll 4 = .ok (.arraylength, 1) := by decide +kernel
theorem dX1_tryAll_5 : decode cX1_tryAll 5 = .ok (.aload_n 0, 1) := by decide +kernel
theorem dX1_tryAll_6 : decode cX1_tryAll 6 = .ok (.getfield 34, 3) := by decide +kernel
theorem dX1_tryAll_9 : decode cX1_tryAll 9 = .ok (.getfield 38, 3) := by decide +kernel
theorem dX1_tryAll_12 : decode cX1_tryAll 12 = .ok (.if_icmp .gt 18, 3) := by decide +kernel
theorem dX1_tryAll_15 : decode cX1_tryAll 15 = .ok (.aload_n 0, 1) := by decide +kernel
theorem dX1_tryAll_16 : decode cX1_tryAll 16 = .ok (.aload_n 0, 1) := by decide +kernel
theorem dX1_tryAll_17 : decode cX1_tryAll 17 = .ok (.getfield 34, 3) := by decide +kernel
theorem dX1_tryAll_20 : decode cX1_tryAll 20 = .ok (.getfield 38, 3) := by decide +kernel
theorem dX1_tryAll_23 : decode cX1_tryAll 23 = .ok (.iconst 1, 1) := by decide +kernel
theorem dX1_tryAll_24 : decode cX1_tryAll 24 = .ok (.iadd, 1) := by decide +kernel
theorem dX1_tryAll_25 : decode cX1_tryAll 25 = .ok (.newarray .byte, 2) := by decide +kernel
theorem dX1_tryAll_27 : decode cX1_tryAll 27 = .ok (.putfield 27, 3) := by decide +kernel
theorem dX1_tryAll_30 : decode cX1_tryAll 30 = .ok (.aload_n 0, 1) := by decide +kernel
theorem dX1_tryAll_31 : decode cX1_tryAll 31 = .ok (.ldc2_w 44, 3) := by decide +kernel
theorem dX1_tryAll_34 : decode cX1_tryAll 34 = .ok (.putfield 46, 3) := by decide +kernel
theorem dX1_tryAll_37 : decode cX1_tryAll 37 = .ok (.iconst 0, 1) := by decide +kernel
theorem dX1_tryAll_38 : decode cX1_tryAll 38 = .ok (.istore_n 1, 1) := by decide +kernel
theorem dX1_tryAll_39 : decode cX1_tryAll 39 = .ok (.iload_n 1, 1) := by decide +kernel
theorem dX1_tryAll_40 : decode cX1_tryAll 40 = .ok (.aload_n 0, 1) := by decide +kernel
theorem dX1_tryAll_41 : decode cX1_tryAll 41 = .ok (.getfield 31, 3) := by decide +kernel
theorem dX1_tryAll_44 : decode cX1_tryAll 44 = .ok (.getfield 50, 3) := by decide +kernel
theorem dX1_tryAll_47 : decode cX1_tryAll 47 = .ok (.if_icmp .ge 61, 3) := by decide +kernel
theorem dX1_tryAll_50 : decode cX1_tryAll 50 = .ok (.iload_n 1, 1) := by decide +kernel
theorem dX1_tryAll_51 : decode cX1_tryAll 51 = .ok (.iconst 1, 1) := by decide +kernel
theorem dX1_tryAll_52 : decode cX1_tryAll 52 = .ok (.iadd, 1) := by decide +kernel
theorem dX1_tryAll_53 : decode cX1_tryAll 53 = .ok (.istore_n 2, 1) := by decide +kernel
theorem dX1_tryAll_54 : decode cX1_tryAll 54 = .ok (.iload_n 2, 1) := by decide +kernel
theorem dX1_tryAll_55 : decode cX1_tryAll 55 = .ok (.aload_n 0, 1) := by decide +kernel
theorem dX1_tryAll_56 : decode cX1_tryAll 56 = .ok (.getfield 31, 3) := by decide +kernel
theorem dX1_tryAll_59 : decode cX1_tryAll 59 = .ok (.getfield 50, 3) := by decide +kernel
theorem dX1_tryAll_62 : decode cX1_tryAll 62 = .ok (.if_icmp .ge 40, 3) := by decide +kernel
theorem dX1_tryAll_65 : decode cX1_tryAll 65 = .ok (.aload_n 0, 1) := by decide +kernel
theorem dX1_tryAll_66 : decode cX1_tryAll 66 = .ok (.iload_n 1, 1) := by decide +kernel
theorem dX1_tryAll_67 : decode cX1_tryAll 67 = .ok (.iload_n 2, 1) := by decide +kernel
theorem dX1_tryAll_68 : decode cX1_tryAll 68 = .ok (.invokevirtual 53, 3) := by decide +kernel
theorem dX1_tryAll_71 : decode cX1_tryAll 71 = .ok (.lstore_n 3, 1) := by decide +kernel
theorem dX1_tryAll_72 : decode cX1_tryAll 72 = .ok (.lload_n 3, 1) := by decide +kernel
theorem dX1_tryAll_73 : decode cX1_tryAll 73 = .ok (.aload_n 0, 1) := by decide +kernel
theorem dX1_tryAll_74 : decode cX1_tryAll 74 = .ok (.getfield 46, 3) := by decide +kernel
theorem dX1_tryAll_77 : decode cX1_tryAll 77 = .ok (.lcmp, 1) := by decide +kernel
theorem dX1_tryAll_78 : decode cX1_tryAll 78 = .ok (.ifCond .le 18, 3) := by decide +kernel
theorem dX1_tryAll_81 : decode cX1_tryAll 81 = .ok (.aload_n 0, 1) := by decide +kernel
theorem dX1_tryAll_82 : decode cX1_tryAll 82 = .ok (.iload_n 1, 1) := by decide +kernel
theorem dX1_tryAll_83 : decode cX1_tryAll 83 = .ok (.putfield 57, 3) := by decide +kernel
theorem dX1_tryAll_86 : decode cX1_tryAll 86 = .ok (.aload_n 0, 1) := by decide +kernel
theorem dX1_tryAll_87 : decode cX1_tryAll 87 = .ok (.iload_n 2, 1) := by decide +kernel
theorem dX1_tryAll_88 : decode cX1_tryAll 88 = .ok (.putfield 60, 3) := by decide +kernel
theorem dX1_tryAll_91 : decode cX1_tryAll 91 = .ok (.aload_n 0, 1) := by decide +kernel
theorem dX1_tryAll_92 : decode cX1_tryAll 92 = .ok (.lload_n 3, 1) := by decide +kernel
theorem dX1_tryAll_93 : decode cX1_tryAll 93 = .ok (.putfield 46, 3) := by decide +kernel
theorem dX1_tryAll_96 : decode cX1_tryAll 96 = .ok (.iinc 2 1, 3) := by decide +kernel
theorem dX1_tryAll_99 : decode cX1_tryAll 99 = .ok (.goto (-45), 3) := by decide +kernel
theorem dX1_tryAll_102 : decode cX1_tryAll 102 = .ok (.iinc 1 1, 3) := by decide +kernel
theorem dX1_tryAll_105 : decode cX1_tryAll 105 = .ok (.goto (-66), 3) := by decide +kernel
theorem dX1_tryAll_108 : decode cX1_tryAll 108 = .ok (.return_, 1) := by decide +kernel
abbrev o_X1_tryAll_q140 : Type := wd_W × Nat × Nat
def f_X1_tryAll_q140_L54 (n2 : Nat) (n3 : Nat) (x5 : Int32) (k102_10 : (wd_W) → (Option o_X1_tryAll_q140)) (r13 : (Int32) → (wd_W) → (Option o_X1_tryAll_q140)) (x11 : Int32) (S12 : wd_W) : Option o_X1_tryAll_q140 :=
if (S12.1 1600) ≤ x11 then (
k102_10 S12) else (
gd (okr n2 n3 0 0 1 5000) <|
bd (f_X1_chanceWith_q140 (wd_o S12 [] [] [] [] []) x5 x11) fun o14 =>
lk (fun S16 =>
r13 (x11 + (1 : Int32)) S16) fun k96_17 =>
if o14.1 ≤ (o14.2.2.1 14002) then (
k96_17 o14.2) else (
lz (wd_o o14.2 [(14000, x5)] [] [] [] []) fun S18 =>
lz (wd_o S18 [(14001, x11)] [] [] [] []) fun S19 =>
k96_17 (wd_o S19 [] [(14002, o14.1)] [] [] [])))
def f_X1_tryAll_q140_L39 (n2 : Nat) (n3 : Nat) (r7 : (Int32) → (wd_W) → (Option o_X1_tryAll_q140)) (x5 : Int32) (S6 : wd_W) : Option o_X1_tryAll_q140 :=
if (S6.1 1600) ≤ x5 then (
some (S6, n2, n3)) else (
lz (x5 + (1 : Int32)) fun x8 =>
lk (fun S9 =>
r7 (x5 + (1 : Int32)) S9) fun k102_10 =>
it2 (f_X1_tryAll_q140_L54 n2 n3 x5 k102_10) fuel x8 S6)
def f_X1_tryAll_q140 (S : wd_W) : Option o_X1_tryAll_q140 :=
lk (fun S1 n2 n3 =>
it2 (f_X1_tryAll_q140_L39 n2 n3) fuel (0 : Int32) (wd_o S1 [] [(14002, (-1 : Int64))] [] [] [])) fun k30_4 =>
if (S.1 10603) < (Int32.ofNat (S.2.2.2.2 141)) then (
k30_4 S 0 0) else (
lz ((S.1 10603) + (1 : Int32)) fun x25 =>
gd (okg x25 0 0 1 5000) <|
k30_4 (wd_o S [] [] [(141, (fun _ => 0))] [] [(141, (x25).toNatClampNeg)]) (0 + 1) (0 + (x25).toNatClampNeg))
set_option maxRecDepth 100000 in
set_option maxHeartbeats 4000000 in
theorem c_X1_tryAll_q140 (l : Launch) (D : va_G) (q g : Nat → Nat) (cy : Nat → ClassId) (z : (Nat → Nat) × (Nat → Nat) × Nat) (S : wd_W) (o : o_X1_tryAll_q140) (hf : f_X1_tryAll_q140 S = some o) : MX layX l yX1_tryAll cX1_tryAll 5 none ({ frames := 4, cells := 1, slots := 5000, locals := 127 } : Room) D q g cy z [.ref (q 140)] S true (none) o.1 o.2.1 o.2.2 := by
  refine mx_of (own := RX1) (lc := [(0, .ref (q 140))]) (by decide +kernel) rfl layX_ok (Nat.le_of_ble_eq_true rfl) rfl ?_
  intro X hXl hXq hXz hC hQ
  subst hXl; subst hXq; subst hXz
  unfold f_X1_tryAll_q140 at hf
  refine go_aload_n (pc' := 1) hC dX1_tryAll_0 rfl rfl ?_
  refine go_getg (pc' := 4) hC 140 7 layX_140 rfl rfl inlX1 (Nat.le_of_ble_eq_true rfl) mw_165 rfl dX1_tryAll_1 rfl ?_
  refine go_aleng (v := Int32.ofNat (S.2.2.2.2 141)) (pc' := 5) hC 141 layX_141 (Nat.le_of_ble_eq_true rfl) rfl rfl dX1_tryAll_4 rfl ?_
  refine go_aload_n (pc' := 6) hC dX1_tryAll_5 rfl rfl ?_
  refine go_getq (pc' := 9) hC 140 4 layX_140 rfl rfl inlX1 (Nat.le_of_ble_eq_true rfl) mw_167 rfl dX1_tryAll_6 rfl ?_
  refine go_geti (v := (S.1 10603)) (pc' := 12) hC 106 3 layX_106 rfl rfl inlX8 (Nat.le_of_ble_eq_true rfl) mw_1142 rfl dX1_tryAll_9 rfl rfl ?_
  obtain ⟨k30_4, hk30_4, hf⟩ := lk_e3 hf
  have jk30_4 : ∀ (S1 : wd_W) (n2 : Nat) (n3 : Nat) (g : Nat → Nat), k30_4 S1 n2 n3 = some o → Go X layX S1 30 [(0, .ref (x_q X 140))] [] g [] [] [] [] [] n2 n3 := by
    intro S1 n2 n3 g hf
    have hf := hk30_4 S1 n2 n3 hf
    clear hk30_4
    refine go_aload_n (pc' := 31) hC dX1_tryAll_30 rfl rfl ?_
    refine go_ldc2 (pc' := 34) hC dX1_tryAll_31 mw_1143 rfl ?_
    refine go_keys (L1 := []) (L2 := [(14002, (S1.2.1 14002))]) (L3 := []) (L4 := []) (L5 := []) [] [14002] [] [] [] rfl rfl rfl rfl rfl ?_
    refine go_putl (L2' := [(14002, (-1 : Int64))]) (pc' := 37) hC 140 2 layX_140 rfl rfl inlX1 tyX1_ok nmX1 (Nat.le_of_ble_eq_true rfl) mw_1144 rfl rfl rfl rfl dX1_tryAll_34 rfl rfl rfl ?_
    refine go_iconst (pc' := 38) hC dX1_tryAll_37 ki_0 rfl ?_
    refine go_istore_n (lc' := [(0, .ref (x_q X 140)), (1, .int (0 : Int32))]) (pc' := 39) hC dX1_tryAll_38 (Nat.le_of_ble_eq_true rfl) rfl rfl ?_
    have l39_24 : ∀ (nn : Nat) (x5 : Int32) (S6 : wd_W) (g : Nat → Nat), it2 (f_X1_tryAll_q140_L39 n2 n3) nn x5 S6 = some o → Go X layX S6 39 [(0, .ref (x_q X 140)), (1, .int x5)] [] g [] [] [] [] [] n2 n3 := by
      intro nn
      induction nn with
      | zero =>
        intro x5 S6 g hf
        exact none_no hf
      | succ nn ih =>
        intro x5 S6 g hf
        have hf : f_X1_tryAll_q140_L39 n2 n3 (it2 (f_X1_tryAll_q140_L39 n2 n3) nn) x5 S6 = some o := hf
        generalize it2 (f_X1_tryAll_q140_L39 n2 n3) nn = r7 at ih hf
        unfold f_X1_tryAll_q140_L39 at hf
        refine go_iload_n (pc' := 40) hC dX1_tryAll_39 rfl rfl ?_
        refine go_aload_n (pc' := 41) hC dX1_tryAll_40 rfl rfl ?_
        refine go_getq (pc' := 44) hC 140 3 layX_140 rfl rfl inlX1 (Nat.le_of_ble_eq_true rfl) mw_166 rfl dX1_tryAll_41 rfl ?_
        refine go_geti (v := (S6.1 1600)) (pc' := 47) hC 16 0 layX_16 rfl rfl inlX2 (Nat.le_of_ble_eq_true rfl) mw_1145 rfl dX1_tryAll_44 rfl rfl ?_
        refine go_icmp_ge (tgt := 108) (pc' := 50) hC dX1_tryAll_47 (by decide) rfl (fun h23 => ?_) (fun h23 => ?_)
        · have hf := ite_t h23 hf
          obtain rfl := Option.some.inj hf
          exact go_vret hC hQ dX1_tryAll_108 rfl rfl rfl (fun h => nomatch h) rfl rfl
        · have hf := ite_f h23 hf
          refine go_iload_n (pc' := 51) hC dX1_tryAll_50 rfl rfl ?_
          refine go_iconst (pc' := 52) hC dX1_tryAll_51 ki_1 rfl ?_
          refine go_iadd (pc' := 53) hC dX1_tryAll_52 rfl ?_
          refine go_namei (fun x8 hx => ?_)
          have hf := lz_r hx hf
          clear hx
          refine go_istore_n (lc' := [(0, .ref (x_q X 140)), (1, .int x5), (2, .int x8)]) (pc' := 54) hC dX1_tryAll_53 (Nat.le_of_ble_eq_true rfl) rfl rfl ?_
          obtain ⟨k102_10, hk102_10, hf⟩ := lk_e1 hf
          have jk102_10 : ∀ (S9 : wd_W) (g : Nat → Nat), k102_10 S9 = some o → Go X layX S9 102 [(0, .ref (x_q X 140)), (1, .int x5)] [] g [] [] [] [] [] n2 n3 := by
            intro S9 g hf
            have hf := hk102_10 S9 hf
            clear hk102_10
            refine go_iinc (lc' := [(0, .ref (x_q X 140)), (1, .int (x5 + (1 : Int32)))]) (pc' := 105) hC dX1_tryAll_102 rfl ki_1 (Nat.le_of_ble_eq_true rfl) rfl rfl ?_
            refine go_goto (tgt := 39) hC dX1_tryAll_105 (by decide) ?_
            exact ih (x5 + (1 : Int32)) S9 g hf
          clear hk102_10
          have l54_22 : ∀ (nn : Nat) (x11 : Int32) (S12 : wd_W) (g : Nat → Nat), it2 (f_X1_tryAll_q140_L54 n2 n3 x5 k102_10) nn x11 S12 = some o → Go X layX S12 54 [(0, .ref (x_q X 140)), (1, .int x5), (2, .int x11)] [] g [] [] [] [] [] n2 n3 := by
            intro nn
            induction nn with
            | zero =>
              intro x11 S12 g hf
              exact none_no hf
            | succ nn ih =>
              intro x11 S12 g hf
              have hf : f_X1_tryAll_q140_L54 n2 n3 x5 k102_10 (it2 (f_X1_tryAll_q140_L54 n2 n3 x5 k102_10) nn) x11 S12 = some o := hf
              generalize it2 (f_X1_tryAll_q140_L54 n2 n3 x5 k102_10) nn = r13 at ih hf
              unfold f_X1_tryAll_q140_L54 at hf
              refine go_iload_n (pc' := 55) hC dX1_tryAll_54 rfl rfl ?_
              refine go_aload_n (pc' := 56) hC dX1_tryAll_55 rfl rfl ?_
              refine go_getq (pc' := 59) hC 140 3 layX_140 rfl rfl inlX1 (Nat.le_of_ble_eq_true rfl) mw_166 rfl dX1_tryAll_56 rfl ?_
              refine go_geti (v := (S12.1 1600)) (pc' := 62) hC 16 0 layX_16 rfl rfl inlX2 (Nat.le_of_ble_eq_true rfl) mw_1145 rfl dX1_tryAll_59 rfl rfl ?_
              refine go_icmp_ge (tgt := 102) (pc' := 65) hC dX1_tryAll_62 (by decide) rfl (fun h21 => ?_) (fun h21 => ?_)
              · have hf := ite_t h21 hf
                refine go_sub [0, 1] rfl ?_
                exact jk102_10 S12 g hf
              · have hf := ite_f h21 hf
                refine go_aload_n (pc' := 66) hC dX1_tryAll_65 rfl rfl ?_
                refine go_iload_n (pc' := 67) hC dX1_tryAll_66 rfl rfl ?_
                refine go_iload_n (pc' := 68) hC dX1_tryAll_67 rfl rfl ?_
                obtain ⟨h15, hf⟩ := gd_e hf
                obtain ⟨o14, ho14, hf⟩ := bd_e hf
                refine go_callVw (pc' := 71) (As := [.int x5, .int x11]) (st := []) (st' := [.long o14.1])  (cells' := n2) (slots' := n3) (rc := { frames := 3, cells := 0, slots := 0, locals := 102 }) (b := 140) hC dX1_tryAll_68 ⟨mw_1148, mw_1151, mw_48, yd_yX1_chanceWith, yp_yX1_chanceWith, Nat.le_of_ble_eq_true rfl, Nat.le_of_ble_eq_true rfl, (okr_c h15), (okr_s h15)⟩ mw_1149 mw_1150 layX_140 rfl rfl rfl (Nat.le_of_ble_eq_true rfl) (c_X1_chanceWith_q140 (x_l X) (x_D X) (x_q X) g (x_cy X) (x_z X) _ x5 x11 o14 ho14) rfl rfl rfl rfl (fun g2 hg2 => ?_)
                rw [hg2 rfl]
                clear hg2
                refine go_lstore_n (lc' := [(0, .ref (x_q X 140)), (1, .int x5), (2, .int x11), (3, .long o14.1)]) (pc' := 72) hC dX1_tryAll_71 (Nat.le_of_ble_eq_true rfl) rfl rfl ?_
                refine go_lload_n (pc' := 73) hC dX1_tryAll_72 rfl rfl ?_
                refine go_aload_n (pc' := 74) hC dX1_tryAll_73 rfl rfl ?_
                refine go_getl (v := (o14.2.2.1 14002)) (pc' := 77) hC 140 2 layX_140 rfl rfl inlX1 (Nat.le_of_ble_eq_true rfl) mw_1144 rfl dX1_tryAll_74 rfl rfl ?_
                refine go_lcmp (pc' := 78) hC dX1_tryAll_77 rfl ?_
                obtain ⟨k96_17, hk96_17, hf⟩ := lk_e1 hf
                have jk96_17 : ∀ (S16 : wd_W) (g : Nat → Nat), k96_17 S16 = some o → Go X layX S16 96 [(0, .ref (x_q X 140)), (1, .int x5), (2, .int x11)] [] g [] [] [] [] [] n2 n3 := by
                  intro S16 g hf
                  have hf := hk96_17 S16 hf
                  clear hk96_17
                  refine go_iinc (lc' := [(0, .ref (x_q X 140)), (1, .int x5), (2, .int (x11 + (1 : Int32)))]) (pc' := 99) hC dX1_tryAll_96 rfl ki_1 (Nat.le_of_ble_eq_true rfl) rfl rfl ?_
                  refine go_goto (tgt := 54) hC dX1_tryAll_99 (by decide) ?_
                  exact ih (x11 + (1 : Int32)) S16 g hf
                clear hk96_17
                refine go_if_le (tgt := 96) (pc' := 81) hC dX1_tryAll_78 (by decide) rfl (fun h20 => ?_) (fun h20 => ?_)
                · have hf := ite_t (lg_le.mp h20) hf
                  refine go_sub [0, 1, 2] rfl ?_
                  exact jk96_17 o14.2 g hf
                · have hf := ite_f (mt lg_le.mpr h20) hf
                  refine go_aload_n (pc' := 82) hC dX1_tryAll_81 rfl rfl ?_
                  refine go_iload_n (pc' := 83) hC dX1_tryAll_82 rfl rfl ?_
                  refine go_keys (L1 := [(14000, (o14.2.1 14000))]) (L2 := []) (L3 := []) (L4 := []) (L5 := []) [14000] [] [] [] [] rfl rfl rfl rfl rfl ?_
                  refine go_puti (L1' := [(14000, x5)]) (pc' := 86) hC 140 0 layX_140 rfl rfl inlX1 tyX1_ok nmX1 (Nat.le_of_ble_eq_true rfl) mw_1146 rfl rfl rfl rfl dX1_tryAll_83 rfl rfl rfl ?_
                  refine go_aload_n (pc' := 87) hC dX1_tryAll_86 rfl rfl ?_
                  refine go_iload_n (pc' := 88) hC dX1_tryAll_87 rfl rfl ?_
                  refine go_base (fun S18 hx => ?_)
                  have hf := lz_r hx hf
                  clear hx
                  refine go_keys (L1 := [(14001, (S18.1 14001))]) (L2 := []) (L3 := []) (L4 := []) (L5 := []) [14001] [] [] [] [] rfl rfl rfl rfl rfl ?_
                  refine go_puti (L1' := [(14001, x11)]) (pc' := 91) hC 140 1 layX_140 rfl rfl inlX1 tyX1_ok nmX1 (Nat.le_of_ble_eq_true rfl) mw_1147 rfl rfl rfl rfl dX1_tryAll_88 rfl rfl rfl ?_
                  refine go_aload_n (pc' := 92) hC dX1_tryAll_91 rfl rfl ?_
                  refine go_lload_n (pc' := 93) hC dX1_tryAll_92 rfl rfl ?_
                  refine go_base (fun S19 hx => ?_)
                  have hf := lz_r hx hf
                  clear hx
                  refine go_keys (L1 := []) (L2 := [(14002, (S19.2.1 14002))]) (L3 := []) (L4 := []) (L5 := []) [] [14002] [] [] [] rfl rfl rfl rfl rfl ?_
                  refine go_putl (L2' := [(14002, o14.1)]) (pc' := 96) hC 140 2 layX_140 rfl rfl inlX1 tyX1_ok nmX1 (Nat.le_of_ble_eq_true rfl) mw_1144 rfl rfl rfl rfl dX1_tryAll_93 rfl rfl rfl ?_
                  refine go_sub [0, 1, 2] rfl ?_
                  refine go_base (fun S9 hS9 => ?_)
                  subst hS9
                  exact jk96_17 (wd_o S19 [] [(14002, o14.1)] [] [] []) g hf
          exact l54_22 fuel x8 S6 g hf
    refine go_base (fun S9 hS9 => ?_)
    subst hS9
    exact l39_24 fuel (0 : Int32) (wd_o S1 [] [(14002, (-1 : Int64))] [] [] []) g hf
  clear hk30_4
  refine go_icmp_gt (tgt := 30) (pc' := 15) hC dX1_tryAll_12 (by decide) rfl (fun h27 => ?_) (fun h27 => ?_)
  · have hf := ite_t h27 hf
    exact jk30_4 S 0 0 g hf
  · have hf := ite_f h27 hf
    refine go_aload_n (pc' := 16) hC dX1_tryAll_15 rfl rfl ?_
    refine go_aload_n (pc' := 17) hC dX1_tryAll_16 rfl rfl ?_
    refine go_getq (pc' := 20) hC 140 4 layX_140 rfl rfl inlX1 (Nat.le_of_ble_eq_true rfl) mw_167 rfl dX1_tryAll_17 rfl ?_
    refine go_geti (v := (S.1 10603)) (pc' := 23) hC 106 3 layX_106 rfl rfl inlX8 (Nat.le_of_ble_eq_true rfl) mw_1142 rfl dX1_tryAll_20 rfl rfl ?_
    refine go_iconst (pc' := 24) hC dX1_tryAll_23 ki_1 rfl ?_
    refine go_iadd (pc' := 25) hC dX1_tryAll_24 rfl ?_
    refine go_namei (fun x25 hx => ?_)
    have hf := lz_r hx hf
    clear hx
    refine go_keys (L1 := []) (L2 := []) (L3 := [(141, (S.2.2.1 141))]) (L4 := []) (L5 := [(141, (S.2.2.2.2 141))]) [] [] [141] [] [141] rfl rfl rfl rfl rfl ?_
    obtain ⟨h26, hf⟩ := gd_e hf
    refine go_growA (L3' := [(141, (fun _ => 0))]) (L5' := [(141, (x25).toNatClampNeg)]) (cells' := 0 + 1) (slots' := 0 + (x25).toNatClampNeg) (pc' := 30) (atype := .byte) hC 140 7 141 layX_140 rfl layX_141 (Or.inr (Or.inl ⟨rfl, rfl⟩)) (by decide +kernel) rfl inlX1 tyX1_ok nmX1 (Nat.le_of_ble_eq_true rfl) mw_165 rfl rfl (fun _ => rfl) (fun _ => rfl) mw_95 rfl dX1_tryAll_25 dX1_tryAll_27 rfl h26 rfl rfl rfl rfl rfl rfl rfl rfl (fun g => ?_)
    refine go_base (fun S9 hS9 => ?_)
    subst hS9
    exact jk30_4 (wd_o S [] [] [(141, (fun _ => 0))] [] [(141, (x25).toNatClampNeg)]) (0 + 1) (0 + (x25).toNatClampNeg) g hf
theorem dX11_add_0 : decode cX11_add 0 = .ok (.iload_n 1, 1) := by decide +kernel
theorem dX11_add_1 : decode cX11_add 1 = .ok (.ifCond .lt 18, 3) := by decide +kernel
theorem dX11_add_4 : decode cX11_add 4 = .ok (.iload_n 1, 1) := by decide +kernel
theorem dX11_add_5 : decode cX11_add 5 = .ok (.bipush 16, 2) := by decide +kernel
theorem dX11_add_7 : decode cX11_add 7 = .ok (.if_icmp .gt 12, 3) := by decide +kernel
theorem dX11_add_10 : decode cX11_add 10 = .ok (.iload_n 2, 1) := by decide +kernel
theorem dX11_add_11 : decode cX11_add 11 = .ok (.ifCond .lt 8, 3) := by decide +kernel
theorem dX11_add_14 : decode cX11_add 14 = .ok (.iload_n 2, 1) := by decide +kernel
theorem dX11_add_15 : decode cX11_add 15 = .ok (.iconst 2, 1) := by decide +kernel
theorem dX11_add_16 : decode cX11_add 16 = .ok (.if_icmp .le 7, 3) := by decide +kernel
theorem dX11_add_19 : decode cX11_add 19 = .ok (.ldc2_w 186, 3) := by decide +kernel
theorem dX11_add_22 : decode cX11_add 22 = .ok (.lreturn, 1) := by decide +kernel
theorem dX11_add_23 : decode cX11_add 23 = .ok (.aload_n 0, 1) := by decide +kernel
theorem dX11_add_24 : decode cX11_add 24 = .ok (.getfield 25, 3) := by decide +kernel
theorem dX11_add_27 : decode cX11_add 27 = .ok (.invokevirtual 129, 3) := by decide +kernel
theorem dX11_add_30 : decode cX11_add 30 = .ok (.bipush 10, 2) := by decide +kernel
theorem dX11_add_32 : decode cX11_add 32 = .ok (.if_icmp .gt 15, 3) := by decide +kernel
theorem dX11_add_35 : decode cX11_add 35 = .ok (.aload_n 0, 1) := by decide +kernel
theorem dX11_add_36 : decode cX11_add 36 = .ok (.getfield 25, 3) := by decide +kernel
theorem dX11_add_39 : decode cX11_add 39 = .ok (.getfield 132, 3) := by decide +kernel
theorem dX11_add_42 : decode cX11_add 42 = .ok (.bipush 12, 2) := by decide +kernel
theorem dX11_add_44 : decode cX11_add 44 = .ok (.if_icmp .lt 7, 3) := by decide +kernel
theorem dX11_add_47 : decode cX11_add 47 = .ok (.ldc2_w 186, 3) := by decide +kernel
theorem dX11_add_50 : decode cX11_add 50 = .ok (.lreturn, 1) := by decide +kernel
theorem dX11_add_51 : decode cX11_add 51 = .ok (.aload_n 0, 1) := by decide +kernel
theorem dX11_add_52 : decode cX11_add 52 = .ok (.iconst 1, 1) := by decide +kernel
theorem dX11_add_53 : decode cX11_add 53 = .ok (.invokevirtual 233, 3) := by decide +kernel
theorem dX11_add_56 : decode cX11_add 56 = .ok (.aload_n 0, 1) := by decide +kernel
theorem dX11_add_57 : decode cX11_add 57 = .ok (.bipush 64, 2) := by decide +kernel
theorem dX11_add_59 : decode cX11_add 59 = .ok (.invokevirtual 246, 3) := by decide +kernel
theorem dX11_add_62 : decode cX11_add 62 = .ok (.ifCond .eq 10, 3) := by decide +kernel
theorem dX11_add_65 : decode cX11_add 65 = .ok (.aload_n 0, 1) := by decide +kernel
theorem dX11_add_66 : decode cX11_add 66 = .ok (.getfield 92, 3) := by decide +kernel
theorem dX11_add_69 : decode cX11_add 69 = .ok (.invokevirtual 249, 3) := by decide +kernel
theorem dX11_add_72 : decode cX11_add 72 = .ok (.iload_n 2, 1) := by decide +kernel
theorem dX11_add_73 : decode cX11_add 73 = .ok (.ifCond .ne 30, 3) := by decide +kernel
theorem dX11_add_76 : decode cX11_add 76 = .ok (.iload_n 1, 1) := by decide +kernel
theorem dX11_add_77 : decode cX11_add 77 = .ok (.i2l, 1) := by decide +kernel
theorem dX11_add_78 : decode cX11_add 78 = .ok (.aload_n 0, 1) := by decide +kernel
theorem dX11_add_79 : decode cX11_add 79 = .ok (.getfield 92, 3) := by decide +kernel
theorem dX11_add_82 : decode cX11_add 82 = .ok (.getfield 252, 3) := by decide +kernel
theorem dX11_add_85 : decode cX11_add 85 = .ok (.lmul, 1) := by decide +kernel
theorem dX11_add_86 : decode cX11_add 86 = .ok (.bipush 16, 2) := by decide +kernel
theorem dX11_add_88 : decode cX11_add 88 = .ok (.iload_n 1, 1) := by decide +kernel
theorem dX11_add_89 : decode cX11_add 89 = .ok (.isub, 1) := by decide +kernel
theorem dX11_add_90 : decode cX11_add 90 = .ok (.i2l, 1) := by decide +kernel
theorem dX11_add_91 : decode cX11_add 91 = .ok (.aload_n 0, 1) := by decide +kernel
theorem dX11_add_92 : decode cX11_add 92 = .ok (.getfield 53, 3) := by decide +kernel
theorem dX11_add_95 : decode cX11_add 95 = .ok (.iconst 0, 1) := by decide +kernel
theorem dX11_add_96 : decode cX11_add 96 = .ok (.iconst 0, 1) := by decide +kernel
theorem dX11_add_97 : decode cX11_add 97 = .ok (.invokevirtual 178, 3) := by decide +kernel
theorem dX11_add_100 : decode cX11_add 100 = .ok (.lmul, 1) := by decide +kernel
theorem dX11_add_101 : decode cX11_add 101 = .ok (.ladd, 1) := by decide +kernel
theorem dX11_add_102 : decode cX11_add 102 = .ok (.lreturn, 1) := by decide +kernel
theorem dX11_add_103 : decode cX11_add 103 = .ok (.iload_n 1, 1) := by decide +kernel
theorem dX11_add_104 : decode cX11_add 104 = .ok (.ifCond .ne 8, 3) := by decide +kernel
theorem dX11_add_107 : decode cX11_add 107 = .ok (.iload_n 2, 1) := by decide +kernel
theorem dX11_add_108 : decode cX11_add 108 = .ok (.iconst 1, 1) := by decide +kernel
theorem dX11_add_109 : decode cX11_add 109 = .ok (.isub, 1) := by decide +kernel
theorem dX11_add_110 : decode cX11_add 110 = .ok (.i2l, 1) := by decide +kernel
theorem dX11_add_111 : decode cX11_add 111 = .ok (.lreturn, 1) := by decide +kernel
theorem dX11_add_112 : decode cX11_add 112 = .ok (.iload_n 2, 1) := by decide +kernel
theorem dX11_add_113 : decode cX11_add 113 = .ok (.iconst 1, 1) := by decide +kernel
theorem dX11_add_114 : decode cX11_add 114 = .ok (.if_icmp .ne 14, 3) := by decide +kernel
theorem dX11_add_117 : decode cX11_add 117 = .ok (.aload_n 0, 1) := by decide +kernel
theorem dX11_add_118 : decode cX11_add 118 = .ok (.getfield 92, 3) := by decide +kernel
theorem dX11_add_121 : decode cX11_add 121 = .ok (.getfield 256, 3) := by decide +kernel
theorem dX11_add_124 : decode cX11_add 124 = .ok (.i2l, 1) := by decide +kernel
theorem dX11_add_125 : decode cX11_add 125 = .ok (.goto 11, 3) := by decide +kernel
theorem dX11_add_128 : decode cX11_add 128 = .ok (.aload_n 0, 1) := by decide +kernel
theorem dX11_add_129 : decode cX11_add 129 = .ok (.getfield 92, 3) := by decide +kernel
theorem dX11_add_132 : decode cX11_add 132 = .ok (.getfield 259, 3) := by decide +kernel
theorem dX11_add_135 : decode cX11_add 135 = .ok (.i2l, 1) := by decide +kernel
theorem dX11_add_136 : decode cX11_add 136 = .ok (.lreturn, 1) := by decide +kernel
abbrev o_X11_add : Type := Int64 × wd_W × Nat × Nat
def f_X11_add (S : wd_W) (p1 : Int32) (p2 : Int32) : Option o_X11_add :=
if p1 < 0 then (
some ((-1 : Int64), S, 0, 0)) else (
if (16 : Int32) < p1 then (
some ((-1 : Int64), S, 0, 0)) else (
if p2 < 0 then (
some ((-1 : Int64), S, 0, 0)) else (
if p2 ≤ (2 : Int32) then (
bd (f_X2_things_q16 (wd_o S [] [] [] [] [])) fun o1 =>
if (10 : Int32) < o1 then (
some ((-1 : Int64), S, 0, 0)) else (
if (S.1 1601) < (12 : Int32) then (
bd (f_X11_know (wd_o S [] [] [] [] []) (1 : Int32)) fun o2 =>
gd (okr (0 + o2.2.1) (0 + o2.2.2) 0 0 40 500000) <|
bd (f_X11_isNew (wd_o o2.1 [(7, (o2.1.1 7))] [] [] [] []) (64 : Int32)) fun o3 =>
lk (fun S5 n6 n7 =>
if p2 = 0 then (
gd (okr n6 n7 0 0 40 500000) <|
bd (f_X8_throughIn_q106 (wd_o S5 [] [] [] [] []) (0 : Int32) (0 : Int32)) fun o11 =>
some ((p1.toInt64 * (S5.2.1 14002)) + ((((16 : Int32) - p1).toInt64) * o11), S5, n6, n7)) else (
if p1 = 0 then (
some ((p2 - (1 : Int32)).toInt64, S5, n6, n7)) else (
if p2 = (1 : Int32) then (
some ((S5.1 14000).toInt64, S5, n6, n7)) else (
some ((S5.1 14001).toInt64, S5, n6, n7))))) fun k72_8 =>
if o3.1 = 0 then (
k72_8 (wd_o o2.1 [(7, o3.2)] [] [] [] []) (0 + o2.2.1) (0 + o2.2.2)) else (
gd (okr (0 + o2.2.1) (0 + o2.2.2) 1 5000 40 500000) <|
bd (f_X1_tryAll_q140 (wd_o o2.1 [(7, o3.2)] [] [] [] [])) fun o14 =>
k72_8 o14.1 (0 + o2.2.1 + o14.2.1) (0 + o2.2.2 + o14.2.2))) else (
some ((-1 : Int64), S, 0, 0)))) else (
some ((-1 : Int64), S, 0, 0)))))
set_option maxRecDepth 100000 in
set_option maxHeartbeats 4000000 in
theorem c_X11_add (l : Launch) (D : va_G) (q g : Nat → Nat) (cy : Nat → ClassId) (z : (Nat → Nat) × (Nat → Nat) × Nat) (S : wd_W) (p1 : Int32) (p2 : Int32) (o : o_X11_add) (hf : f_X11_add S p1 p2 = some o) : MX layX l yX11_add cX11_add 3 (some .long) ({ frames := 5, cells := 40, slots := 500000, locals := 151 } : Room) D q g cy z [.ref (q 0), .int p1, .int p2] S true (some (.long o.1)) o.2.1 o.2.2.1 o.2.2.2 := by
  refine mx_of (own := RX11) (lc := [(0, .ref (q 0)), (1, .int p1), (2, .int p2)]) (by decide +kernel) rfl layX_ok (Nat.le_of_ble_eq_true rfl) rfl ?_
  intro X hXl hXq hXz hC hQ
  subst hXl; subst hXq; subst hXz
  unfold f_X11_add at hf
  refine go_iload_n (pc' := 1) hC dX11_add_0 rfl rfl ?_
  refine go_if_lt (tgt := 19) (pc' := 4) hC dX11_add_1 (by decide) rfl (fun h22 => ?_) (fun h22 => ?_)
  · have hf := ite_t h22 hf
    refine go_ldc2 (pc' := 22) hC dX11_add_19 mw_909 rfl ?_
    obtain rfl := Option.some.inj hf
    exact go_lret hC hQ dX11_add_22 rfl rfl rfl (fun h => nomatch h) rfl rfl
  · have hf := ite_f h22 hf
    refine go_iload_n (pc' := 5) hC dX11_add_4 rfl rfl ?_
    refine go_bipush (pc' := 7) hC dX11_add_5 kb_16 rfl ?_
    refine go_icmp_gt (tgt := 19) (pc' := 10) hC dX11_add_7 (by decide) rfl (fun h21 => ?_) (fun h21 => ?_)
    · have hf := ite_t h21 hf
      refine go_ldc2 (pc' := 22) hC dX11_add_19 mw_909 rfl ?_
      obtain rfl := Option.some.inj hf
      exact go_lret hC hQ dX11_add_22 rfl rfl rfl (fun h => nomatch h) rfl rfl
    · have hf := ite_f h21 hf
      refine go_iload_n (pc' := 11) hC dX11_add_10 rfl rfl ?_
      refine go_if_lt (tgt := 19) (pc' := 14) hC dX11_add_11 (by decide) rfl (fun h20 => ?_) (fun h20 => ?_)
      · have hf := ite_t h20 hf
        refine go_ldc2 (pc' := 22) hC dX11_add_19 mw_909 rfl ?_
        obtain rfl := Option.some.inj hf
        exact go_lret hC hQ dX11_add_22 rfl rfl rfl (fun h => nomatch h) rfl rfl
      · have hf := ite_f h20 hf
        refine go_iload_n (pc' := 15) hC dX11_add_14 rfl rfl ?_
        refine go_iconst (pc' := 16) hC dX11_add_15 ki_2 rfl ?_
        refine go_icmp_le (tgt := 23) (pc' := 19) hC dX11_add_16 (by decide) rfl (fun h19 => ?_) (fun h19 => ?_)
        · have hf := ite_t h19 hf
          refine go_aload_n (pc' := 24) hC dX11_add_23 rfl rfl ?_
          refine go_getq (pc' := 27) hC 0 2 layX_0 rfl rfl inlX11 (Nat.le_of_ble_eq_true rfl) mw_20 rfl dX11_add_24 rfl ?_
          obtain ⟨o1, ho1, hf⟩ := bd_e hf
          refine go_callV0 (pc' := 30) (As := []) (st := []) (st' := [.int o1])    (b := 16) hC dX11_add_27 ⟨mw_484, mw_418, mw_14, yd_yX2_things, yp_yX2_things, Nat.le_of_ble_eq_true rfl, Nat.le_of_ble_eq_true rfl, (Nat.le_of_ble_eq_true rfl), (Nat.le_of_ble_eq_true rfl)⟩ mw_416 mw_417 layX_16 rfl rfl rfl (Nat.le_of_ble_eq_true rfl) (c_X2_things_q16 (x_l X) (x_D X) (x_q X) g (x_cy X) (x_z X) _  o1 ho1) rfl rfl ?_
          refine go_bipush (pc' := 32) hC dX11_add_30 kb_10 rfl ?_
          refine go_icmp_gt (tgt := 47) (pc' := 35) hC dX11_add_32 (by decide) rfl (fun h18 => ?_) (fun h18 => ?_)
          · have hf := ite_t h18 hf
            refine go_ldc2 (pc' := 50) hC dX11_add_47 mw_909 rfl ?_
            obtain rfl := Option.some.inj hf
            exact go_lret hC hQ dX11_add_50 rfl rfl rfl (fun h => nomatch h) rfl rfl
          · have hf := ite_f h18 hf
            refine go_aload_n (pc' := 36) hC dX11_add_35 rfl rfl ?_
            refine go_getq (pc' := 39) hC 0 2 layX_0 rfl rfl inlX11 (Nat.le_of_ble_eq_true rfl) mw_20 rfl dX11_add_36 rfl ?_
            refine go_geti (v := (S.1 1601)) (pc' := 42) hC 16 1 layX_16 rfl rfl inlX2 (Nat.le_of_ble_eq_true rfl) mw_562 rfl dX11_add_39 rfl rfl ?_
            refine go_bipush (pc' := 44) hC dX11_add_42 kb_12 rfl ?_
            refine go_icmp_lt (tgt := 51) (pc' := 47) hC dX11_add_44 (by decide) rfl (fun h17 => ?_) (fun h17 => ?_)
            · have hf := ite_t h17 hf
              refine go_aload_n (pc' := 52) hC dX11_add_51 rfl rfl ?_
              refine go_iconst (pc' := 53) hC dX11_add_52 ki_1 rfl ?_
              obtain ⟨o2, ho2, hf⟩ := bd_e hf
              refine go_callVw (pc' := 56) (As := [.int (1 : Int32)]) (st := []) (st' := [])  (cells' := 0 + o2.2.1) (slots' := 0 + o2.2.2)  (b := 0) hC dX11_add_53 ⟨mw_597, mw_600, mw_2, yd_yX11_know, yp_yX11_know, Nat.le_of_ble_eq_true rfl, Nat.le_of_ble_eq_true rfl, (Nat.le_of_ble_eq_true rfl), (Nat.le_of_ble_eq_true rfl)⟩ mw_598 mw_599 layX_0 rfl rfl rfl (Nat.le_of_ble_eq_true rfl) (c_X11_know (x_l X) (x_D X) (x_q X) g (x_cy X) (x_z X) _ (1 : Int32) o2 ho2) rfl rfl rfl rfl (fun g _ => ?_)
              refine go_aload_n (pc' := 57) hC dX11_add_56 rfl rfl ?_
              refine go_bipush (pc' := 59) hC dX11_add_57 kb_64 rfl ?_
              refine go_keys (L1 := [(7, (o2.1.1 7))]) (L2 := []) (L3 := []) (L4 := []) (L5 := []) [7] [] [] [] [] rfl rfl rfl rfl rfl ?_
              obtain ⟨h4, hf⟩ := gd_e hf
              obtain ⟨o3, ho3, hf⟩ := bd_e hf
              refine go_callV1 (pc' := 62) (As := [.int (64 : Int32)]) (st := []) (st' := [.int o3.1]) (L1' := [(7, o3.2)]) (L2' := []) (L3' := []) (L4' := []) (L5' := []) (cells' := 0 + o2.2.1) (slots' := 0 + o2.2.2) (rc := { frames := 0, cells := 0, slots := 0, locals := 0 }) (b := 0) hC dX11_add_59 ⟨mw_601, mw_604, mw_2, yd_yX11_isNew, yp_yX11_isNew, Nat.le_of_ble_eq_true rfl, Nat.le_of_ble_eq_true rfl, (okr_c h4), (okr_s h4)⟩ mw_602 mw_603 layX_0 rfl rfl rfl (Nat.le_of_ble_eq_true rfl) (c_X11_isNew (x_l X) (x_D X) (x_q X) g (x_cy X) (x_z X) _ (64 : Int32) o3 ho3) rfl rfl rfl rfl rfl rfl rfl rfl rfl rfl rfl rfl rfl rfl ?_
              obtain ⟨k72_8, hk72_8, hf⟩ := lk_e3 hf
              have jk72_8 : ∀ (S5 : wd_W) (n6 : Nat) (n7 : Nat) (g : Nat → Nat), k72_8 S5 n6 n7 = some o → Go X layX S5 72 [(0, .ref (x_q X 0)), (1, .int p1), (2, .int p2)] [] g [] [] [] [] [] n6 n7 := by
                intro S5 n6 n7 g hf
                have hf := hk72_8 S5 n6 n7 hf
                clear hk72_8
                refine go_iload_n (pc' := 73) hC dX11_add_72 rfl rfl ?_
                refine go_if_ne (tgt := 103) (pc' := 76) hC dX11_add_73 (by decide) rfl (fun h13 => ?_) (fun h13 => ?_)
                · have hf := ite_f h13 hf
                  refine go_iload_n (pc' := 104) hC dX11_add_103 rfl rfl ?_
                  refine go_if_ne (tgt := 112) (pc' := 107) hC dX11_add_104 (by decide) rfl (fun h10 => ?_) (fun h10 => ?_)
                  · have hf := ite_f h10 hf
                    refine go_iload_n (pc' := 113) hC dX11_add_112 rfl rfl ?_
                    refine go_iconst (pc' := 114) hC dX11_add_113 ki_1 rfl ?_
                    refine go_icmp_ne (tgt := 128) (pc' := 117) hC dX11_add_114 (by decide) rfl (fun h9 => ?_) (fun h9 => ?_)
                    · have hf := ite_f h9 hf
                      refine go_aload_n (pc' := 129) hC dX11_add_128 rfl rfl ?_
                      refine go_getq (pc' := 132) hC 0 15 layX_0 rfl rfl inlX11 (Nat.le_of_ble_eq_true rfl) mw_49 rfl dX11_add_129 rfl ?_
                      refine go_geti (v := (S5.1 14001)) (pc' := 135) hC 140 1 layX_140 rfl rfl inlX1 (Nat.le_of_ble_eq_true rfl) mw_1137 rfl dX11_add_132 rfl rfl ?_
                      refine go_i2l (pc' := 136) hC dX11_add_135 rfl ?_
                      obtain rfl := Option.some.inj hf
                      exact go_lret hC hQ dX11_add_136 rfl rfl rfl (fun h => nomatch h) rfl rfl
                    · have hf := ite_t h9 hf
                      refine go_aload_n (pc' := 118) hC dX11_add_117 rfl rfl ?_
                      refine go_getq (pc' := 121) hC 0 15 layX_0 rfl rfl inlX11 (Nat.le_of_ble_eq_true rfl) mw_49 rfl dX11_add_118 rfl ?_
                      refine go_geti (v := (S5.1 14000)) (pc' := 124) hC 140 0 layX_140 rfl rfl inlX1 (Nat.le_of_ble_eq_true rfl) mw_1136 rfl dX11_add_121 rfl rfl ?_
                      refine go_i2l (pc' := 125) hC dX11_add_124 rfl ?_
                      refine go_goto (tgt := 136) hC dX11_add_125 (by decide) ?_
                      obtain rfl := Option.some.inj hf
                      exact go_lret hC hQ dX11_add_136 rfl rfl rfl (fun h => nomatch h) rfl rfl
                  · have hf := ite_t h10 hf
                    refine go_iload_n (pc' := 108) hC dX11_add_107 rfl rfl ?_
                    refine go_iconst (pc' := 109) hC dX11_add_108 ki_1 rfl ?_
                    refine go_isub (pc' := 110) hC dX11_add_109 rfl ?_
                    refine go_i2l (pc' := 111) hC dX11_add_110 rfl ?_
                    obtain rfl := Option.some.inj hf
                    exact go_lret hC hQ dX11_add_111 rfl rfl rfl (fun h => nomatch h) rfl rfl
                · have hf := ite_t h13 hf
                  refine go_iload_n (pc' := 77) hC dX11_add_76 rfl rfl ?_
                  refine go_i2l (pc' := 78) hC dX11_add_77 rfl ?_
                  refine go_aload_n (pc' := 79) hC dX11_add_78 rfl rfl ?_
                  refine go_getq (pc' := 82) hC 0 15 layX_0 rfl rfl inlX11 (Nat.le_of_ble_eq_true rfl) mw_49 rfl dX11_add_79 rfl ?_
                  refine go_getl (v := (S5.2.1 14002)) (pc' := 85) hC 140 2 layX_140 rfl rfl inlX1 (Nat.le_of_ble_eq_true rfl) mw_1135 rfl dX11_add_82 rfl rfl ?_
                  refine go_lmul (pc' := 86) hC dX11_add_85 rfl ?_
                  refine go_bipush (pc' := 88) hC dX11_add_86 kb_16 rfl ?_
                  refine go_iload_n (pc' := 89) hC dX11_add_88 rfl rfl ?_
                  refine go_isub (pc' := 90) hC dX11_add_89 rfl ?_
                  refine go_i2l (pc' := 91) hC dX11_add_90 rfl ?_
                  refine go_aload_n (pc' := 92) hC dX11_add_91 rfl rfl ?_
                  refine go_getq (pc' := 95) hC 0 10 layX_0 rfl rfl inlX11 (Nat.le_of_ble_eq_true rfl) mw_32 rfl dX11_add_92 rfl ?_
                  refine go_iconst (pc' := 96) hC dX11_add_95 ki_0 rfl ?_
                  refine go_iconst (pc' := 97) hC dX11_add_96 ki_0 rfl ?_
                  obtain ⟨h12, hf⟩ := gd_e hf
                  obtain ⟨o11, ho11, hf⟩ := bd_e hf
                  refine go_callV0 (pc' := 100) (As := [.int (0 : Int32), .int (0 : Int32)]) (st := [.long (((16 : Int32) - p1).toInt64), .long (p1.toInt64 * (S5.2.1 14002))]) (st' := [.long o11, .long (((16 : Int32) - p1).toInt64), .long (p1.toInt64 * (S5.2.1 14002))])   (rc := { frames := 2, cells := 0, slots := 0, locals := 42 }) (b := 106) hC dX11_add_97 ⟨mw_910, mw_913, mw_31, yd_yX8_throughIn, yp_yX8_throughIn, Nat.le_of_ble_eq_true rfl, Nat.le_of_ble_eq_true rfl, (okr_c h12), (okr_s h12)⟩ mw_911 mw_912 layX_106 rfl rfl rfl (Nat.le_of_ble_eq_true rfl) (c_X8_throughIn_q106 (x_l X) (x_D X) (x_q X) g (x_cy X) (x_z X) _ (0 : Int32) (0 : Int32) o11 ho11) rfl rfl ?_
                  refine go_lmul (pc' := 101) hC dX11_add_100 rfl ?_
                  refine go_ladd (pc' := 102) hC dX11_add_101 rfl ?_
                  obtain rfl := Option.some.inj hf
                  exact go_lret hC hQ dX11_add_102 rfl rfl rfl (fun h => nomatch h) rfl rfl
              clear hk72_8
              refine go_if_eq (tgt := 72) (pc' := 65) hC dX11_add_62 (by decide) rfl (fun h16 => ?_) (fun h16 => ?_)
              · have hf := ite_t h16 hf
                refine go_base (fun S9 hS9 => ?_)
                subst hS9
                exact jk72_8 (wd_o o2.1 [(7, o3.2)] [] [] [] []) (0 + o2.2.1) (0 + o2.2.2) g hf
              · have hf := ite_f h16 hf
                refine go_aload_n (pc' := 66) hC dX11_add_65 rfl rfl ?_
                refine go_getq (pc' := 69) hC 0 15 layX_0 rfl rfl inlX11 (Nat.le_of_ble_eq_true rfl) mw_49 rfl dX11_add_66 rfl ?_
                obtain ⟨h15, hf⟩ := gd_e hf
                obtain ⟨o14, ho14, hf⟩ := bd_e hf
                refine go_callVw (pc' := 72) (As := []) (st := []) (st' := [])  (cells' := 0 + o2.2.1 + o14.2.1) (slots' := 0 + o2.2.2 + o14.2.2) (rc := { frames := 4, cells := 1, slots := 5000, locals := 127 }) (b := 140) hC dX11_add_69 ⟨mw_1138, mw_1141, mw_48, yd_yX1_tryAll, yp_yX1_tryAll, Nat.le_of_ble_eq_true rfl, Nat.le_of_ble_eq_true rfl, (okr_c h15), (okr_s h15)⟩ mw_1139 mw_1140 layX_140 rfl rfl rfl (Nat.le_of_ble_eq_true rfl) (c_X1_tryAll_q140 (x_l X) (x_D X) (x_q X) g (x_cy X) (x_z X) _  o14 ho14) rfl rfl rfl rfl (fun g _ => ?_)
                exact jk72_8 o14.1 (0 + o2.2.1 + o14.2.1) (0 + o2.2.2 + o14.2.2) g hf
            · have hf := ite_f h17 hf
              refine go_ldc2 (pc' := 50) hC dX11_add_47 mw_909 rfl ?_
              obtain rfl := Option.some.inj hf
              exact go_lret hC hQ dX11_add_50 rfl rfl rfl (fun h => nomatch h) rfl rfl
        · have hf := ite_f h19 hf
          refine go_ldc2 (pc' := 22) hC dX11_add_19 mw_909 rfl ?_
          obtain rfl := Option.some.inj hf
          exact go_lret hC hQ dX11_add_22 rfl rfl rfl (fun h => nomatch h) rfl rfl
theorem dX0_lengthOf_0 : decode cX0_lengthOf 0 = .ok (.iconst 0, 1) := by decide +kernel
theorem dX0_lengthOf_1 : decode cX0_lengthOf 1 = .ok (.istore_n 2, 1) := by decide +kernel
theorem dX0_lengthOf_2 : decode cX0_lengthOf 2 = .ok (.iconst 0, 1) := by decide +kernel
theorem dX0_lengthOf_3 : decode cX0_lengthOf 3 = .ok (.istore_n 3, 1) := by decide +kernel
theorem dX0_lengthOf_4 : decode cX0_lengthOf 4 = .ok (.iload_n 3, 1) := by decide +kernel
theorem dX0_lengthOf_5 : decode cX0_lengthOf 5 = .ok (.aload_n 0, 1) := by decide +kernel
theorem dX0_lengthOf_6 : decode cX0_lengthOf 6 = .ok (.getfield 45, 3) := by decide +kernel
theorem dX0_lengthOf_9 : decode cX0_lengthOf 9 = .ok (.if_icmp .ge 27, 3) := by decide +kernel
theorem dX0_lengthOf_12 : decode cX0_lengthOf 12 = .ok (.iload_n 2, 1) := by decide +kernel
theorem dX0_lengthOf_13 : decode cX0_lengthOf 13 = .ok (.iload_n 1, 1) := by decide +kernel
theorem dX0_lengthOf_14 : decode cX0_lengthOf 14 = .ok (.iload_n 3, 1) := by decide +kernel
theorem dX0_lengthOf_15 : decode cX0_lengthOf 15 = .ok (.ishr, 1) := by decide +kernel
theorem dX0_lengthOf_16 : decode cX0_lengthOf 16 = .ok (.iconst 1, 1) := by decide +kernel
theorem dX0_lengthOf_17 : decode cX0_lengthOf 17 = .ok (.iand, 1) := by decide +kernel
theorem dX0_lengthOf_18 : decode cX0_lengthOf 18 = .ok (.aload_n 0, 1) := by decide +kernel
theorem dX0_lengthOf_19 : decode cX0_lengthOf 19 = .ok (.getfield 27, 3) := by decide +kernel
theorem dX0_lengthOf_22 : decode cX0_lengthOf 22 = .ok (.getfield 102, 3) := by decide +kernel
theorem dX0_lengthOf_25 : decode cX0_lengthOf 25 = .ok (.iload_n 3, 1) := by decide +kernel
theorem dX0_lengthOf_26 : decode cX0_lengthOf 26 = .ok (.iaload, 1) := by decide +kernel
theorem dX0_lengthOf_27 : decode cX0_lengthOf 27 = .ok (.imul, 1) := by decide +kernel
theorem dX0_lengthOf_28 : decode cX0_lengthOf 28 = .ok (.iadd, 1) := by decide +kernel
theorem dX0_lengthOf_29 : decode cX0_lengthOf 29 = .ok (.istore_n 2, 1) := by decide +kernel
theorem dX0_lengthOf_30 : decode cX0_lengthOf 30 = .ok (.iinc 3 1, 3) := by decide +kernel
theorem dX0_lengthOf_33 : decode cX0_lengthOf 33 = .ok (.goto (-29), 3) := by decide +kernel
theorem dX0_lengthOf_36 : decode cX0_lengthOf 36 = .ok (.iload_n 2, 1) := by decide +kernel
theorem dX0_lengthOf_37 : decode cX0_lengthOf 37 = .ok (.ireturn, 1) := by decide +kernel
abbrev o_X0_lengthOf_q131 : Type := Int32
def f_X0_lengthOf_q131_L4 (S : wd_W) (p1 : Int32) (r3 : (Int32) → (Int32) → (Option o_X0_lengthOf_q131)) (x1 : Int32) (x2 : Int32) : Option o_X0_lengthOf_q131 :=
if (S.1 13105) ≤ x2 then (
some x1) else (
gd (okx x2 13) <|
lz (x1 + (((p1 >>> (x2 &&& 31)) &&& (1 : Int32)) * ((S.2.2.1 21) x2.toNatClampNeg))) fun x5 =>
r3 x5 (x2 + (1 : Int32)))
def f_X0_lengthOf_q131 (S : wd_W) (p1 : Int32) : Option o_X0_lengthOf_q131 :=
it2 (f_X0_lengthOf_q131_L4 S p1) fuel (0 : Int32) (0 : Int32)
set_option maxRecDepth 100000 in
set_option maxHeartbeats 4000000 in
theorem c_X0_lengthOf_q131 (l : Launch) (D : va_G) (q g : Nat → Nat) (cy : Nat → ClassId) (z : (Nat → Nat) × (Nat → Nat) × Nat) (S : wd_W) (p1 : Int32) (o : o_X0_lengthOf_q131) (hf : f_X0_lengthOf_q131 S p1 = some o) : MX layX l yX0_lengthOf cX0_lengthOf 4 (some .int) ({ frames := 0, cells := 0, slots := 0, locals := 0 } : Room) D q g cy z [.ref (q 131), .int p1] S false (some (.int o)) (wd_o S [] [] [] [] []) 0 0 := by
  refine mx_of (own := RX0) (lc := [(0, .ref (q 131)), (1, .int p1)]) (by decide +kernel) rfl layX_ok (Nat.le_of_ble_eq_true rfl) rfl ?_
  intro X hXl hXq hXz hC hQ
  subst hXl; subst hXq; subst hXz
  unfold f_X0_lengthOf_q131 at hf
  refine go_iconst (pc' := 1) hC dX0_lengthOf_0 ki_0 rfl ?_
  refine go_istore_n (lc' := [(0, .ref (x_q X 131)), (1, .int p1), (2, .int (0 : Int32))]) (pc' := 2) hC dX0_lengthOf_1 (Nat.le_of_ble_eq_true rfl) rfl rfl ?_
  refine go_iconst (pc' := 3) hC dX0_lengthOf_2 ki_0 rfl ?_
  refine go_istore_n (lc' := [(0, .ref (x_q X 131)), (1, .int p1), (2, .int (0 : Int32)), (3, .int (0 : Int32))]) (pc' := 4) hC dX0_lengthOf_3 (Nat.le_of_ble_eq_true rfl) rfl rfl ?_
  have l4_7 : ∀ (nn : Nat) (x1 : Int32) (x2 : Int32), it2 (f_X0_lengthOf_q131_L4 S p1) nn x1 x2 = some o → Go X layX S 4 [(0, .ref (x_q X 131)), (1, .int p1), (2, .int x1), (3, .int x2)] [] g [] [] [] [] [] 0 0 := by
    intro nn
    induction nn with
    | zero =>
      intro x1 x2 hf
      exact none_no hf
    | succ nn ih =>
      intro x1 x2 hf
      have hf : f_X0_lengthOf_q131_L4 S p1 (it2 (f_X0_lengthOf_q131_L4 S p1) nn) x1 x2 = some o := hf
      generalize it2 (f_X0_lengthOf_q131_L4 S p1) nn = r3 at ih hf
      unfold f_X0_lengthOf_q131_L4 at hf
      refine go_iload_n (pc' := 5) hC dX0_lengthOf_4 rfl rfl ?_
      refine go_aload_n (pc' := 6) hC dX0_lengthOf_5 rfl rfl ?_
      refine go_geti (v := (S.1 13105)) (pc' := 9) hC 131 5 layX_131 rfl rfl inlX0 (Nat.le_of_ble_eq_true rfl) mw_766 rfl dX0_lengthOf_6 rfl rfl ?_
      refine go_icmp_ge (tgt := 36) (pc' := 12) hC dX0_lengthOf_9 (by decide) rfl (fun h6 => ?_) (fun h6 => ?_)
      · have hf := ite_t h6 hf
        refine go_iload_n (pc' := 37) hC dX0_lengthOf_36 rfl rfl ?_
        obtain rfl := Option.some.inj hf
        exact go_iret hC hQ dX0_lengthOf_37 rfl rfl rfl rfl (fun _ => rfl) rfl rfl
      · have hf := ite_f h6 hf
        refine go_iload_n (pc' := 13) hC dX0_lengthOf_12 rfl rfl ?_
        refine go_iload_n (pc' := 14) hC dX0_lengthOf_13 rfl rfl ?_
        refine go_iload_n (pc' := 15) hC dX0_lengthOf_14 rfl rfl ?_
        refine go_ishr (pc' := 16) hC dX0_lengthOf_15 rfl ?_
        refine go_iconst (pc' := 17) hC dX0_lengthOf_16 ki_1 rfl ?_
        refine go_iand (pc' := 18) hC dX0_lengthOf_17 rfl ?_
        refine go_aload_n (pc' := 19) hC dX0_lengthOf_18 rfl rfl ?_
        refine go_getq (pc' := 22) hC 131 2 layX_131 rfl rfl inlX0 (Nat.le_of_ble_eq_true rfl) mw_144 rfl dX0_lengthOf_19 rfl ?_
        refine go_getq (pc' := 25) hC 16 6 layX_16 rfl rfl inlX2 (Nat.le_of_ble_eq_true rfl) mw_1191 rfl dX0_lengthOf_22 rfl ?_
        refine go_iload_n (pc' := 26) hC dX0_lengthOf_25 rfl rfl ?_
        obtain ⟨h4, hf⟩ := gd_e hf
        refine go_iald (f := (S.2.2.1 21)) (pc' := 27) hC 21 layX_21 rfl rfl dX0_lengthOf_26 (okx_in h4) rfl ?_
        refine go_imul (pc' := 28) hC dX0_lengthOf_27 rfl ?_
        refine go_iadd (pc' := 29) hC dX0_lengthOf_28 rfl ?_
        refine go_namei (fun x5 hx => ?_)
        have hf := lz_r hx hf
        clear hx
        refine go_istore_n (lc' := [(0, .ref (x_q X 131)), (1, .int p1), (2, .int x5), (3, .int x2)]) (pc' := 30) hC dX0_lengthOf_29 (Nat.le_of_ble_eq_true rfl) rfl rfl ?_
        refine go_iinc (lc' := [(0, .ref (x_q X 131)), (1, .int p1), (2, .int x5), (3, .int (x2 + (1 : Int32)))]) (pc' := 33) hC dX0_lengthOf_30 rfl ki_1 (Nat.le_of_ble_eq_true rfl) rfl rfl ?_
        refine go_goto (tgt := 4) hC dX0_lengthOf_33 (by decide) ?_
        exact ih x5 (x2 + (1 : Int32)) hf
  exact l4_7 fuel (0 : Int32) (0 : Int32) hf
theorem dX8_isSixteenths_0 : decode cX8_isSixteenths 0 = .ok (.iload_n 3, 1) := by decide +kernel
theorem dX8_isSixteenths_1 : decode cX8_isSixteenths 1 = .ok (.ifCond .ne 20, 3) := by decide +kernel
theorem dX8_isSixteenths_4 : decode cX8_isSixteenths 4 = .ok (.lload_n 0, 1) := by decide +kernel
theorem dX8_isSixteenths_5 : decode cX8_isSixteenths 5 = .ok (.ldc2_w 47, 3) := by decide +kernel
theorem dX8_isSixteenths_8 : decode cX8_isSixteenths 8 = .ok (.lmul, 1) := by decide +kernel
theorem dX8_isSixteenths_9 : decode cX8_isSixteenths 9 = .ok (.iload_n 2, 1) := by decide +kernel
theorem dX8_isSixteenths_10 : decode cX8_isSixteenths 10 = .ok (.i2l, 1) := by decide +kernel
theorem dX8_isSixteenths_11 : decode cX8_isSixteenths 11 = .ok (.lcmp, 1) := by decide +kernel
theorem dX8_isSixteenths_12 : decode cX8_isSixteenths 12 = .ok (.ifCond .lt 7, 3) := by decide +kernel
theorem dX8_isSixteenths_15 : decode cX8_isSixteenths 15 = .ok (.iconst 1, 1) := by decide +kernel
theorem dX8_isSixteenths_16 : decode cX8_isSixteenths 16 = .ok (.goto 4, 3) := by decide +kernel
theorem dX8_isSixteenths_19 : decode cX8_isSixteenths 19 = .ok (.iconst 0, 1) := by decide +kernel
theorem dX8_isSixteenths_20 : decode cX8_isSixteenths 20 = .ok (.ireturn, 1) := by decide +kernel
theorem dX8_isSixteenths_21 : decode cX8_isSixteenths 21 = .ok (.lload_n 0, 1) := by decide +kernel
theorem dX8_isSixteenths_22 : decode cX8_isSixteenths 22 = .ok (.iload_n 2, 1) := by decide +kernel
theorem dX8_isSixteenths_23 : decode cX8_isSixteenths 23 = .ok (.i2l, 1) := by decide +kernel
theorem dX8_isSixteenths_24 : decode cX8_isSixteenths 24 = .ok (.iload_n 3, 1) := by decide +kernel
theorem dX8_isSixteenths_25 : decode cX8_isSixteenths 25 = .ok (.iconst 1, 1) := by decide +kernel
theorem dX8_isSixteenths_26 : decode cX8_isSixteenths 26 = .ok (.isub, 1) := by decide +kernel
theorem dX8_isSixteenths_27 : decode cX8_isSixteenths 27 = .ok (.invokestatic 49, 3) := by decide +kernel
theorem dX8_isSixteenths_30 : decode cX8_isSixteenths 30 = .ok (.lmul, 1) := by decide +kernel
theorem dX8_isSixteenths_31 : decode cX8_isSixteenths 31 = .ok (.lcmp, 1) := by decide +kernel
theorem dX8_isSixteenths_32 : decode cX8_isSixteenths 32 = .ok (.ifCond .lt 7, 3) := by decide +kernel
theorem dX8_isSixteenths_35 : decode cX8_isSixteenths 35 = .ok (.iconst 1, 1) := by decide +kernel
theorem dX8_isSixteenths_36 : decode cX8_isSixteenths 36 = .ok (.goto 4, 3) := by decide +kernel
theorem dX8_isSixteenths_39 : decode cX8_isSixteenths 39 = .ok (.iconst 0, 1) := by decide +kernel
theorem dX8_isSixteenths_40 : decode cX8_isSixteenths 40 = .ok (.ireturn, 1) := by decide +kernel
abbrev o_X8_isSixteenths : Type := Int32
def f_X8_isSixteenths (p1 : Int64) (p2 : Int32) (p3 : Int32) : Option o_X8_isSixteenths :=
if p3 = 0 then (
if (p1 * (16 : Int64)) < p2.toInt64 then (
some (0 : Int32)) else (
some (1 : Int32))) else (
bd (f_X8_power (p3 - (1 : Int32))) fun o1 =>
if p1 < (p2.toInt64 * o1) then (
some (0 : Int32)) else (
some (1 : Int32)))
set_option maxRecDepth 100000 in
set_option maxHeartbeats 4000000 in
theorem c_X8_isSixteenths (l : Launch) (D : va_G) (q g : Nat → Nat) (cy : Nat → ClassId) (z : (Nat → Nat) × (Nat → Nat) × Nat) (S : wd_W) (p1 : Int64) (p2 : Int32) (p3 : Int32) (o : o_X8_isSixteenths) (hf : f_X8_isSixteenths p1 p2 p3 = some o) : MX layX l yX8_isSixteenths cX8_isSixteenths 4 (some .boolean) ({ frames := 1, cells := 0, slots := 0, locals := 20 } : Room) D q g cy z [.long p1, .int p2, .int p3] S false (some (.int o)) (wd_o S [] [] [] [] []) 0 0 := by
  refine mx_of (own := RX8) (lc := [(0, .long p1), (2, .int p2), (3, .int p3)]) (by decide +kernel) rfl layX_ok (Nat.le_of_ble_eq_true rfl) rfl ?_
  intro X hXl hXq hXz hC hQ
  subst hXl; subst hXq; subst hXz
  unfold f_X8_isSixteenths at hf
  refine go_iload_n (pc' := 1) hC dX8_isSixteenths_0 rfl rfl ?_
  refine go_if_ne (tgt := 21) (pc' := 4) hC dX8_isSixteenths_1 (by decide) rfl (fun h4 => ?_) (fun h4 => ?_)
  · have hf := ite_f h4 hf
    refine go_lload_n (pc' := 22) hC dX8_isSixteenths_21 rfl rfl ?_
    refine go_iload_n (pc' := 23) hC dX8_isSixteenths_22 rfl rfl ?_
    refine go_i2l (pc' := 24) hC dX8_isSixteenths_23 rfl ?_
    refine go_iload_n (pc' := 25) hC dX8_isSixteenths_24 rfl rfl ?_
    refine go_iconst (pc' := 26) hC dX8_isSixteenths_25 ki_1 rfl ?_
    refine go_isub (pc' := 27) hC dX8_isSixteenths_26 rfl ?_
    obtain ⟨o1, ho1, hf⟩ := bd_e hf
    refine go_callS0 (pc' := 30) (As := [.int (p3 - (1 : Int32))]) (st := [.long p2.toInt64, .long p1]) (st' := [.long o1, .long p2.toInt64, .long p1])    hC dX8_isSixteenths_27 ⟨mw_1196, mw_917, mw_31, yd_yX8_power, yp_yX8_power, Nat.le_of_ble_eq_true rfl, Nat.le_of_ble_eq_true rfl, (Nat.le_of_ble_eq_true rfl), (Nat.le_of_ble_eq_true rfl)⟩ mw_916 rfl rfl (Nat.le_of_ble_eq_true rfl) (c_X8_power (x_l X) (x_D X) (x_q X) g (x_cy X) (x_z X) _ (p3 - (1 : Int32)) o1 ho1) rfl rfl ?_
    refine go_lmul (pc' := 31) hC dX8_isSixteenths_30 rfl ?_
    refine go_lcmp (pc' := 32) hC dX8_isSixteenths_31 rfl ?_
    refine go_if_lt (tgt := 39) (pc' := 35) hC dX8_isSixteenths_32 (by decide) rfl (fun h2 => ?_) (fun h2 => ?_)
    · have hf := ite_t (lg_lt.mp h2) hf
      refine go_iconst (pc' := 40) hC dX8_isSixteenths_39 ki_0 rfl ?_
      obtain rfl := Option.some.inj hf
      exact go_iret hC hQ dX8_isSixteenths_40 rfl rfl rfl rfl (fun _ => rfl) rfl rfl
    · have hf := ite_f (mt lg_lt.mpr h2) hf
      refine go_iconst (pc' := 36) hC dX8_isSixteenths_35 ki_1 rfl ?_
      refine go_goto (tgt := 40) hC dX8_isSixteenths_36 (by decide) ?_
      obtain rfl := Option.some.inj hf
      exact go_iret hC hQ dX8_isSixteenths_40 rfl rfl rfl rfl (fun _ => rfl) rfl rfl
  · have hf := ite_t h4 hf
    refine go_lload_n (pc' := 5) hC dX8_isSixteenths_4 rfl rfl ?_
    refine go_ldc2 (pc' := 8) hC dX8_isSixteenths_5 mw_951 rfl ?_
    refine go_lmul (pc' := 9) hC dX8_isSixteenths_8 rfl ?_
    refine go_iload_n (pc' := 10) hC dX8_isSixteenths_9 rfl rfl ?_
    refine go_i2l (pc' := 11) hC dX8_isSixteenths_10 rfl ?_
    refine go_lcmp (pc' := 12) hC dX8_isSixteenths_11 rfl ?_
    refine go_if_lt (tgt := 19) (pc' := 15) hC dX8_isSixteenths_12 (by decide) rfl (fun h3 => ?_) (fun h3 => ?_)
    · have hf := ite_t (lg_lt.mp h3) hf
      refine go_iconst (pc' := 20) hC dX8_isSixteenths_19 ki_0 rfl ?_
      obtain rfl := Option.some.inj hf
      exact go_iret hC hQ dX8_isSixteenths_20 rfl rfl rfl rfl (fun _ => rfl) rfl rfl
    · have hf := ite_f (mt lg_lt.mpr h3) hf
      refine go_iconst (pc' := 16) hC dX8_isSixteenths_15 ki_1 rfl ?_
      refine go_goto (tgt := 20) hC dX8_isSixteenths_16 (by decide) ?_
      obtain rfl := Option.some.inj hf
      exact go_iret hC hQ dX8_isSixteenths_20 rfl rfl rfl rfl (fun _ => rfl) rfl rfl
theorem dX0_shortest_0 : decode cX0_shortest 0 = .ok (.bipush (-2), 2) := by decide +kernel
theorem dX0_shortest_2 : decode cX0_shortest 2 = .ok (.istore_n 2, 1) := by decide +kernel
theorem dX0_shortest_3 : decode cX0_shortest 3 = .ok (.iconst 0, 1) := by decide +kernel
theorem dX0_shortest_4 : decode cX0_shortest 4 = .ok (.istore_n 3, 1) := by decide +kernel
theorem dX0_shortest_5 : decode cX0_shortest 5 = .ok (.lconst 0, 1) := by decide +kernel
theorem dX0_shortest_6 : decode cX0_shortest 6 = .ok (.lstore 4, 2) := by decide +kernel
theorem dX0_shortest_8 : decode cX0_shortest 8 = .ok (.iconst 0, 1) := by decide +kernel
theorem dX0_shortest_9 : decode cX0_shortest 9 = .ok (.istore 6, 2) := by decide +kernel
theorem dX0_shortest_11 : decode cX0_shortest 11 = .ok (.iload 6, 2) := by decide +kernel
theorem dX0_shortest_13 : decode cX0_shortest 13 = .ok (.iconst 1, 1) := by decide +kernel
theorem dX0_shortest_14 : decode cX0_shortest 14 = .ok (.aload_n 0, 1) := by decide +kernel
theorem dX0_shortest_15 : decode cX0_shortest 15 = .ok (.getfield 45, 3) := by decide +kernel
theorem dX0_shortest_18 : decode cX0_shortest 18 = .ok (.ishl, 1) := by decide +kernel
theorem dX0_shortest_19 : decode cX0_shortest 19 = .ok (.if_icmp .ge 94, 3) := by decide +kernel
theorem dX0_shortest_22 : decode cX0_shortest 22 = .ok (.aload_n 0, 1) := by decide +kernel
theorem dX0_shortest_23 : decode cX0_shortest 23 = .ok (.iload 6, 2) := by decide +kernel
theorem dX0_shortest_25 : decode cX0_shortest 25 = .ok (.invokevirtual 91, 3) := by decide +kernel
theorem dX0_shortest_28 : decode cX0_shortest 28 = .ok (.istore 7, 2) := by decide +kernel
theorem dX0_shortest_30 : decode cX0_shortest 30 = .ok (.iload_n 2, 1) := by decide +kernel
theorem dX0_shortest_31 : decode cX0_shortest 31 = .ok (.ifCond .lt 28, 3) := by decide +kernel
theorem dX0_shortest_34 : decode cX0_shortest 34 = .ok (.iload 7, 2) := by decide +kernel
theorem dX0_shortest_36 : decode cX0_shortest 36 = .ok (.iload_n 3, 1) := by decide +kernel
theorem dX0_shortest_37 : decode cX0_shortest 37 = .ok (.if_icmp .lt 22, 3) := by decide +kernel
theorem dX0_shortest_40 : decode cX0_shortest 40 = .ok (.iload 7, 2) := by decide +kernel
theorem dX0_shortest_42 : decode cX0_shortest 42 = .ok (.iload_n 3, 1) := by decide +kernel
theorem dX0_shortest_43 : decode cX0_shortest 43 = .ok (.if_icmp .ne 20, 3) := by decide +kernel
theorem dX0_shortest_46 : decode cX0_shortest 46 = .ok (.aload_n 0, 1) := by decide +kernel
theorem dX0_shortest_47 : decode cX0_shortest 47 = .ok (.getfield 9, 3) := by decide +kernel
theorem dX0_shortest_50 : decode cX0_shortest 50 = .ok (.iload 6, 2) := by decide +kernel
theorem dX0_shortest_52 : decode cX0_shortest 52 = .ok (.laload, 1) := by decide +kernel
theorem dX0_shortest_53 : decode cX0_shortest 53 = .ok (.lload 4, 2) := by decide +kernel
theorem dX0_shortest_55 : decode cX0_shortest 55 = .ok (.lcmp, 1) := by decide +kernel
theorem dX0_shortest_56 : decode cX0_shortest 56 = .ok (.ifCond .le 7, 3) := by decide +kernel
theorem dX0_shortest_59 : decode cX0_shortest 59 = .ok (.iconst 1, 1) := by decide +kernel
theorem dX0_shortest_60 : decode cX0_shortest 60 = .ok (.goto 4, 3) := by decide +kernel
theorem dX0_shortest_63 : decode cX0_shortest 63 = .ok (.iconst 0, 1) := by decide +kernel
theorem dX0_shortest_64 : decode cX0_shortest 64 = .ok (.istore 8, 2) := by decide +kernel
theorem dX0_shortest_66 : decode cX0_shortest 66 = .ok (.iload 8, 2) := by decide +kernel
theorem dX0_shortest_68 : decode cX0_shortest 68 = .ok (.ifCond .eq 39, 3) := by decide +kernel
theorem dX0_shortest_71 : decode cX0_shortest 71 = .ok (.aload_n 0, 1) := by decide +kernel
theorem dX0_shortest_72 : decode cX0_shortest 72 = .ok (.getfield 9, 3) := by decide +kernel
theorem dX0_shortest_75 : decode cX0_shortest 75 = .ok (.iload 6, 2) := by decide +kernel
theorem dX0_shortest_77 : decode cX0_shortest 77 = .ok (.laload, 1) := by decide +kernel
theorem dX0_shortest_78 : decode cX0_shortest 78 = .ok (.iload_n 1, 1) := by decide +kernel
theorem dX0_shortest_79 : decode cX0_shortest 79 = .ok (.aload_n 0, 1) := by decide +kernel
theorem dX0_shortest_80 : decode cX0_shortest 80 = .ok (.getfield 27, 3) := by decide +kernel
theorem dX0_shortest_83 : decode cX0_shortest 83 = .ok (.invokevirtual 95, 3) := by decide +kernel
theorem dX0_shortest_86 : decode cX0_shortest 86 = .ok (.invokestatic 98, 3) := by decide +kernel
theorem dX0_shortest_89 : decode cX0_shortest 89 = .ok (.ifCond .eq 18, 3) := by decide +kernel
theorem dX0_shortest_92 : decode cX0_shortest 92 = .ok (.iload 6, 2) := by decide +kernel
theorem dX0_shortest_94 : decode cX0_shortest 94 = .ok (.istore_n 2, 1) := by decide +kernel
theorem dX0_shortest_95 : decode cX0_shortest 95 = .ok (.iload 7, 2) := by decide +kernel
theorem dX0_shortest_97 : decode cX0_shortest 97 = .ok (.istore_n 3, 1) := by decide +kernel
theorem dX0_shortest_98 : decode cX0_shortest 98 = .ok (.aload_n 0, 1) := by decide +kernel
theorem dX0_shortest_99 : decode cX0_shortest 99 = .ok (.getfield 9, 3) := by decide +kernel
theorem dX0_shortest_102 : decode cX0_shortest 102 = .ok (.iload 6, 2) := by decide +kernel
theorem dX0_shortest_104 : decode cX0_shortest 104 = .ok (.laload, 1) := by decide +kernel
theorem dX0_shortest_105 : decode cX0_shortest 105 = .ok (.lstore 4, 2) := by decide +kernel
theorem dX0_shortest_107 : decode cX0_shortest 107 = .ok (.iinc 6 1, 3) := by decide +kernel
theorem dX0_shortest_110 : decode cX0_shortest 110 = .ok (.goto (-99), 3) := by decide +kernel
theorem dX0_shortest_113 : decode cX0_shortest 113 = .ok (.iload_n 2, 1) := by decide +kernel
theorem dX0_shortest_114 : decode cX0_shortest 114 = .ok (.ireturn, 1) := by decide +kernel
abbrev o_X0_shortest_q131 : Type := Int32
def f_X0_shortest_q131_L11 (S : wd_W) (p1 : Int32) (r5 : (Int32) → (Int32) → (Int64) → (Int32) → (Option o_X0_shortest_q131)) (x1 : Int32) (x2 : Int32) (x3 : Int64) (x4 : Int32) : Option o_X0_shortest_q131 :=
if ((1 : Int32) <<< ((S.1 13105) &&& 31)) ≤ x4 then (
some x1) else (
bd (f_X0_lengthOf_q131 (wd_o S [] [] [] [] []) x4) fun o6 =>
lk (fun x7 =>
lk (fun x9 x10 x11 =>
r5 x9 x10 x11 (x4 + (1 : Int32))) fun k107_12 =>
if x7 = 0 then (
k107_12 x1 x2 x3) else (
gd (okx x4 (S.2.2.2.2 132)) <|
bd (f_X2_things_q16 (wd_o S [] [] [] [] [])) fun o14 =>
bd (f_X8_isSixteenths ((S.2.2.2.1 132) x4.toNatClampNeg) p1 o14) fun o15 =>
if o15 = 0 then (
k107_12 x1 x2 x3) else (
gd (okx x4 (S.2.2.2.2 132)) <|
lz ((S.2.2.2.1 132) x4.toNatClampNeg) fun x17 =>
k107_12 x4 o6 x17))) fun k64_8 =>
lk (k64_8 (1 : Int32)) fun k59_20 =>
if x1 < 0 then (
k59_20) else (
if o6 < x2 then (
k59_20) else (
lk (k64_8 (0 : Int32)) fun k63_21 =>
if o6 = x2 then (
gd (okx x4 (S.2.2.2.2 132)) <|
if ((S.2.2.2.1 132) x4.toNatClampNeg) ≤ x3 then (
k63_21) else (
k59_20)) else (
k63_21))))
def f_X0_shortest_q131 (S : wd_W) (p1 : Int32) : Option o_X0_shortest_q131 :=
it4 (f_X0_shortest_q131_L11 S p1) fuel (-2 : Int32) (0 : Int32) (0 : Int64) (0 : Int32)
set_option maxRecDepth 100000 in
set_option maxHeartbeats 4000000 in
theorem c_X0_shortest_q131 (l : Launch) (D : va_G) (q g : Nat → Nat) (cy : Nat → ClassId) (z : (Nat → Nat) × (Nat → Nat) × Nat) (S : wd_W) (p1 : Int32) (o : o_X0_shortest_q131) (hf : f_X0_shortest_q131 S p1 = some o) : MX layX l yX0_shortest cX0_shortest 9 (some .int) ({ frames := 2, cells := 0, slots := 0, locals := 43 } : Room) D q g cy z [.ref (q 131), .int p1] S false (some (.int o)) (wd_o S [] [] [] [] []) 0 0 := by
  refine mx_of (own := RX0) (lc := [(0, .ref (q 131)), (1, .int p1)]) (by decide +kernel) rfl layX_ok (Nat.le_of_ble_eq_true rfl) rfl ?_
  intro X hXl hXq hXz hC hQ
  subst hXl; subst hXq; subst hXz
  unfold f_X0_shortest_q131 at hf
  refine go_bipush (pc' := 2) hC dX0_shortest_0 kb_m2 rfl ?_
  refine go_istore_n (lc' := [(0, .ref (x_q X 131)), (1, .int p1), (2, .int (-2 : Int32))]) (pc' := 3) hC dX0_shortest_2 (Nat.le_of_ble_eq_true rfl) rfl rfl ?_
  refine go_iconst (pc' := 4) hC dX0_shortest_3 ki_0 rfl ?_
  refine go_istore_n (lc' := [(0, .ref (x_q X 131)), (1, .int p1), (2, .int (-2 : Int32)), (3, .int (0 : Int32))]) (pc' := 5) hC dX0_shortest_4 (Nat.le_of_ble_eq_true rfl) rfl rfl ?_
  refine go_lconst (pc' := 6) hC dX0_shortest_5 kl_0 rfl ?_
  refine go_lstore (lc' := [(0, .ref (x_q X 131)), (1, .int p1), (2, .int (-2 : Int32)), (3, .int (0 : Int32)), (4, .long (0 : Int64))]) (pc' := 8) hC dX0_shortest_6 (Nat.le_of_ble_eq_true rfl) rfl rfl ?_
  refine go_iconst (pc' := 9) hC dX0_shortest_8 ki_0 rfl ?_
  refine go_istore (lc' := [(0, .ref (x_q X 131)), (1, .int p1), (2, .int (-2 : Int32)), (3, .int (0 : Int32)), (4, .long (0 : Int64)), (6, .int (0 : Int32))]) (pc' := 11) hC dX0_shortest_9 (Nat.le_of_ble_eq_true rfl) rfl rfl ?_
  have l11_28 : ∀ (nn : Nat) (x1 : Int32) (x2 : Int32) (x3 : Int64) (x4 : Int32), it4 (f_X0_shortest_q131_L11 S p1) nn x1 x2 x3 x4 = some o → Go X layX S 11 [(0, .ref (x_q X 131)), (1, .int p1), (2, .int x1), (3, .int x2), (4, .long x3), (6, .int x4)] [] g [] [] [] [] [] 0 0 := by
    intro nn
    induction nn with
    | zero =>
      intro x1 x2 x3 x4 hf
      exact none_no hf
    | succ nn ih =>
      intro x1 x2 x3 x4 hf
      have hf : f_X0_shortest_q131_L11 S p1 (it4 (f_X0_shortest_q131_L11 S p1) nn) x1 x2 x3 x4 = some o := hf
      generalize it4 (f_X0_shortest_q131_L11 S p1) nn = r5 at ih hf
      unfold f_X0_shortest_q131_L11 at hf
      refine go_iload (pc' := 13) hC dX0_shortest_11 rfl rfl ?_
      refine go_iconst (pc' := 14) hC dX0_shortest_13 ki_1 rfl ?_
      refine go_aload_n (pc' := 15) hC dX0_shortest_14 rfl rfl ?_
      refine go_geti (v := (S.1 13105)) (pc' := 18) hC 131 5 layX_131 rfl rfl inlX0 (Nat.le_of_ble_eq_true rfl) mw_766 rfl dX0_shortest_15 rfl rfl ?_
      refine go_ishl (pc' := 19) hC dX0_shortest_18 rfl ?_
      refine go_icmp_ge (tgt := 113) (pc' := 22) hC dX0_shortest_19 (by decide) rfl (fun h27 => ?_) (fun h27 => ?_)
      · have hf := ite_t h27 hf
        refine go_iload_n (pc' := 114) hC dX0_shortest_113 rfl rfl ?_
        obtain rfl := Option.some.inj hf
        exact go_iret hC hQ dX0_shortest_114 rfl rfl rfl rfl (fun _ => rfl) rfl rfl
      · have hf := ite_f h27 hf
        refine go_aload_n (pc' := 23) hC dX0_shortest_22 rfl rfl ?_
        refine go_iload (pc' := 25) hC dX0_shortest_23 rfl rfl ?_
        obtain ⟨o6, ho6, hf⟩ := bd_e hf
        refine go_callV0 (pc' := 28) (As := [.int x4]) (st := []) (st' := [.int o6])    (b := 131) hC dX0_shortest_25 ⟨mw_1187, mw_1190, mw_40, yd_yX0_lengthOf, yp_yX0_lengthOf, Nat.le_of_ble_eq_true rfl, Nat.le_of_ble_eq_true rfl, (Nat.le_of_ble_eq_true rfl), (Nat.le_of_ble_eq_true rfl)⟩ mw_1188 mw_1189 layX_131 rfl rfl rfl (Nat.le_of_ble_eq_true rfl) (c_X0_lengthOf_q131 (x_l X) (x_D X) (x_q X) g (x_cy X) (x_z X) _ x4 o6 ho6) rfl rfl ?_
        refine go_istore (lc' := [(0, .ref (x_q X 131)), (1, .int p1), (2, .int x1), (3, .int x2), (4, .long x3), (6, .int x4), (7, .int o6)]) (pc' := 30) hC dX0_shortest_28 (Nat.le_of_ble_eq_true rfl) rfl rfl ?_
        refine go_iload_n (pc' := 31) hC dX0_shortest_30 rfl rfl ?_
        obtain ⟨k64_8, hk64_8, hf⟩ := lk_e1 hf
        have jk64_8 : ∀ (x7 : Int32), k64_8 x7 = some o → Go X layX S 64 [(0, .ref (x_q X 131)), (1, .int p1), (2, .int x1), (3, .int x2), (4, .long x3), (6, .int x4), (7, .int o6)] [.int x7] g [] [] [] [] [] 0 0 := by
          intro x7 hf
          have hf := hk64_8 x7 hf
          clear hk64_8
          refine go_istore (lc' := [(0, .ref (x_q X 131)), (1, .int p1), (2, .int x1), (3, .int x2), (4, .long x3), (6, .int x4), (7, .int o6), (8, .int x7)]) (pc' := 66) hC dX0_shortest_64 (Nat.le_of_ble_eq_true rfl) rfl rfl ?_
          refine go_iload (pc' := 68) hC dX0_shortest_66 rfl rfl ?_
          obtain ⟨k107_12, hk107_12, hf⟩ := lk_e3 hf
          have jk107_12 : ∀ (x9 : Int32) (x10 : Int32) (x11 : Int64), k107_12 x9 x10 x11 = some o → Go X layX S 107 [(0, .ref (x_q X 131)), (1, .int p1), (2, .int x9), (3, .int x10), (4, .long x11), (6, .int x4)] [] g [] [] [] [] [] 0 0 := by
            intro x9 x10 x11 hf
            have hf := hk107_12 x9 x10 x11 hf
            clear hk107_12
            refine go_iinc (lc' := [(0, .ref (x_q X 131)), (1, .int p1), (2, .int x9), (3, .int x10), (4, .long x11), (6, .int (x4 + (1 : Int32)))]) (pc' := 110) hC dX0_shortest_107 rfl ki_1 (Nat.le_of_ble_eq_true rfl) rfl rfl ?_
            refine go_goto (tgt := 11) hC dX0_shortest_110 (by decide) ?_
            exact ih x9 x10 x11 (x4 + (1 : Int32)) hf
          clear hk107_12
          refine go_if_eq (tgt := 107) (pc' := 71) hC dX0_shortest_68 (by decide) rfl (fun h19 => ?_) (fun h19 => ?_)
          · have hf := ite_t h19 hf
            refine go_sub [0, 1, 2, 3, 4, 6] rfl ?_
            exact jk107_12 x1 x2 x3 hf
          · have hf := ite_f h19 hf
            refine go_aload_n (pc' := 72) hC dX0_shortest_71 rfl rfl ?_
            refine go_getg (pc' := 75) hC 131 0 layX_131 rfl rfl inlX0 (Nat.le_of_ble_eq_true rfl) mw_139 rfl dX0_shortest_72 rfl ?_
            refine go_iload (pc' := 77) hC dX0_shortest_75 rfl rfl ?_
            obtain ⟨h13, hf⟩ := gd_e hf
            refine go_laldg (f := (S.2.2.2.1 132)) (pc' := 78) hC 132 layX_132 rfl rfl dX0_shortest_77 (okx_in h13) rfl ?_
            refine go_iload_n (pc' := 79) hC dX0_shortest_78 rfl rfl ?_
            refine go_aload_n (pc' := 80) hC dX0_shortest_79 rfl rfl ?_
            refine go_getq (pc' := 83) hC 131 2 layX_131 rfl rfl inlX0 (Nat.le_of_ble_eq_true rfl) mw_144 rfl dX0_shortest_80 rfl ?_
            obtain ⟨o14, ho14, hf⟩ := bd_e hf
            refine go_callV0 (pc' := 86) (As := []) (st := [.int p1, .long ((S.2.2.2.1 132) x4.toNatClampNeg)]) (st' := [.int o14, .int p1, .long ((S.2.2.2.1 132) x4.toNatClampNeg)])    (b := 16) hC dX0_shortest_83 ⟨mw_1192, mw_418, mw_14, yd_yX2_things, yp_yX2_things, Nat.le_of_ble_eq_true rfl, Nat.le_of_ble_eq_true rfl, (Nat.le_of_ble_eq_true rfl), (Nat.le_of_ble_eq_true rfl)⟩ mw_416 mw_417 layX_16 rfl rfl rfl (Nat.le_of_ble_eq_true rfl) (c_X2_things_q16 (x_l X) (x_D X) (x_q X) g (x_cy X) (x_z X) _  o14 ho14) rfl rfl ?_
            obtain ⟨o15, ho15, hf⟩ := bd_e hf
            refine go_callS0 (pc' := 89) (As := [.long ((S.2.2.2.1 132) x4.toNatClampNeg), .int p1, .int o14]) (st := []) (st' := [.int o15])    hC dX0_shortest_86 ⟨mw_1193, mw_1195, mw_31, yd_yX8_isSixteenths, yp_yX8_isSixteenths, Nat.le_of_ble_eq_true rfl, Nat.le_of_ble_eq_true rfl, (Nat.le_of_ble_eq_true rfl), (Nat.le_of_ble_eq_true rfl)⟩ mw_1194 rfl rfl (Nat.le_of_ble_eq_true rfl) (c_X8_isSixteenths (x_l X) (x_D X) (x_q X) g (x_cy X) (x_z X) _ ((S.2.2.2.1 132) x4.toNatClampNeg) p1 o14 o15 ho15) rfl rfl ?_
            refine go_if_eq (tgt := 107) (pc' := 92) hC dX0_shortest_89 (by decide) rfl (fun h18 => ?_) (fun h18 => ?_)
            · have hf := ite_t h18 hf
              refine go_sub [0, 1, 2, 3, 4, 6] rfl ?_
              exact jk107_12 x1 x2 x3 hf
            · have hf := ite_f h18 hf
              refine go_iload (pc' := 94) hC dX0_shortest_92 rfl rfl ?_
              refine go_istore_n (lc' := [(0, .ref (x_q X 131)), (1, .int p1), (2, .int x4), (3, .int x2), (4, .long x3), (6, .int x4), (7, .int o6), (8, .int x7)]) (pc' := 95) hC dX0_shortest_94 (Nat.le_of_ble_eq_true rfl) rfl rfl ?_
              refine go_iload (pc' := 97) hC dX0_shortest_95 rfl rfl ?_
              refine go_istore_n (lc' := [(0, .ref (x_q X 131)), (1, .int p1), (2, .int x4), (3, .int o6), (4, .long x3), (6, .int x4), (7, .int o6), (8, .int x7)]) (pc' := 98) hC dX0_shortest_97 (Nat.le_of_ble_eq_true rfl) rfl rfl ?_
              refine go_aload_n (pc' := 99) hC dX0_shortest_98 rfl rfl ?_
              refine go_getg (pc' := 102) hC 131 0 layX_131 rfl rfl inlX0 (Nat.le_of_ble_eq_true rfl) mw_139 rfl dX0_shortest_99 rfl ?_
              refine go_iload (pc' := 104) hC dX0_shortest_102 rfl rfl ?_
              obtain ⟨h16, hf⟩ := gd_e hf
              refine go_laldg (f := (S.2.2.2.1 132)) (pc' := 105) hC 132 layX_132 rfl rfl dX0_shortest_104 (okx_in h16) rfl ?_
              refine go_namel (fun x17 hx => ?_)
              have hf := lz_r hx hf
              clear hx
              refine go_lstore (lc' := [(0, .ref (x_q X 131)), (1, .int p1), (2, .int x4), (3, .int o6), (4, .long x17), (6, .int x4), (7, .int o6), (8, .int x7)]) (pc' := 107) hC dX0_shortest_105 (Nat.le_of_ble_eq_true rfl) rfl rfl ?_
              refine go_sub [0, 1, 2, 3, 4, 6] rfl ?_
              exact jk107_12 x4 o6 x17 hf
        clear hk64_8
        obtain ⟨k59_20, hk59_20, hf⟩ := lk_e0 hf
        have jk59_20 : ∀ (_ : Unit), k59_20 = some o → Go X layX S 59 [(0, .ref (x_q X 131)), (1, .int p1), (2, .int x1), (3, .int x2), (4, .long x3), (6, .int x4), (7, .int o6)] [] g [] [] [] [] [] 0 0 := by
          intro _ hf
          have hf := hk59_20 hf
          clear hk59_20
          refine go_iconst (pc' := 60) hC dX0_shortest_59 ki_1 rfl ?_
          refine go_goto (tgt := 64) hC dX0_shortest_60 (by decide) ?_
          exact jk64_8 (1 : Int32) hf
        clear hk59_20
        refine go_if_lt (tgt := 59) (pc' := 34) hC dX0_shortest_31 (by decide) rfl (fun h26 => ?_) (fun h26 => ?_)
        · have hf := ite_t h26 hf
          exact jk59_20 () hf
        · have hf := ite_f h26 hf
          refine go_iload (pc' := 36) hC dX0_shortest_34 rfl rfl ?_
          refine go_iload_n (pc' := 37) hC dX0_shortest_36 rfl rfl ?_
          refine go_icmp_lt (tgt := 59) (pc' := 40) hC dX0_shortest_37 (by decide) rfl (fun h25 => ?_) (fun h25 => ?_)
          · have hf := ite_t h25 hf
            exact jk59_20 () hf
          · have hf := ite_f h25 hf
            refine go_iload (pc' := 42) hC dX0_shortest_40 rfl rfl ?_
            refine go_iload_n (pc' := 43) hC dX0_shortest_42 rfl rfl ?_
            obtain ⟨k63_21, hk63_21, hf⟩ := lk_e0 hf
            have jk63_21 : ∀ (_ : Unit), k63_21 = some o → Go X layX S 63 [(0, .ref (x_q X 131)), (1, .int p1), (2, .int x1), (3, .int x2), (4, .long x3), (6, .int x4), (7, .int o6)] [] g [] [] [] [] [] 0 0 := by
              intro _ hf
              have hf := hk63_21 hf
              clear hk63_21
              refine go_iconst (pc' := 64) hC dX0_shortest_63 ki_0 rfl ?_
              exact jk64_8 (0 : Int32) hf
            clear hk63_21
            refine go_icmp_ne (tgt := 63) (pc' := 46) hC dX0_shortest_43 (by decide) rfl (fun h24 => ?_) (fun h24 => ?_)
            · have hf := ite_f h24 hf
              exact jk63_21 () hf
            · have hf := ite_t h24 hf
              refine go_aload_n (pc' := 47) hC dX0_shortest_46 rfl rfl ?_
              refine go_getg (pc' := 50) hC 131 0 layX_131 rfl rfl inlX0 (Nat.le_of_ble_eq_true rfl) mw_139 rfl dX0_shortest_47 rfl ?_
              refine go_iload (pc' := 52) hC dX0_shortest_50 rfl rfl ?_
              obtain ⟨h22, hf⟩ := gd_e hf
              refine go_laldg (f := (S.2.2.2.1 132)) (pc' := 53) hC 132 layX_132 rfl rfl dX0_shortest_52 (okx_in h22) rfl ?_
              refine go_lload (pc' := 55) hC dX0_shortest_53 rfl rfl ?_
              refine go_lcmp (pc' := 56) hC dX0_shortest_55 rfl ?_
              refine go_if_le (tgt := 63) (pc' := 59) hC dX0_shortest_56 (by decide) rfl (fun h23 => ?_) (fun h23 => ?_)
              · have hf := ite_t (lg_le.mp h23) hf
                exact jk63_21 () hf
              · have hf := ite_f (mt lg_le.mpr h23) hf
                exact jk59_20 () hf
  exact l11_28 fuel (-2 : Int32) (0 : Int32) (0 : Int64) (0 : Int32) hf
theorem dX11_plan_0 : decode cX11_plan 0 = .ok (.iload_n 1, 1) := by decide +kernel
theorem dX11_plan_1 : decode cX11_plan 1 = .ok (.ifCond .lt 9, 3) := by decide +kernel
theorem dX11_plan_4 : decode cX11_plan 4 = .ok (.iload_n 1, 1) := by decide +kernel
theorem dX11_plan_5 : decode cX11_plan 5 = .ok (.bipush 16, 2) := by decide +kernel
theorem dX11_plan_7 : decode cX11_plan 7 = .ok (.if_icmp .le 5, 3) := by decide +kernel
theorem dX11_plan_10 : decode cX11_plan 10 = .ok (.iconst (-1), 1) := by decide +kernel
theorem dX11_plan_11 : decode cX11_plan 11 = .ok (.ireturn, 1) := by decide +kernel
theorem dX11_plan_12 : decode cX11_plan 12 = .ok (.aload_n 0, 1) := by decide +kernel
theorem dX11_plan_13 : decode cX11_plan 13 = .ok (.bipush 8, 2) := by decide +kernel
theorem dX11_plan_15 : decode cX11_plan 15 = .ok (.invokevirtual 233, 3) := by decide +kernel
theorem dX11_plan_18 : decode cX11_plan 18 = .ok (.aload_n 0, 1) := by decide +kernel
theorem dX11_plan_19 : decode cX11_plan 19 = .ok (.getfield 74, 3) := by decide +kernel
theorem dX11_plan_22 : decode cX11_plan 22 = .ok (.iload_n 1, 1) := by decide +kernel
theorem dX11_plan_23 : decode cX11_plan 23 = .ok (.invokevirtual 262, 3) := by decide +kernel
theorem dX11_plan_26 : decode cX11_plan 26 = .ok (.ireturn, 1) := by decide +kernel
abbrev o_X11_plan : Type := Int32 × wd_W × Nat × Nat
def f_X11_plan (S : wd_W) (p1 : Int32) : Option o_X11_plan :=
if p1 < 0 then (
some ((-1 : Int32), S, 0, 0)) else (
if p1 ≤ (16 : Int32) then (
bd (f_X11_know (wd_o S [] [] [] [] []) (8 : Int32)) fun o1 =>
gd (okr (0 + o1.2.1) (0 + o1.2.2) 0 0 40 500000) <|
bd (f_X0_shortest_q131 (wd_o o1.1 [] [] [] [] []) p1) fun o2 =>
some (o2, o1.1, 0 + o1.2.1, 0 + o1.2.2)) else (
some ((-1 : Int32), S, 0, 0)))
set_option maxRecDepth 100000 in
set_option maxHeartbeats 4000000 in
theorem c_X11_plan (l : Launch) (D : va_G) (q g : Nat → Nat) (cy : Nat → ClassId) (z : (Nat → Nat) × (Nat → Nat) × Nat) (S : wd_W) (p1 : Int32) (o : o_X11_plan) (hf : f_X11_plan S p1 = some o) : MX layX l yX11_plan cX11_plan 2 (some .int) ({ frames := 5, cells := 40, slots := 500000, locals := 127 } : Room) D q g cy z [.ref (q 0), .int p1] S true (some (.int o.1)) o.2.1 o.2.2.1 o.2.2.2 := by
  refine mx_of (own := RX11) (lc := [(0, .ref (q 0)), (1, .int p1)]) (by decide +kernel) rfl layX_ok (Nat.le_of_ble_eq_true rfl) rfl ?_
  intro X hXl hXq hXz hC hQ
  subst hXl; subst hXq; subst hXz
  unfold f_X11_plan at hf
  refine go_iload_n (pc' := 1) hC dX11_plan_0 rfl rfl ?_
  refine go_if_lt (tgt := 10) (pc' := 4) hC dX11_plan_1 (by decide) rfl (fun h5 => ?_) (fun h5 => ?_)
  · have hf := ite_t h5 hf
    refine go_iconst (pc' := 11) hC dX11_plan_10 ki_m1 rfl ?_
    obtain rfl := Option.some.inj hf
    exact go_iret hC hQ dX11_plan_11 rfl rfl rfl rfl (fun h => nomatch h) rfl rfl
  · have hf := ite_f h5 hf
    refine go_iload_n (pc' := 5) hC dX11_plan_4 rfl rfl ?_
    refine go_bipush (pc' := 7) hC dX11_plan_5 kb_16 rfl ?_
    refine go_icmp_le (tgt := 12) (pc' := 10) hC dX11_plan_7 (by decide) rfl (fun h4 => ?_) (fun h4 => ?_)
    · have hf := ite_t h4 hf
      refine go_aload_n (pc' := 13) hC dX11_plan_12 rfl rfl ?_
      refine go_bipush (pc' := 15) hC dX11_plan_13 kb_8 rfl ?_
      obtain ⟨o1, ho1, hf⟩ := bd_e hf
      refine go_callVw (pc' := 18) (As := [.int (8 : Int32)]) (st := []) (st' := [])  (cells' := 0 + o1.2.1) (slots' := 0 + o1.2.2)  (b := 0) hC dX11_plan_15 ⟨mw_597, mw_600, mw_2, yd_yX11_know, yp_yX11_know, Nat.le_of_ble_eq_true rfl, Nat.le_of_ble_eq_true rfl, (Nat.le_of_ble_eq_true rfl), (Nat.le_of_ble_eq_true rfl)⟩ mw_598 mw_599 layX_0 rfl rfl rfl (Nat.le_of_ble_eq_true rfl) (c_X11_know (x_l X) (x_D X) (x_q X) g (x_cy X) (x_z X) _ (8 : Int32) o1 ho1) rfl rfl rfl rfl (fun g _ => ?_)
      refine go_aload_n (pc' := 19) hC dX11_plan_18 rfl rfl ?_
      refine go_getq (pc' := 22) hC 0 13 layX_0 rfl rfl inlX11 (Nat.le_of_ble_eq_true rfl) mw_41 rfl dX11_plan_19 rfl ?_
      refine go_iload_n (pc' := 23) hC dX11_plan_22 rfl rfl ?_
      obtain ⟨h3, hf⟩ := gd_e hf
      obtain ⟨o2, ho2, hf⟩ := bd_e hf
      refine go_callV0 (pc' := 26) (As := [.int p1]) (st := []) (st' := [.int o2])   (rc := { frames := 2, cells := 0, slots := 0, locals := 43 }) (b := 131) hC dX11_plan_23 ⟨mw_1183, mw_1186, mw_40, yd_yX0_shortest, yp_yX0_shortest, Nat.le_of_ble_eq_true rfl, Nat.le_of_ble_eq_true rfl, (okr_c h3), (okr_s h3)⟩ mw_1184 mw_1185 layX_131 rfl rfl rfl (Nat.le_of_ble_eq_true rfl) (c_X0_shortest_q131 (x_l X) (x_D X) (x_q X) g (x_cy X) (x_z X) _ p1 o2 ho2) rfl rfl ?_
      obtain rfl := Option.some.inj hf
      exact go_iret hC hQ dX11_plan_26 rfl rfl rfl rfl (fun h => nomatch h) rfl rfl
    · have hf := ite_f h4 hf
      refine go_iconst (pc' := 11) hC dX11_plan_10 ki_m1 rfl ?_
      obtain rfl := Option.some.inj hf
      exact go_iret hC hQ dX11_plan_11 rfl rfl rfl rfl (fun h => nomatch h) rfl rfl
theorem dX11_judge_0 : decode cX11_judge 0 = .ok (.iload_n 1, 1) := by decide +kernel
theorem dX11_judge_1 : decode cX11_judge 1 = .ok (.ifCond .lt 15, 3) := by decide +kernel
theorem dX11_judge_4 : decode cX11_judge 4 = .ok (.iload_n 1, 1) := by decide +kernel
theorem dX11_judge_5 : decode cX11_judge 5 = .ok (.aload_n 0, 1) := by decide +kernel
theorem dX11_judge_6 : decode cX11_judge 6 = .ok (.getfield 25, 3) := by decide +kernel
theorem dX11_judge_9 : decode cX11_judge 9 = .ok (.getfield 132, 3) := by decide +kernel
theorem dX11_judge_12 : decode cX11_judge 12 = .ok (.ishr, 1) := by decide +kernel
theorem dX11_judge_13 : decode cX11_judge 13 = .ok (.ifCond .eq 7, 3) := by decide +kernel
theorem dX11_judge_16 : decode cX11_judge 16 = .ok (.ldc2_w 186, 3) := by decide +kernel
theorem dX11_judge_19 : decode cX11_judge 19 = .ok (.lreturn, 1) := by decide +kernel
theorem dX11_judge_20 : decode cX11_judge 20 = .ok (.aload_n 0, 1) := by decide +kernel
theorem dX11_judge_21 : decode cX11_judge 21 = .ok (.bipush 8, 2) := by decide +kernel
theorem dX11_judge_23 : decode cX11_judge 23 = .ok (.invokevirtual 233, 3) := by decide +kernel
theorem dX11_judge_26 : decode cX11_judge 26 = .ok (.aload_n 0, 1) := by decide +kernel
theorem dX11_judge_27 : decode cX11_judge 27 = .ok (.getfield 74, 3) := by decide +kernel
theorem dX11_judge_30 : decode cX11_judge 30 = .ok (.getfield 265, 3) := by decide +kernel
theorem dX11_judge_33 : decode cX11_judge 33 = .ok (.iload_n 1, 1) := by decide +kernel
theorem dX11_judge_34 : decode cX11_judge 34 = .ok (.laload, 1) := by decide +kernel
theorem dX11_judge_35 : decode cX11_judge 35 = .ok (.lreturn, 1) := by decide +kernel
abbrev o_X11_judge : Type := Int64 × wd_W × Nat × Nat
def f_X11_judge (S : wd_W) (p1 : Int32) : Option o_X11_judge :=
if p1 < 0 then (
some ((-1 : Int64), S, 0, 0)) else (
if (p1 >>> ((S.1 1601) &&& 31)) = 0 then (
bd (f_X11_know (wd_o S [] [] [] [] []) (8 : Int32)) fun o1 =>
gd (okx p1 (o1.1.2.2.2.2 132)) <|
some ((o1.1.2.2.2.1 132) p1.toNatClampNeg, o1.1, 0 + o1.2.1, 0 + o1.2.2)) else (
some ((-1 : Int64), S, 0, 0)))
set_option maxRecDepth 100000 in
set_option maxHeartbeats 4000000 in
theorem c_X11_judge (l : Launch) (D : va_G) (q g : Nat → Nat) (cy : Nat → ClassId) (z : (Nat → Nat) × (Nat → Nat) × Nat) (S : wd_W) (p1 : Int32) (o : o_X11_judge) (hf : f_X11_judge S p1 = some o) : MX layX l yX11_judge cX11_judge 2 (some .long) ({ frames := 5, cells := 40, slots := 500000, locals := 127 } : Room) D q g cy z [.ref (q 0), .int p1] S true (some (.long o.1)) o.2.1 o.2.2.1 o.2.2.2 := by
  refine mx_of (own := RX11) (lc := [(0, .ref (q 0)), (1, .int p1)]) (by decide +kernel) rfl layX_ok (Nat.le_of_ble_eq_true rfl) rfl ?_
  intro X hXl hXq hXz hC hQ
  subst hXl; subst hXq; subst hXz
  unfold f_X11_judge at hf
  refine go_iload_n (pc' := 1) hC dX11_judge_0 rfl rfl ?_
  refine go_if_lt (tgt := 16) (pc' := 4) hC dX11_judge_1 (by decide) rfl (fun h4 => ?_) (fun h4 => ?_)
  · have hf := ite_t h4 hf
    refine go_ldc2 (pc' := 19) hC dX11_judge_16 mw_909 rfl ?_
    obtain rfl := Option.some.inj hf
    exact go_lret hC hQ dX11_judge_19 rfl rfl rfl (fun h => nomatch h) rfl rfl
  · have hf := ite_f h4 hf
    refine go_iload_n (pc' := 5) hC dX11_judge_4 rfl rfl ?_
    refine go_aload_n (pc' := 6) hC dX11_judge_5 rfl rfl ?_
    refine go_getq (pc' := 9) hC 0 2 layX_0 rfl rfl inlX11 (Nat.le_of_ble_eq_true rfl) mw_20 rfl dX11_judge_6 rfl ?_
    refine go_geti (v := (S.1 1601)) (pc' := 12) hC 16 1 layX_16 rfl rfl inlX2 (Nat.le_of_ble_eq_true rfl) mw_562 rfl dX11_judge_9 rfl rfl ?_
    refine go_ishr (pc' := 13) hC dX11_judge_12 rfl ?_
    refine go_if_eq (tgt := 20) (pc' := 16) hC dX11_judge_13 (by decide) rfl (fun h3 => ?_) (fun h3 => ?_)
    · have hf := ite_t h3 hf
      refine go_aload_n (pc' := 21) hC dX11_judge_20 rfl rfl ?_
      refine go_bipush (pc' := 23) hC dX11_judge_21 kb_8 rfl ?_
      obtain ⟨o1, ho1, hf⟩ := bd_e hf
      refine go_callVw (pc' := 26) (As := [.int (8 : Int32)]) (st := []) (st' := [])  (cells' := 0 + o1.2.1) (slots' := 0 + o1.2.2)  (b := 0) hC dX11_judge_23 ⟨mw_597, mw_600, mw_2, yd_yX11_know, yp_yX11_know, Nat.le_of_ble_eq_true rfl, Nat.le_of_ble_eq_true rfl, (Nat.le_of_ble_eq_true rfl), (Nat.le_of_ble_eq_true rfl)⟩ mw_598 mw_599 layX_0 rfl rfl rfl (Nat.le_of_ble_eq_true rfl) (c_X11_know (x_l X) (x_D X) (x_q X) g (x_cy X) (x_z X) _ (8 : Int32) o1 ho1) rfl rfl rfl rfl (fun g _ => ?_)
      refine go_aload_n (pc' := 27) hC dX11_judge_26 rfl rfl ?_
      refine go_getq (pc' := 30) hC 0 13 layX_0 rfl rfl inlX11 (Nat.le_of_ble_eq_true rfl) mw_41 rfl dX11_judge_27 rfl ?_
      refine go_getg (pc' := 33) hC 131 0 layX_131 rfl rfl inlX0 (Nat.le_of_ble_eq_true rfl) mw_1217 rfl dX11_judge_30 rfl ?_
      refine go_iload_n (pc' := 34) hC dX11_judge_33 rfl rfl ?_
      obtain ⟨h2, hf⟩ := gd_e hf
      refine go_laldg (f := (o1.1.2.2.2.1 132)) (pc' := 35) hC 132 layX_132 rfl rfl dX11_judge_34 (okx_in h2) rfl ?_
      obtain rfl := Option.some.inj hf
      exact go_lret hC hQ dX11_judge_35 rfl rfl rfl (fun h => nomatch h) rfl rfl
    · have hf := ite_f h3 hf
      refine go_ldc2 (pc' := 19) hC dX11_judge_16 mw_909 rfl ?_
      obtain rfl := Option.some.inj hf
      exact go_lret hC hQ dX11_judge_19 rfl rfl rfl (fun h => nomatch h) rfl rfl
theorem dX11_without_0 : decode cX11_without 0 = .ok (.iload_n 1, 1) := by decide +kernel
theorem dX11_without_1 : decode cX11_without 1 = .ok (.ifCond .lt 14, 3) := by decide +kernel
theorem dX11_without_4 : decode cX11_without 4 = .ok (.iload_n 1, 1) := by decide +kernel
theorem dX11_without_5 : decode cX11_without 5 = .ok (.aload_n 0, 1) := by decide +kernel
theorem dX11_without_6 : decode cX11_without 6 = .ok (.getfield 25, 3) := by decide +kernel
theorem dX11_without_9 : decode cX11_without 9 = .ok (.getfield 268, 3) := by decide +kernel
theorem dX11_without_12 : decode cX11_without 12 = .ok (.if_icmp .lt 7, 3) := by decide +kernel
theorem dX11_without_15 : decode cX11_without 15 = .ok (.ldc2_w 186, 3) := by decide +kernel
theorem dX11_without_18 : decode cX11_without 18 = .ok (.lreturn, 1) := by decide +kernel
theorem dX11_without_19 : decode cX11_without 19 = .ok (.aload_n 0, 1) := by decide +kernel
theorem dX11_without_20 : decode cX11_without 20 = .ok (.invokevirtual 171, 3) := by decide +kernel
theorem dX11_without_23 : decode cX11_without 23 = .ok (.aload_n 0, 1) := by decide +kernel
theorem dX11_without_24 : decode cX11_without 24 = .ok (.getfield 25, 3) := by decide +kernel
theorem dX11_without_27 : decode cX11_without 27 = .ok (.getfield 132, 3) := by decide +kernel
theorem dX11_without_30 : decode cX11_without 30 = .ok (.aload_n 0, 1) := by decide +kernel
theorem dX11_without_31 : decode cX11_without 31 = .ok (.getfield 25, 3) := by decide +kernel
theorem dX11_without_34 : decode cX11_without 34 = .ok (.getfield 271, 3) := by decide +kernel
theorem dX11_without_37 : decode cX11_without 37 = .ok (.iadd, 1) := by decide +kernel
theorem dX11_without_38 : decode cX11_without 38 = .ok (.iload_n 1, 1) := by decide +kernel
theorem dX11_without_39 : decode cX11_without 39 = .ok (.iadd, 1) := by decide +kernel
theorem dX11_without_40 : decode cX11_without 40 = .ok (.iconst 1, 1) := by decide +kernel
theorem dX11_without_41 : decode cX11_without 41 = .ok (.invokevirtual 191, 3) := by decide +kernel
theorem dX11_without_44 : decode cX11_without 44 = .ok (.lreturn, 1) := by decide +kernel
abbrev o_X11_without : Type := Int64 × wd_W × Nat × Nat
def f_X11_without (S : wd_W) (p1 : Int32) : Option o_X11_without :=
if p1 < 0 then (
some ((-1 : Int64), S, 0, 0)) else (
if p1 < (S.1 1610) then (
bd (f_X11_knownSets (wd_o S [] [] [] [] [])) fun o1 =>
gd (okr (0 + o1.2.1) (0 + o1.2.2) 0 0 40 500000) <|
bd (f_X8_given_q106 (wd_o o1.1 [] [] [] [] []) (((o1.1.1 1601) + (o1.1.1 1607)) + p1) (1 : Int32)) fun o2 =>
some (o2, o1.1, 0 + o1.2.1, 0 + o1.2.2)) else (
some ((-1 : Int64), S, 0, 0)))
set_option maxRecDepth 100000 in
set_option maxHeartbeats 4000000 in
theorem c_X11_without (l : Launch) (D : va_G) (q g : Nat → Nat) (cy : Nat → ClassId) (z : (Nat → Nat) × (Nat → Nat) × Nat) (S : wd_W) (p1 : Int32) (o : o_X11_without) (hf : f_X11_without S p1 = some o) : MX layX l yX11_without cX11_without 2 (some .long) ({ frames := 6, cells := 40, slots := 500000, locals := 147 } : Room) D q g cy z [.ref (q 0), .int p1] S true (some (.long o.1)) o.2.1 o.2.2.1 o.2.2.2 := by
  refine mx_of (own := RX11) (lc := [(0, .ref (q 0)), (1, .int p1)]) (by decide +kernel) rfl layX_ok (Nat.le_of_ble_eq_true rfl) rfl ?_
  intro X hXl hXq hXz hC hQ
  subst hXl; subst hXq; subst hXz
  unfold f_X11_without at hf
  refine go_iload_n (pc' := 1) hC dX11_without_0 rfl rfl ?_
  refine go_if_lt (tgt := 15) (pc' := 4) hC dX11_without_1 (by decide) rfl (fun h5 => ?_) (fun h5 => ?_)
  · have hf := ite_t h5 hf
    refine go_ldc2 (pc' := 18) hC dX11_without_15 mw_909 rfl ?_
    obtain rfl := Option.some.inj hf
    exact go_lret hC hQ dX11_without_18 rfl rfl rfl (fun h => nomatch h) rfl rfl
  · have hf := ite_f h5 hf
    refine go_iload_n (pc' := 5) hC dX11_without_4 rfl rfl ?_
    refine go_aload_n (pc' := 6) hC dX11_without_5 rfl rfl ?_
    refine go_getq (pc' := 9) hC 0 2 layX_0 rfl rfl inlX11 (Nat.le_of_ble_eq_true rfl) mw_20 rfl dX11_without_6 rfl ?_
    refine go_geti (v := (S.1 1610)) (pc' := 12) hC 16 10 layX_16 rfl rfl inlX2 (Nat.le_of_ble_eq_true rfl) mw_1226 rfl dX11_without_9 rfl rfl ?_
    refine go_icmp_lt (tgt := 19) (pc' := 15) hC dX11_without_12 (by decide) rfl (fun h4 => ?_) (fun h4 => ?_)
    · have hf := ite_t h4 hf
      refine go_aload_n (pc' := 20) hC dX11_without_19 rfl rfl ?_
      obtain ⟨o1, ho1, hf⟩ := bd_e hf
      refine go_callVw (pc' := 23) (As := []) (st := []) (st' := [.ref (x_q X 106)])  (cells' := 0 + o1.2.1) (slots' := 0 + o1.2.2)  (b := 0) hC dX11_without_20 ⟨mw_593, mw_596, mw_2, yd_yX11_knownSets, yp_yX11_knownSets, Nat.le_of_ble_eq_true rfl, Nat.le_of_ble_eq_true rfl, (Nat.le_of_ble_eq_true rfl), (Nat.le_of_ble_eq_true rfl)⟩ mw_594 mw_595 layX_0 rfl rfl rfl (Nat.le_of_ble_eq_true rfl) (c_X11_knownSets (x_l X) (x_D X) (x_q X) g (x_cy X) (x_z X) _  o1 ho1) rfl rfl rfl rfl (fun g _ => ?_)
      refine go_aload_n (pc' := 24) hC dX11_without_23 rfl rfl ?_
      refine go_getq (pc' := 27) hC 0 2 layX_0 rfl rfl inlX11 (Nat.le_of_ble_eq_true rfl) mw_20 rfl dX11_without_24 rfl ?_
      refine go_geti (v := (o1.1.1 1601)) (pc' := 30) hC 16 1 layX_16 rfl rfl inlX2 (Nat.le_of_ble_eq_true rfl) mw_562 rfl dX11_without_27 rfl rfl ?_
      refine go_aload_n (pc' := 31) hC dX11_without_30 rfl rfl ?_
      refine go_getq (pc' := 34) hC 0 2 layX_0 rfl rfl inlX11 (Nat.le_of_ble_eq_true rfl) mw_20 rfl dX11_without_31 rfl ?_
      refine go_geti (v := (o1.1.1 1607)) (pc' := 37) hC 16 7 layX_16 rfl rfl inlX2 (Nat.le_of_ble_eq_true rfl) mw_1227 rfl dX11_without_34 rfl rfl ?_
      refine go_iadd (pc' := 38) hC dX11_without_37 rfl ?_
      refine go_iload_n (pc' := 39) hC dX11_without_38 rfl rfl ?_
      refine go_iadd (pc' := 40) hC dX11_without_39 rfl ?_
      refine go_iconst (pc' := 41) hC dX11_without_40 ki_1 rfl ?_
      obtain ⟨h3, hf⟩ := gd_e hf
      obtain ⟨o2, ho2, hf⟩ := bd_e hf
      refine go_callV0 (pc' := 44) (As := [.int (((o1.1.1 1601) + (o1.1.1 1607)) + p1), .int (1 : Int32)]) (st := []) (st' := [.long o2])   (rc := { frames := 2, cells := 0, slots := 0, locals := 42 }) (b := 106) hC dX11_without_41 ⟨mw_947, mw_950, mw_31, yd_yX8_given, yp_yX8_given, Nat.le_of_ble_eq_true rfl, Nat.le_of_ble_eq_true rfl, (okr_c h3), (okr_s h3)⟩ mw_948 mw_949 layX_106 rfl rfl rfl (Nat.le_of_ble_eq_true rfl) (c_X8_given_q106 (x_l X) (x_D X) (x_q X) g (x_cy X) (x_z X) _ (((o1.1.1 1601) + (o1.1.1 1607)) + p1) (1 : Int32) o2 ho2) rfl rfl ?_
      obtain rfl := Option.some.inj hf
      exact go_lret hC hQ dX11_without_44 rfl rfl rfl (fun h => nomatch h) rfl rfl
    · have hf := ite_f h4 hf
      refine go_ldc2 (pc' := 18) hC dX11_without_15 mw_909 rfl ?_
      obtain rfl := Option.some.inj hf
      exact go_lret hC hQ dX11_without_18 rfl rfl rfl (fun h => nomatch h) rfl rfl
theorem dX11_isPair_0 : decode cX11_isPair 0 = .ok (.iload_n 1, 1) := by decide +kernel
theorem dX11_isPair_1 : decode cX11_isPair 1 = .ok (.ifCond .lt 38, 3) := by decide +kernel
theorem dX11_isPair_4 : decode cX11_isPair 4 = .ok (.iload_n 1, 1) := by decide +kernel
theorem dX11_isPair_5 : decode cX11_isPair 5 = .ok (.aload_n 0, 1) := by decide +kernel
theorem dX11_isPair_6 : decode cX11_isPair 6 = .ok (.getfield 25, 3) := by decide +kernel
theorem dX11_isPair_9 : decode cX11_isPair 9 = .ok (.getfield 158, 3) := by decide +kernel
theorem dX11_isPair_12 : decode cX11_isPair 12 = .ok (.if_icmp .ge 27, 3) := by decide +kernel
theorem dX11_isPair_15 : decode cX11_isPair 15 = .ok (.iload_n 2, 1) := by decide +kernel
theorem dX11_isPair_16 : decode cX11_isPair 16 = .ok (.ifCond .lt 23, 3) := by decide +kernel
theorem dX11_isPair_19 : decode cX11_isPair 19 = .ok (.iload_n 2, 1) := by decide +kernel
theorem dX11_isPair_20 : decode cX11_isPair 20 = .ok (.aload_n 0, 1) := by decide +kernel
theorem dX11_isPair_21 : decode cX11_isPair 21 = .ok (.getfield 25, 3) := by decide +kernel
theorem dX11_isPair_24 : decode cX11_isPair 24 = .ok (.getfield 158, 3) := by decide +kernel
theorem dX11_isPair_27 : decode cX11_isPair 27 = .ok (.if_icmp .ge 12, 3) := by decide +kernel
theorem dX11_isPair_30 : decode cX11_isPair 30 = .ok (.iload_n 1, 1) := by decide +kernel
theorem dX11_isPair_31 : decode cX11_isPair 31 = .ok (.iload_n 2, 1) := by decide +kernel
theorem dX11_isPair_32 : decode cX11_isPair 32 = .ok (.if_icmp .eq 7, 3) := by decide +kernel
theorem dX11_isPair_35 : decode cX11_isPair 35 = .ok (.iconst 1, 1) := by decide +kernel
theorem dX11_isPair_36 : decode cX11_isPair 36 = .ok (.goto 4, 3) := by decide +kernel
theorem dX11_isPair_39 : decode cX11_isPair 39 = .ok (.iconst 0, 1) := by decide +kernel
theorem dX11_isPair_40 : decode cX11_isPair 40 = .ok (.ireturn, 1) := by decide +kernel
abbrev o_X11_isPair : Type := Int32
def f_X11_isPair (S : wd_W) (p1 : Int32) (p2 : Int32) : Option o_X11_isPair :=
if p1 < 0 then (
some (0 : Int32)) else (
if (S.1 1600) ≤ p1 then (
some (0 : Int32)) else (
if p2 < 0 then (
some (0 : Int32)) else (
if (S.1 1600) ≤ p2 then (
some (0 : Int32)) else (
if p1 = p2 then (
some (0 : Int32)) else (
some (1 : Int32))))))
set_option maxRecDepth 100000 in
set_option maxHeartbeats 4000000 in
theorem c_X11_isPair (l : Launch) (D : va_G) (q g : Nat → Nat) (cy : Nat → ClassId) (z : (Nat → Nat) × (Nat → Nat) × Nat) (S : wd_W) (p1 : Int32) (p2 : Int32) (o : o_X11_isPair) (hf : f_X11_isPair S p1 p2 = some o) : MX layX l yX11_isPair cX11_isPair 3 (some .boolean) ({ frames := 0, cells := 0, slots := 0, locals := 0 } : Room) D q g cy z [.ref (q 0), .int p1, .int p2] S false (some (.int o)) (wd_o S [] [] [] [] []) 0 0 := by
  refine mx_of (own := RX11) (lc := [(0, .ref (q 0)), (1, .int p1), (2, .int p2)]) (by decide +kernel) rfl layX_ok (Nat.le_of_ble_eq_true rfl) rfl ?_
  intro X hXl hXq hXz hC hQ
  subst hXl; subst hXq; subst hXz
  unfold f_X11_isPair at hf
  refine go_iload_n (pc' := 1) hC dX11_isPair_0 rfl rfl ?_
  refine go_if_lt (tgt := 39) (pc' := 4) hC dX11_isPair_1 (by decide) rfl (fun h5 => ?_) (fun h5 => ?_)
  · have hf := ite_t h5 hf
    refine go_iconst (pc' := 40) hC dX11_isPair_39 ki_0 rfl ?_
    obtain rfl := Option.some.inj hf
    exact go_iret hC hQ dX11_isPair_40 rfl rfl rfl rfl (fun _ => rfl) rfl rfl
  · have hf := ite_f h5 hf
    refine go_iload_n (pc' := 5) hC dX11_isPair_4 rfl rfl ?_
    refine go_aload_n (pc' := 6) hC dX11_isPair_5 rfl rfl ?_
    refine go_getq (pc' := 9) hC 0 2 layX_0 rfl rfl inlX11 (Nat.le_of_ble_eq_true rfl) mw_20 rfl dX11_isPair_6 rfl ?_
    refine go_geti (v := (S.1 1600)) (pc' := 12) hC 16 0 layX_16 rfl rfl inlX2 (Nat.le_of_ble_eq_true rfl) mw_581 rfl dX11_isPair_9 rfl rfl ?_
    refine go_icmp_ge (tgt := 39) (pc' := 15) hC dX11_isPair_12 (by decide) rfl (fun h4 => ?_) (fun h4 => ?_)
    · have hf := ite_t h4 hf
      refine go_iconst (pc' := 40) hC dX11_isPair_39 ki_0 rfl ?_
      obtain rfl := Option.some.inj hf
      exact go_iret hC hQ dX11_isPair_40 rfl rfl rfl rfl (fun _ => rfl) rfl rfl
    · have hf := ite_f h4 hf
      refine go_iload_n (pc' := 16) hC dX11_isPair_15 rfl rfl ?_
      refine go_if_lt (tgt := 39) (pc' := 19) hC dX11_isPair_16 (by decide) rfl (fun h3 => ?_) (fun h3 => ?_)
      · have hf := ite_t h3 hf
        refine go_iconst (pc' := 40) hC dX11_isPair_39 ki_0 rfl ?_
        obtain rfl := Option.some.inj hf
        exact go_iret hC hQ dX11_isPair_40 rfl rfl rfl rfl (fun _ => rfl) rfl rfl
      · have hf := ite_f h3 hf
        refine go_iload_n (pc' := 20) hC dX11_isPair_19 rfl rfl ?_
        refine go_aload_n (pc' := 21) hC dX11_isPair_20 rfl rfl ?_
        refine go_getq (pc' := 24) hC 0 2 layX_0 rfl rfl inlX11 (Nat.le_of_ble_eq_true rfl) mw_20 rfl dX11_isPair_21 rfl ?_
        refine go_geti (v := (S.1 1600)) (pc' := 27) hC 16 0 layX_16 rfl rfl inlX2 (Nat.le_of_ble_eq_true rfl) mw_581 rfl dX11_isPair_24 rfl rfl ?_
        refine go_icmp_ge (tgt := 39) (pc' := 30) hC dX11_isPair_27 (by decide) rfl (fun h2 => ?_) (fun h2 => ?_)
        · have hf := ite_t h2 hf
          refine go_iconst (pc' := 40) hC dX11_isPair_39 ki_0 rfl ?_
          obtain rfl := Option.some.inj hf
          exact go_iret hC hQ dX11_isPair_40 rfl rfl rfl rfl (fun _ => rfl) rfl rfl
        · have hf := ite_f h2 hf
          refine go_iload_n (pc' := 31) hC dX11_isPair_30 rfl rfl ?_
          refine go_iload_n (pc' := 32) hC dX11_isPair_31 rfl rfl ?_
          refine go_icmp_eq (tgt := 39) (pc' := 35) hC dX11_isPair_32 (by decide) rfl (fun h1 => ?_) (fun h1 => ?_)
          · have hf := ite_t h1 hf
            refine go_iconst (pc' := 40) hC dX11_isPair_39 ki_0 rfl ?_
            obtain rfl := Option.some.inj hf
            exact go_iret hC hQ dX11_isPair_40 rfl rfl rfl rfl (fun _ => rfl) rfl rfl
          · have hf := ite_f h1 hf
            refine go_iconst (pc' := 36) hC dX11_isPair_35 ki_1 rfl ?_
            refine go_goto (tgt := 40) hC dX11_isPair_36 (by decide) ?_
            obtain rfl := Option.some.inj hf
            exact go_iret hC hQ dX11_isPair_40 rfl rfl rfl rfl (fun _ => rfl) rfl rfl
theorem dX6_addLetter_0 : decode cX6_addLetter 0 = .ok (.aload_n 0, 1) := by decide +kernel
theorem dX6_addLetter_1 : decode cX6_addLetter 1 = .ok (.getfield 34, 3) := by decide +kernel
theorem dX6_addLetter_4 : decode cX6_addLetter 4 = .ok (.aload_n 0, 1) := by decide +kernel
theorem dX6_addLetter_5 : decode cX6_addLetter 5 = .ok (.getfield 21, 3) := by decide +kernel
theorem dX6_addLetter_8 : decode cX6_addLetter 8 = .ok (.arraylength, 1) := by decide +kernel
theorem dX6_addLetter_9 : decode cX6_addLetter 9 = .ok (.if_icmp .lt 5, 3) := by decide +kernel
theorem dX6_addLetter_12 : decode cX6_addLetter 12 = .ok (.iconst (-1), 1) := by decide +kernel
theorem dX6_addLetter_13 : decode cX6_addLetter 13 = .ok (.ireturn, 1) := by decide +kernel
theorem dX6_addLetter_14 : decode cX6_addLetter 14 = .ok (.aload_n 0, 1) := by decide +kernel
theorem dX6_addLetter_15 : decode cX6_addLetter 15 = .ok (.getfield 21, 3) := by decide +kernel
theorem dX6_addLetter_18 : decode cX6_addLetter 18 = .ok (.aload_n 0, 1) := by decide +kernel
theorem dX6_addLetter_19 : decode cX6_addLetter 19 = .ok (.getfield 34, 3) := by decide +kernel
theorem dX6_addLetter_22 : decode cX6_addLetter 22 = .ok (.iload_n 1, 1) := by decide +kernel
theorem dX6_addLetter_23 : decode cX6_addLetter 23 = .ok (.iastore, 1) := by decide +kernel
theorem dX6_addLetter_24 : decode cX6_addLetter 24 = .ok (.aload_n 0, 1) := by decide +kernel
theorem dX6_addLetter_25 : decode cX6_addLetter 25 = .ok (.getfield 24, 3) := by decide +kernel
theorem dX6_addLetter_28 : decode cX6_addLetter 28 = .ok (.aload_n 0, 1) := by decide +kernel
theorem dX6_addLetter_29 : decode cX6_addLetter 29 = .ok (.getfield 34, 3) := by decide +kernel
theorem dX6_addLetter_32 : decode cX6_addLetter 32 = .ok (.iload_n 2, 1) := by decide +kernel
theorem dX6_addLetter_33 : decode cX6_addLetter 33 = .ok (.iastore, 1) := by decide +kernel
theorem dX6_addLetter_34 : decode cX6_addLetter 34 = .ok (.aload_n 0, 1) := by decide +kernel
theorem dX6_addLetter_35 : decode cX6_addLetter 35 = .ok (.getfield 27, 3) := by decide +kernel
theorem dX6_addLetter_38 : decode cX6_addLetter 38 = .ok (.aload_n 0, 1) := by decide +kernel
theorem dX6_addLetter_39 : decode cX6_addLetter 39 = .ok (.getfield 34, 3) := by decide +kernel
theorem dX6_addLetter_42 : decode cX6_addLetter 42 = .ok (.iload_n 3, 1) := by decide +kernel
theorem dX6_addLetter_43 : decode cX6_addLetter 43 = .ok (.ifCond .eq 7, 3) := by decide +kernel
theorem dX6_addLetter_46 : decode cX6_addLetter 46 = .ok (.iconst 1, 1) := by decide +kernel
theorem dX6_addLetter_47 : decode cX6_addLetter 47 = .ok (.goto 4, 3) := by decide +kernel
theorem dX6_addLetter_50 : decode cX6_addLetter 50 = .ok (.iconst 0, 1) := by decide +kernel
theorem dX6_addLetter_51 : decode cX6_addLetter 51 = .ok (.iastore, 1) := by decide +kernel
theorem dX6_addLetter_52 : decode cX6_addLetter 52 = .ok (.aload_n 0, 1) := by decide +kernel
theorem dX6_addLetter_53 : decode cX6_addLetter 53 = .ok (.dup, 1) := by decide +kernel
theorem dX6_addLetter_54 : decode cX6_addLetter 54 = .ok (.getfield 34, 3) := by decide +kernel
theorem dX6_addLetter_57 : decode cX6_addLetter 57 = .ok (.iconst 1, 1) := by decide +kernel
theorem dX6_addLetter_58 : decode cX6_addLetter 58 = .ok (.iadd, 1) := by decide +kernel
theorem dX6_addLetter_59 : decode cX6_addLetter 59 = .ok (.putfield 34, 3) := by decide +kernel
theorem dX6_addLetter_62 : decode cX6_addLetter 62 = .ok (.aload_n 0, 1) := by decide +kernel
theorem dX6_addLetter_63 : decode cX6_addLetter 63 = .ok (.getfield 34, 3) := by decide +kernel
theorem dX6_addLetter_66 : decode cX6_addLetter 66 = .ok (.iconst 1, 1) := by decide +kernel
theorem dX6_addLetter_67 : decode cX6_addLetter 67 = .ok (.isub, 1) := by decide +kernel
theorem dX6_addLetter_68 : decode cX6_addLetter 68 = .ok (.ireturn, 1) := by decide +kernel
abbrev o_X6_addLetter_q27 : Type := Int32 × Int32 × (Nat → Int32) × (Nat → Int32) × (Nat → Int32)
def f_X6_addLetter_q27 (S : wd_W) (p1 : Int32) (p2 : Int32) (p3 : Int32) : Option o_X6_addLetter_q27 :=
if (S.1 2704) < (6 : Int32) then (
gd (okx (S.1 2704) 6) <|
lz (upd (S.2.2.1 31) (S.1 2704).toNatClampNeg p1) fun a2 =>
gd (okx (S.1 2704) 6) <|
lz (upd (S.2.2.1 32) (S.1 2704).toNatClampNeg p2) fun a4 =>
lk (fun x5 x6 =>
gd (okx x6 6) <|
lz (upd (S.2.2.1 33) x6.toNatClampNeg x5) fun a9 =>
lz ((S.1 2704) + (1 : Int32)) fun x10 =>
some (x10 - (1 : Int32), x10, a2, a4, a9)) fun k51_7 =>
if p3 = 0 then (
k51_7 (0 : Int32) (S.1 2704)) else (
k51_7 (1 : Int32) (S.1 2704))) else (
some ((-1 : Int32), (S.1 2704), (S.2.2.1 31), (S.2.2.1 32), (S.2.2.1 33)))
set_option maxRecDepth 100000 in
set_option maxHeartbeats 4000000 in
theorem c_X6_addLetter_q27 (l : Launch) (D : va_G) (q g : Nat → Nat) (cy : Nat → ClassId) (z : (Nat → Nat) × (Nat → Nat) × Nat) (S : wd_W) (p1 : Int32) (p2 : Int32) (p3 : Int32) (o : o_X6_addLetter_q27) (hf : f_X6_addLetter_q27 S p1 p2 p3 = some o) : MX layX l yX6_addLetter cX6_addLetter 4 (some .int) ({ frames := 0, cells := 0, slots := 0, locals := 0 } : Room) D q g cy z [.ref (q 27), .int p1, .int p2, .int p3] S false (some (.int o.1)) (wd_o S [(2704, o.2.1)] [] [(31, o.2.2.1), (32, o.2.2.2.1), (33, o.2.2.2.2)] [] []) 0 0 := by
  refine mx_of (own := RX6) (lc := [(0, .ref (q 27)), (1, .int p1), (2, .int p2), (3, .int p3)]) (by decide +kernel) rfl layX_ok (Nat.le_of_ble_eq_true rfl) rfl ?_
  intro X hXl hXq hXz hC hQ
  subst hXl; subst hXq; subst hXz
  unfold f_X6_addLetter_q27 at hf
  refine go_keys (L1 := [(2704, (S.1 2704))]) (L2 := []) (L3 := [(31, (S.2.2.1 31)), (32, (S.2.2.1 32)), (33, (S.2.2.1 33))]) (L4 := []) (L5 := []) [2704] [] [31, 32, 33] [] [] rfl rfl rfl rfl rfl ?_
  refine go_aload_n (pc' := 1) hC dX6_addLetter_0 rfl rfl ?_
  refine go_geti (v := (S.1 2704)) (pc' := 4) hC 27 4 layX_27 rfl rfl inlX6 (Nat.le_of_ble_eq_true rfl) mw_478 rfl dX6_addLetter_1 rfl rfl ?_
  refine go_aload_n (pc' := 5) hC dX6_addLetter_4 rfl rfl ?_
  refine go_getq (pc' := 8) hC 27 5 layX_27 rfl rfl inlX6 (Nat.le_of_ble_eq_true rfl) mw_84 rfl dX6_addLetter_5 rfl ?_
  refine go_alen (v := (6 : Int32)) (pc' := 9) hC 31 layX_31 rfl (Nat.le_of_ble_eq_true rfl) kn_6 dX6_addLetter_8 rfl ?_
  refine go_icmp_lt (tgt := 14) (pc' := 12) hC dX6_addLetter_9 (by decide) rfl (fun h12 => ?_) (fun h12 => ?_)
  · have hf := ite_t h12 hf
    refine go_aload_n (pc' := 15) hC dX6_addLetter_14 rfl rfl ?_
    refine go_getq (pc' := 18) hC 27 5 layX_27 rfl rfl inlX6 (Nat.le_of_ble_eq_true rfl) mw_84 rfl dX6_addLetter_15 rfl ?_
    refine go_aload_n (pc' := 19) hC dX6_addLetter_18 rfl rfl ?_
    refine go_geti (v := (S.1 2704)) (pc' := 22) hC 27 4 layX_27 rfl rfl inlX6 (Nat.le_of_ble_eq_true rfl) mw_478 rfl dX6_addLetter_19 rfl rfl ?_
    refine go_iload_n (pc' := 23) hC dX6_addLetter_22 rfl rfl ?_
    obtain ⟨h1, hf⟩ := gd_e hf
    refine go_iast (f := (S.2.2.1 31)) (pc' := 24) hC 31 layX_31 rfl rfl dX6_addLetter_23 (okx_in h1) rfl rfl (fun a2 ha L3' hL => ?_)
    have hf := lz_r ha hf
    clear ha
    obtain rfl : L3' = [(31, a2), (32, (S.2.2.1 32)), (33, (S.2.2.1 33))] := hL.symm
    refine go_aload_n (pc' := 25) hC dX6_addLetter_24 rfl rfl ?_
    refine go_getq (pc' := 28) hC 27 6 layX_27 rfl rfl inlX6 (Nat.le_of_ble_eq_true rfl) mw_85 rfl dX6_addLetter_25 rfl ?_
    refine go_aload_n (pc' := 29) hC dX6_addLetter_28 rfl rfl ?_
    refine go_geti (v := (S.1 2704)) (pc' := 32) hC 27 4 layX_27 rfl rfl inlX6 (Nat.le_of_ble_eq_true rfl) mw_478 rfl dX6_addLetter_29 rfl rfl ?_
    refine go_iload_n (pc' := 33) hC dX6_addLetter_32 rfl rfl ?_
    obtain ⟨h3, hf⟩ := gd_e hf
    refine go_iast (f := (S.2.2.1 32)) (pc' := 34) hC 32 layX_32 rfl rfl dX6_addLetter_33 (okx_in h3) rfl rfl (fun a4 ha L3' hL => ?_)
    have hf := lz_r ha hf
    clear ha
    obtain rfl : L3' = [(31, a2), (32, a4), (33, (S.2.2.1 33))] := hL.symm
    refine go_aload_n (pc' := 35) hC dX6_addLetter_34 rfl rfl ?_
    refine go_getq (pc' := 38) hC 27 7 layX_27 rfl rfl inlX6 (Nat.le_of_ble_eq_true rfl) mw_86 rfl dX6_addLetter_35 rfl ?_
    refine go_aload_n (pc' := 39) hC dX6_addLetter_38 rfl rfl ?_
    refine go_geti (v := (S.1 2704)) (pc' := 42) hC 27 4 layX_27 rfl rfl inlX6 (Nat.le_of_ble_eq_true rfl) mw_478 rfl dX6_addLetter_39 rfl rfl ?_
    refine go_iload_n (pc' := 43) hC dX6_addLetter_42 rfl rfl ?_
    obtain ⟨k51_7, hk51_7, hf⟩ := lk_e2 hf
    have jk51_7 : ∀ (x5 : Int32) (x6 : Int32), k51_7 x5 x6 = some o → Go X layX S 51 [(0, .ref (x_q X 27))] [.int x5, .int x6, .ref (x_q X 33)] g [(2704, (S.1 2704))] [] [(31, a2), (32, a4), (33, (S.2.2.1 33))] [] [] 0 0 := by
      intro x5 x6 hf
      have hf := hk51_7 x5 x6 hf
      clear hk51_7
      obtain ⟨h8, hf⟩ := gd_e hf
      refine go_iast (f := (S.2.2.1 33)) (pc' := 52) hC 33 layX_33 rfl rfl dX6_addLetter_51 (okx_in h8) rfl rfl (fun a9 ha L3' hL => ?_)
      have hf := lz_r ha hf
      clear ha
      obtain rfl : L3' = [(31, a2), (32, a4), (33, a9)] := hL.symm
      refine go_aload_n (pc' := 53) hC dX6_addLetter_52 rfl rfl ?_
      refine go_dup (pc' := 54) hC dX6_addLetter_53 rfl rfl ?_
      refine go_geti (v := (S.1 2704)) (pc' := 57) hC 27 4 layX_27 rfl rfl inlX6 (Nat.le_of_ble_eq_true rfl) mw_478 rfl dX6_addLetter_54 rfl rfl ?_
      refine go_iconst (pc' := 58) hC dX6_addLetter_57 ki_1 rfl ?_
      refine go_iadd (pc' := 59) hC dX6_addLetter_58 rfl ?_
      refine go_namei (fun x10 hx => ?_)
      have hf := lz_r hx hf
      clear hx
      refine go_puti (L1' := [(2704, x10)]) (pc' := 62) hC 27 4 layX_27 rfl rfl inlX6 tyX6_ok nmX6 (Nat.le_of_ble_eq_true rfl) mw_478 rfl rfl rfl rfl dX6_addLetter_59 rfl rfl rfl ?_
      refine go_aload_n (pc' := 63) hC dX6_addLetter_62 rfl rfl ?_
      refine go_geti (v := x10) (pc' := 66) hC 27 4 layX_27 rfl rfl inlX6 (Nat.le_of_ble_eq_true rfl) mw_478 rfl dX6_addLetter_63 rfl rfl ?_
      refine go_iconst (pc' := 67) hC dX6_addLetter_66 ki_1 rfl ?_
      refine go_isub (pc' := 68) hC dX6_addLetter_67 rfl ?_
      obtain rfl := Option.some.inj hf
      exact go_iret hC hQ dX6_addLetter_68 rfl rfl rfl rfl (fun _ => rfl) rfl rfl
    clear hk51_7
    refine go_if_eq (tgt := 50) (pc' := 46) hC dX6_addLetter_43 (by decide) rfl (fun h11 => ?_) (fun h11 => ?_)
    · have hf := ite_t h11 hf
      refine go_iconst (pc' := 51) hC dX6_addLetter_50 ki_0 rfl ?_
      refine go_sub [0] rfl ?_
      exact jk51_7 (0 : Int32) (S.1 2704) hf
    · have hf := ite_f h11 hf
      refine go_iconst (pc' := 47) hC dX6_addLetter_46 ki_1 rfl ?_
      refine go_goto (tgt := 51) hC dX6_addLetter_47 (by decide) ?_
      refine go_sub [0] rfl ?_
      exact jk51_7 (1 : Int32) (S.1 2704) hf
  · have hf := ite_f h12 hf
    refine go_iconst (pc' := 13) hC dX6_addLetter_12 ki_m1 rfl ?_
    obtain rfl := Option.some.inj hf
    exact go_iret hC hQ dX6_addLetter_13 rfl rfl rfl rfl (fun _ => rfl) rfl rfl
theorem dX11_letter_0 : decode cX11_letter 0 = .ok (.aload_n 0, 1) := by decide +kernel
theorem dX11_letter_1 : decode cX11_letter 1 = .ok (.iload_n 1, 1) := by decide +kernel
theorem dX11_letter_2 : decode cX11_letter 2 = .ok (.iload_n 2, 1) := by decide +kernel
theorem dX11_letter_3 : decode cX11_letter 3 = .ok (.invokevirtual 274, 3) := by decide +kernel
theorem dX11_letter_6 : decode cX11_letter 6 = .ok (.ifCond .eq 15, 3) := by decide +kernel
theorem dX11_letter_9 : decode cX11_letter 9 = .ok (.aload_n 0, 1) := by decide +kernel
theorem dX11_letter_10 : decode cX11_letter 10 = .ok (.getfield 31, 3) := by decide +kernel
theorem dX11_letter_13 : decode cX11_letter 13 = .ok (.getfield 278, 3) := by decide +kernel
theorem dX11_letter_16 : decode cX11_letter 16 = .ok (.bipush 6, 2) := by decide +kernel
theorem dX11_letter_18 : decode cX11_letter 18 = .ok (.if_icmp .lt 5, 3) := by decide +kernel
theorem dX11_letter_21 : decode cX11_letter 21 = .ok (.iconst (-1), 1) := by decide +kernel
theorem dX11_letter_22 : decode cX11_letter 22 = .ok (.ireturn, 1) := by decide +kernel
theorem dX11_letter_23 : decode cX11_letter 23 = .ok (.aload_n 0, 1) := by decide +kernel
theorem dX11_letter_24 : decode cX11_letter 24 = .ok (.dup, 1) := by decide +kernel
theorem dX11_letter_25 : decode cX11_letter 25 = .ok (.getfield 225, 3) := by decide +kernel
theorem dX11_letter_28 : decode cX11_letter 28 = .ok (.bipush (-33), 2) := by decide +kernel
theorem dX11_letter_30 : decode cX11_letter 30 = .ok (.iand, 1) := by decide +kernel
theorem dX11_letter_31 : decode cX11_letter 31 = .ok (.putfield 225, 3) := by decide +kernel
theorem dX11_letter_34 : decode cX11_letter 34 = .ok (.aload_n 0, 1) := by decide +kernel
theorem dX11_letter_35 : decode cX11_letter 35 = .ok (.getfield 31, 3) := by decide +kernel
theorem dX11_letter_38 : decode cX11_letter 38 = .ok (.iload_n 1, 1) := by decide +kernel
theorem dX11_letter_39 : decode cX11_letter 39 = .ok (.iload_n 2, 1) := by decide +kernel
theorem dX11_letter_40 : decode cX11_letter 40 = .ok (.iload_n 3, 1) := by decide +kernel
theorem dX11_letter_41 : decode cX11_letter 41 = .ok (.invokevirtual 281, 3) := by decide +kernel
theorem dX11_letter_44 : decode cX11_letter 44 = .ok (.ireturn, 1) := by decide +kernel
abbrev o_X11_letter : Type := Int32 × Int32 × Int32 × (Nat → Int32) × (Nat → Int32) × (Nat → Int32)
def f_X11_letter (S : wd_W) (p1 : Int32) (p2 : Int32) (p3 : Int32) : Option o_X11_letter :=
bd (f_X11_isPair (wd_o S [(7, (S.1 7)), (2704, (S.1 2704))] [] [(31, (S.2.2.1 31)), (32, (S.2.2.1 32)), (33, (S.2.2.1 33))] [] []) p1 p2) fun o1 =>
if o1 = 0 then (
some ((-1 : Int32), (S.1 7), (S.1 2704), (S.2.2.1 31), (S.2.2.1 32), (S.2.2.1 33))) else (
if (S.1 2704) < (6 : Int32) then (
lz ((S.1 7) &&& (-33 : Int32)) fun x2 =>
bd (f_X6_addLetter_q27 (wd_o S [(7, x2), (2704, (S.1 2704))] [] [(31, (S.2.2.1 31)), (32, (S.2.2.1 32)), (33, (S.2.2.1 33))] [] []) p1 p2 p3) fun o3 =>
some (o3.1, x2, o3.2.1, o3.2.2.1, o3.2.2.2.1, o3.2.2.2.2)) else (
some ((-1 : Int32), (S.1 7), (S.1 2704), (S.2.2.1 31), (S.2.2.1 32), (S.2.2.1 33))))
set_option maxRecDepth 100000 in
set_option maxHeartbeats 4000000 in
theorem c_X11_letter (l : Launch) (D : va_G) (q g : Nat → Nat) (cy : Nat → ClassId) (z : (Nat → Nat) × (Nat → Nat) × Nat) (S : wd_W) (p1 : Int32) (p2 : Int32) (p3 : Int32) (o : o_X11_letter) (hf : f_X11_letter S p1 p2 p3 = some o) : MX layX l yX11_letter cX11_letter 4 (some .int) ({ frames := 1, cells := 0, slots := 0, locals := 23 } : Room) D q g cy z [.ref (q 0), .int p1, .int p2, .int p3] S false (some (.int o.1)) (wd_o S [(7, o.2.1), (2704, o.2.2.1)] [] [(31, o.2.2.2.1), (32, o.2.2.2.2.1), (33, o.2.2.2.2.2)] [] []) 0 0 := by
  refine mx_of (own := RX11) (lc := [(0, .ref (q 0)), (1, .int p1), (2, .int p2), (3, .int p3)]) (by decide +kernel) rfl layX_ok (Nat.le_of_ble_eq_true rfl) rfl ?_
  intro X hXl hXq hXz hC hQ
  subst hXl; subst hXq; subst hXz
  unfold f_X11_letter at hf
  refine go_keys (L1 := [(7, (S.1 7)), (2704, (S.1 2704))]) (L2 := []) (L3 := [(31, (S.2.2.1 31)), (32, (S.2.2.1 32)), (33, (S.2.2.1 33))]) (L4 := []) (L5 := []) [7, 2704] [] [31, 32, 33] [] [] rfl rfl rfl rfl rfl ?_
  refine go_aload_n (pc' := 1) hC dX11_letter_0 rfl rfl ?_
  refine go_iload_n (pc' := 2) hC dX11_letter_1 rfl rfl ?_
  refine go_iload_n (pc' := 3) hC dX11_letter_2 rfl rfl ?_
  obtain ⟨o1, ho1, hf⟩ := bd_e hf
  refine go_callV0 (pc' := 6) (As := [.int p1, .int p2]) (st := []) (st' := [.int o1])    (b := 0) hC dX11_letter_3 ⟨mw_1237, mw_1240, mw_2, yd_yX11_isPair, yp_yX11_isPair, Nat.le_of_ble_eq_true rfl, Nat.le_of_ble_eq_true rfl, (Nat.le_of_ble_eq_true rfl), (Nat.le_of_ble_eq_true rfl)⟩ mw_1238 mw_1239 layX_0 rfl rfl rfl (Nat.le_of_ble_eq_true rfl) (c_X11_isPair (x_l X) (x_D X) (x_q X) g (x_cy X) (x_z X) _ p1 p2 o1 ho1) rfl rfl ?_
  refine go_if_eq (tgt := 21) (pc' := 9) hC dX11_letter_6 (by decide) rfl (fun h5 => ?_) (fun h5 => ?_)
  · have hf := ite_t h5 hf
    refine go_iconst (pc' := 22) hC dX11_letter_21 ki_m1 rfl ?_
    obtain rfl := Option.some.inj hf
    exact go_iret hC hQ dX11_letter_22 rfl rfl rfl rfl (fun _ => rfl) rfl rfl
  · have hf := ite_f h5 hf
    refine go_aload_n (pc' := 10) hC dX11_letter_9 rfl rfl ?_
    refine go_getq (pc' := 13) hC 0 3 layX_0 rfl rfl inlX11 (Nat.le_of_ble_eq_true rfl) mw_24 rfl dX11_letter_10 rfl ?_
    refine go_geti (v := (S.1 2704)) (pc' := 16) hC 27 4 layX_27 rfl rfl inlX6 (Nat.le_of_ble_eq_true rfl) mw_1236 rfl dX11_letter_13 rfl rfl ?_
    refine go_bipush (pc' := 18) hC dX11_letter_16 kb_6 rfl ?_
    refine go_icmp_lt (tgt := 23) (pc' := 21) hC dX11_letter_18 (by decide) rfl (fun h4 => ?_) (fun h4 => ?_)
    · have hf := ite_t h4 hf
      refine go_aload_n (pc' := 24) hC dX11_letter_23 rfl rfl ?_
      refine go_dup (pc' := 25) hC dX11_letter_24 rfl rfl ?_
      refine go_geti (v := (S.1 7)) (pc' := 28) hC 0 7 layX_0 rfl rfl inlX11 (Nat.le_of_ble_eq_true rfl) mw_483 rfl dX11_letter_25 rfl rfl ?_
      refine go_bipush (pc' := 30) hC dX11_letter_28 kb_m33 rfl ?_
      refine go_iand (pc' := 31) hC dX11_letter_30 rfl ?_
      refine go_namei (fun x2 hx => ?_)
      have hf := lz_r hx hf
      clear hx
      refine go_puti (L1' := [(7, x2), (2704, (S.1 2704))]) (pc' := 34) hC 0 7 layX_0 rfl rfl inlX11 tyX11_ok nmX11 (Nat.le_of_ble_eq_true rfl) mw_483 rfl rfl rfl rfl dX11_letter_31 rfl rfl rfl ?_
      refine go_aload_n (pc' := 35) hC dX11_letter_34 rfl rfl ?_
      refine go_getq (pc' := 38) hC 0 3 layX_0 rfl rfl inlX11 (Nat.le_of_ble_eq_true rfl) mw_24 rfl dX11_letter_35 rfl ?_
      refine go_iload_n (pc' := 39) hC dX11_letter_38 rfl rfl ?_
      refine go_iload_n (pc' := 40) hC dX11_letter_39 rfl rfl ?_
      refine go_iload_n (pc' := 41) hC dX11_letter_40 rfl rfl ?_
      obtain ⟨o3, ho3, hf⟩ := bd_e hf
      refine go_callV1 (pc' := 44) (As := [.int p1, .int p2, .int p3]) (st := []) (st' := [.int o3.1]) (L1' := [(7, x2), (2704, o3.2.1)]) (L2' := []) (L3' := [(31, o3.2.2.1), (32, o3.2.2.2.1), (33, o3.2.2.2.2)]) (L4' := []) (L5' := []) (cells' := 0) (slots' := 0)  (b := 27) hC dX11_letter_41 ⟨mw_1241, mw_1244, mw_23, yd_yX6_addLetter, yp_yX6_addLetter, Nat.le_of_ble_eq_true rfl, Nat.le_of_ble_eq_true rfl, (Nat.le_of_ble_eq_true rfl), (Nat.le_of_ble_eq_true rfl)⟩ mw_1242 mw_1243 layX_27 rfl rfl rfl (Nat.le_of_ble_eq_true rfl) (c_X6_addLetter_q27 (x_l X) (x_D X) (x_q X) g (x_cy X) (x_z X) _ p1 p2 p3 o3 ho3) rfl rfl rfl rfl rfl rfl rfl rfl rfl rfl rfl rfl rfl rfl ?_
      obtain rfl := Option.some.inj hf
      exact go_iret hC hQ dX11_letter_44 rfl rfl rfl rfl (fun _ => rfl) rfl rfl
    · have hf := ite_f h4 hf
      refine go_iconst (pc' := 22) hC dX11_letter_21 ki_m1 rfl ?_
      obtain rfl := Option.some.inj hf
      exact go_iret hC hQ dX11_letter_22 rfl rfl rfl rfl (fun _ => rfl) rfl rfl
theorem dX11_knownMail_0 : decode cX11_knownMail 0 = .ok (.aload_n 0, 1) := by decide +kernel
theorem dX11_knownMail_1 : decode cX11_knownMail 1 = .ok (.bipush 32, 2) := by decide +kernel
theorem dX11_knownMail_3 : decode cX11_knownMail 3 = .ok (.invokevirtual 233, 3) := by decide +kernel
theorem dX11_knownMail_6 : decode cX11_knownMail 6 = .ok (.aload_n 0, 1) := by decide +kernel
theorem dX11_knownMail_7 : decode cX11_knownMail 7 = .ok (.getfield 83, 3) := by decide +kernel
theorem dX11_knownMail_10 : decode cX11_knownMail 10 = .ok (.areturn, 1) := by decide +kernel
abbrev o_X11_knownMail : Type := wd_W × Nat × Nat
def f_X11_knownMail (S : wd_W) : Option o_X11_knownMail :=
bd (f_X11_know (wd_o S [] [] [] [] []) (32 : Int32)) fun o1 =>
some (o1.1, 0 + o1.2.1, 0 + o1.2.2)
set_option maxRecDepth 100000 in
set_option maxHeartbeats 4000000 in
theorem c_X11_knownMail (l : Launch) (D : va_G) (q g : Nat → Nat) (cy : Nat → ClassId) (z : (Nat → Nat) × (Nat → Nat) × Nat) (S : wd_W) (o : o_X11_knownMail) (hf : f_X11_knownMail S = some o) : MX layX l yX11_knownMail cX11_knownMail 1 (some (.object "LetterThrough$Mail")) ({ frames := 5, cells := 12, slots := 140000, locals := 127 } : Room) D q g cy z [.ref (q 0)] S true (some (.ref (q 137))) o.1 o.2.1 o.2.2 := by
  refine mx_of (own := RX11) (lc := [(0, .ref (q 0))]) (by decide +kernel) rfl layX_ok (Nat.le_of_ble_eq_true rfl) rfl ?_
  intro X hXl hXq hXz hC hQ
  subst hXl; subst hXq; subst hXz
  unfold f_X11_knownMail at hf
  refine go_aload_n (pc' := 1) hC dX11_knownMail_0 rfl rfl ?_
  refine go_bipush (pc' := 3) hC dX11_knownMail_1 kb_32 rfl ?_
  obtain ⟨o1, ho1, hf⟩ := bd_e hf
  refine go_callVw (pc' := 6) (As := [.int (32 : Int32)]) (st := []) (st' := [])  (cells' := 0 + o1.2.1) (slots' := 0 + o1.2.2)  (b := 0) hC dX11_knownMail_3 ⟨mw_597, mw_600, mw_2, yd_yX11_know, yp_yX11_know, Nat.le_of_ble_eq_true rfl, Nat.le_of_ble_eq_true rfl, (Nat.le_of_ble_eq_true rfl), (Nat.le_of_ble_eq_true rfl)⟩ mw_598 mw_599 layX_0 rfl rfl rfl (Nat.le_of_ble_eq_true rfl) (c_X11_know (x_l X) (x_D X) (x_q X) g (x_cy X) (x_z X) _ (32 : Int32) o1 ho1) rfl rfl rfl rfl (fun g _ => ?_)
  refine go_aload_n (pc' := 7) hC dX11_knownMail_6 rfl rfl ?_
  refine go_getq (pc' := 10) hC 0 14 layX_0 rfl rfl inlX11 (Nat.le_of_ble_eq_true rfl) mw_45 rfl dX11_knownMail_7 rfl ?_
  obtain rfl := Option.some.inj hf
  exact go_aret hC hQ dX11_knownMail_10 rfl rfl rfl (fun h => nomatch h) rfl rfl
theorem dX5_agreeing_0 : decode cX5_agreeing 0 = .ok (.lconst 0, 1) := by decide +kernel
theorem dX5_agreeing_1 : decode cX5_agreeing 1 = .ok (.lstore_n 2, 1) := by decide +kernel
theorem dX5_agreeing_2 : decode cX5_agreeing 2 = .ok (.iconst 0, 1) := by decide +kernel
theorem dX5_agreeing_3 : decode cX5_agreeing 3 = .ok (.istore 4, 2) := by decide +kernel
theorem dX5_agreeing_5 : decode cX5_agreeing 5 = .ok (.iload 4, 2) := by decide +kernel
theorem dX5_agreeing_7 : decode cX5_agreeing 7 = .ok (.aload_n 0, 1) := by decide +kernel
theorem dX5_agreeing_8 : decode cX5_agreeing 8 = .ok (.getfield 30, 3) := by decide +kernel
theorem dX5_agreeing_11 : decode cX5_agreeing 11 = .ok (.getfield 68, 3) := by decide +kernel
theorem dX5_agreeing_14 : decode cX5_agreeing 14 = .ok (.if_icmp .ge 47, 3) := by decide +kernel
theorem dX5_agreeing_17 : decode cX5_agreeing 17 = .ok (.iload 4, 2) := by decide +kernel
theorem dX5_agreeing_19 : decode cX5_agreeing 19 = .ok (.iload_n 1, 1) := by decide +kernel
theorem dX5_agreeing_20 : decode cX5_agreeing 20 = .ok (.iand, 1) := by decide +kernel
theorem dX5_agreeing_21 : decode cX5_agreeing 21 = .ok (.iload_n 1, 1) := by decide +kernel
theorem dX5_agreeing_22 : decode cX5_agreeing 22 = .ok (.if_icmp .ne 33, 3) := by decide +kernel
theorem dX5_agreeing_25 : decode cX5_agreeing 25 = .ok (.aload_n 0, 1) := by decide +kernel
theorem dX5_agreeing_26 : decode cX5_agreeing 26 = .ok (.getfield 9, 3) := by decide +kernel
theorem dX5_agreeing_29 : decode cX5_agreeing 29 = .ok (.aload_n 0, 1) := by decide +kernel
theorem dX5_agreeing_30 : decode cX5_agreeing 30 = .ok (.getfield 30, 3) := by decide +kernel
theorem dX5_agreeing_33 : decode cX5_agreeing 33 = .ok (.iload 4, 2) := by decide +kernel
theorem dX5_agreeing_35 : decode cX5_agreeing 35 = .ok (.invokevirtual 71, 3) := by decide +kernel
theorem dX5_agreeing_38 : decode cX5_agreeing 38 = .ok (.baload, 1) := by decide +kernel
theorem dX5_agreeing_39 : decode cX5_agreeing 39 = .ok (.ifCond .eq 16, 3) := by decide +kernel
theorem dX5_agreeing_42 : decode cX5_agreeing 42 = .ok (.lload_n 2, 1) := by decide +kernel
theorem dX5_agreeing_43 : decode cX5_agreeing 43 = .ok (.aload_n 0, 1) := by decide +kernel
theorem dX5_agreeing_44 : decode cX5_agreeing 44 = .ok (.getfield 30, 3) := by decide +kernel
theorem dX5_agreeing_47 : decode cX5_agreeing 47 = .ok (.getfield 75, 3) := by decide +kernel
theorem dX5_agreeing_50 : decode cX5_agreeing 50 = .ok (.iload 4, 2) := by decide +kernel
theorem dX5_agreeing_52 : decode cX5_agreeing 52 = .ok (.laload, 1) := by decide +kernel
theorem dX5_agreeing_53 : decode cX5_agreeing 53 = .ok (.ladd, 1) := by decide +kernel
theorem dX5_agreeing_54 : decode cX5_agreeing 54 = .ok (.lstore_n 2, 1) := by decide +kernel
theorem dX5_agreeing_55 : decode cX5_agreeing 55 = .ok (.iinc 4 1, 3) := by decide +kernel
theorem dX5_agreeing_58 : decode cX5_agreeing 58 = .ok (.goto (-53), 3) := by decide +kernel
theorem dX5_agreeing_61 : decode cX5_agreeing 61 = .ok (.lload_n 2, 1) := by decide +kernel
theorem dX5_agreeing_62 : decode cX5_agreeing 62 = .ok (.lreturn, 1) := by decide +kernel
abbrev o_X5_agreeing_q137 : Type := Int64
def f_X5_agreeing_q137_L5 (S : wd_W) (p1 : Int32) (r3 : (Int64) → (Int32) → (Option o_X5_agreeing_q137)) (x1 : Int64) (x2 : Int32) : Option o_X5_agreeing_q137 :=
if (S.1 10602) ≤ x2 then (
some x1) else (
lk (fun x4 =>
r3 x4 (x2 + (1 : Int32))) fun k55_5 =>
if (x2 &&& p1) = p1 then (
bd (f_X8_openIn_q106 (wd_o S [] [] [] [] []) x2) fun o6 =>
gd (okx o6 (S.2.2.2.2 138)) <|
if ((S.2.2.1 138) o6.toNatClampNeg) = 0 then (
k55_5 x1) else (
gd (okx x2 (S.2.2.2.2 107)) <|
lz (x1 + ((S.2.2.2.1 107) x2.toNatClampNeg)) fun x9 =>
k55_5 x9)) else (
k55_5 x1))
def f_X5_agreeing_q137 (S : wd_W) (p1 : Int32) : Option o_X5_agreeing_q137 :=
it2 (f_X5_agreeing_q137_L5 S p1) fuel (0 : Int64) (0 : Int32)
set_option maxRecDepth 100000 in
set_option maxHeartbeats 4000000 in
theorem c_X5_agreeing_q137 (l : Launch) (D : va_G) (q g : Nat → Nat) (cy : Nat → ClassId) (z : (Nat → Nat) × (Nat → Nat) × Nat) (S : wd_W) (p1 : Int32) (o : o_X5_agreeing_q137) (hf : f_X5_agreeing_q137 S p1 = some o) : MX layX l yX5_agreeing cX5_agreeing 5 (some .long) ({ frames := 1, cells := 0, slots := 0, locals := 21 } : Room) D q g cy z [.ref (q 137), .int p1] S false (some (.long o)) (wd_o S [] [] [] [] []) 0 0 := by
  refine mx_of (own := RX5) (lc := [(0, .ref (q 137)), (1, .int p1)]) (by decide +kernel) rfl layX_ok (Nat.le_of_ble_eq_true rfl) rfl ?_
  intro X hXl hXq hXz hC hQ
  subst hXl; subst hXq; subst hXz
  unfold f_X5_agreeing_q137 at hf
  refine go_lconst (pc' := 1) hC dX5_agreeing_0 kl_0 rfl ?_
  refine go_lstore_n (lc' := [(0, .ref (x_q X 137)), (1, .int p1), (2, .long (0 : Int64))]) (pc' := 2) hC dX5_agreeing_1 (Nat.le_of_ble_eq_true rfl) rfl rfl ?_
  refine go_iconst (pc' := 3) hC dX5_agreeing_2 ki_0 rfl ?_
  refine go_istore (lc' := [(0, .ref (x_q X 137)), (1, .int p1), (2, .long (0 : Int64)), (4, .int (0 : Int32))]) (pc' := 5) hC dX5_agreeing_3 (Nat.le_of_ble_eq_true rfl) rfl rfl ?_
  have l5_13 : ∀ (nn : Nat) (x1 : Int64) (x2 : Int32), it2 (f_X5_agreeing_q137_L5 S p1) nn x1 x2 = some o → Go X layX S 5 [(0, .ref (x_q X 137)), (1, .int p1), (2, .long x1), (4, .int x2)] [] g [] [] [] [] [] 0 0 := by
    intro nn
    induction nn with
    | zero =>
      intro x1 x2 hf
      exact none_no hf
    | succ nn ih =>
      intro x1 x2 hf
      have hf : f_X5_agreeing_q137_L5 S p1 (it2 (f_X5_agreeing_q137_L5 S p1) nn) x1 x2 = some o := hf
      generalize it2 (f_X5_agreeing_q137_L5 S p1) nn = r3 at ih hf
      unfold f_X5_agreeing_q137_L5 at hf
      refine go_iload (pc' := 7) hC dX5_agreeing_5 rfl rfl ?_
      refine go_aload_n (pc' := 8) hC dX5_agreeing_7 rfl rfl ?_
      refine go_getq (pc' := 11) hC 137 1 layX_137 rfl rfl inlX5 (Nat.le_of_ble_eq_true rfl) mw_156 rfl dX5_agreeing_8 rfl ?_
      refine go_geti (v := (S.1 10602)) (pc' := 14) hC 106 2 layX_106 rfl rfl inlX8 (Nat.le_of_ble_eq_true rfl) mw_1265 rfl dX5_agreeing_11 rfl rfl ?_
      refine go_icmp_ge (tgt := 61) (pc' := 17) hC dX5_agreeing_14 (by decide) rfl (fun h12 => ?_) (fun h12 => ?_)
      · have hf := ite_t h12 hf
        refine go_lload_n (pc' := 62) hC dX5_agreeing_61 rfl rfl ?_
        obtain rfl := Option.some.inj hf
        exact go_lret hC hQ dX5_agreeing_62 rfl rfl rfl (fun _ => rfl) rfl rfl
      · have hf := ite_f h12 hf
        refine go_iload (pc' := 19) hC dX5_agreeing_17 rfl rfl ?_
        refine go_iload_n (pc' := 20) hC dX5_agreeing_19 rfl rfl ?_
        refine go_iand (pc' := 21) hC dX5_agreeing_20 rfl ?_
        refine go_iload_n (pc' := 22) hC dX5_agreeing_21 rfl rfl ?_
        obtain ⟨k55_5, hk55_5, hf⟩ := lk_e1 hf
        have jk55_5 : ∀ (x4 : Int64), k55_5 x4 = some o → Go X layX S 55 [(0, .ref (x_q X 137)), (1, .int p1), (2, .long x4), (4, .int x2)] [] g [] [] [] [] [] 0 0 := by
          intro x4 hf
          have hf := hk55_5 x4 hf
          clear hk55_5
          refine go_iinc (lc' := [(0, .ref (x_q X 137)), (1, .int p1), (2, .long x4), (4, .int (x2 + (1 : Int32)))]) (pc' := 58) hC dX5_agreeing_55 rfl ki_1 (Nat.le_of_ble_eq_true rfl) rfl rfl ?_
          refine go_goto (tgt := 5) hC dX5_agreeing_58 (by decide) ?_
          exact ih x4 (x2 + (1 : Int32)) hf
        clear hk55_5
        refine go_icmp_ne (tgt := 55) (pc' := 25) hC dX5_agreeing_22 (by decide) rfl (fun h11 => ?_) (fun h11 => ?_)
        · have hf := ite_f h11 hf
          exact jk55_5 x1 hf
        · have hf := ite_t h11 hf
          refine go_aload_n (pc' := 26) hC dX5_agreeing_25 rfl rfl ?_
          refine go_getg (pc' := 29) hC 137 2 layX_137 rfl rfl inlX5 (Nat.le_of_ble_eq_true rfl) mw_151 rfl dX5_agreeing_26 rfl ?_
          refine go_aload_n (pc' := 30) hC dX5_agreeing_29 rfl rfl ?_
          refine go_getq (pc' := 33) hC 137 1 layX_137 rfl rfl inlX5 (Nat.le_of_ble_eq_true rfl) mw_156 rfl dX5_agreeing_30 rfl ?_
          refine go_iload (pc' := 35) hC dX5_agreeing_33 rfl rfl ?_
          obtain ⟨o6, ho6, hf⟩ := bd_e hf
          refine go_callV0 (pc' := 38) (As := [.int x2]) (st := [.ref (g 138)]) (st' := [.int o6, .ref (g 138)])    (b := 106) hC dX5_agreeing_35 ⟨mw_1267, mw_710, mw_31, yd_yX8_openIn, yp_yX8_openIn, Nat.le_of_ble_eq_true rfl, Nat.le_of_ble_eq_true rfl, (Nat.le_of_ble_eq_true rfl), (Nat.le_of_ble_eq_true rfl)⟩ mw_708 mw_709 layX_106 rfl rfl rfl (Nat.le_of_ble_eq_true rfl) (c_X8_openIn_q106 (x_l X) (x_D X) (x_q X) g (x_cy X) (x_z X) _ x2 o6 ho6) rfl rfl ?_
          obtain ⟨h7, hf⟩ := gd_e hf
          refine go_baldg (f := (S.2.2.1 138)) (pc' := 39) hC 138 layX_138 rfl rfl dX5_agreeing_38 (okx_in h7) rfl ?_
          refine go_if_eq (tgt := 55) (pc' := 42) hC dX5_agreeing_39 (by decide) rfl (fun h10 => ?_) (fun h10 => ?_)
          · have hf := ite_t h10 hf
            exact jk55_5 x1 hf
          · have hf := ite_f h10 hf
            refine go_lload_n (pc' := 43) hC dX5_agreeing_42 rfl rfl ?_
            refine go_aload_n (pc' := 44) hC dX5_agreeing_43 rfl rfl ?_
            refine go_getq (pc' := 47) hC 137 1 layX_137 rfl rfl inlX5 (Nat.le_of_ble_eq_true rfl) mw_156 rfl dX5_agreeing_44 rfl ?_
            refine go_getg (pc' := 50) hC 106 4 layX_106 rfl rfl inlX8 (Nat.le_of_ble_eq_true rfl) mw_1266 rfl dX5_agreeing_47 rfl ?_
            refine go_iload (pc' := 52) hC dX5_agreeing_50 rfl rfl ?_
            obtain ⟨h8, hf⟩ := gd_e hf
            refine go_laldg (f := (S.2.2.2.1 107)) (pc' := 53) hC 107 layX_107 rfl rfl dX5_agreeing_52 (okx_in h8) rfl ?_
            refine go_ladd (pc' := 54) hC dX5_agreeing_53 rfl ?_
            refine go_namel (fun x9 hx => ?_)
            have hf := lz_r hx hf
            clear hx
            refine go_lstore_n (lc' := [(0, .ref (x_q X 137)), (1, .int p1), (2, .long x9), (4, .int x2)]) (pc' := 55) hC dX5_agreeing_54 (Nat.le_of_ble_eq_true rfl) rfl rfl ?_
            exact jk55_5 x9 hf
  exact l5_13 fuel (0 : Int64) (0 : Int32) hf
theorem dX11_thought_0 : decode cX11_thought 0 = .ok (.aload_n 0, 1) := by decide +kernel
theorem dX11_thought_1 : decode cX11_thought 1 = .ok (.iload_n 1, 1) := by decide +kernel
theorem dX11_thought_2 : decode cX11_thought 2 = .ok (.invokevirtual 188, 3) := by decide +kernel
theorem dX11_thought_5 : decode cX11_thought 5 = .ok (.ifCond .eq 12, 3) := by decide +kernel
theorem dX11_thought_8 : decode cX11_thought 8 = .ok (.iload_n 2, 1) := by decide +kernel
theorem dX11_thought_9 : decode cX11_thought 9 = .ok (.ifCond .lt 8, 3) := by decide +kernel
theorem dX11_thought_12 : decode cX11_thought 12 = .ok (.iload_n 2, 1) := by decide +kernel
theorem dX11_thought_13 : decode cX11_thought 13 = .ok (.iconst 1, 1) := by decide +kernel
theorem dX11_thought_14 : decode cX11_thought 14 = .ok (.if_icmp .le 7, 3) := by decide +kernel
theorem dX11_thought_17 : decode cX11_thought 17 = .ok (.ldc2_w 186, 3) := by decide +kernel
theorem dX11_thought_20 : decode cX11_thought 20 = .ok (.lreturn, 1) := by decide +kernel
theorem dX11_thought_21 : decode cX11_thought 21 = .ok (.aload_n 0, 1) := by decide +kernel
theorem dX11_thought_22 : decode cX11_thought 22 = .ok (.invokevirtual 285, 3) := by decide +kernel
theorem dX11_thought_25 : decode cX11_thought 25 = .ok (.iload_n 2, 1) := by decide +kernel
theorem dX11_thought_26 : decode cX11_thought 26 = .ok (.ifCond .ne 9, 3) := by decide +kernel
theorem dX11_thought_29 : decode cX11_thought 29 = .ok (.iconst 1, 1) := by decide +kernel
theorem dX11_thought_30 : decode cX11_thought 30 = .ok (.iload_n 1, 1) := by decide +kernel
theorem dX11_thought_31 : decode cX11_thought 31 = .ok (.ishl, 1) := by decide +kernel
theorem dX11_thought_32 : decode cX11_thought 32 = .ok (.goto 4, 3) := by decide +kernel
theorem dX11_thought_35 : decode cX11_thought 35 = .ok (.iconst 0, 1) := by decide +kernel
theorem dX11_thought_36 : decode cX11_thought 36 = .ok (.invokevirtual 289, 3) := by decide +kernel
theorem dX11_thought_39 : decode cX11_thought 39 = .ok (.lreturn, 1) := by decide +kernel
abbrev o_X11_thought : Type := Int64 × wd_W × Nat × Nat
def f_X11_thought (S : wd_W) (p1 : Int32) (p2 : Int32) : Option o_X11_thought :=
bd (f_X11_isThing (wd_o S [] [] [] [] []) p1) fun o1 =>
if o1 = 0 then (
some ((-1 : Int64), S, 0, 0)) else (
if p2 < 0 then (
some ((-1 : Int64), S, 0, 0)) else (
if p2 ≤ (1 : Int32) then (
bd (f_X11_knownMail (wd_o S [] [] [] [] [])) fun o2 =>
lk (fun x3 =>
gd (okr (0 + o2.2.1) (0 + o2.2.2) 0 0 40 500000) <|
bd (f_X5_agreeing_q137 (wd_o o2.1 [] [] [] [] []) x3) fun o5 =>
some (o5, o2.1, 0 + o2.2.1, 0 + o2.2.2)) fun k36_4 =>
if p2 = 0 then (
k36_4 ((1 : Int32) <<< (p1 &&& 31))) else (
k36_4 (0 : Int32))) else (
some ((-1 : Int64), S, 0, 0))))
set_option maxRecDepth 100000 in
set_option maxHeartbeats 4000000 in
theorem c_X11_thought (l : Launch) (D : va_G) (q g : Nat → Nat) (cy : Nat → ClassId) (z : (Nat → Nat) × (Nat → Nat) × Nat) (S : wd_W) (p1 : Int32) (p2 : Int32) (o : o_X11_thought) (hf : f_X11_thought S p1 p2 = some o) : MX layX l yX11_thought cX11_thought 3 (some .long) ({ frames := 6, cells := 40, slots := 500000, locals := 147 } : Room) D q g cy z [.ref (q 0), .int p1, .int p2] S true (some (.long o.1)) o.2.1 o.2.2.1 o.2.2.2 := by
  refine mx_of (own := RX11) (lc := [(0, .ref (q 0)), (1, .int p1), (2, .int p2)]) (by decide +kernel) rfl layX_ok (Nat.le_of_ble_eq_true rfl) rfl ?_
  intro X hXl hXq hXz hC hQ
  subst hXl; subst hXq; subst hXz
  unfold f_X11_thought at hf
  refine go_aload_n (pc' := 1) hC dX11_thought_0 rfl rfl ?_
  refine go_iload_n (pc' := 2) hC dX11_thought_1 rfl rfl ?_
  obtain ⟨o1, ho1, hf⟩ := bd_e hf
  refine go_callV0 (pc' := 5) (As := [.int p1]) (st := []) (st' := [.int o1])    (b := 0) hC dX11_thought_2 ⟨mw_943, mw_946, mw_2, yd_yX11_isThing, yp_yX11_isThing, Nat.le_of_ble_eq_true rfl, Nat.le_of_ble_eq_true rfl, (Nat.le_of_ble_eq_true rfl), (Nat.le_of_ble_eq_true rfl)⟩ mw_944 mw_945 layX_0 rfl rfl rfl (Nat.le_of_ble_eq_true rfl) (c_X11_isThing (x_l X) (x_D X) (x_q X) g (x_cy X) (x_z X) _ p1 o1 ho1) rfl rfl ?_
  refine go_if_eq (tgt := 17) (pc' := 8) hC dX11_thought_5 (by decide) rfl (fun h10 => ?_) (fun h10 => ?_)
  · have hf := ite_t h10 hf
    refine go_ldc2 (pc' := 20) hC dX11_thought_17 mw_909 rfl ?_
    obtain rfl := Option.some.inj hf
    exact go_lret hC hQ dX11_thought_20 rfl rfl rfl (fun h => nomatch h) rfl rfl
  · have hf := ite_f h10 hf
    refine go_iload_n (pc' := 9) hC dX11_thought_8 rfl rfl ?_
    refine go_if_lt (tgt := 17) (pc' := 12) hC dX11_thought_9 (by decide) rfl (fun h9 => ?_) (fun h9 => ?_)
    · have hf := ite_t h9 hf
      refine go_ldc2 (pc' := 20) hC dX11_thought_17 mw_909 rfl ?_
      obtain rfl := Option.some.inj hf
      exact go_lret hC hQ dX11_thought_20 rfl rfl rfl (fun h => nomatch h) rfl rfl
    · have hf := ite_f h9 hf
      refine go_iload_n (pc' := 13) hC dX11_thought_12 rfl rfl ?_
      refine go_iconst (pc' := 14) hC dX11_thought_13 ki_1 rfl ?_
      refine go_icmp_le (tgt := 21) (pc' := 17) hC dX11_thought_14 (by decide) rfl (fun h8 => ?_) (fun h8 => ?_)
      · have hf := ite_t h8 hf
        refine go_aload_n (pc' := 22) hC dX11_thought_21 rfl rfl ?_
        obtain ⟨o2, ho2, hf⟩ := bd_e hf
        refine go_callVw (pc' := 25) (As := []) (st := []) (st' := [.ref (x_q X 137)])  (cells' := 0 + o2.2.1) (slots' := 0 + o2.2.2)  (b := 0) hC dX11_thought_22 ⟨mw_1257, mw_1260, mw_2, yd_yX11_knownMail, yp_yX11_knownMail, Nat.le_of_ble_eq_true rfl, Nat.le_of_ble_eq_true rfl, (Nat.le_of_ble_eq_true rfl), (Nat.le_of_ble_eq_true rfl)⟩ mw_1258 mw_1259 layX_0 rfl rfl rfl (Nat.le_of_ble_eq_true rfl) (c_X11_knownMail (x_l X) (x_D X) (x_q X) g (x_cy X) (x_z X) _  o2 ho2) rfl rfl rfl rfl (fun g _ => ?_)
        refine go_iload_n (pc' := 26) hC dX11_thought_25 rfl rfl ?_
        obtain ⟨k36_4, hk36_4, hf⟩ := lk_e1 hf
        have jk36_4 : ∀ (x3 : Int32) (g : Nat → Nat), k36_4 x3 = some o → Go X layX o2.1 36 [] [.int x3, .ref (x_q X 137)] g [] [] [] [] [] (0 + o2.2.1) (0 + o2.2.2) := by
          intro x3 g hf
          have hf := hk36_4 x3 hf
          clear hk36_4
          obtain ⟨h6, hf⟩ := gd_e hf
          obtain ⟨o5, ho5, hf⟩ := bd_e hf
          refine go_callV0 (pc' := 39) (As := [.int x3]) (st := []) (st' := [.long o5])   (rc := { frames := 1, cells := 0, slots := 0, locals := 21 }) (b := 137) hC dX11_thought_36 ⟨mw_1261, mw_1264, mw_44, yd_yX5_agreeing, yp_yX5_agreeing, Nat.le_of_ble_eq_true rfl, Nat.le_of_ble_eq_true rfl, (okr_c h6), (okr_s h6)⟩ mw_1262 mw_1263 layX_137 rfl rfl rfl (Nat.le_of_ble_eq_true rfl) (c_X5_agreeing_q137 (x_l X) (x_D X) (x_q X) g (x_cy X) (x_z X) _ x3 o5 ho5) rfl rfl ?_
          obtain rfl := Option.some.inj hf
          exact go_lret hC hQ dX11_thought_39 rfl rfl rfl (fun h => nomatch h) rfl rfl
        clear hk36_4
        refine go_if_ne (tgt := 35) (pc' := 29) hC dX11_thought_26 (by decide) rfl (fun h7 => ?_) (fun h7 => ?_)
        · have hf := ite_f h7 hf
          refine go_iconst (pc' := 36) hC dX11_thought_35 ki_0 rfl ?_
          refine go_sub [] rfl ?_
          exact jk36_4 (0 : Int32) g hf
        · have hf := ite_t h7 hf
          refine go_iconst (pc' := 30) hC dX11_thought_29 ki_1 rfl ?_
          refine go_iload_n (pc' := 31) hC dX11_thought_30 rfl rfl ?_
          refine go_ishl (pc' := 32) hC dX11_thought_31 rfl ?_
          refine go_goto (tgt := 36) hC dX11_thought_32 (by decide) ?_
          refine go_sub [] rfl ?_
          exact jk36_4 ((1 : Int32) <<< (p1 &&& 31)) g hf
      · have hf := ite_f h8 hf
        refine go_ldc2 (pc' := 20) hC dX11_thought_17 mw_909 rfl ?_
        obtain rfl := Option.some.inj hf
        exact go_lret hC hQ dX11_thought_20 rfl rfl rfl (fun h => nomatch h) rfl rfl
