theorem dX12_in_0 : decode cX12_in 0 = .ok (.lload_n 0, 1) := by decide +kernel
theorem dX12_in_1 : decode cX12_in 1 = .ok (.lload_n 2, 1) := by decide +kernel
theorem dX12_in_2 : decode cX12_in 2 = .ok (.lcmp, 1) := by decide +kernel
theorem dX12_in_3 : decode cX12_in 3 = .ok (.ifCond .lt 14, 3) := by decide +kernel
theorem dX12_in_6 : decode cX12_in 6 = .ok (.lload_n 0, 1) := by decide +kernel
theorem dX12_in_7 : decode cX12_in 7 = .ok (.lload 4, 2) := by decide +kernel
theorem dX12_in_9 : decode cX12_in 9 = .ok (.lcmp, 1) := by decide +kernel
theorem dX12_in_10 : decode cX12_in 10 = .ok (.ifCond .gt 7, 3) := by decide +kernel
theorem dX12_in_13 : decode cX12_in 13 = .ok (.iconst 1, 1) := by decide +kernel
theorem dX12_in_14 : decode cX12_in 14 = .ok (.goto 4, 3) := by decide +kernel
theorem dX12_in_17 : decode cX12_in 17 = .ok (.iconst 0, 1) := by decide +kernel
theorem dX12_in_18 : decode cX12_in 18 = .ok (.ireturn, 1) := by decide +kernel
abbrev o_X12_in : Type := Int32
def f_X12_in (p1 : Int64) (p2 : Int64) (p3 : Int64) : Option o_X12_in :=
if p1 < p2 then (
some (0 : Int32)) else (
if p3 < p1 then (
some (0 : Int32)) else (
some (1 : Int32)))
set_option maxRecDepth 100000 in
set_option maxHeartbeats 4000000 in
theorem c_X12_in (l : Launch) (D : va_G) (q g : Nat → Nat) (cy : Nat → ClassId) (z : (Nat → Nat) × (Nat → Nat) × Nat) (S : wd_W) (p1 : Int64) (p2 : Int64) (p3 : Int64) (o : o_X12_in) (hf : f_X12_in p1 p2 p3 = some o) : MX layM l yX12_in cX12_in 6 (some .boolean) ({ frames := 0, cells := 0, slots := 0, locals := 0 } : Room) D q g cy z [.long p1, .long p2, .long p3] S false (some (.int o)) (wd_o S [] [] [] [] []) 0 0 := by
  refine mx_of (own := RX12) (lc := [(0, .long p1), (2, .long p2), (4, .long p3)]) (by decide +kernel) rfl layM_ok (Nat.le_of_ble_eq_true rfl) rfl ?_
  intro X hXl hXq hXz hC hQ
  subst hXl; subst hXq; subst hXz
  unfold f_X12_in at hf
  refine go_lload_n (pc' := 1) hC dX12_in_0 rfl rfl ?_
  refine go_lload_n (pc' := 2) hC dX12_in_1 rfl rfl ?_
  refine go_lcmp (pc' := 3) hC dX12_in_2 rfl ?_
  refine go_if_lt (tgt := 17) (pc' := 6) hC dX12_in_3 (by decide) rfl (fun h2 => ?_) (fun h2 => ?_)
  · have hf := ite_t (lg_lt.mp h2) hf
    refine go_iconst (pc' := 18) hC dX12_in_17 ki_0 rfl ?_
    obtain rfl := Option.some.inj hf
    exact go_iret hC hQ dX12_in_18 rfl rfl rfl rfl (fun _ => rfl) rfl rfl
  · have hf := ite_f (mt lg_lt.mpr h2) hf
    refine go_lload_n (pc' := 7) hC dX12_in_6 rfl rfl ?_
    refine go_lload (pc' := 9) hC dX12_in_7 rfl rfl ?_
    refine go_lcmp (pc' := 10) hC dX12_in_9 rfl ?_
    refine go_if_gt (tgt := 17) (pc' := 13) hC dX12_in_10 (by decide) rfl (fun h1 => ?_) (fun h1 => ?_)
    · have hf := ite_t (lg_gt.mp h1) hf
      refine go_iconst (pc' := 18) hC dX12_in_17 ki_0 rfl ?_
      obtain rfl := Option.some.inj hf
      exact go_iret hC hQ dX12_in_18 rfl rfl rfl rfl (fun _ => rfl) rfl rfl
    · have hf := ite_f (mt lg_gt.mpr h1) hf
      refine go_iconst (pc' := 14) hC dX12_in_13 ki_1 rfl ?_
      refine go_goto (tgt := 18) hC dX12_in_14 (by decide) ?_
      obtain rfl := Option.some.inj hf
      exact go_iret hC hQ dX12_in_18 rfl rfl rfl rfl (fun _ => rfl) rfl rfl
theorem dX12_four_0 : decode cX12_four 0 = .ok (.bipush 24, 2) := by decide +kernel
theorem dX12_four_2 : decode cX12_four 2 = .ok (.istore_n 2, 1) := by decide +kernel
theorem dX12_four_3 : decode cX12_four 3 = .ok (.iload_n 2, 1) := by decide +kernel
theorem dX12_four_4 : decode cX12_four 4 = .ok (.ifCond .lt 32, 3) := by decide +kernel
theorem dX12_four_7 : decode cX12_four 7 = .ok (.aload_n 0, 1) := by decide +kernel
theorem dX12_four_8 : decode cX12_four 8 = .ok (.getfield 7, 3) := by decide +kernel
theorem dX12_four_11 : decode cX12_four 11 = .ok (.aload_n 0, 1) := by decide +kernel
theorem dX12_four_12 : decode cX12_four 12 = .ok (.getfield 161, 3) := by decide +kernel
theorem dX12_four_15 : decode cX12_four 15 = .ok (.iload_n 1, 1) := by decide +kernel
theorem dX12_four_16 : decode cX12_four 16 = .ok (.iload_n 2, 1) := by decide +kernel
theorem dX12_four_17 : decode cX12_four 17 = .ok (.ishr, 1) := by decide +kernel
theorem dX12_four_18 : decode cX12_four 18 = .ok (.i2b, 1) := by decide +kernel
theorem dX12_four_19 : decode cX12_four 19 = .ok (.bastore, 1) := by decide +kernel
theorem dX12_four_20 : decode cX12_four 20 = .ok (.aload_n 0, 1) := by decide +kernel
theorem dX12_four_21 : decode cX12_four 21 = .ok (.dup, 1) := by decide +kernel
theorem dX12_four_22 : decode cX12_four 22 = .ok (.getfield 161, 3) := by decide +kernel
theorem dX12_four_25 : decode cX12_four 25 = .ok (.iconst 1, 1) := by decide +kernel
theorem dX12_four_26 : decode cX12_four 26 = .ok (.iadd, 1) := by decide +kernel
theorem dX12_four_27 : decode cX12_four 27 = .ok (.putfield 161, 3) := by decide +kernel
theorem dX12_four_30 : decode cX12_four 30 = .ok (.iinc 2 (-8), 3) := by decide +kernel
theorem dX12_four_33 : decode cX12_four 33 = .ok (.goto (-30), 3) := by decide +kernel
theorem dX12_four_36 : decode cX12_four 36 = .ok (.return_, 1) := by decide +kernel
abbrev o_X12_four : Type := Int32 × (Nat → Int32)
def f_X12_four_L3 (p1 : Int32) (r4 : (Int32) → (Int32) → (Nat → Int32) → (Option o_X12_four)) (x1 : Int32) (x2 : Int32) (a3 : Nat → Int32) : Option o_X12_four :=
if x1 < 0 then (
some (x2, a3)) else (
lz ((p1 >>> (x1 &&& 31)).toInt8.toInt32) fun x5 =>
gd (okx x2 400) <|
lz (upd a3 x2.toNatClampNeg (vp_nar .byte x5)) fun a7 =>
lz (x2 + (1 : Int32)) fun x8 =>
r4 (x1 + (-8 : Int32)) x8 a7)
def f_X12_four (S : wd_W) (p1 : Int32) : Option o_X12_four :=
it3 (f_X12_four_L3 p1) fuel (24 : Int32) (S.1 1) (S.2.2.1 1)
set_option maxRecDepth 100000 in
set_option maxHeartbeats 4000000 in
theorem c_X12_four (l : Launch) (D : va_G) (q g : Nat → Nat) (cy : Nat → ClassId) (z : (Nat → Nat) × (Nat → Nat) × Nat) (S : wd_W) (p1 : Int32) (o : o_X12_four) (hf : f_X12_four S p1 = some o) : MX layM l yX12_four cX12_four 3 none ({ frames := 0, cells := 0, slots := 0, locals := 0 } : Room) D q g cy z [.ref (q 0), .int p1] S false (none) (wd_o S [(1, o.1)] [] [(1, o.2)] [] []) 0 0 := by
  refine mx_of (own := RX12) (lc := [(0, .ref (q 0)), (1, .int p1)]) (by decide +kernel) rfl layM_ok (Nat.le_of_ble_eq_true rfl) rfl ?_
  intro X hXl hXq hXz hC hQ
  subst hXl; subst hXq; subst hXz
  unfold f_X12_four at hf
  refine go_keys (L1 := [(1, (S.1 1))]) (L2 := []) (L3 := [(1, (S.2.2.1 1))]) (L4 := []) (L5 := []) [1] [] [1] [] [] rfl rfl rfl rfl rfl ?_
  refine go_bipush (pc' := 2) hC dX12_four_0 kb_24 rfl ?_
  refine go_istore_n (lc' := [(0, .ref (x_q X 0)), (1, .int p1), (2, .int (24 : Int32))]) (pc' := 3) hC dX12_four_2 (Nat.le_of_ble_eq_true rfl) rfl rfl ?_
  have l3_10 : ∀ (nn : Nat) (x1 : Int32) (x2 : Int32) (a3 : Nat → Int32), it3 (f_X12_four_L3 p1) nn x1 x2 a3 = some o → Go X layM S 3 [(0, .ref (x_q X 0)), (1, .int p1), (2, .int x1)] [] g [(1, x2)] [] [(1, a3)] [] [] 0 0 := by
    intro nn
    induction nn with
    | zero =>
      intro x1 x2 a3 hf
      exact none_no hf
    | succ nn ih =>
      intro x1 x2 a3 hf
      have hf : f_X12_four_L3 p1 (it3 (f_X12_four_L3 p1) nn) x1 x2 a3 = some o := hf
      generalize it3 (f_X12_four_L3 p1) nn = r4 at ih hf
      unfold f_X12_four_L3 at hf
      refine go_iload_n (pc' := 4) hC dX12_four_3 rfl rfl ?_
      refine go_if_lt (tgt := 36) (pc' := 7) hC dX12_four_4 (by decide) rfl (fun h9 => ?_) (fun h9 => ?_)
      · have hf := ite_t h9 hf
        obtain rfl := Option.some.inj hf
        exact go_vret hC hQ dX12_four_36 rfl rfl rfl (fun _ => rfl) rfl rfl
      · have hf := ite_f h9 hf
        refine go_aload_n (pc' := 8) hC dX12_four_7 rfl rfl ?_
        refine go_getq (pc' := 11) hC 0 0 layM_0 rfl rfl inlX12 (Nat.le_of_ble_eq_true rfl) mw_180 rfl dX12_four_8 rfl ?_
        refine go_aload_n (pc' := 12) hC dX12_four_11 rfl rfl ?_
        refine go_geti (v := x2) (pc' := 15) hC 0 1 layM_0 rfl rfl inlX12 (Nat.le_of_ble_eq_true rfl) mw_281 rfl dX12_four_12 rfl rfl ?_
        refine go_iload_n (pc' := 16) hC dX12_four_15 rfl rfl ?_
        refine go_iload_n (pc' := 17) hC dX12_four_16 rfl rfl ?_
        refine go_ishr (pc' := 18) hC dX12_four_17 rfl ?_
        refine go_i2b (pc' := 19) hC dX12_four_18 rfl ?_
        refine go_namei (fun x5 hx => ?_)
        have hf := lz_r hx hf
        clear hx
        obtain ⟨h6, hf⟩ := gd_e hf
        refine go_bast (f := a3) (pc' := 20) hC 1 layM_1 rfl rfl dX12_four_19 (okx_in h6) rfl rfl (fun a7 ha L3' hL => ?_)
        have hf := lz_r ha hf
        clear ha
        obtain rfl : L3' = [(1, a7)] := hL.symm
        refine go_aload_n (pc' := 21) hC dX12_four_20 rfl rfl ?_
        refine go_dup (pc' := 22) hC dX12_four_21 rfl rfl ?_
        refine go_geti (v := x2) (pc' := 25) hC 0 1 layM_0 rfl rfl inlX12 (Nat.le_of_ble_eq_true rfl) mw_281 rfl dX12_four_22 rfl rfl ?_
        refine go_iconst (pc' := 26) hC dX12_four_25 ki_1 rfl ?_
        refine go_iadd (pc' := 27) hC dX12_four_26 rfl ?_
        refine go_namei (fun x8 hx => ?_)
        have hf := lz_r hx hf
        clear hx
        refine go_puti (L1' := [(1, x8)]) (pc' := 30) hC 0 1 layM_0 rfl rfl inlX12 tyX12_ok nmX12 (Nat.le_of_ble_eq_true rfl) mw_281 rfl rfl rfl rfl dX12_four_27 rfl rfl rfl ?_
        refine go_iinc (lc' := [(0, .ref (x_q X 0)), (1, .int p1), (2, .int (x1 + (-8 : Int32)))]) (pc' := 33) hC dX12_four_30 rfl ki_m8 (Nat.le_of_ble_eq_true rfl) rfl rfl ?_
        refine go_goto (tgt := 3) hC dX12_four_33 (by decide) ?_
        exact ih (x1 + (-8 : Int32)) x8 a7 hf
  exact l3_10 fuel (24 : Int32) (S.1 1) (S.2.2.1 1) hf
theorem dX12_feed_0 : decode cX12_feed 0 = .ok (.aload_n 0, 1) := by decide +kernel
theorem dX12_feed_1 : decode cX12_feed 1 = .ok (.getfield 161, 3) := by decide +kernel
theorem dX12_feed_4 : decode cX12_feed 4 = .ok (.bipush 20, 2) := by decide +kernel
theorem dX12_feed_6 : decode cX12_feed 6 = .ok (.iadd, 1) := by decide +kernel
theorem dX12_feed_7 : decode cX12_feed 7 = .ok (.sipush 400, 3) := by decide +kernel
theorem dX12_feed_10 : decode cX12_feed 10 = .ok (.if_icmp .le 5, 3) := by decide +kernel
theorem dX12_feed_13 : decode cX12_feed 13 = .ok (.iconst (-1), 1) := by decide +kernel
theorem dX12_feed_14 : decode cX12_feed 14 = .ok (.ireturn, 1) := by decide +kernel
theorem dX12_feed_15 : decode cX12_feed 15 = .ok (.aload_n 0, 1) := by decide +kernel
theorem dX12_feed_16 : decode cX12_feed 16 = .ok (.iload_n 1, 1) := by decide +kernel
theorem dX12_feed_17 : decode cX12_feed 17 = .ok (.invokevirtual 165, 3) := by decide +kernel
theorem dX12_feed_20 : decode cX12_feed 20 = .ok (.aload_n 0, 1) := by decide +kernel
theorem dX12_feed_21 : decode cX12_feed 21 = .ok (.iload_n 2, 1) := by decide +kernel
theorem dX12_feed_22 : decode cX12_feed 22 = .ok (.invokevirtual 165, 3) := by decide +kernel
theorem dX12_feed_25 : decode cX12_feed 25 = .ok (.aload_n 0, 1) := by decide +kernel
theorem dX12_feed_26 : decode cX12_feed 26 = .ok (.iload_n 3, 1) := by decide +kernel
theorem dX12_feed_27 : decode cX12_feed 27 = .ok (.invokevirtual 165, 3) := by decide +kernel
theorem dX12_feed_30 : decode cX12_feed 30 = .ok (.aload_n 0, 1) := by decide +kernel
theorem dX12_feed_31 : decode cX12_feed 31 = .ok (.iload 4, 2) := by decide +kernel
theorem dX12_feed_33 : decode cX12_feed 33 = .ok (.invokevirtual 165, 3) := by decide +kernel
theorem dX12_feed_36 : decode cX12_feed 36 = .ok (.aload_n 0, 1) := by decide +kernel
theorem dX12_feed_37 : decode cX12_feed 37 = .ok (.iload 5, 2) := by decide +kernel
theorem dX12_feed_39 : decode cX12_feed 39 = .ok (.invokevirtual 165, 3) := by decide +kernel
theorem dX12_feed_42 : decode cX12_feed 42 = .ok (.aload_n 0, 1) := by decide +kernel
theorem dX12_feed_43 : decode cX12_feed 43 = .ok (.getfield 161, 3) := by decide +kernel
theorem dX12_feed_46 : decode cX12_feed 46 = .ok (.ireturn, 1) := by decide +kernel
abbrev o_X12_feed : Type := Int32 × Int32 × (Nat → Int32)
def f_X12_feed (S : wd_W) (p1 : Int32) (p2 : Int32) (p3 : Int32) (p4 : Int32) (p5 : Int32) : Option o_X12_feed :=
if ((S.1 1) + (20 : Int32)) ≤ (400 : Int32) then (
bd (f_X12_four (wd_o S [(1, (S.1 1))] [] [(1, (S.2.2.1 1))] [] []) p1) fun o1 =>
bd (f_X12_four (wd_o S [(1, o1.1)] [] [(1, o1.2)] [] []) p2) fun o2 =>
bd (f_X12_four (wd_o S [(1, o2.1)] [] [(1, o2.2)] [] []) p3) fun o3 =>
bd (f_X12_four (wd_o S [(1, o3.1)] [] [(1, o3.2)] [] []) p4) fun o4 =>
bd (f_X12_four (wd_o S [(1, o4.1)] [] [(1, o4.2)] [] []) p5) fun o5 =>
some (o5.1, o5.1, o5.2)) else (
some ((-1 : Int32), (S.1 1), (S.2.2.1 1)))
set_option maxRecDepth 100000 in
set_option maxHeartbeats 4000000 in
theorem c_X12_feed (l : Launch) (D : va_G) (q g : Nat → Nat) (cy : Nat → ClassId) (z : (Nat → Nat) × (Nat → Nat) × Nat) (S : wd_W) (p1 : Int32) (p2 : Int32) (p3 : Int32) (p4 : Int32) (p5 : Int32) (o : o_X12_feed) (hf : f_X12_feed S p1 p2 p3 p4 p5 = some o) : MX layM l yX12_feed cX12_feed 6 (some .int) ({ frames := 1, cells := 0, slots := 0, locals := 22 } : Room) D q g cy z [.ref (q 0), .int p1, .int p2, .int p3, .int p4, .int p5] S false (some (.int o.1)) (wd_o S [(1, o.2.1)] [] [(1, o.2.2)] [] []) 0 0 := by
  refine mx_of (own := RX12) (lc := [(0, .ref (q 0)), (1, .int p1), (2, .int p2), (3, .int p3), (4, .int p4), (5, .int p5)]) (by decide +kernel) rfl layM_ok (Nat.le_of_ble_eq_true rfl) rfl ?_
  intro X hXl hXq hXz hC hQ
  subst hXl; subst hXq; subst hXz
  unfold f_X12_feed at hf
  refine go_keys (L1 := [(1, (S.1 1))]) (L2 := []) (L3 := [(1, (S.2.2.1 1))]) (L4 := []) (L5 := []) [1] [] [1] [] [] rfl rfl rfl rfl rfl ?_
  refine go_aload_n (pc' := 1) hC dX12_feed_0 rfl rfl ?_
  refine go_geti (v := (S.1 1)) (pc' := 4) hC 0 1 layM_0 rfl rfl inlX12 (Nat.le_of_ble_eq_true rfl) mw_281 rfl dX12_feed_1 rfl rfl ?_
  refine go_bipush (pc' := 6) hC dX12_feed_4 kb_20 rfl ?_
  refine go_iadd (pc' := 7) hC dX12_feed_6 rfl ?_
  refine go_sipush (pc' := 10) hC dX12_feed_7 ks_400 rfl ?_
  refine go_icmp_le (tgt := 15) (pc' := 13) hC dX12_feed_10 (by decide) rfl (fun h6 => ?_) (fun h6 => ?_)
  · have hf := ite_t h6 hf
    refine go_aload_n (pc' := 16) hC dX12_feed_15 rfl rfl ?_
    refine go_iload_n (pc' := 17) hC dX12_feed_16 rfl rfl ?_
    obtain ⟨o1, ho1, hf⟩ := bd_e hf
    refine go_callV1 (pc' := 20) (As := [.int p1]) (st := []) (st' := []) (L1' := [(1, o1.1)]) (L2' := []) (L3' := [(1, o1.2)]) (L4' := []) (L5' := []) (cells' := 0) (slots' := 0)  (b := 0) hC dX12_feed_17 ⟨mw_282, mw_285, mw_5, yd_yX12_four, yp_yX12_four, Nat.le_of_ble_eq_true rfl, Nat.le_of_ble_eq_true rfl, (Nat.le_of_ble_eq_true rfl), (Nat.le_of_ble_eq_true rfl)⟩ mw_283 mw_284 layM_0 rfl rfl rfl (Nat.le_of_ble_eq_true rfl) (c_X12_four (x_l X) (x_D X) (x_q X) g (x_cy X) (x_z X) _ p1 o1 ho1) rfl rfl rfl rfl rfl rfl rfl rfl rfl rfl rfl rfl rfl rfl ?_
    refine go_aload_n (pc' := 21) hC dX12_feed_20 rfl rfl ?_
    refine go_iload_n (pc' := 22) hC dX12_feed_21 rfl rfl ?_
    obtain ⟨o2, ho2, hf⟩ := bd_e hf
    refine go_callV1 (pc' := 25) (As := [.int p2]) (st := []) (st' := []) (L1' := [(1, o2.1)]) (L2' := []) (L3' := [(1, o2.2)]) (L4' := []) (L5' := []) (cells' := 0) (slots' := 0)  (b := 0) hC dX12_feed_22 ⟨mw_282, mw_285, mw_5, yd_yX12_four, yp_yX12_four, Nat.le_of_ble_eq_true rfl, Nat.le_of_ble_eq_true rfl, (Nat.le_of_ble_eq_true rfl), (Nat.le_of_ble_eq_true rfl)⟩ mw_283 mw_284 layM_0 rfl rfl rfl (Nat.le_of_ble_eq_true rfl) (c_X12_four (x_l X) (x_D X) (x_q X) g (x_cy X) (x_z X) _ p2 o2 ho2) rfl rfl rfl rfl rfl rfl rfl rfl rfl rfl rfl rfl rfl rfl ?_
    refine go_aload_n (pc' := 26) hC dX12_feed_25 rfl rfl ?_
    refine go_iload_n (pc' := 27) hC dX12_feed_26 rfl rfl ?_
    obtain ⟨o3, ho3, hf⟩ := bd_e hf
    refine go_callV1 (pc' := 30) (As := [.int p3]) (st := []) (st' := []) (L1' := [(1, o3.1)]) (L2' := []) (L3' := [(1, o3.2)]) (L4' := []) (L5' := []) (cells' := 0) (slots' := 0)  (b := 0) hC dX12_feed_27 ⟨mw_282, mw_285, mw_5, yd_yX12_four, yp_yX12_four, Nat.le_of_ble_eq_true rfl, Nat.le_of_ble_eq_true rfl, (Nat.le_of_ble_eq_true rfl), (Nat.le_of_ble_eq_true rfl)⟩ mw_283 mw_284 layM_0 rfl rfl rfl (Nat.le_of_ble_eq_true rfl) (c_X12_four (x_l X) (x_D X) (x_q X) g (x_cy X) (x_z X) _ p3 o3 ho3) rfl rfl rfl rfl rfl rfl rfl rfl rfl rfl rfl rfl rfl rfl ?_
    refine go_aload_n (pc' := 31) hC dX12_feed_30 rfl rfl ?_
    refine go_iload (pc' := 33) hC dX12_feed_31 rfl rfl ?_
    obtain ⟨o4, ho4, hf⟩ := bd_e hf
    refine go_callV1 (pc' := 36) (As := [.int p4]) (st := []) (st' := []) (L1' := [(1, o4.1)]) (L2' := []) (L3' := [(1, o4.2)]) (L4' := []) (L5' := []) (cells' := 0) (slots' := 0)  (b := 0) hC dX12_feed_33 ⟨mw_282, mw_285, mw_5, yd_yX12_four, yp_yX12_four, Nat.le_of_ble_eq_true rfl, Nat.le_of_ble_eq_true rfl, (Nat.le_of_ble_eq_true rfl), (Nat.le_of_ble_eq_true rfl)⟩ mw_283 mw_284 layM_0 rfl rfl rfl (Nat.le_of_ble_eq_true rfl) (c_X12_four (x_l X) (x_D X) (x_q X) g (x_cy X) (x_z X) _ p4 o4 ho4) rfl rfl rfl rfl rfl rfl rfl rfl rfl rfl rfl rfl rfl rfl ?_
    refine go_aload_n (pc' := 37) hC dX12_feed_36 rfl rfl ?_
    refine go_iload (pc' := 39) hC dX12_feed_37 rfl rfl ?_
    obtain ⟨o5, ho5, hf⟩ := bd_e hf
    refine go_callV1 (pc' := 42) (As := [.int p5]) (st := []) (st' := []) (L1' := [(1, o5.1)]) (L2' := []) (L3' := [(1, o5.2)]) (L4' := []) (L5' := []) (cells' := 0) (slots' := 0)  (b := 0) hC dX12_feed_39 ⟨mw_282, mw_285, mw_5, yd_yX12_four, yp_yX12_four, Nat.le_of_ble_eq_true rfl, Nat.le_of_ble_eq_true rfl, (Nat.le_of_ble_eq_true rfl), (Nat.le_of_ble_eq_true rfl)⟩ mw_283 mw_284 layM_0 rfl rfl rfl (Nat.le_of_ble_eq_true rfl) (c_X12_four (x_l X) (x_D X) (x_q X) g (x_cy X) (x_z X) _ p5 o5 ho5) rfl rfl rfl rfl rfl rfl rfl rfl rfl rfl rfl rfl rfl rfl ?_
    refine go_aload_n (pc' := 43) hC dX12_feed_42 rfl rfl ?_
    refine go_geti (v := o5.1) (pc' := 46) hC 0 1 layM_0 rfl rfl inlX12 (Nat.le_of_ble_eq_true rfl) mw_281 rfl dX12_feed_43 rfl rfl ?_
    obtain rfl := Option.some.inj hf
    exact go_iret hC hQ dX12_feed_46 rfl rfl rfl rfl (fun _ => rfl) rfl rfl
  · have hf := ite_f h6 hf
    refine go_iconst (pc' := 14) hC dX12_feed_13 ki_m1 rfl ?_
    obtain rfl := Option.some.inj hf
    exact go_iret hC hQ dX12_feed_14 rfl rfl rfl rfl (fun _ => rfl) rfl rfl
theorem dX12_end_0 : decode cX12_end 0 = .ok (.iload_n 1, 1) := by decide +kernel
theorem dX12_end_1 : decode cX12_end 1 = .ok (.ifCond .lt 11, 3) := by decide +kernel
theorem dX12_end_4 : decode cX12_end 4 = .ok (.iload_n 1, 1) := by decide +kernel
theorem dX12_end_5 : decode cX12_end 5 = .ok (.aload_n 0, 1) := by decide +kernel
theorem dX12_end_6 : decode cX12_end 6 = .ok (.getfield 161, 3) := by decide +kernel
theorem dX12_end_9 : decode cX12_end 9 = .ok (.if_icmp .le 5, 3) := by decide +kernel
theorem dX12_end_12 : decode cX12_end 12 = .ok (.iconst (-1), 1) := by decide +kernel
theorem dX12_end_13 : decode cX12_end 13 = .ok (.ireturn, 1) := by decide +kernel
theorem dX12_end_14 : decode cX12_end 14 = .ok (.aload_n 0, 1) := by decide +kernel
theorem dX12_end_15 : decode cX12_end 15 = .ok (.iload_n 1, 1) := by decide +kernel
theorem dX12_end_16 : decode cX12_end 16 = .ok (.putfield 161, 3) := by decide +kernel
theorem dX12_end_19 : decode cX12_end 19 = .ok (.iload_n 1, 1) := by decide +kernel
theorem dX12_end_20 : decode cX12_end 20 = .ok (.ireturn, 1) := by decide +kernel
abbrev o_X12_end : Type := Int32 × Int32
def f_X12_end (S : wd_W) (p1 : Int32) : Option o_X12_end :=
if p1 < 0 then (
some ((-1 : Int32), (S.1 1))) else (
if p1 ≤ (S.1 1) then (
some (p1, p1)) else (
some ((-1 : Int32), (S.1 1))))
set_option maxRecDepth 100000 in
set_option maxHeartbeats 4000000 in
theorem c_X12_end (l : Launch) (D : va_G) (q g : Nat → Nat) (cy : Nat → ClassId) (z : (Nat → Nat) × (Nat → Nat) × Nat) (S : wd_W) (p1 : Int32) (o : o_X12_end) (hf : f_X12_end S p1 = some o) : MX layM l yX12_end cX12_end 2 (some .int) ({ frames := 0, cells := 0, slots := 0, locals := 0 } : Room) D q g cy z [.ref (q 0), .int p1] S false (some (.int o.1)) (wd_o S [(1, o.2)] [] [] [] []) 0 0 := by
  refine mx_of (own := RX12) (lc := [(0, .ref (q 0)), (1, .int p1)]) (by decide +kernel) rfl layM_ok (Nat.le_of_ble_eq_true rfl) rfl ?_
  intro X hXl hXq hXz hC hQ
  subst hXl; subst hXq; subst hXz
  unfold f_X12_end at hf
  refine go_keys (L1 := [(1, (S.1 1))]) (L2 := []) (L3 := []) (L4 := []) (L5 := []) [1] [] [] [] [] rfl rfl rfl rfl rfl ?_
  refine go_iload_n (pc' := 1) hC dX12_end_0 rfl rfl ?_
  refine go_if_lt (tgt := 12) (pc' := 4) hC dX12_end_1 (by decide) rfl (fun h2 => ?_) (fun h2 => ?_)
  · have hf := ite_t h2 hf
    refine go_iconst (pc' := 13) hC dX12_end_12 ki_m1 rfl ?_
    obtain rfl := Option.some.inj hf
    exact go_iret hC hQ dX12_end_13 rfl rfl rfl rfl (fun _ => rfl) rfl rfl
  · have hf := ite_f h2 hf
    refine go_iload_n (pc' := 5) hC dX12_end_4 rfl rfl ?_
    refine go_aload_n (pc' := 6) hC dX12_end_5 rfl rfl ?_
    refine go_geti (v := (S.1 1)) (pc' := 9) hC 0 1 layM_0 rfl rfl inlX12 (Nat.le_of_ble_eq_true rfl) mw_281 rfl dX12_end_6 rfl rfl ?_
    refine go_icmp_le (tgt := 14) (pc' := 12) hC dX12_end_9 (by decide) rfl (fun h1 => ?_) (fun h1 => ?_)
    · have hf := ite_t h1 hf
      refine go_aload_n (pc' := 15) hC dX12_end_14 rfl rfl ?_
      refine go_iload_n (pc' := 16) hC dX12_end_15 rfl rfl ?_
      refine go_puti (L1' := [(1, p1)]) (pc' := 19) hC 0 1 layM_0 rfl rfl inlX12 tyX12_ok nmX12 (Nat.le_of_ble_eq_true rfl) mw_281 rfl rfl rfl rfl dX12_end_16 rfl rfl rfl ?_
      refine go_iload_n (pc' := 20) hC dX12_end_19 rfl rfl ?_
      obtain rfl := Option.some.inj hf
      exact go_iret hC hQ dX12_end_20 rfl rfl rfl rfl (fun _ => rfl) rfl rfl
    · have hf := ite_f h1 hf
      refine go_iconst (pc' := 13) hC dX12_end_12 ki_m1 rfl ?_
      obtain rfl := Option.some.inj hf
      exact go_iret hC hQ dX12_end_13 rfl rfl rfl rfl (fun _ => rfl) rfl rfl
theorem dX12_clears_0 : decode cX12_clears 0 = .ok (.aload_n 0, 1) := by decide +kernel
theorem dX12_clears_1 : decode cX12_clears 1 = .ok (.iconst 0, 1) := by decide +kernel
theorem dX12_clears_2 : decode cX12_clears 2 = .ok (.putfield 169, 3) := by decide +kernel
theorem dX12_clears_5 : decode cX12_clears 5 = .ok (.aload_n 0, 1) := by decide +kernel
theorem dX12_clears_6 : decode cX12_clears 6 = .ok (.iconst 0, 1) := by decide +kernel
theorem dX12_clears_7 : decode cX12_clears 7 = .ok (.putfield 172, 3) := by decide +kernel
theorem dX12_clears_10 : decode cX12_clears 10 = .ok (.aload_n 0, 1) := by decide +kernel
theorem dX12_clears_11 : decode cX12_clears 11 = .ok (.iconst 0, 1) := by decide +kernel
theorem dX12_clears_12 : decode cX12_clears 12 = .ok (.putfield 175, 3) := by decide +kernel
theorem dX12_clears_15 : decode cX12_clears 15 = .ok (.aload_n 0, 1) := by decide +kernel
theorem dX12_clears_16 : decode cX12_clears 16 = .ok (.iconst 2, 1) := by decide +kernel
theorem dX12_clears_17 : decode cX12_clears 17 = .ok (.putfield 178, 3) := by decide +kernel
theorem dX12_clears_20 : decode cX12_clears 20 = .ok (.aload_n 0, 1) := by decide +kernel
theorem dX12_clears_21 : decode cX12_clears 21 = .ok (.iconst 1, 1) := by decide +kernel
theorem dX12_clears_22 : decode cX12_clears 22 = .ok (.putfield 181, 3) := by decide +kernel
theorem dX12_clears_25 : decode cX12_clears 25 = .ok (.aload_n 0, 1) := by decide +kernel
theorem dX12_clears_26 : decode cX12_clears 26 = .ok (.iconst 0, 1) := by decide +kernel
theorem dX12_clears_27 : decode cX12_clears 27 = .ok (.putfield 184, 3) := by decide +kernel
theorem dX12_clears_30 : decode cX12_clears 30 = .ok (.aload_n 0, 1) := by decide +kernel
theorem dX12_clears_31 : decode cX12_clears 31 = .ok (.iconst 0, 1) := by decide +kernel
theorem dX12_clears_32 : decode cX12_clears 32 = .ok (.putfield 187, 3) := by decide +kernel
theorem dX12_clears_35 : decode cX12_clears 35 = .ok (.aload_n 0, 1) := by decide +kernel
theorem dX12_clears_36 : decode cX12_clears 36 = .ok (.iconst 0, 1) := by decide +kernel
theorem dX12_clears_37 : decode cX12_clears 37 = .ok (.putfield 190, 3) := by decide +kernel
theorem dX12_clears_40 : decode cX12_clears 40 = .ok (.aload_n 0, 1) := by decide +kernel
theorem dX12_clears_41 : decode cX12_clears 41 = .ok (.iconst 0, 1) := by decide +kernel
theorem dX12_clears_42 : decode cX12_clears 42 = .ok (.putfield 193, 3) := by decide +kernel
theorem dX12_clears_45 : decode cX12_clears 45 = .ok (.return_, 1) := by decide +kernel
abbrev o_X12_clears : Type := Int32 × Int32 × Int32 × Int32 × Int32 × Int32 × Int32 × Int32 × Int32
def f_X12_clears (S : wd_W) : Option o_X12_clears :=
some ((0 : Int32), (0 : Int32), (0 : Int32), (2 : Int32), (1 : Int32), (0 : Int32), (0 : Int32), (0 : Int32), (0 : Int32))
set_option maxRecDepth 100000 in
set_option maxHeartbeats 4000000 in
theorem c_X12_clears (l : Launch) (D : va_G) (q g : Nat → Nat) (cy : Nat → ClassId) (z : (Nat → Nat) × (Nat → Nat) × Nat) (S : wd_W) (o : o_X12_clears) (hf : f_X12_clears S = some o) : MX layM l yX12_clears cX12_clears 1 none ({ frames := 0, cells := 0, slots := 0, locals := 0 } : Room) D q g cy z [.ref (q 0)] S false (none) (wd_o S [(3, o.1), (6, o.2.1), (10, o.2.2.1), (11, o.2.2.2.1), (12, o.2.2.2.2.1), (13, o.2.2.2.2.2.1), (14, o.2.2.2.2.2.2.1), (15, o.2.2.2.2.2.2.2.1), (16, o.2.2.2.2.2.2.2.2)] [] [] [] []) 0 0 := by
  refine mx_of (own := RX12) (lc := [(0, .ref (q 0))]) (by decide +kernel) rfl layM_ok (Nat.le_of_ble_eq_true rfl) rfl ?_
  intro X hXl hXq hXz hC hQ
  subst hXl; subst hXq; subst hXz
  unfold f_X12_clears at hf
  refine go_keys (L1 := [(3, (S.1 3)), (6, (S.1 6)), (10, (S.1 10)), (11, (S.1 11)), (12, (S.1 12)), (13, (S.1 13)), (14, (S.1 14)), (15, (S.1 15)), (16, (S.1 16))]) (L2 := []) (L3 := []) (L4 := []) (L5 := []) [3, 6, 10, 11, 12, 13, 14, 15, 16] [] [] [] [] rfl rfl rfl rfl rfl ?_
  refine go_aload_n (pc' := 1) hC dX12_clears_0 rfl rfl ?_
  refine go_iconst (pc' := 2) hC dX12_clears_1 ki_0 rfl ?_
  refine go_puti (L1' := [(3, (0 : Int32)), (6, (S.1 6)), (10, (S.1 10)), (11, (S.1 11)), (12, (S.1 12)), (13, (S.1 13)), (14, (S.1 14)), (15, (S.1 15)), (16, (S.1 16))]) (pc' := 5) hC 0 3 layM_0 rfl rfl inlX12 tyX12_ok nmX12 (Nat.le_of_ble_eq_true rfl) mw_233 rfl rfl rfl rfl dX12_clears_2 rfl rfl rfl ?_
  refine go_aload_n (pc' := 6) hC dX12_clears_5 rfl rfl ?_
  refine go_iconst (pc' := 7) hC dX12_clears_6 ki_0 rfl ?_
  refine go_puti (L1' := [(3, (0 : Int32)), (6, (0 : Int32)), (10, (S.1 10)), (11, (S.1 11)), (12, (S.1 12)), (13, (S.1 13)), (14, (S.1 14)), (15, (S.1 15)), (16, (S.1 16))]) (pc' := 10) hC 0 6 layM_0 rfl rfl inlX12 tyX12_ok nmX12 (Nat.le_of_ble_eq_true rfl) mw_234 rfl rfl rfl rfl dX12_clears_7 rfl rfl rfl ?_
  refine go_aload_n (pc' := 11) hC dX12_clears_10 rfl rfl ?_
  refine go_iconst (pc' := 12) hC dX12_clears_11 ki_0 rfl ?_
  refine go_puti (L1' := [(3, (0 : Int32)), (6, (0 : Int32)), (10, (0 : Int32)), (11, (S.1 11)), (12, (S.1 12)), (13, (S.1 13)), (14, (S.1 14)), (15, (S.1 15)), (16, (S.1 16))]) (pc' := 15) hC 0 10 layM_0 rfl rfl inlX12 tyX12_ok nmX12 (Nat.le_of_ble_eq_true rfl) mw_235 rfl rfl rfl rfl dX12_clears_12 rfl rfl rfl ?_
  refine go_aload_n (pc' := 16) hC dX12_clears_15 rfl rfl ?_
  refine go_iconst (pc' := 17) hC dX12_clears_16 ki_2 rfl ?_
  refine go_puti (L1' := [(3, (0 : Int32)), (6, (0 : Int32)), (10, (0 : Int32)), (11, (2 : Int32)), (12, (S.1 12)), (13, (S.1 13)), (14, (S.1 14)), (15, (S.1 15)), (16, (S.1 16))]) (pc' := 20) hC 0 11 layM_0 rfl rfl inlX12 tyX12_ok nmX12 (Nat.le_of_ble_eq_true rfl) mw_236 rfl rfl rfl rfl dX12_clears_17 rfl rfl rfl ?_
  refine go_aload_n (pc' := 21) hC dX12_clears_20 rfl rfl ?_
  refine go_iconst (pc' := 22) hC dX12_clears_21 ki_1 rfl ?_
  refine go_puti (L1' := [(3, (0 : Int32)), (6, (0 : Int32)), (10, (0 : Int32)), (11, (2 : Int32)), (12, (1 : Int32)), (13, (S.1 13)), (14, (S.1 14)), (15, (S.1 15)), (16, (S.1 16))]) (pc' := 25) hC 0 12 layM_0 rfl rfl inlX12 tyX12_ok nmX12 (Nat.le_of_ble_eq_true rfl) mw_237 rfl rfl rfl rfl dX12_clears_22 rfl rfl rfl ?_
  refine go_aload_n (pc' := 26) hC dX12_clears_25 rfl rfl ?_
  refine go_iconst (pc' := 27) hC dX12_clears_26 ki_0 rfl ?_
  refine go_puti (L1' := [(3, (0 : Int32)), (6, (0 : Int32)), (10, (0 : Int32)), (11, (2 : Int32)), (12, (1 : Int32)), (13, (0 : Int32)), (14, (S.1 14)), (15, (S.1 15)), (16, (S.1 16))]) (pc' := 30) hC 0 13 layM_0 rfl rfl inlX12 tyX12_ok nmX12 (Nat.le_of_ble_eq_true rfl) mw_238 rfl rfl rfl rfl dX12_clears_27 rfl rfl rfl ?_
  refine go_aload_n (pc' := 31) hC dX12_clears_30 rfl rfl ?_
  refine go_iconst (pc' := 32) hC dX12_clears_31 ki_0 rfl ?_
  refine go_puti (L1' := [(3, (0 : Int32)), (6, (0 : Int32)), (10, (0 : Int32)), (11, (2 : Int32)), (12, (1 : Int32)), (13, (0 : Int32)), (14, (0 : Int32)), (15, (S.1 15)), (16, (S.1 16))]) (pc' := 35) hC 0 14 layM_0 rfl rfl inlX12 tyX12_ok nmX12 (Nat.le_of_ble_eq_true rfl) mw_239 rfl rfl rfl rfl dX12_clears_32 rfl rfl rfl ?_
  refine go_aload_n (pc' := 36) hC dX12_clears_35 rfl rfl ?_
  refine go_iconst (pc' := 37) hC dX12_clears_36 ki_0 rfl ?_
  refine go_puti (L1' := [(3, (0 : Int32)), (6, (0 : Int32)), (10, (0 : Int32)), (11, (2 : Int32)), (12, (1 : Int32)), (13, (0 : Int32)), (14, (0 : Int32)), (15, (0 : Int32)), (16, (S.1 16))]) (pc' := 40) hC 0 15 layM_0 rfl rfl inlX12 tyX12_ok nmX12 (Nat.le_of_ble_eq_true rfl) mw_240 rfl rfl rfl rfl dX12_clears_37 rfl rfl rfl ?_
  refine go_aload_n (pc' := 41) hC dX12_clears_40 rfl rfl ?_
  refine go_iconst (pc' := 42) hC dX12_clears_41 ki_0 rfl ?_
  refine go_puti (L1' := [(3, (0 : Int32)), (6, (0 : Int32)), (10, (0 : Int32)), (11, (2 : Int32)), (12, (1 : Int32)), (13, (0 : Int32)), (14, (0 : Int32)), (15, (0 : Int32)), (16, (0 : Int32))]) (pc' := 45) hC 0 16 layM_0 rfl rfl inlX12 tyX12_ok nmX12 (Nat.le_of_ble_eq_true rfl) mw_241 rfl rfl rfl rfl dX12_clears_42 rfl rfl rfl ?_
  obtain rfl := Option.some.inj hf
  exact go_vret hC hQ dX12_clears_45 rfl rfl rfl (fun _ => rfl) rfl rfl
theorem dX12_fails_0 : decode cX12_fails 0 = .ok (.aload_n 0, 1) := by decide +kernel
theorem dX12_fails_1 : decode cX12_fails 1 = .ok (.getfield 197, 3) := by decide +kernel
theorem dX12_fails_4 : decode cX12_fails 4 = .ok (.ifCond .ne 15, 3) := by decide +kernel
theorem dX12_fails_7 : decode cX12_fails 7 = .ok (.aload_n 0, 1) := by decide +kernel
theorem dX12_fails_8 : decode cX12_fails 8 = .ok (.iconst 1, 1) := by decide +kernel
theorem dX12_fails_9 : decode cX12_fails 9 = .ok (.bipush 8, 2) := by decide +kernel
theorem dX12_fails_11 : decode cX12_fails 11 = .ok (.iload_n 2, 1) := by decide +kernel
theorem dX12_fails_12 : decode cX12_fails 12 = .ok (.imul, 1) := by decide +kernel
theorem dX12_fails_13 : decode cX12_fails 13 = .ok (.iadd, 1) := by decide +kernel
theorem dX12_fails_14 : decode cX12_fails 14 = .ok (.iload_n 1, 1) := by decide +kernel
theorem dX12_fails_15 : decode cX12_fails 15 = .ok (.iadd, 1) := by decide +kernel
theorem dX12_fails_16 : decode cX12_fails 16 = .ok (.putfield 197, 3) := by decide +kernel
theorem dX12_fails_19 : decode cX12_fails 19 = .ok (.iconst 0, 1) := by decide +kernel
theorem dX12_fails_20 : decode cX12_fails 20 = .ok (.ireturn, 1) := by decide +kernel
abbrev o_X12_fails : Type := Int32 × Int32
def f_X12_fails (S : wd_W) (p1 : Int32) (p2 : Int32) : Option o_X12_fails :=
if (S.1 18) = 0 then (
lz (((1 : Int32) + ((8 : Int32) * p2)) + p1) fun x1 =>
some ((0 : Int32), x1)) else (
some ((0 : Int32), (S.1 18)))
set_option maxRecDepth 100000 in
set_option maxHeartbeats 4000000 in
theorem c_X12_fails (l : Launch) (D : va_G) (q g : Nat → Nat) (cy : Nat → ClassId) (z : (Nat → Nat) × (Nat → Nat) × Nat) (S : wd_W) (p1 : Int32) (p2 : Int32) (o : o_X12_fails) (hf : f_X12_fails S p1 p2 = some o) : MX layM l yX12_fails cX12_fails 3 (some .boolean) ({ frames := 0, cells := 0, slots := 0, locals := 0 } : Room) D q g cy z [.ref (q 0), .int p1, .int p2] S false (some (.int o.1)) (wd_o S [(18, o.2)] [] [] [] []) 0 0 := by
  refine mx_of (own := RX12) (lc := [(0, .ref (q 0)), (1, .int p1), (2, .int p2)]) (by decide +kernel) rfl layM_ok (Nat.le_of_ble_eq_true rfl) rfl ?_
  intro X hXl hXq hXz hC hQ
  subst hXl; subst hXq; subst hXz
  unfold f_X12_fails at hf
  refine go_keys (L1 := [(18, (S.1 18))]) (L2 := []) (L3 := []) (L4 := []) (L5 := []) [18] [] [] [] [] rfl rfl rfl rfl rfl ?_
  refine go_aload_n (pc' := 1) hC dX12_fails_0 rfl rfl ?_
  refine go_geti (v := (S.1 18)) (pc' := 4) hC 0 18 layM_0 rfl rfl inlX12 (Nat.le_of_ble_eq_true rfl) mw_490 rfl dX12_fails_1 rfl rfl ?_
  refine go_if_ne (tgt := 19) (pc' := 7) hC dX12_fails_4 (by decide) rfl (fun h2 => ?_) (fun h2 => ?_)
  · have hf := ite_f h2 hf
    refine go_iconst (pc' := 20) hC dX12_fails_19 ki_0 rfl ?_
    obtain rfl := Option.some.inj hf
    exact go_iret hC hQ dX12_fails_20 rfl rfl rfl rfl (fun _ => rfl) rfl rfl
  · have hf := ite_t h2 hf
    refine go_aload_n (pc' := 8) hC dX12_fails_7 rfl rfl ?_
    refine go_iconst (pc' := 9) hC dX12_fails_8 ki_1 rfl ?_
    refine go_bipush (pc' := 11) hC dX12_fails_9 kb_8 rfl ?_
    refine go_iload_n (pc' := 12) hC dX12_fails_11 rfl rfl ?_
    refine go_imul (pc' := 13) hC dX12_fails_12 rfl ?_
    refine go_iadd (pc' := 14) hC dX12_fails_13 rfl ?_
    refine go_iload_n (pc' := 15) hC dX12_fails_14 rfl rfl ?_
    refine go_iadd (pc' := 16) hC dX12_fails_15 rfl ?_
    refine go_namei (fun x1 hx => ?_)
    have hf := lz_r hx hf
    clear hx
    refine go_puti (L1' := [(18, x1)]) (pc' := 19) hC 0 18 layM_0 rfl rfl inlX12 tyX12_ok nmX12 (Nat.le_of_ble_eq_true rfl) mw_490 rfl rfl rfl rfl dX12_fails_16 rfl rfl rfl ?_
    refine go_iconst (pc' := 20) hC dX12_fails_19 ki_0 rfl ?_
    obtain rfl := Option.some.inj hf
    exact go_iret hC hQ dX12_fails_20 rfl rfl rfl rfl (fun _ => rfl) rfl rfl
theorem dX12_see_0 : decode cX12_see 0 = .ok (.aload_n 0, 1) := by decide +kernel
theorem dX12_see_1 : decode cX12_see 1 = .ok (.getfield 200, 3) := by decide +kernel
theorem dX12_see_4 : decode cX12_see 4 = .ok (.aload_n 0, 1) := by decide +kernel
theorem dX12_see_5 : decode cX12_see 5 = .ok (.getfield 161, 3) := by decide +kernel
theorem dX12_see_8 : decode cX12_see 8 = .ok (.if_icmp .ge 30, 3) := by decide +kernel
theorem dX12_see_11 : decode cX12_see 11 = .ok (.aload_n 0, 1) := by decide +kernel
theorem dX12_see_12 : decode cX12_see 12 = .ok (.getfield 7, 3) := by decide +kernel
theorem dX12_see_15 : decode cX12_see 15 = .ok (.aload_n 0, 1) := by decide +kernel
theorem dX12_see_16 : decode cX12_see 16 = .ok (.getfield 200, 3) := by decide +kernel
theorem dX12_see_19 : decode cX12_see 19 = .ok (.baload, 1) := by decide +kernel
theorem dX12_see_20 : decode cX12_see 20 = .ok (.bipush 32, 2) := by decide +kernel
theorem dX12_see_22 : decode cX12_see 22 = .ok (.if_icmp .ne 16, 3) := by decide +kernel
theorem dX12_see_25 : decode cX12_see 25 = .ok (.aload_n 0, 1) := by decide +kernel
theorem dX12_see_26 : decode cX12_see 26 = .ok (.dup, 1) := by decide +kernel
theorem dX12_see_27 : decode cX12_see 27 = .ok (.getfield 200, 3) := by decide +kernel
theorem dX12_see_30 : decode cX12_see 30 = .ok (.iconst 1, 1) := by decide +kernel
theorem dX12_see_31 : decode cX12_see 31 = .ok (.iadd, 1) := by decide +kernel
theorem dX12_see_32 : decode cX12_see 32 = .ok (.putfield 200, 3) := by decide +kernel
theorem dX12_see_35 : decode cX12_see 35 = .ok (.goto (-35), 3) := by decide +kernel
theorem dX12_see_38 : decode cX12_see 38 = .ok (.aload_n 0, 1) := by decide +kernel
theorem dX12_see_39 : decode cX12_see 39 = .ok (.getfield 200, 3) := by decide +kernel
theorem dX12_see_42 : decode cX12_see 42 = .ok (.aload_n 0, 1) := by decide +kernel
theorem dX12_see_43 : decode cX12_see 43 = .ok (.getfield 161, 3) := by decide +kernel
theorem dX12_see_46 : decode cX12_see 46 = .ok (.if_icmp .ge 19, 3) := by decide +kernel
theorem dX12_see_49 : decode cX12_see 49 = .ok (.aload_n 0, 1) := by decide +kernel
theorem dX12_see_50 : decode cX12_see 50 = .ok (.getfield 7, 3) := by decide +kernel
theorem dX12_see_53 : decode cX12_see 53 = .ok (.aload_n 0, 1) := by decide +kernel
theorem dX12_see_54 : decode cX12_see 54 = .ok (.getfield 200, 3) := by decide +kernel
theorem dX12_see_57 : decode cX12_see 57 = .ok (.baload, 1) := by decide +kernel
theorem dX12_see_58 : decode cX12_see 58 = .ok (.sipush 255, 3) := by decide +kernel
theorem dX12_see_61 : decode cX12_see 61 = .ok (.iand, 1) := by decide +kernel
theorem dX12_see_62 : decode cX12_see 62 = .ok (.goto 4, 3) := by decide +kernel
theorem dX12_see_65 : decode cX12_see 65 = .ok (.iconst (-1), 1) := by decide +kernel
theorem dX12_see_66 : decode cX12_see 66 = .ok (.ireturn, 1) := by decide +kernel
abbrev o_X12_see : Type := Int32 × Int32
def f_X12_see_L0 (S : wd_W) (k38_2 : (Int32) → (Option o_X12_see)) (r6 : (Int32) → (Option o_X12_see)) (x5 : Int32) : Option o_X12_see :=
if (S.1 1) ≤ x5 then (
k38_2 x5) else (
gd (okx x5 400) <|
if ((S.2.2.1 1) x5.toNatClampNeg) = (32 : Int32) then (
lz (x5 + (1 : Int32)) fun x8 =>
r6 x8) else (
k38_2 x5))
def f_X12_see (S : wd_W) : Option o_X12_see :=
lk (fun x1 =>
if (S.1 1) ≤ x1 then (
some ((-1 : Int32), x1)) else (
gd (okx x1 400) <|
some (((S.2.2.1 1) x1.toNatClampNeg) &&& (255 : Int32), x1))) fun k38_2 =>
it1 (f_X12_see_L0 S k38_2) fuel (S.1 17)
set_option maxRecDepth 100000 in
set_option maxHeartbeats 4000000 in
theorem c_X12_see (l : Launch) (D : va_G) (q g : Nat → Nat) (cy : Nat → ClassId) (z : (Nat → Nat) × (Nat → Nat) × Nat) (S : wd_W) (o : o_X12_see) (hf : f_X12_see S = some o) : MX layM l yX12_see cX12_see 1 (some .int) ({ frames := 0, cells := 0, slots := 0, locals := 0 } : Room) D q g cy z [.ref (q 0)] S false (some (.int o.1)) (wd_o S [(17, o.2)] [] [] [] []) 0 0 := by
  refine mx_of (own := RX12) (lc := [(0, .ref (q 0))]) (by decide +kernel) rfl layM_ok (Nat.le_of_ble_eq_true rfl) rfl ?_
  intro X hXl hXq hXz hC hQ
  subst hXl; subst hXq; subst hXz
  unfold f_X12_see at hf
  refine go_keys (L1 := [(17, (S.1 17))]) (L2 := []) (L3 := []) (L4 := []) (L5 := []) [17] [] [] [] [] rfl rfl rfl rfl rfl ?_
  obtain ⟨k38_2, hk38_2, hf⟩ := lk_e1 hf
  have jk38_2 : ∀ (x1 : Int32), k38_2 x1 = some o → Go X layM S 38 [(0, .ref (x_q X 0))] [] g [(17, x1)] [] [] [] [] 0 0 := by
    intro x1 hf
    have hf := hk38_2 x1 hf
    clear hk38_2
    refine go_aload_n (pc' := 39) hC dX12_see_38 rfl rfl ?_
    refine go_geti (v := x1) (pc' := 42) hC 0 17 layM_0 rfl rfl inlX12 (Nat.le_of_ble_eq_true rfl) mw_489 rfl dX12_see_39 rfl rfl ?_
    refine go_aload_n (pc' := 43) hC dX12_see_42 rfl rfl ?_
    refine go_geti (v := (S.1 1)) (pc' := 46) hC 0 1 layM_0 rfl rfl inlX12 (Nat.le_of_ble_eq_true rfl) mw_281 rfl dX12_see_43 rfl rfl ?_
    refine go_icmp_ge (tgt := 65) (pc' := 49) hC dX12_see_46 (by decide) rfl (fun h4 => ?_) (fun h4 => ?_)
    · have hf := ite_t h4 hf
      refine go_iconst (pc' := 66) hC dX12_see_65 ki_m1 rfl ?_
      obtain rfl := Option.some.inj hf
      exact go_iret hC hQ dX12_see_66 rfl rfl rfl rfl (fun _ => rfl) rfl rfl
    · have hf := ite_f h4 hf
      refine go_aload_n (pc' := 50) hC dX12_see_49 rfl rfl ?_
      refine go_getq (pc' := 53) hC 0 0 layM_0 rfl rfl inlX12 (Nat.le_of_ble_eq_true rfl) mw_180 rfl dX12_see_50 rfl ?_
      refine go_aload_n (pc' := 54) hC dX12_see_53 rfl rfl ?_
      refine go_geti (v := x1) (pc' := 57) hC 0 17 layM_0 rfl rfl inlX12 (Nat.le_of_ble_eq_true rfl) mw_489 rfl dX12_see_54 rfl rfl ?_
      obtain ⟨h3, hf⟩ := gd_e hf
      refine go_bald (f := (S.2.2.1 1)) (pc' := 58) hC 1 layM_1 rfl rfl dX12_see_57 (okx_in h3) rfl ?_
      refine go_sipush (pc' := 61) hC dX12_see_58 ks_255 rfl ?_
      refine go_iand (pc' := 62) hC dX12_see_61 rfl ?_
      refine go_goto (tgt := 66) hC dX12_see_62 (by decide) ?_
      obtain rfl := Option.some.inj hf
      exact go_iret hC hQ dX12_see_66 rfl rfl rfl rfl (fun _ => rfl) rfl rfl
  clear hk38_2
  have l0_11 : ∀ (nn : Nat) (x5 : Int32), it1 (f_X12_see_L0 S k38_2) nn x5 = some o → Go X layM S 0 [(0, .ref (x_q X 0))] [] g [(17, x5)] [] [] [] [] 0 0 := by
    intro nn
    induction nn with
    | zero =>
      intro x5 hf
      exact none_no hf
    | succ nn ih =>
      intro x5 hf
      have hf : f_X12_see_L0 S k38_2 (it1 (f_X12_see_L0 S k38_2) nn) x5 = some o := hf
      generalize it1 (f_X12_see_L0 S k38_2) nn = r6 at ih hf
      unfold f_X12_see_L0 at hf
      refine go_aload_n (pc' := 1) hC dX12_see_0 rfl rfl ?_
      refine go_geti (v := x5) (pc' := 4) hC 0 17 layM_0 rfl rfl inlX12 (Nat.le_of_ble_eq_true rfl) mw_489 rfl dX12_see_1 rfl rfl ?_
      refine go_aload_n (pc' := 5) hC dX12_see_4 rfl rfl ?_
      refine go_geti (v := (S.1 1)) (pc' := 8) hC 0 1 layM_0 rfl rfl inlX12 (Nat.le_of_ble_eq_true rfl) mw_281 rfl dX12_see_5 rfl rfl ?_
      refine go_icmp_ge (tgt := 38) (pc' := 11) hC dX12_see_8 (by decide) rfl (fun h10 => ?_) (fun h10 => ?_)
      · have hf := ite_t h10 hf
        exact jk38_2 x5 hf
      · have hf := ite_f h10 hf
        refine go_aload_n (pc' := 12) hC dX12_see_11 rfl rfl ?_
        refine go_getq (pc' := 15) hC 0 0 layM_0 rfl rfl inlX12 (Nat.le_of_ble_eq_true rfl) mw_180 rfl dX12_see_12 rfl ?_
        refine go_aload_n (pc' := 16) hC dX12_see_15 rfl rfl ?_
        refine go_geti (v := x5) (pc' := 19) hC 0 17 layM_0 rfl rfl inlX12 (Nat.le_of_ble_eq_true rfl) mw_489 rfl dX12_see_16 rfl rfl ?_
        obtain ⟨h7, hf⟩ := gd_e hf
        refine go_bald (f := (S.2.2.1 1)) (pc' := 20) hC 1 layM_1 rfl rfl dX12_see_19 (okx_in h7) rfl ?_
        refine go_bipush (pc' := 22) hC dX12_see_20 kb_32 rfl ?_
        refine go_icmp_ne (tgt := 38) (pc' := 25) hC dX12_see_22 (by decide) rfl (fun h9 => ?_) (fun h9 => ?_)
        · have hf := ite_f h9 hf
          exact jk38_2 x5 hf
        · have hf := ite_t h9 hf
          refine go_aload_n (pc' := 26) hC dX12_see_25 rfl rfl ?_
          refine go_dup (pc' := 27) hC dX12_see_26 rfl rfl ?_
          refine go_geti (v := x5) (pc' := 30) hC 0 17 layM_0 rfl rfl inlX12 (Nat.le_of_ble_eq_true rfl) mw_489 rfl dX12_see_27 rfl rfl ?_
          refine go_iconst (pc' := 31) hC dX12_see_30 ki_1 rfl ?_
          refine go_iadd (pc' := 32) hC dX12_see_31 rfl ?_
          refine go_namei (fun x8 hx => ?_)
          have hf := lz_r hx hf
          clear hx
          refine go_puti (L1' := [(17, x8)]) (pc' := 35) hC 0 17 layM_0 rfl rfl inlX12 tyX12_ok nmX12 (Nat.le_of_ble_eq_true rfl) mw_489 rfl rfl rfl rfl dX12_see_32 rfl rfl rfl ?_
          refine go_goto (tgt := 0) hC dX12_see_35 (by decide) ?_
          exact ih x8 hf
  exact l0_11 fuel (S.1 17) hf
theorem dX12_isDigit_0 : decode cX12_isDigit 0 = .ok (.aload_n 0, 1) := by decide +kernel
theorem dX12_isDigit_1 : decode cX12_isDigit 1 = .ok (.getfield 200, 3) := by decide +kernel
theorem dX12_isDigit_4 : decode cX12_isDigit 4 = .ok (.aload_n 0, 1) := by decide +kernel
theorem dX12_isDigit_5 : decode cX12_isDigit 5 = .ok (.getfield 161, 3) := by decide +kernel
theorem dX12_isDigit_8 : decode cX12_isDigit 8 = .ok (.if_icmp .ge 35, 3) := by decide +kernel
theorem dX12_isDigit_11 : decode cX12_isDigit 11 = .ok (.aload_n 0, 1) := by decide +kernel
theorem dX12_isDigit_12 : decode cX12_isDigit 12 = .ok (.getfield 7, 3) := by decide +kernel
theorem dX12_isDigit_15 : decode cX12_isDigit 15 = .ok (.aload_n 0, 1) := by decide +kernel
theorem dX12_isDigit_16 : decode cX12_isDigit 16 = .ok (.getfield 200, 3) := by decide +kernel
theorem dX12_isDigit_19 : decode cX12_isDigit 19 = .ok (.baload, 1) := by decide +kernel
theorem dX12_isDigit_20 : decode cX12_isDigit 20 = .ok (.bipush 48, 2) := by decide +kernel
theorem dX12_isDigit_22 : decode cX12_isDigit 22 = .ok (.if_icmp .lt 21, 3) := by decide +kernel
theorem dX12_isDigit_25 : decode cX12_isDigit 25 = .ok (.aload_n 0, 1) := by decide +kernel
theorem dX12_isDigit_26 : decode cX12_isDigit 26 = .ok (.getfield 7, 3) := by decide +kernel
theorem dX12_isDigit_29 : decode cX12_isDigit 29 = .ok (.aload_n 0, 1) := by decide +kernel
theorem dX12_isDigit_30 : decode cX12_isDigit 30 = .ok (.getfield 200, 3) := by decide +kernel
theorem dX12_isDigit_33 : decode cX12_isDigit 33 = .ok (.baload, 1) := by decide +kernel
theorem dX12_isDigit_34 : decode cX12_isDigit 34 = .ok (.bipush 57, 2) := by decide +kernel
theorem dX12_isDigit_36 : decode cX12_isDigit 36 = .ok (.if_icmp .gt 7, 3) := by decide +kernel
theorem dX12_isDigit_39 : decode cX12_isDigit 39 = .ok (.iconst 1, 1) := by decide +kernel
theorem dX12_isDigit_40 : decode cX12_isDigit 40 = .ok (.goto 4, 3) := by decide +kernel
theorem dX12_isDigit_43 : decode cX12_isDigit 43 = .ok (.iconst 0, 1) := by decide +kernel
theorem dX12_isDigit_44 : decode cX12_isDigit 44 = .ok (.ireturn, 1) := by decide +kernel
abbrev o_X12_isDigit : Type := Int32
def f_X12_isDigit (S : wd_W) : Option o_X12_isDigit :=
if (S.1 1) ≤ (S.1 17) then (
some (0 : Int32)) else (
gd (okx (S.1 17) 400) <|
if ((S.2.2.1 1) (S.1 17).toNatClampNeg) < (48 : Int32) then (
some (0 : Int32)) else (
gd (okx (S.1 17) 400) <|
if (57 : Int32) < ((S.2.2.1 1) (S.1 17).toNatClampNeg) then (
some (0 : Int32)) else (
some (1 : Int32))))
set_option maxRecDepth 100000 in
set_option maxHeartbeats 4000000 in
theorem c_X12_isDigit (l : Launch) (D : va_G) (q g : Nat → Nat) (cy : Nat → ClassId) (z : (Nat → Nat) × (Nat → Nat) × Nat) (S : wd_W) (o : o_X12_isDigit) (hf : f_X12_isDigit S = some o) : MX layM l yX12_isDigit cX12_isDigit 1 (some .boolean) ({ frames := 0, cells := 0, slots := 0, locals := 0 } : Room) D q g cy z [.ref (q 0)] S false (some (.int o)) (wd_o S [] [] [] [] []) 0 0 := by
  refine mx_of (own := RX12) (lc := [(0, .ref (q 0))]) (by decide +kernel) rfl layM_ok (Nat.le_of_ble_eq_true rfl) rfl ?_
  intro X hXl hXq hXz hC hQ
  subst hXl; subst hXq; subst hXz
  unfold f_X12_isDigit at hf
  refine go_aload_n (pc' := 1) hC dX12_isDigit_0 rfl rfl ?_
  refine go_geti (v := (S.1 17)) (pc' := 4) hC 0 17 layM_0 rfl rfl inlX12 (Nat.le_of_ble_eq_true rfl) mw_489 rfl dX12_isDigit_1 rfl rfl ?_
  refine go_aload_n (pc' := 5) hC dX12_isDigit_4 rfl rfl ?_
  refine go_geti (v := (S.1 1)) (pc' := 8) hC 0 1 layM_0 rfl rfl inlX12 (Nat.le_of_ble_eq_true rfl) mw_281 rfl dX12_isDigit_5 rfl rfl ?_
  refine go_icmp_ge (tgt := 43) (pc' := 11) hC dX12_isDigit_8 (by decide) rfl (fun h5 => ?_) (fun h5 => ?_)
  · have hf := ite_t h5 hf
    refine go_iconst (pc' := 44) hC dX12_isDigit_43 ki_0 rfl ?_
    obtain rfl := Option.some.inj hf
    exact go_iret hC hQ dX12_isDigit_44 rfl rfl rfl rfl (fun _ => rfl) rfl rfl
  · have hf := ite_f h5 hf
    refine go_aload_n (pc' := 12) hC dX12_isDigit_11 rfl rfl ?_
    refine go_getq (pc' := 15) hC 0 0 layM_0 rfl rfl inlX12 (Nat.le_of_ble_eq_true rfl) mw_180 rfl dX12_isDigit_12 rfl ?_
    refine go_aload_n (pc' := 16) hC dX12_isDigit_15 rfl rfl ?_
    refine go_geti (v := (S.1 17)) (pc' := 19) hC 0 17 layM_0 rfl rfl inlX12 (Nat.le_of_ble_eq_true rfl) mw_489 rfl dX12_isDigit_16 rfl rfl ?_
    obtain ⟨h1, hf⟩ := gd_e hf
    refine go_bald (f := (S.2.2.1 1)) (pc' := 20) hC 1 layM_1 rfl rfl dX12_isDigit_19 (okx_in h1) rfl ?_
    refine go_bipush (pc' := 22) hC dX12_isDigit_20 kb_48 rfl ?_
    refine go_icmp_lt (tgt := 43) (pc' := 25) hC dX12_isDigit_22 (by decide) rfl (fun h4 => ?_) (fun h4 => ?_)
    · have hf := ite_t h4 hf
      refine go_iconst (pc' := 44) hC dX12_isDigit_43 ki_0 rfl ?_
      obtain rfl := Option.some.inj hf
      exact go_iret hC hQ dX12_isDigit_44 rfl rfl rfl rfl (fun _ => rfl) rfl rfl
    · have hf := ite_f h4 hf
      refine go_aload_n (pc' := 26) hC dX12_isDigit_25 rfl rfl ?_
      refine go_getq (pc' := 29) hC 0 0 layM_0 rfl rfl inlX12 (Nat.le_of_ble_eq_true rfl) mw_180 rfl dX12_isDigit_26 rfl ?_
      refine go_aload_n (pc' := 30) hC dX12_isDigit_29 rfl rfl ?_
      refine go_geti (v := (S.1 17)) (pc' := 33) hC 0 17 layM_0 rfl rfl inlX12 (Nat.le_of_ble_eq_true rfl) mw_489 rfl dX12_isDigit_30 rfl rfl ?_
      obtain ⟨h2, hf⟩ := gd_e hf
      refine go_bald (f := (S.2.2.1 1)) (pc' := 34) hC 1 layM_1 rfl rfl dX12_isDigit_33 (okx_in h2) rfl ?_
      refine go_bipush (pc' := 36) hC dX12_isDigit_34 kb_57 rfl ?_
      refine go_icmp_gt (tgt := 43) (pc' := 39) hC dX12_isDigit_36 (by decide) rfl (fun h3 => ?_) (fun h3 => ?_)
      · have hf := ite_t h3 hf
        refine go_iconst (pc' := 44) hC dX12_isDigit_43 ki_0 rfl ?_
        obtain rfl := Option.some.inj hf
        exact go_iret hC hQ dX12_isDigit_44 rfl rfl rfl rfl (fun _ => rfl) rfl rfl
      · have hf := ite_f h3 hf
        refine go_iconst (pc' := 40) hC dX12_isDigit_39 ki_1 rfl ?_
        refine go_goto (tgt := 44) hC dX12_isDigit_40 (by decide) ?_
        obtain rfl := Option.some.inj hf
        exact go_iret hC hQ dX12_isDigit_44 rfl rfl rfl rfl (fun _ => rfl) rfl rfl
theorem dX12_number_0 : decode cX12_number 0 = .ok (.aload_n 0, 1) := by decide +kernel
theorem dX12_number_1 : decode cX12_number 1 = .ok (.invokevirtual 203, 3) := by decide +kernel
theorem dX12_number_4 : decode cX12_number 4 = .ok (.pop, 1) := by decide +kernel
theorem dX12_number_5 : decode cX12_number 5 = .ok (.aload_n 0, 1) := by decide +kernel
theorem dX12_number_6 : decode cX12_number 6 = .ok (.invokevirtual 207, 3) := by decide +kernel
theorem dX12_number_9 : decode cX12_number 9 = .ok (.ifCond .ne 13, 3) := by decide +kernel
theorem dX12_number_12 : decode cX12_number 12 = .ok (.aload_n 0, 1) := by decide +kernel
theorem dX12_number_13 : decode cX12_number 13 = .ok (.iconst 0, 1) := by decide +kernel
theorem dX12_number_14 : decode cX12_number 14 = .ok (.aload_n 0, 1) := by decide +kernel
theorem dX12_number_15 : decode cX12_number 15 = .ok (.getfield 200, 3) := by decide +kernel
theorem dX12_number_18 : decode cX12_number 18 = .ok (.invokevirtual 211, 3) := by decide +kernel
theorem dX12_number_21 : decode cX12_number 21 = .ok (.ireturn, 1) := by decide +kernel
theorem dX12_number_22 : decode cX12_number 22 = .ok (.aload_n 0, 1) := by decide +kernel
theorem dX12_number_23 : decode cX12_number 23 = .ok (.getfield 200, 3) := by decide +kernel
theorem dX12_number_26 : decode cX12_number 26 = .ok (.istore_n 3, 1) := by decide +kernel
theorem dX12_number_27 : decode cX12_number 27 = .ok (.iconst 0, 1) := by decide +kernel
theorem dX12_number_28 : decode cX12_number 28 = .ok (.istore 4, 2) := by decide +kernel
theorem dX12_number_30 : decode cX12_number 30 = .ok (.aload_n 0, 1) := by decide +kernel
theorem dX12_number_31 : decode cX12_number 31 = .ok (.invokevirtual 207, 3) := by decide +kernel
theorem dX12_number_34 : decode cX12_number 34 = .ok (.ifCond .eq 46, 3) := by decide +kernel
theorem dX12_number_37 : decode cX12_number 37 = .ok (.aload_n 0, 1) := by decide +kernel
theorem dX12_number_38 : decode cX12_number 38 = .ok (.getfield 200, 3) := by decide +kernel
theorem dX12_number_41 : decode cX12_number 41 = .ok (.iload_n 3, 1) := by decide +kernel
theorem dX12_number_42 : decode cX12_number 42 = .ok (.isub, 1) := by decide +kernel
theorem dX12_number_43 : decode cX12_number 43 = .ok (.iconst 2, 1) := by decide +kernel
theorem dX12_number_44 : decode cX12_number 44 = .ok (.if_icmp .ge 23, 3) := by decide +kernel
theorem dX12_number_47 : decode cX12_number 47 = .ok (.bipush 10, 2) := by decide +kernel
theorem dX12_number_49 : decode cX12_number 49 = .ok (.iload 4, 2) := by decide +kernel
theorem dX12_number_51 : decode cX12_number 51 = .ok (.imul, 1) := by decide +kernel
theorem dX12_number_52 : decode cX12_number 52 = .ok (.aload_n 0, 1) := by decide +kernel
theorem dX12_number_53 : decode cX12_number 53 = .ok (.getfield 7, 3) := by decide +kernel
theorem dX12_number_56 : decode cX12_number 56 = .ok (.aload_n 0, 1) := by decide +kernel
theorem dX12_number_57 : decode cX12_number 57 = .ok (.getfield 200, 3) := by decide +kernel
theorem dX12_number_60 : decode cX12_number 60 = .ok (.baload, 1) := by decide +kernel
theorem dX12_number_61 : decode cX12_number 61 = .ok (.iadd, 1) := by decide +kernel
theorem dX12_number_62 : decode cX12_number 62 = .ok (.bipush 48, 2) := by decide +kernel
theorem dX12_number_64 : decode cX12_number 64 = .ok (.isub, 1) := by decide +kernel
theorem dX12_number_65 : decode cX12_number 65 = .ok (.istore 4, 2) := by decide +kernel
theorem dX12_number_67 : decode cX12_number 67 = .ok (.aload_n 0, 1) := by decide +kernel
theorem dX12_number_68 : decode cX12_number 68 = .ok (.dup, 1) := by decide +kernel
theorem dX12_number_69 : decode cX12_number 69 = .ok (.getfield 200, 3) := by decide +kernel
theorem dX12_number_72 : decode cX12_number 72 = .ok (.iconst 1, 1) := by decide +kernel
theorem dX12_number_73 : decode cX12_number 73 = .ok (.iadd, 1) := by decide +kernel
theorem dX12_number_74 : decode cX12_number 74 = .ok (.putfield 200, 3) := by decide +kernel
theorem dX12_number_77 : decode cX12_number 77 = .ok (.goto (-47), 3) := by decide +kernel
theorem dX12_number_80 : decode cX12_number 80 = .ok (.aload_n 0, 1) := by decide +kernel
theorem dX12_number_81 : decode cX12_number 81 = .ok (.iload 4, 2) := by decide +kernel
theorem dX12_number_83 : decode cX12_number 83 = .ok (.putfield 215, 3) := by decide +kernel
theorem dX12_number_86 : decode cX12_number 86 = .ok (.aload_n 0, 1) := by decide +kernel
theorem dX12_number_87 : decode cX12_number 87 = .ok (.getfield 200, 3) := by decide +kernel
theorem dX12_number_90 : decode cX12_number 90 = .ok (.iload_n 3, 1) := by decide +kernel
theorem dX12_number_91 : decode cX12_number 91 = .ok (.isub, 1) := by decide +kernel
theorem dX12_number_92 : decode cX12_number 92 = .ok (.iconst 2, 1) := by decide +kernel
theorem dX12_number_93 : decode cX12_number 93 = .ok (.if_icmp .gt 16, 3) := by decide +kernel
theorem dX12_number_96 : decode cX12_number 96 = .ok (.iload 4, 2) := by decide +kernel
theorem dX12_number_98 : decode cX12_number 98 = .ok (.i2l, 1) := by decide +kernel
theorem dX12_number_99 : decode cX12_number 99 = .ok (.iload_n 1, 1) := by decide +kernel
theorem dX12_number_100 : decode cX12_number 100 = .ok (.i2l, 1) := by decide +kernel
theorem dX12_number_101 : decode cX12_number 101 = .ok (.iload_n 2, 1) := by decide +kernel
theorem dX12_number_102 : decode cX12_number 102 = .ok (.i2l, 1) := by decide +kernel
theorem dX12_number_103 : decode cX12_number 103 = .ok (.invokestatic 218, 3) := by decide +kernel
theorem dX12_number_106 : decode cX12_number 106 = .ok (.ifCond .ne 12, 3) := by decide +kernel
theorem dX12_number_109 : decode cX12_number 109 = .ok (.aload_n 0, 1) := by decide +kernel
theorem dX12_number_110 : decode cX12_number 110 = .ok (.iconst 1, 1) := by decide +kernel
theorem dX12_number_111 : decode cX12_number 111 = .ok (.iload_n 3, 1) := by decide +kernel
theorem dX12_number_112 : decode cX12_number 112 = .ok (.invokevirtual 211, 3) := by decide +kernel
theorem dX12_number_115 : decode cX12_number 115 = .ok (.ifCond .eq 7, 3) := by decide +kernel
theorem dX12_number_118 : decode cX12_number 118 = .ok (.iconst 1, 1) := by decide +kernel
theorem dX12_number_119 : decode cX12_number 119 = .ok (.goto 4, 3) := by decide +kernel
theorem dX12_number_122 : decode cX12_number 122 = .ok (.iconst 0, 1) := by decide +kernel
theorem dX12_number_123 : decode cX12_number 123 = .ok (.ireturn, 1) := by decide +kernel
abbrev o_X12_number : Type := Int32 × Int32 × Int32 × Int32
def f_X12_number_L30 (S : wd_W) (o1 : o_X12_see) (k80_5 : (Int32) → (Int32) → (Option o_X12_number)) (r14 : (Int32) → (Int32) → (Option o_X12_number)) (x12 : Int32) (x13 : Int32) : Option o_X12_number :=
bd (f_X12_isDigit (wd_o S [(17, x13), (18, (S.1 18)), (19, (S.1 19))] [] [] [] [])) fun o15 =>
if o15 = 0 then (
k80_5 x12 x13) else (
lk (fun x16 =>
lz (x13 + (1 : Int32)) fun x18 =>
r14 x16 x18) fun k67_17 =>
if (2 : Int32) ≤ (x13 - o1.2) then (
k67_17 x12) else (
gd (okx x13 400) <|
lz ((((10 : Int32) * x12) + ((S.2.2.1 1) x13.toNatClampNeg)) - (48 : Int32)) fun x20 =>
k67_17 x20))
def f_X12_number (S : wd_W) (p1 : Int32) (p2 : Int32) : Option o_X12_number :=
bd (f_X12_see (wd_o S [(17, (S.1 17)), (18, (S.1 18)), (19, (S.1 19))] [] [] [] [])) fun o1 =>
bd (f_X12_isDigit (wd_o S [(17, o1.2), (18, (S.1 18)), (19, (S.1 19))] [] [] [] [])) fun o2 =>
if o2 = 0 then (
bd (f_X12_fails (wd_o S [(17, o1.2), (18, (S.1 18)), (19, (S.1 19))] [] [] [] []) (0 : Int32) o1.2) fun o24 =>
gd (okz o24.1) <|
some (o24.1, o1.2, o24.2, (S.1 19))) else (
lk (fun x3 x4 =>
lk (bd (f_X12_fails (wd_o S [(17, x4), (18, (S.1 18)), (19, x3)] [] [] [] []) (1 : Int32) o1.2) fun o7 =>
if o7.1 = 0 then (
some ((0 : Int32), x4, o7.2, x3)) else (
some ((1 : Int32), x4, o7.2, x3))) fun k109_6 =>
if (2 : Int32) < (x4 - o1.2) then (
k109_6) else (
bd (f_X12_in x3.toInt64 p1.toInt64 p2.toInt64) fun o9 =>
if o9 = 0 then (
k109_6) else (
some ((1 : Int32), x4, (S.1 18), x3)))) fun k80_5 =>
it2 (f_X12_number_L30 S o1 k80_5) fuel (0 : Int32) o1.2)
set_option maxRecDepth 100000 in
set_option maxHeartbeats 4000000 in
theorem c_X12_number (l : Launch) (D : va_G) (q g : Nat → Nat) (cy : Nat → ClassId) (z : (Nat → Nat) × (Nat → Nat) × Nat) (S : wd_W) (p1 : Int32) (p2 : Int32) (o : o_X12_number) (hf : f_X12_number S p1 p2 = some o) : MX layM l yX12_number cX12_number 5 (some .boolean) ({ frames := 1, cells := 0, slots := 0, locals := 25 } : Room) D q g cy z [.ref (q 0), .int p1, .int p2] S false (some (.int o.1)) (wd_o S [(17, o.2.1), (18, o.2.2.1), (19, o.2.2.2)] [] [] [] []) 0 0 := by
  refine mx_of (own := RX12) (lc := [(0, .ref (q 0)), (1, .int p1), (2, .int p2)]) (by decide +kernel) rfl layM_ok (Nat.le_of_ble_eq_true rfl) rfl ?_
  intro X hXl hXq hXz hC hQ
  subst hXl; subst hXq; subst hXz
  unfold f_X12_number at hf
  refine go_keys (L1 := [(17, (S.1 17)), (18, (S.1 18)), (19, (S.1 19))]) (L2 := []) (L3 := []) (L4 := []) (L5 := []) [17, 18, 19] [] [] [] [] rfl rfl rfl rfl rfl ?_
  refine go_aload_n (pc' := 1) hC dX12_number_0 rfl rfl ?_
  obtain ⟨o1, ho1, hf⟩ := bd_e hf
  refine go_callV1 (pc' := 4) (As := []) (st := []) (st' := [.int o1.1]) (L1' := [(17, o1.2), (18, (S.1 18)), (19, (S.1 19))]) (L2' := []) (L3' := []) (L4' := []) (L5' := []) (cells' := 0) (slots' := 0)  (b := 0) hC dX12_number_1 ⟨mw_505, mw_508, mw_5, yd_yX12_see, yp_yX12_see, Nat.le_of_ble_eq_true rfl, Nat.le_of_ble_eq_true rfl, (Nat.le_of_ble_eq_true rfl), (Nat.le_of_ble_eq_true rfl)⟩ mw_506 mw_507 layM_0 rfl rfl rfl (Nat.le_of_ble_eq_true rfl) (c_X12_see (x_l X) (x_D X) (x_q X) g (x_cy X) (x_z X) _  o1 ho1) rfl rfl rfl rfl rfl rfl rfl rfl rfl rfl rfl rfl rfl rfl ?_
  refine go_pop (pc' := 5) hC dX12_number_4 rfl rfl ?_
  refine go_aload_n (pc' := 6) hC dX12_number_5 rfl rfl ?_
  obtain ⟨o2, ho2, hf⟩ := bd_e hf
  refine go_callV0 (pc' := 9) (As := []) (st := []) (st' := [.int o2])    (b := 0) hC dX12_number_6 ⟨mw_521, mw_524, mw_5, yd_yX12_isDigit, yp_yX12_isDigit, Nat.le_of_ble_eq_true rfl, Nat.le_of_ble_eq_true rfl, (Nat.le_of_ble_eq_true rfl), (Nat.le_of_ble_eq_true rfl)⟩ mw_522 mw_523 layM_0 rfl rfl rfl (Nat.le_of_ble_eq_true rfl) (c_X12_isDigit (x_l X) (x_D X) (x_q X) g (x_cy X) (x_z X) _  o2 ho2) rfl rfl ?_
  refine go_if_ne (tgt := 22) (pc' := 12) hC dX12_number_9 (by decide) rfl (fun h26 => ?_) (fun h26 => ?_)
  · have hf := ite_f h26 hf
    refine go_aload_n (pc' := 23) hC dX12_number_22 rfl rfl ?_
    refine go_geti (v := o1.2) (pc' := 26) hC 0 17 layM_0 rfl rfl inlX12 (Nat.le_of_ble_eq_true rfl) mw_489 rfl dX12_number_23 rfl rfl ?_
    refine go_istore_n (lc' := [(0, .ref (x_q X 0)), (1, .int p1), (2, .int p2), (3, .int o1.2)]) (pc' := 27) hC dX12_number_26 (Nat.le_of_ble_eq_true rfl) rfl rfl ?_
    refine go_iconst (pc' := 28) hC dX12_number_27 ki_0 rfl ?_
    refine go_istore (lc' := [(0, .ref (x_q X 0)), (1, .int p1), (2, .int p2), (3, .int o1.2), (4, .int (0 : Int32))]) (pc' := 30) hC dX12_number_28 (Nat.le_of_ble_eq_true rfl) rfl rfl ?_
    obtain ⟨k80_5, hk80_5, hf⟩ := lk_e2 hf
    have jk80_5 : ∀ (x3 : Int32) (x4 : Int32), k80_5 x3 x4 = some o → Go X layM S 80 [(0, .ref (x_q X 0)), (1, .int p1), (2, .int p2), (3, .int o1.2), (4, .int x3)] [] g [(17, x4), (18, (S.1 18)), (19, (S.1 19))] [] [] [] [] 0 0 := by
      intro x3 x4 hf
      have hf := hk80_5 x3 x4 hf
      clear hk80_5
      refine go_aload_n (pc' := 81) hC dX12_number_80 rfl rfl ?_
      refine go_iload (pc' := 83) hC dX12_number_81 rfl rfl ?_
      refine go_puti (L1' := [(17, x4), (18, (S.1 18)), (19, x3)]) (pc' := 86) hC 0 19 layM_0 rfl rfl inlX12 tyX12_ok nmX12 (Nat.le_of_ble_eq_true rfl) mw_496 rfl rfl rfl rfl dX12_number_83 rfl rfl rfl ?_
      refine go_aload_n (pc' := 87) hC dX12_number_86 rfl rfl ?_
      refine go_geti (v := x4) (pc' := 90) hC 0 17 layM_0 rfl rfl inlX12 (Nat.le_of_ble_eq_true rfl) mw_489 rfl dX12_number_87 rfl rfl ?_
      refine go_iload_n (pc' := 91) hC dX12_number_90 rfl rfl ?_
      refine go_isub (pc' := 92) hC dX12_number_91 rfl ?_
      refine go_iconst (pc' := 93) hC dX12_number_92 ki_2 rfl ?_
      obtain ⟨k109_6, hk109_6, hf⟩ := lk_e0 hf
      have jk109_6 : ∀ (_ : Unit), k109_6 = some o → Go X layM S 109 [(0, .ref (x_q X 0)), (3, .int o1.2)] [] g [(17, x4), (18, (S.1 18)), (19, x3)] [] [] [] [] 0 0 := by
        intro _ hf
        have hf := hk109_6 hf
        clear hk109_6
        refine go_aload_n (pc' := 110) hC dX12_number_109 rfl rfl ?_
        refine go_iconst (pc' := 111) hC dX12_number_110 ki_1 rfl ?_
        refine go_iload_n (pc' := 112) hC dX12_number_111 rfl rfl ?_
        obtain ⟨o7, ho7, hf⟩ := bd_e hf
        refine go_callV1 (pc' := 115) (As := [.int (1 : Int32), .int o1.2]) (st := []) (st' := [.int o7.1]) (L1' := [(17, x4), (18, o7.2), (19, x3)]) (L2' := []) (L3' := []) (L4' := []) (L5' := []) (cells' := 0) (slots' := 0)  (b := 0) hC dX12_number_112 ⟨mw_509, mw_512, mw_5, yd_yX12_fails, yp_yX12_fails, Nat.le_of_ble_eq_true rfl, Nat.le_of_ble_eq_true rfl, (Nat.le_of_ble_eq_true rfl), (Nat.le_of_ble_eq_true rfl)⟩ mw_510 mw_511 layM_0 rfl rfl rfl (Nat.le_of_ble_eq_true rfl) (c_X12_fails (x_l X) (x_D X) (x_q X) g (x_cy X) (x_z X) _ (1 : Int32) o1.2 o7 ho7) rfl rfl rfl rfl rfl rfl rfl rfl rfl rfl rfl rfl rfl rfl ?_
        refine go_if_eq (tgt := 122) (pc' := 118) hC dX12_number_115 (by decide) rfl (fun h8 => ?_) (fun h8 => ?_)
        · have hf := ite_t h8 hf
          refine go_iconst (pc' := 123) hC dX12_number_122 ki_0 rfl ?_
          obtain rfl := Option.some.inj hf
          exact go_iret hC hQ dX12_number_123 rfl rfl rfl rfl (fun _ => rfl) rfl rfl
        · have hf := ite_f h8 hf
          refine go_iconst (pc' := 119) hC dX12_number_118 ki_1 rfl ?_
          refine go_goto (tgt := 123) hC dX12_number_119 (by decide) ?_
          obtain rfl := Option.some.inj hf
          exact go_iret hC hQ dX12_number_123 rfl rfl rfl rfl (fun _ => rfl) rfl rfl
      clear hk109_6
      refine go_icmp_gt (tgt := 109) (pc' := 96) hC dX12_number_93 (by decide) rfl (fun h11 => ?_) (fun h11 => ?_)
      · have hf := ite_t h11 hf
        refine go_sub [0, 3] rfl ?_
        exact jk109_6 () hf
      · have hf := ite_f h11 hf
        refine go_iload (pc' := 98) hC dX12_number_96 rfl rfl ?_
        refine go_i2l (pc' := 99) hC dX12_number_98 rfl ?_
        refine go_iload_n (pc' := 100) hC dX12_number_99 rfl rfl ?_
        refine go_i2l (pc' := 101) hC dX12_number_100 rfl ?_
        refine go_iload_n (pc' := 102) hC dX12_number_101 rfl rfl ?_
        refine go_i2l (pc' := 103) hC dX12_number_102 rfl ?_
        obtain ⟨o9, ho9, hf⟩ := bd_e hf
        refine go_callS0 (pc' := 106) (As := [.long x3.toInt64, .long p1.toInt64, .long p2.toInt64]) (st := []) (st' := [.int o9])    hC dX12_number_103 ⟨mw_525, mw_527, mw_5, yd_yX12_in, yp_yX12_in, Nat.le_of_ble_eq_true rfl, Nat.le_of_ble_eq_true rfl, (Nat.le_of_ble_eq_true rfl), (Nat.le_of_ble_eq_true rfl)⟩ mw_526 rfl rfl (Nat.le_of_ble_eq_true rfl) (c_X12_in (x_l X) (x_D X) (x_q X) g (x_cy X) (x_z X) _ x3.toInt64 p1.toInt64 p2.toInt64 o9 ho9) rfl rfl ?_
        refine go_if_ne (tgt := 118) (pc' := 109) hC dX12_number_106 (by decide) rfl (fun h10 => ?_) (fun h10 => ?_)
        · have hf := ite_f h10 hf
          refine go_iconst (pc' := 119) hC dX12_number_118 ki_1 rfl ?_
          refine go_goto (tgt := 123) hC dX12_number_119 (by decide) ?_
          obtain rfl := Option.some.inj hf
          exact go_iret hC hQ dX12_number_123 rfl rfl rfl rfl (fun _ => rfl) rfl rfl
        · have hf := ite_t h10 hf
          refine go_sub [0, 3] rfl ?_
          exact jk109_6 () hf
    clear hk80_5
    have l30_23 : ∀ (nn : Nat) (x12 : Int32) (x13 : Int32), it2 (f_X12_number_L30 S o1 k80_5) nn x12 x13 = some o → Go X layM S 30 [(0, .ref (x_q X 0)), (1, .int p1), (2, .int p2), (3, .int o1.2), (4, .int x12)] [] g [(17, x13), (18, (S.1 18)), (19, (S.1 19))] [] [] [] [] 0 0 := by
      intro nn
      induction nn with
      | zero =>
        intro x12 x13 hf
        exact none_no hf
      | succ nn ih =>
        intro x12 x13 hf
        have hf : f_X12_number_L30 S o1 k80_5 (it2 (f_X12_number_L30 S o1 k80_5) nn) x12 x13 = some o := hf
        generalize it2 (f_X12_number_L30 S o1 k80_5) nn = r14 at ih hf
        unfold f_X12_number_L30 at hf
        refine go_aload_n (pc' := 31) hC dX12_number_30 rfl rfl ?_
        obtain ⟨o15, ho15, hf⟩ := bd_e hf
        refine go_callV0 (pc' := 34) (As := []) (st := []) (st' := [.int o15])    (b := 0) hC dX12_number_31 ⟨mw_521, mw_524, mw_5, yd_yX12_isDigit, yp_yX12_isDigit, Nat.le_of_ble_eq_true rfl, Nat.le_of_ble_eq_true rfl, (Nat.le_of_ble_eq_true rfl), (Nat.le_of_ble_eq_true rfl)⟩ mw_522 mw_523 layM_0 rfl rfl rfl (Nat.le_of_ble_eq_true rfl) (c_X12_isDigit (x_l X) (x_D X) (x_q X) g (x_cy X) (x_z X) _  o15 ho15) rfl rfl ?_
        refine go_if_eq (tgt := 80) (pc' := 37) hC dX12_number_34 (by decide) rfl (fun h22 => ?_) (fun h22 => ?_)
        · have hf := ite_t h22 hf
          exact jk80_5 x12 x13 hf
        · have hf := ite_f h22 hf
          refine go_aload_n (pc' := 38) hC dX12_number_37 rfl rfl ?_
          refine go_geti (v := x13) (pc' := 41) hC 0 17 layM_0 rfl rfl inlX12 (Nat.le_of_ble_eq_true rfl) mw_489 rfl dX12_number_38 rfl rfl ?_
          refine go_iload_n (pc' := 42) hC dX12_number_41 rfl rfl ?_
          refine go_isub (pc' := 43) hC dX12_number_42 rfl ?_
          refine go_iconst (pc' := 44) hC dX12_number_43 ki_2 rfl ?_
          obtain ⟨k67_17, hk67_17, hf⟩ := lk_e1 hf
          have jk67_17 : ∀ (x16 : Int32), k67_17 x16 = some o → Go X layM S 67 [(0, .ref (x_q X 0)), (1, .int p1), (2, .int p2), (3, .int o1.2), (4, .int x16)] [] g [(17, x13), (18, (S.1 18)), (19, (S.1 19))] [] [] [] [] 0 0 := by
            intro x16 hf
            have hf := hk67_17 x16 hf
            clear hk67_17
            refine go_aload_n (pc' := 68) hC dX12_number_67 rfl rfl ?_
            refine go_dup (pc' := 69) hC dX12_number_68 rfl rfl ?_
            refine go_geti (v := x13) (pc' := 72) hC 0 17 layM_0 rfl rfl inlX12 (Nat.le_of_ble_eq_true rfl) mw_489 rfl dX12_number_69 rfl rfl ?_
            refine go_iconst (pc' := 73) hC dX12_number_72 ki_1 rfl ?_
            refine go_iadd (pc' := 74) hC dX12_number_73 rfl ?_
            refine go_namei (fun x18 hx => ?_)
            have hf := lz_r hx hf
            clear hx
            refine go_puti (L1' := [(17, x18), (18, (S.1 18)), (19, (S.1 19))]) (pc' := 77) hC 0 17 layM_0 rfl rfl inlX12 tyX12_ok nmX12 (Nat.le_of_ble_eq_true rfl) mw_489 rfl rfl rfl rfl dX12_number_74 rfl rfl rfl ?_
            refine go_goto (tgt := 30) hC dX12_number_77 (by decide) ?_
            exact ih x16 x18 hf
          clear hk67_17
          refine go_icmp_ge (tgt := 67) (pc' := 47) hC dX12_number_44 (by decide) rfl (fun h21 => ?_) (fun h21 => ?_)
          · have hf := ite_t h21 hf
            exact jk67_17 x12 hf
          · have hf := ite_f h21 hf
            refine go_bipush (pc' := 49) hC dX12_number_47 kb_10 rfl ?_
            refine go_iload (pc' := 51) hC dX12_number_49 rfl rfl ?_
            refine go_imul (pc' := 52) hC dX12_number_51 rfl ?_
            refine go_aload_n (pc' := 53) hC dX12_number_52 rfl rfl ?_
            refine go_getq (pc' := 56) hC 0 0 layM_0 rfl rfl inlX12 (Nat.le_of_ble_eq_true rfl) mw_180 rfl dX12_number_53 rfl ?_
            refine go_aload_n (pc' := 57) hC dX12_number_56 rfl rfl ?_
            refine go_geti (v := x13) (pc' := 60) hC 0 17 layM_0 rfl rfl inlX12 (Nat.le_of_ble_eq_true rfl) mw_489 rfl dX12_number_57 rfl rfl ?_
            obtain ⟨h19, hf⟩ := gd_e hf
            refine go_bald (f := (S.2.2.1 1)) (pc' := 61) hC 1 layM_1 rfl rfl dX12_number_60 (okx_in h19) rfl ?_
            refine go_iadd (pc' := 62) hC dX12_number_61 rfl ?_
            refine go_bipush (pc' := 64) hC dX12_number_62 kb_48 rfl ?_
            refine go_isub (pc' := 65) hC dX12_number_64 rfl ?_
            refine go_namei (fun x20 hx => ?_)
            have hf := lz_r hx hf
            clear hx
            refine go_istore (lc' := [(0, .ref (x_q X 0)), (1, .int p1), (2, .int p2), (3, .int o1.2), (4, .int x20)]) (pc' := 67) hC dX12_number_65 (Nat.le_of_ble_eq_true rfl) rfl rfl ?_
            exact jk67_17 x20 hf
    exact l30_23 fuel (0 : Int32) o1.2 hf
  · have hf := ite_t h26 hf
    refine go_aload_n (pc' := 13) hC dX12_number_12 rfl rfl ?_
    refine go_iconst (pc' := 14) hC dX12_number_13 ki_0 rfl ?_
    refine go_aload_n (pc' := 15) hC dX12_number_14 rfl rfl ?_
    refine go_geti (v := o1.2) (pc' := 18) hC 0 17 layM_0 rfl rfl inlX12 (Nat.le_of_ble_eq_true rfl) mw_489 rfl dX12_number_15 rfl rfl ?_
    obtain ⟨o24, ho24, hf⟩ := bd_e hf
    refine go_callV1 (pc' := 21) (As := [.int (0 : Int32), .int o1.2]) (st := []) (st' := [.int o24.1]) (L1' := [(17, o1.2), (18, o24.2), (19, (S.1 19))]) (L2' := []) (L3' := []) (L4' := []) (L5' := []) (cells' := 0) (slots' := 0)  (b := 0) hC dX12_number_18 ⟨mw_509, mw_512, mw_5, yd_yX12_fails, yp_yX12_fails, Nat.le_of_ble_eq_true rfl, Nat.le_of_ble_eq_true rfl, (Nat.le_of_ble_eq_true rfl), (Nat.le_of_ble_eq_true rfl)⟩ mw_510 mw_511 layM_0 rfl rfl rfl (Nat.le_of_ble_eq_true rfl) (c_X12_fails (x_l X) (x_D X) (x_q X) g (x_cy X) (x_z X) _ (0 : Int32) o1.2 o24 ho24) rfl rfl rfl rfl rfl rfl rfl rfl rfl rfl rfl rfl rfl rfl ?_
    obtain ⟨h25, hf⟩ := gd_e hf
    obtain rfl := Option.some.inj hf
    exact go_iret hC hQ dX12_number_21 rfl (okz_n h25) rfl rfl (fun _ => rfl) rfl rfl
theorem dX12_isWord_0 : decode cX12_isWord 0 = .ok (.aload_n 0, 1) := by decide +kernel
theorem dX12_isWord_1 : decode cX12_isWord 1 = .ok (.invokevirtual 203, 3) := by decide +kernel
theorem dX12_isWord_4 : decode cX12_isWord 4 = .ok (.pop, 1) := by decide +kernel
theorem dX12_isWord_5 : decode cX12_isWord 5 = .ok (.lconst 0, 1) := by decide +kernel
theorem dX12_isWord_6 : decode cX12_isWord 6 = .ok (.lstore_n 3, 1) := by decide +kernel
theorem dX12_isWord_7 : decode cX12_isWord 7 = .ok (.iconst 0, 1) := by decide +kernel
theorem dX12_isWord_8 : decode cX12_isWord 8 = .ok (.istore 5, 2) := by decide +kernel
theorem dX12_isWord_10 : decode cX12_isWord 10 = .ok (.aload_n 0, 1) := by decide +kernel
theorem dX12_isWord_11 : decode cX12_isWord 11 = .ok (.getfield 200, 3) := by decide +kernel
theorem dX12_isWord_14 : decode cX12_isWord 14 = .ok (.iload 5, 2) := by decide +kernel
theorem dX12_isWord_16 : decode cX12_isWord 16 = .ok (.iadd, 1) := by decide +kernel
theorem dX12_isWord_17 : decode cX12_isWord 17 = .ok (.aload_n 0, 1) := by decide +kernel
theorem dX12_isWord_18 : decode cX12_isWord 18 = .ok (.getfield 161, 3) := by decide +kernel
theorem dX12_isWord_21 : decode cX12_isWord 21 = .ok (.if_icmp .ge 69, 3) := by decide +kernel
theorem dX12_isWord_24 : decode cX12_isWord 24 = .ok (.aload_n 0, 1) := by decide +kernel
theorem dX12_isWord_25 : decode cX12_isWord 25 = .ok (.getfield 7, 3) := by decide +kernel
theorem dX12_isWord_28 : decode cX12_isWord 28 = .ok (.aload_n 0, 1) := by decide +kernel
theorem dX12_isWord_29 : decode cX12_isWord 29 = .ok (.getfield 200, 3) := by decide +kernel
theorem dX12_isWord_32 : decode cX12_isWord 32 = .ok (.iload 5, 2) := by decide +kernel
theorem dX12_isWord_34 : decode cX12_isWord 34 = .ok (.iadd, 1) := by decide +kernel
theorem dX12_isWord_35 : decode cX12_isWord 35 = .ok (.baload, 1) := by decide +kernel
theorem dX12_isWord_36 : decode cX12_isWord 36 = .ok (.bipush 97, 2) := by decide +kernel
theorem dX12_isWord_38 : decode cX12_isWord 38 = .ok (.if_icmp .lt 52, 3) := by decide +kernel
theorem dX12_isWord_41 : decode cX12_isWord 41 = .ok (.aload_n 0, 1) := by decide +kernel
theorem dX12_isWord_42 : decode cX12_isWord 42 = .ok (.getfield 7, 3) := by decide +kernel
theorem dX12_isWord_45 : decode cX12_isWord 45 = .ok (.aload_n 0, 1) := by decide +kernel
theorem dX12_isWord_46 : decode cX12_isWord 46 = .ok (.getfield 200, 3) := by decide +kernel
theorem dX12_isWord_49 : decode cX12_isWord 49 = .ok (.iload 5, 2) := by decide +kernel
theorem dX12_isWord_51 : decode cX12_isWord 51 = .ok (.iadd, 1) := by decide +kernel
theorem dX12_isWord_52 : decode cX12_isWord 52 = .ok (.baload, 1) := by decide +kernel
theorem dX12_isWord_53 : decode cX12_isWord 53 = .ok (.bipush 122, 2) := by decide +kernel
theorem dX12_isWord_55 : decode cX12_isWord 55 = .ok (.if_icmp .gt 35, 3) := by decide +kernel
theorem dX12_isWord_58 : decode cX12_isWord 58 = .ok (.iload 5, 2) := by decide +kernel
theorem dX12_isWord_60 : decode cX12_isWord 60 = .ok (.bipush 8, 2) := by decide +kernel
theorem dX12_isWord_62 : decode cX12_isWord 62 = .ok (.if_icmp .ge 22, 3) := by decide +kernel
theorem dX12_isWord_65 : decode cX12_isWord 65 = .ok (.lload_n 3, 1) := by decide +kernel
theorem dX12_isWord_66 : decode cX12_isWord 66 = .ok (.bipush 8, 2) := by decide +kernel
theorem dX12_isWord_68 : decode cX12_isWord 68 = .ok (.lshl, 1) := by decide +kernel
theorem dX12_isWord_69 : decode cX12_isWord 69 = .ok (.aload_n 0, 1) := by decide +kernel
theorem dX12_isWord_70 : decode cX12_isWord 70 = .ok (.getfield 7, 3) := by decide +kernel
theorem dX12_isWord_73 : decode cX12_isWord 73 = .ok (.aload_n 0, 1) := by decide +kernel
theorem dX12_isWord_74 : decode cX12_isWord 74 = .ok (.getfield 200, 3) := by decide +kernel
theorem dX12_isWord_77 : decode cX12_isWord 77 = .ok (.iload 5, 2) := by decide +kernel
theorem dX12_isWord_79 : decode cX12_isWord 79 = .ok (.iadd, 1) := by decide +kernel
theorem dX12_isWord_80 : decode cX12_isWord 80 = .ok (.baload, 1) := by decide +kernel
theorem dX12_isWord_81 : decode cX12_isWord 81 = .ok (.i2l, 1) := by decide +kernel
theorem dX12_isWord_82 : decode cX12_isWord 82 = .ok (.lor, 1) := by decide +kernel
theorem dX12_isWord_83 : decode cX12_isWord 83 = .ok (.lstore_n 3, 1) := by decide +kernel
theorem dX12_isWord_84 : decode cX12_isWord 84 = .ok (.iinc 5 1, 3) := by decide +kernel
theorem dX12_isWord_87 : decode cX12_isWord 87 = .ok (.goto (-77), 3) := by decide +kernel
theorem dX12_isWord_90 : decode cX12_isWord 90 = .ok (.iload 5, 2) := by decide +kernel
theorem dX12_isWord_92 : decode cX12_isWord 92 = .ok (.ifCond .le 20, 3) := by decide +kernel
theorem dX12_isWord_95 : decode cX12_isWord 95 = .ok (.iload 5, 2) := by decide +kernel
theorem dX12_isWord_97 : decode cX12_isWord 97 = .ok (.bipush 8, 2) := by decide +kernel
theorem dX12_isWord_99 : decode cX12_isWord 99 = .ok (.if_icmp .ge 13, 3) := by decide +kernel
theorem dX12_isWord_102 : decode cX12_isWord 102 = .ok (.lload_n 3, 1) := by decide +kernel
theorem dX12_isWord_103 : decode cX12_isWord 103 = .ok (.lload_n 1, 1) := by decide +kernel
theorem dX12_isWord_104 : decode cX12_isWord 104 = .ok (.lcmp, 1) := by decide +kernel
theorem dX12_isWord_105 : decode cX12_isWord 105 = .ok (.ifCond .ne 7, 3) := by decide +kernel
theorem dX12_isWord_108 : decode cX12_isWord 108 = .ok (.iconst 1, 1) := by decide +kernel
theorem dX12_isWord_109 : decode cX12_isWord 109 = .ok (.goto 4, 3) := by decide +kernel
theorem dX12_isWord_112 : decode cX12_isWord 112 = .ok (.iconst 0, 1) := by decide +kernel
theorem dX12_isWord_113 : decode cX12_isWord 113 = .ok (.ireturn, 1) := by decide +kernel
abbrev o_X12_isWord : Type := Int32 × Int32
def f_X12_isWord_L10 (S : wd_W) (o1 : o_X12_see) (k90_4 : (Int64) → (Int32) → (Option o_X12_isWord)) (r10 : (Int64) → (Int32) → (Option o_X12_isWord)) (x8 : Int64) (x9 : Int32) : Option o_X12_isWord :=
if (S.1 1) ≤ (o1.2 + x9) then (
k90_4 x8 x9) else (
gd (okx (o1.2 + x9) 400) <|
if ((S.2.2.1 1) (o1.2 + x9).toNatClampNeg) < (97 : Int32) then (
k90_4 x8 x9) else (
gd (okx (o1.2 + x9) 400) <|
if (122 : Int32) < ((S.2.2.1 1) (o1.2 + x9).toNatClampNeg) then (
k90_4 x8 x9) else (
lk (fun x13 =>
r10 x13 (x9 + (1 : Int32))) fun k84_14 =>
if (8 : Int32) ≤ x9 then (
k84_14 x8) else (
gd (okx (o1.2 + x9) 400) <|
lz ((x8 <<< ((8 : Int32).toInt64 &&& 63)) ||| (((S.2.2.1 1) (o1.2 + x9).toNatClampNeg).toInt64)) fun x16 =>
k84_14 x16))))
def f_X12_isWord (S : wd_W) (p1 : Int64) : Option o_X12_isWord :=
bd (f_X12_see (wd_o S [(17, (S.1 17))] [] [] [] [])) fun o1 =>
lk (fun x2 x3 =>
if x3 ≤ 0 then (
some ((0 : Int32), o1.2)) else (
if (8 : Int32) ≤ x3 then (
some ((0 : Int32), o1.2)) else (
if x2 = p1 then (
some ((1 : Int32), o1.2)) else (
some ((0 : Int32), o1.2))))) fun k90_4 =>
it2 (f_X12_isWord_L10 S o1 k90_4) fuel (0 : Int64) (0 : Int32)
set_option maxRecDepth 100000 in
set_option maxHeartbeats 4000000 in
theorem c_X12_isWord (l : Launch) (D : va_G) (q g : Nat → Nat) (cy : Nat → ClassId) (z : (Nat → Nat) × (Nat → Nat) × Nat) (S : wd_W) (p1 : Int64) (o : o_X12_isWord) (hf : f_X12_isWord S p1 = some o) : MX layM l yX12_isWord cX12_isWord 6 (some .boolean) ({ frames := 1, cells := 0, slots := 0, locals := 20 } : Room) D q g cy z [.ref (q 0), .long p1] S false (some (.int o.1)) (wd_o S [(17, o.2)] [] [] [] []) 0 0 := by
  refine mx_of (own := RX12) (lc := [(0, .ref (q 0)), (1, .long p1)]) (by decide +kernel) rfl layM_ok (Nat.le_of_ble_eq_true rfl) rfl ?_
  intro X hXl hXq hXz hC hQ
  subst hXl; subst hXq; subst hXz
  unfold f_X12_isWord at hf
  refine go_keys (L1 := [(17, (S.1 17))]) (L2 := []) (L3 := []) (L4 := []) (L5 := []) [17] [] [] [] [] rfl rfl rfl rfl rfl ?_
  refine go_aload_n (pc' := 1) hC dX12_isWord_0 rfl rfl ?_
  obtain ⟨o1, ho1, hf⟩ := bd_e hf
  refine go_callV1 (pc' := 4) (As := []) (st := []) (st' := [.int o1.1]) (L1' := [(17, o1.2)]) (L2' := []) (L3' := []) (L4' := []) (L5' := []) (cells' := 0) (slots' := 0)  (b := 0) hC dX12_isWord_1 ⟨mw_505, mw_508, mw_5, yd_yX12_see, yp_yX12_see, Nat.le_of_ble_eq_true rfl, Nat.le_of_ble_eq_true rfl, (Nat.le_of_ble_eq_true rfl), (Nat.le_of_ble_eq_true rfl)⟩ mw_506 mw_507 layM_0 rfl rfl rfl (Nat.le_of_ble_eq_true rfl) (c_X12_see (x_l X) (x_D X) (x_q X) g (x_cy X) (x_z X) _  o1 ho1) rfl rfl rfl rfl rfl rfl rfl rfl rfl rfl rfl rfl rfl rfl ?_
  refine go_pop (pc' := 5) hC dX12_isWord_4 rfl rfl ?_
  refine go_lconst (pc' := 6) hC dX12_isWord_5 kl_0 rfl ?_
  refine go_lstore_n (lc' := [(0, .ref (x_q X 0)), (1, .long p1), (3, .long (0 : Int64))]) (pc' := 7) hC dX12_isWord_6 (Nat.le_of_ble_eq_true rfl) rfl rfl ?_
  refine go_iconst (pc' := 8) hC dX12_isWord_7 ki_0 rfl ?_
  refine go_istore (lc' := [(0, .ref (x_q X 0)), (1, .long p1), (3, .long (0 : Int64)), (5, .int (0 : Int32))]) (pc' := 10) hC dX12_isWord_8 (Nat.le_of_ble_eq_true rfl) rfl rfl ?_
  obtain ⟨k90_4, hk90_4, hf⟩ := lk_e2 hf
  have jk90_4 : ∀ (x2 : Int64) (x3 : Int32), k90_4 x2 x3 = some o → Go X layM S 90 [(1, .long p1), (3, .long x2), (5, .int x3)] [] g [(17, o1.2)] [] [] [] [] 0 0 := by
    intro x2 x3 hf
    have hf := hk90_4 x2 x3 hf
    clear hk90_4
    refine go_iload (pc' := 92) hC dX12_isWord_90 rfl rfl ?_
    refine go_if_le (tgt := 112) (pc' := 95) hC dX12_isWord_92 (by decide) rfl (fun h7 => ?_) (fun h7 => ?_)
    · have hf := ite_t h7 hf
      refine go_iconst (pc' := 113) hC dX12_isWord_112 ki_0 rfl ?_
      obtain rfl := Option.some.inj hf
      exact go_iret hC hQ dX12_isWord_113 rfl rfl rfl rfl (fun _ => rfl) rfl rfl
    · have hf := ite_f h7 hf
      refine go_iload (pc' := 97) hC dX12_isWord_95 rfl rfl ?_
      refine go_bipush (pc' := 99) hC dX12_isWord_97 kb_8 rfl ?_
      refine go_icmp_ge (tgt := 112) (pc' := 102) hC dX12_isWord_99 (by decide) rfl (fun h6 => ?_) (fun h6 => ?_)
      · have hf := ite_t h6 hf
        refine go_iconst (pc' := 113) hC dX12_isWord_112 ki_0 rfl ?_
        obtain rfl := Option.some.inj hf
        exact go_iret hC hQ dX12_isWord_113 rfl rfl rfl rfl (fun _ => rfl) rfl rfl
      · have hf := ite_f h6 hf
        refine go_lload_n (pc' := 103) hC dX12_isWord_102 rfl rfl ?_
        refine go_lload_n (pc' := 104) hC dX12_isWord_103 rfl rfl ?_
        refine go_lcmp (pc' := 105) hC dX12_isWord_104 rfl ?_
        refine go_if_ne (tgt := 112) (pc' := 108) hC dX12_isWord_105 (by decide) rfl (fun h5 => ?_) (fun h5 => ?_)
        · have hf := ite_f (mt lg_eq.mpr h5) hf
          refine go_iconst (pc' := 113) hC dX12_isWord_112 ki_0 rfl ?_
          obtain rfl := Option.some.inj hf
          exact go_iret hC hQ dX12_isWord_113 rfl rfl rfl rfl (fun _ => rfl) rfl rfl
        · have hf := ite_t (lg_eq.mp h5) hf
          refine go_iconst (pc' := 109) hC dX12_isWord_108 ki_1 rfl ?_
          refine go_goto (tgt := 113) hC dX12_isWord_109 (by decide) ?_
          obtain rfl := Option.some.inj hf
          exact go_iret hC hQ dX12_isWord_113 rfl rfl rfl rfl (fun _ => rfl) rfl rfl
  clear hk90_4
  have l10_21 : ∀ (nn : Nat) (x8 : Int64) (x9 : Int32), it2 (f_X12_isWord_L10 S o1 k90_4) nn x8 x9 = some o → Go X layM S 10 [(0, .ref (x_q X 0)), (1, .long p1), (3, .long x8), (5, .int x9)] [] g [(17, o1.2)] [] [] [] [] 0 0 := by
    intro nn
    induction nn with
    | zero =>
      intro x8 x9 hf
      exact none_no hf
    | succ nn ih =>
      intro x8 x9 hf
      have hf : f_X12_isWord_L10 S o1 k90_4 (it2 (f_X12_isWord_L10 S o1 k90_4) nn) x8 x9 = some o := hf
      generalize it2 (f_X12_isWord_L10 S o1 k90_4) nn = r10 at ih hf
      unfold f_X12_isWord_L10 at hf
      refine go_aload_n (pc' := 11) hC dX12_isWord_10 rfl rfl ?_
      refine go_geti (v := o1.2) (pc' := 14) hC 0 17 layM_0 rfl rfl inlX12 (Nat.le_of_ble_eq_true rfl) mw_489 rfl dX12_isWord_11 rfl rfl ?_
      refine go_iload (pc' := 16) hC dX12_isWord_14 rfl rfl ?_
      refine go_iadd (pc' := 17) hC dX12_isWord_16 rfl ?_
      refine go_aload_n (pc' := 18) hC dX12_isWord_17 rfl rfl ?_
      refine go_geti (v := (S.1 1)) (pc' := 21) hC 0 1 layM_0 rfl rfl inlX12 (Nat.le_of_ble_eq_true rfl) mw_281 rfl dX12_isWord_18 rfl rfl ?_
      refine go_icmp_ge (tgt := 90) (pc' := 24) hC dX12_isWord_21 (by decide) rfl (fun h20 => ?_) (fun h20 => ?_)
      · have hf := ite_t h20 hf
        refine go_sub [1, 3, 5] rfl ?_
        exact jk90_4 x8 x9 hf
      · have hf := ite_f h20 hf
        refine go_aload_n (pc' := 25) hC dX12_isWord_24 rfl rfl ?_
        refine go_getq (pc' := 28) hC 0 0 layM_0 rfl rfl inlX12 (Nat.le_of_ble_eq_true rfl) mw_180 rfl dX12_isWord_25 rfl ?_
        refine go_aload_n (pc' := 29) hC dX12_isWord_28 rfl rfl ?_
        refine go_geti (v := o1.2) (pc' := 32) hC 0 17 layM_0 rfl rfl inlX12 (Nat.le_of_ble_eq_true rfl) mw_489 rfl dX12_isWord_29 rfl rfl ?_
        refine go_iload (pc' := 34) hC dX12_isWord_32 rfl rfl ?_
        refine go_iadd (pc' := 35) hC dX12_isWord_34 rfl ?_
        obtain ⟨h11, hf⟩ := gd_e hf
        refine go_bald (f := (S.2.2.1 1)) (pc' := 36) hC 1 layM_1 rfl rfl dX12_isWord_35 (okx_in h11) rfl ?_
        refine go_bipush (pc' := 38) hC dX12_isWord_36 kb_97 rfl ?_
        refine go_icmp_lt (tgt := 90) (pc' := 41) hC dX12_isWord_38 (by decide) rfl (fun h19 => ?_) (fun h19 => ?_)
        · have hf := ite_t h19 hf
          refine go_sub [1, 3, 5] rfl ?_
          exact jk90_4 x8 x9 hf
        · have hf := ite_f h19 hf
          refine go_aload_n (pc' := 42) hC dX12_isWord_41 rfl rfl ?_
          refine go_getq (pc' := 45) hC 0 0 layM_0 rfl rfl inlX12 (Nat.le_of_ble_eq_true rfl) mw_180 rfl dX12_isWord_42 rfl ?_
          refine go_aload_n (pc' := 46) hC dX12_isWord_45 rfl rfl ?_
          refine go_geti (v := o1.2) (pc' := 49) hC 0 17 layM_0 rfl rfl inlX12 (Nat.le_of_ble_eq_true rfl) mw_489 rfl dX12_isWord_46 rfl rfl ?_
          refine go_iload (pc' := 51) hC dX12_isWord_49 rfl rfl ?_
          refine go_iadd (pc' := 52) hC dX12_isWord_51 rfl ?_
          obtain ⟨h12, hf⟩ := gd_e hf
          refine go_bald (f := (S.2.2.1 1)) (pc' := 53) hC 1 layM_1 rfl rfl dX12_isWord_52 (okx_in h12) rfl ?_
          refine go_bipush (pc' := 55) hC dX12_isWord_53 kb_122 rfl ?_
          refine go_icmp_gt (tgt := 90) (pc' := 58) hC dX12_isWord_55 (by decide) rfl (fun h18 => ?_) (fun h18 => ?_)
          · have hf := ite_t h18 hf
            refine go_sub [1, 3, 5] rfl ?_
            exact jk90_4 x8 x9 hf
          · have hf := ite_f h18 hf
            refine go_iload (pc' := 60) hC dX12_isWord_58 rfl rfl ?_
            refine go_bipush (pc' := 62) hC dX12_isWord_60 kb_8 rfl ?_
            obtain ⟨k84_14, hk84_14, hf⟩ := lk_e1 hf
            have jk84_14 : ∀ (x13 : Int64), k84_14 x13 = some o → Go X layM S 84 [(0, .ref (x_q X 0)), (1, .long p1), (3, .long x13), (5, .int x9)] [] g [(17, o1.2)] [] [] [] [] 0 0 := by
              intro x13 hf
              have hf := hk84_14 x13 hf
              clear hk84_14
              refine go_iinc (lc' := [(0, .ref (x_q X 0)), (1, .long p1), (3, .long x13), (5, .int (x9 + (1 : Int32)))]) (pc' := 87) hC dX12_isWord_84 rfl ki_1 (Nat.le_of_ble_eq_true rfl) rfl rfl ?_
              refine go_goto (tgt := 10) hC dX12_isWord_87 (by decide) ?_
              exact ih x13 (x9 + (1 : Int32)) hf
            clear hk84_14
            refine go_icmp_ge (tgt := 84) (pc' := 65) hC dX12_isWord_62 (by decide) rfl (fun h17 => ?_) (fun h17 => ?_)
            · have hf := ite_t h17 hf
              exact jk84_14 x8 hf
            · have hf := ite_f h17 hf
              refine go_lload_n (pc' := 66) hC dX12_isWord_65 rfl rfl ?_
              refine go_bipush (pc' := 68) hC dX12_isWord_66 kb_8 rfl ?_
              refine go_lshl (pc' := 69) hC dX12_isWord_68 rfl ?_
              refine go_aload_n (pc' := 70) hC dX12_isWord_69 rfl rfl ?_
              refine go_getq (pc' := 73) hC 0 0 layM_0 rfl rfl inlX12 (Nat.le_of_ble_eq_true rfl) mw_180 rfl dX12_isWord_70 rfl ?_
              refine go_aload_n (pc' := 74) hC dX12_isWord_73 rfl rfl ?_
              refine go_geti (v := o1.2) (pc' := 77) hC 0 17 layM_0 rfl rfl inlX12 (Nat.le_of_ble_eq_true rfl) mw_489 rfl dX12_isWord_74 rfl rfl ?_
              refine go_iload (pc' := 79) hC dX12_isWord_77 rfl rfl ?_
              refine go_iadd (pc' := 80) hC dX12_isWord_79 rfl ?_
              obtain ⟨h15, hf⟩ := gd_e hf
              refine go_bald (f := (S.2.2.1 1)) (pc' := 81) hC 1 layM_1 rfl rfl dX12_isWord_80 (okx_in h15) rfl ?_
              refine go_i2l (pc' := 82) hC dX12_isWord_81 rfl ?_
              refine go_lor (pc' := 83) hC dX12_isWord_82 rfl ?_
              refine go_namel (fun x16 hx => ?_)
              have hf := lz_r hx hf
              clear hx
              refine go_lstore_n (lc' := [(0, .ref (x_q X 0)), (1, .long p1), (3, .long x16), (5, .int x9)]) (pc' := 84) hC dX12_isWord_83 (Nat.le_of_ble_eq_true rfl) rfl rfl ?_
              exact jk84_14 x16 hf
  exact l10_21 fuel (0 : Int64) (0 : Int32) hf
theorem dX12_takesWord_0 : decode cX12_takesWord 0 = .ok (.aload_n 0, 1) := by decide +kernel
theorem dX12_takesWord_1 : decode cX12_takesWord 1 = .ok (.lload_n 1, 1) := by decide +kernel
theorem dX12_takesWord_2 : decode cX12_takesWord 2 = .ok (.invokevirtual 222, 3) := by decide +kernel
theorem dX12_takesWord_5 : decode cX12_takesWord 5 = .ok (.ifCond .ne 5, 3) := by decide +kernel
theorem dX12_takesWord_8 : decode cX12_takesWord 8 = .ok (.iconst 0, 1) := by decide +kernel
theorem dX12_takesWord_9 : decode cX12_takesWord 9 = .ok (.ireturn, 1) := by decide +kernel
theorem dX12_takesWord_10 : decode cX12_takesWord 10 = .ok (.aload_n 0, 1) := by decide +kernel
theorem dX12_takesWord_11 : decode cX12_takesWord 11 = .ok (.getfield 200, 3) := by decide +kernel
theorem dX12_takesWord_14 : decode cX12_takesWord 14 = .ok (.aload_n 0, 1) := by decide +kernel
theorem dX12_takesWord_15 : decode cX12_takesWord 15 = .ok (.getfield 161, 3) := by decide +kernel
theorem dX12_takesWord_18 : decode cX12_takesWord 18 = .ok (.if_icmp .ge 44, 3) := by decide +kernel
theorem dX12_takesWord_21 : decode cX12_takesWord 21 = .ok (.aload_n 0, 1) := by decide +kernel
theorem dX12_takesWord_22 : decode cX12_takesWord 22 = .ok (.getfield 7, 3) := by decide +kernel
theorem dX12_takesWord_25 : decode cX12_takesWord 25 = .ok (.aload_n 0, 1) := by decide +kernel
theorem dX12_takesWord_26 : decode cX12_takesWord 26 = .ok (.getfield 200, 3) := by decide +kernel
theorem dX12_takesWord_29 : decode cX12_takesWord 29 = .ok (.baload, 1) := by decide +kernel
theorem dX12_takesWord_30 : decode cX12_takesWord 30 = .ok (.bipush 97, 2) := by decide +kernel
theorem dX12_takesWord_32 : decode cX12_takesWord 32 = .ok (.if_icmp .lt 30, 3) := by decide +kernel
theorem dX12_takesWord_35 : decode cX12_takesWord 35 = .ok (.aload_n 0, 1) := by decide +kernel
theorem dX12_takesWord_36 : decode cX12_takesWord 36 = .ok (.getfield 7, 3) := by decide +kernel
theorem dX12_takesWord_39 : decode cX12_takesWord 39 = .ok (.aload_n 0, 1) := by decide +kernel
theorem dX12_takesWord_40 : decode cX12_takesWord 40 = .ok (.getfield 200, 3) := by decide +kernel
theorem dX12_takesWord_43 : decode cX12_takesWord 43 = .ok (.baload, 1) := by decide +kernel
theorem dX12_takesWord_44 : decode cX12_takesWord 44 = .ok (.bipush 122, 2) := by decide +kernel
theorem dX12_takesWord_46 : decode cX12_takesWord 46 = .ok (.if_icmp .gt 16, 3) := by decide +kernel
theorem dX12_takesWord_49 : decode cX12_takesWord 49 = .ok (.aload_n 0, 1) := by decide +kernel
theorem dX12_takesWord_50 : decode cX12_takesWord 50 = .ok (.dup, 1) := by decide +kernel
theorem dX12_takesWord_51 : decode cX12_takesWord 51 = .ok (.getfield 200, 3) := by decide +kernel
theorem dX12_takesWord_54 : decode cX12_takesWord 54 = .ok (.iconst 1, 1) := by decide +kernel
theorem dX12_takesWord_55 : decode cX12_takesWord 55 = .ok (.iadd, 1) := by decide +kernel
theorem dX12_takesWord_56 : decode cX12_takesWord 56 = .ok (.putfield 200, 3) := by decide +kernel
theorem dX12_takesWord_59 : decode cX12_takesWord 59 = .ok (.goto (-49), 3) := by decide +kernel
theorem dX12_takesWord_62 : decode cX12_takesWord 62 = .ok (.iconst 1, 1) := by decide +kernel
theorem dX12_takesWord_63 : decode cX12_takesWord 63 = .ok (.ireturn, 1) := by decide +kernel
abbrev o_X12_takesWord : Type := Int32 × Int32
def f_X12_takesWord_L10 (S : wd_W) (r3 : (Int32) → (Option o_X12_takesWord)) (x2 : Int32) : Option o_X12_takesWord :=
if (S.1 1) ≤ x2 then (
some ((1 : Int32), x2)) else (
gd (okx x2 400) <|
if ((S.2.2.1 1) x2.toNatClampNeg) < (97 : Int32) then (
some ((1 : Int32), x2)) else (
gd (okx x2 400) <|
if (122 : Int32) < ((S.2.2.1 1) x2.toNatClampNeg) then (
some ((1 : Int32), x2)) else (
lz (x2 + (1 : Int32)) fun x6 =>
r3 x6)))
def f_X12_takesWord (S : wd_W) (p1 : Int64) : Option o_X12_takesWord :=
bd (f_X12_isWord (wd_o S [(17, (S.1 17))] [] [] [] []) p1) fun o1 =>
if o1.1 = 0 then (
some ((0 : Int32), o1.2)) else (
it1 (f_X12_takesWord_L10 S) fuel o1.2)
set_option maxRecDepth 100000 in
set_option maxHeartbeats 4000000 in
theorem c_X12_takesWord (l : Launch) (D : va_G) (q g : Nat → Nat) (cy : Nat → ClassId) (z : (Nat → Nat) × (Nat → Nat) × Nat) (S : wd_W) (p1 : Int64) (o : o_X12_takesWord) (hf : f_X12_takesWord S p1 = some o) : MX layM l yX12_takesWord cX12_takesWord 3 (some .boolean) ({ frames := 2, cells := 0, slots := 0, locals := 45 } : Room) D q g cy z [.ref (q 0), .long p1] S false (some (.int o.1)) (wd_o S [(17, o.2)] [] [] [] []) 0 0 := by
  refine mx_of (own := RX12) (lc := [(0, .ref (q 0)), (1, .long p1)]) (by decide +kernel) rfl layM_ok (Nat.le_of_ble_eq_true rfl) rfl ?_
  intro X hXl hXq hXz hC hQ
  subst hXl; subst hXq; subst hXz
  unfold f_X12_takesWord at hf
  refine go_keys (L1 := [(17, (S.1 17))]) (L2 := []) (L3 := []) (L4 := []) (L5 := []) [17] [] [] [] [] rfl rfl rfl rfl rfl ?_
  refine go_aload_n (pc' := 1) hC dX12_takesWord_0 rfl rfl ?_
  refine go_lload_n (pc' := 2) hC dX12_takesWord_1 rfl rfl ?_
  obtain ⟨o1, ho1, hf⟩ := bd_e hf
  refine go_callV1 (pc' := 5) (As := [.long p1]) (st := []) (st' := [.int o1.1]) (L1' := [(17, o1.2)]) (L2' := []) (L3' := []) (L4' := []) (L5' := []) (cells' := 0) (slots' := 0)  (b := 0) hC dX12_takesWord_2 ⟨mw_501, mw_504, mw_5, yd_yX12_isWord, yp_yX12_isWord, Nat.le_of_ble_eq_true rfl, Nat.le_of_ble_eq_true rfl, (Nat.le_of_ble_eq_true rfl), (Nat.le_of_ble_eq_true rfl)⟩ mw_502 mw_503 layM_0 rfl rfl rfl (Nat.le_of_ble_eq_true rfl) (c_X12_isWord (x_l X) (x_D X) (x_q X) g (x_cy X) (x_z X) _ p1 o1 ho1) rfl rfl rfl rfl rfl rfl rfl rfl rfl rfl rfl rfl rfl rfl ?_
  refine go_if_ne (tgt := 10) (pc' := 8) hC dX12_takesWord_5 (by decide) rfl (fun h11 => ?_) (fun h11 => ?_)
  · have hf := ite_f h11 hf
    have l10_10 : ∀ (nn : Nat) (x2 : Int32), it1 (f_X12_takesWord_L10 S) nn x2 = some o → Go X layM S 10 [(0, .ref (x_q X 0))] [] g [(17, x2)] [] [] [] [] 0 0 := by
      intro nn
      induction nn with
      | zero =>
        intro x2 hf
        exact none_no hf
      | succ nn ih =>
        intro x2 hf
        have hf : f_X12_takesWord_L10 S (it1 (f_X12_takesWord_L10 S) nn) x2 = some o := hf
        generalize it1 (f_X12_takesWord_L10 S) nn = r3 at ih hf
        unfold f_X12_takesWord_L10 at hf
        refine go_aload_n (pc' := 11) hC dX12_takesWord_10 rfl rfl ?_
        refine go_geti (v := x2) (pc' := 14) hC 0 17 layM_0 rfl rfl inlX12 (Nat.le_of_ble_eq_true rfl) mw_489 rfl dX12_takesWord_11 rfl rfl ?_
        refine go_aload_n (pc' := 15) hC dX12_takesWord_14 rfl rfl ?_
        refine go_geti (v := (S.1 1)) (pc' := 18) hC 0 1 layM_0 rfl rfl inlX12 (Nat.le_of_ble_eq_true rfl) mw_281 rfl dX12_takesWord_15 rfl rfl ?_
        refine go_icmp_ge (tgt := 62) (pc' := 21) hC dX12_takesWord_18 (by decide) rfl (fun h9 => ?_) (fun h9 => ?_)
        · have hf := ite_t h9 hf
          refine go_iconst (pc' := 63) hC dX12_takesWord_62 ki_1 rfl ?_
          obtain rfl := Option.some.inj hf
          exact go_iret hC hQ dX12_takesWord_63 rfl rfl rfl rfl (fun _ => rfl) rfl rfl
        · have hf := ite_f h9 hf
          refine go_aload_n (pc' := 22) hC dX12_takesWord_21 rfl rfl ?_
          refine go_getq (pc' := 25) hC 0 0 layM_0 rfl rfl inlX12 (Nat.le_of_ble_eq_true rfl) mw_180 rfl dX12_takesWord_22 rfl ?_
          refine go_aload_n (pc' := 26) hC dX12_takesWord_25 rfl rfl ?_
          refine go_geti (v := x2) (pc' := 29) hC 0 17 layM_0 rfl rfl inlX12 (Nat.le_of_ble_eq_true rfl) mw_489 rfl dX12_takesWord_26 rfl rfl ?_
          obtain ⟨h4, hf⟩ := gd_e hf
          refine go_bald (f := (S.2.2.1 1)) (pc' := 30) hC 1 layM_1 rfl rfl dX12_takesWord_29 (okx_in h4) rfl ?_
          refine go_bipush (pc' := 32) hC dX12_takesWord_30 kb_97 rfl ?_
          refine go_icmp_lt (tgt := 62) (pc' := 35) hC dX12_takesWord_32 (by decide) rfl (fun h8 => ?_) (fun h8 => ?_)
          · have hf := ite_t h8 hf
            refine go_iconst (pc' := 63) hC dX12_takesWord_62 ki_1 rfl ?_
            obtain rfl := Option.some.inj hf
            exact go_iret hC hQ dX12_takesWord_63 rfl rfl rfl rfl (fun _ => rfl) rfl rfl
          · have hf := ite_f h8 hf
            refine go_aload_n (pc' := 36) hC dX12_takesWord_35 rfl rfl ?_
            refine go_getq (pc' := 39) hC 0 0 layM_0 rfl rfl inlX12 (Nat.le_of_ble_eq_true rfl) mw_180 rfl dX12_takesWord_36 rfl ?_
            refine go_aload_n (pc' := 40) hC dX12_takesWord_39 rfl rfl ?_
            refine go_geti (v := x2) (pc' := 43) hC 0 17 layM_0 rfl rfl inlX12 (Nat.le_of_ble_eq_true rfl) mw_489 rfl dX12_takesWord_40 rfl rfl ?_
            obtain ⟨h5, hf⟩ := gd_e hf
            refine go_bald (f := (S.2.2.1 1)) (pc' := 44) hC 1 layM_1 rfl rfl dX12_takesWord_43 (okx_in h5) rfl ?_
            refine go_bipush (pc' := 46) hC dX12_takesWord_44 kb_122 rfl ?_
            refine go_icmp_gt (tgt := 62) (pc' := 49) hC dX12_takesWord_46 (by decide) rfl (fun h7 => ?_) (fun h7 => ?_)
            · have hf := ite_t h7 hf
              refine go_iconst (pc' := 63) hC dX12_takesWord_62 ki_1 rfl ?_
              obtain rfl := Option.some.inj hf
              exact go_iret hC hQ dX12_takesWord_63 rfl rfl rfl rfl (fun _ => rfl) rfl rfl
            · have hf := ite_f h7 hf
              refine go_aload_n (pc' := 50) hC dX12_takesWord_49 rfl rfl ?_
              refine go_dup (pc' := 51) hC dX12_takesWord_50 rfl rfl ?_
              refine go_geti (v := x2) (pc' := 54) hC 0 17 layM_0 rfl rfl inlX12 (Nat.le_of_ble_eq_true rfl) mw_489 rfl dX12_takesWord_51 rfl rfl ?_
              refine go_iconst (pc' := 55) hC dX12_takesWord_54 ki_1 rfl ?_
              refine go_iadd (pc' := 56) hC dX12_takesWord_55 rfl ?_
              refine go_namei (fun x6 hx => ?_)
              have hf := lz_r hx hf
              clear hx
              refine go_puti (L1' := [(17, x6)]) (pc' := 59) hC 0 17 layM_0 rfl rfl inlX12 tyX12_ok nmX12 (Nat.le_of_ble_eq_true rfl) mw_489 rfl rfl rfl rfl dX12_takesWord_56 rfl rfl rfl ?_
              refine go_goto (tgt := 10) hC dX12_takesWord_59 (by decide) ?_
              exact ih x6 hf
    refine go_sub [0] rfl ?_
    exact l10_10 fuel o1.2 hf
  · have hf := ite_t h11 hf
    refine go_iconst (pc' := 9) hC dX12_takesWord_8 ki_0 rfl ?_
    obtain rfl := Option.some.inj hf
    exact go_iret hC hQ dX12_takesWord_9 rfl rfl rfl rfl (fun _ => rfl) rfl rfl
theorem dX12_readsPlace_0 : decode cX12_readsPlace 0 = .ok (.aload_n 0, 1) := by decide +kernel
theorem dX12_readsPlace_1 : decode cX12_readsPlace 1 = .ok (.iconst 0, 1) := by decide +kernel
theorem dX12_readsPlace_2 : decode cX12_readsPlace 2 = .ok (.aload_n 0, 1) := by decide +kernel
theorem dX12_readsPlace_3 : decode cX12_readsPlace 3 = .ok (.getfield 178, 3) := by decide +kernel
theorem dX12_readsPlace_6 : decode cX12_readsPlace 6 = .ok (.iconst 1, 1) := by decide +kernel
theorem dX12_readsPlace_7 : decode cX12_readsPlace 7 = .ok (.isub, 1) := by decide +kernel
theorem dX12_readsPlace_8 : decode cX12_readsPlace 8 = .ok (.invokevirtual 226, 3) := by decide +kernel
theorem dX12_readsPlace_11 : decode cX12_readsPlace 11 = .ok (.ireturn, 1) := by decide +kernel
abbrev o_X12_readsPlace : Type := Int32 × Int32 × Int32 × Int32
def f_X12_readsPlace (S : wd_W) : Option o_X12_readsPlace :=
bd (f_X12_number (wd_o S [(17, (S.1 17)), (18, (S.1 18)), (19, (S.1 19))] [] [] [] []) (0 : Int32) ((S.1 11) - (1 : Int32))) fun o1 =>
gd (okz o1.1) <|
some (o1.1, o1.2.1, o1.2.2.1, o1.2.2.2)
set_option maxRecDepth 100000 in
set_option maxHeartbeats 4000000 in
theorem c_X12_readsPlace (l : Launch) (D : va_G) (q g : Nat → Nat) (cy : Nat → ClassId) (z : (Nat → Nat) × (Nat → Nat) × Nat) (S : wd_W) (o : o_X12_readsPlace) (hf : f_X12_readsPlace S = some o) : MX layM l yX12_readsPlace cX12_readsPlace 1 (some .boolean) ({ frames := 2, cells := 0, slots := 0, locals := 49 } : Room) D q g cy z [.ref (q 0)] S false (some (.int o.1)) (wd_o S [(17, o.2.1), (18, o.2.2.1), (19, o.2.2.2)] [] [] [] []) 0 0 := by
  refine mx_of (own := RX12) (lc := [(0, .ref (q 0))]) (by decide +kernel) rfl layM_ok (Nat.le_of_ble_eq_true rfl) rfl ?_
  intro X hXl hXq hXz hC hQ
  subst hXl; subst hXq; subst hXz
  unfold f_X12_readsPlace at hf
  refine go_keys (L1 := [(17, (S.1 17)), (18, (S.1 18)), (19, (S.1 19))]) (L2 := []) (L3 := []) (L4 := []) (L5 := []) [17, 18, 19] [] [] [] [] rfl rfl rfl rfl rfl ?_
  refine go_aload_n (pc' := 1) hC dX12_readsPlace_0 rfl rfl ?_
  refine go_iconst (pc' := 2) hC dX12_readsPlace_1 ki_0 rfl ?_
  refine go_aload_n (pc' := 3) hC dX12_readsPlace_2 rfl rfl ?_
  refine go_geti (v := (S.1 11)) (pc' := 6) hC 0 11 layM_0 rfl rfl inlX12 (Nat.le_of_ble_eq_true rfl) mw_236 rfl dX12_readsPlace_3 rfl rfl ?_
  refine go_iconst (pc' := 7) hC dX12_readsPlace_6 ki_1 rfl ?_
  refine go_isub (pc' := 8) hC dX12_readsPlace_7 rfl ?_
  obtain ⟨o1, ho1, hf⟩ := bd_e hf
  refine go_callV1 (pc' := 11) (As := [.int (0 : Int32), .int ((S.1 11) - (1 : Int32))]) (st := []) (st' := [.int o1.1]) (L1' := [(17, o1.2.1), (18, o1.2.2.1), (19, o1.2.2.2)]) (L2' := []) (L3' := []) (L4' := []) (L5' := []) (cells' := 0) (slots' := 0)  (b := 0) hC dX12_readsPlace_8 ⟨mw_517, mw_520, mw_5, yd_yX12_number, yp_yX12_number, Nat.le_of_ble_eq_true rfl, Nat.le_of_ble_eq_true rfl, (Nat.le_of_ble_eq_true rfl), (Nat.le_of_ble_eq_true rfl)⟩ mw_518 mw_519 layM_0 rfl rfl rfl (Nat.le_of_ble_eq_true rfl) (c_X12_number (x_l X) (x_D X) (x_q X) g (x_cy X) (x_z X) _ (0 : Int32) ((S.1 11) - (1 : Int32)) o1 ho1) rfl rfl rfl rfl rfl rfl rfl rfl rfl rfl rfl rfl rfl rfl ?_
  obtain ⟨h2, hf⟩ := gd_e hf
  obtain rfl := Option.some.inj hf
  exact go_iret hC hQ dX12_readsPlace_11 rfl (okz_n h2) rfl rfl (fun _ => rfl) rfl rfl
theorem dX12_readsEnds_0 : decode cX12_readsEnds 0 = .ok (.aload_n 0, 1) := by decide +kernel
theorem dX12_readsEnds_1 : decode cX12_readsEnds 1 = .ok (.invokevirtual 229, 3) := by decide +kernel
theorem dX12_readsEnds_4 : decode cX12_readsEnds 4 = .ok (.ifCond .ne 5, 3) := by decide +kernel
theorem dX12_readsEnds_7 : decode cX12_readsEnds 7 = .ok (.iconst 0, 1) := by decide +kernel
theorem dX12_readsEnds_8 : decode cX12_readsEnds 8 = .ok (.ireturn, 1) := by decide +kernel
theorem dX12_readsEnds_9 : decode cX12_readsEnds 9 = .ok (.aload_n 0, 1) := by decide +kernel
theorem dX12_readsEnds_10 : decode cX12_readsEnds 10 = .ok (.aload_n 0, 1) := by decide +kernel
theorem dX12_readsEnds_11 : decode cX12_readsEnds 11 = .ok (.getfield 215, 3) := by decide +kernel
theorem dX12_readsEnds_14 : decode cX12_readsEnds 14 = .ok (.putfield 187, 3) := by decide +kernel
theorem dX12_readsEnds_17 : decode cX12_readsEnds 17 = .ok (.aload_n 0, 1) := by decide +kernel
theorem dX12_readsEnds_18 : decode cX12_readsEnds 18 = .ok (.invokevirtual 203, 3) := by decide +kernel
theorem dX12_readsEnds_21 : decode cX12_readsEnds 21 = .ok (.pop, 1) := by decide +kernel
theorem dX12_readsEnds_22 : decode cX12_readsEnds 22 = .ok (.aload_n 0, 1) := by decide +kernel
theorem dX12_readsEnds_23 : decode cX12_readsEnds 23 = .ok (.getfield 200, 3) := by decide +kernel
theorem dX12_readsEnds_26 : decode cX12_readsEnds 26 = .ok (.istore_n 1, 1) := by decide +kernel
theorem dX12_readsEnds_27 : decode cX12_readsEnds 27 = .ok (.aload_n 0, 1) := by decide +kernel
theorem dX12_readsEnds_28 : decode cX12_readsEnds 28 = .ok (.invokevirtual 229, 3) := by decide +kernel
theorem dX12_readsEnds_31 : decode cX12_readsEnds 31 = .ok (.ifCond .ne 5, 3) := by decide +kernel
theorem dX12_readsEnds_34 : decode cX12_readsEnds 34 = .ok (.iconst 0, 1) := by decide +kernel
theorem dX12_readsEnds_35 : decode cX12_readsEnds 35 = .ok (.ireturn, 1) := by decide +kernel
theorem dX12_readsEnds_36 : decode cX12_readsEnds 36 = .ok (.aload_n 0, 1) := by decide +kernel
theorem dX12_readsEnds_37 : decode cX12_readsEnds 37 = .ok (.aload_n 0, 1) := by decide +kernel
theorem dX12_readsEnds_38 : decode cX12_readsEnds 38 = .ok (.getfield 215, 3) := by decide +kernel
theorem dX12_readsEnds_41 : decode cX12_readsEnds 41 = .ok (.putfield 190, 3) := by decide +kernel
theorem dX12_readsEnds_44 : decode cX12_readsEnds 44 = .ok (.aload_n 0, 1) := by decide +kernel
theorem dX12_readsEnds_45 : decode cX12_readsEnds 45 = .ok (.getfield 190, 3) := by decide +kernel
theorem dX12_readsEnds_48 : decode cX12_readsEnds 48 = .ok (.aload_n 0, 1) := by decide +kernel
theorem dX12_readsEnds_49 : decode cX12_readsEnds 49 = .ok (.getfield 187, 3) := by decide +kernel
theorem dX12_readsEnds_52 : decode cX12_readsEnds 52 = .ok (.if_icmp .ne 12, 3) := by decide +kernel
theorem dX12_readsEnds_55 : decode cX12_readsEnds 55 = .ok (.aload_n 0, 1) := by decide +kernel
theorem dX12_readsEnds_56 : decode cX12_readsEnds 56 = .ok (.iconst 1, 1) := by decide +kernel
theorem dX12_readsEnds_57 : decode cX12_readsEnds 57 = .ok (.iload_n 1, 1) := by decide +kernel
theorem dX12_readsEnds_58 : decode cX12_readsEnds 58 = .ok (.invokevirtual 211, 3) := by decide +kernel
theorem dX12_readsEnds_61 : decode cX12_readsEnds 61 = .ok (.ifCond .eq 7, 3) := by decide +kernel
theorem dX12_readsEnds_64 : decode cX12_readsEnds 64 = .ok (.iconst 1, 1) := by decide +kernel
theorem dX12_readsEnds_65 : decode cX12_readsEnds 65 = .ok (.goto 4, 3) := by decide +kernel
theorem dX12_readsEnds_68 : decode cX12_readsEnds 68 = .ok (.iconst 0, 1) := by decide +kernel
theorem dX12_readsEnds_69 : decode cX12_readsEnds 69 = .ok (.ireturn, 1) := by decide +kernel
abbrev o_X12_readsEnds : Type := Int32 × Int32 × Int32 × Int32 × Int32 × Int32
def f_X12_readsEnds (S : wd_W) : Option o_X12_readsEnds :=
bd (f_X12_readsPlace (wd_o S [(14, (S.1 14)), (15, (S.1 15)), (17, (S.1 17)), (18, (S.1 18)), (19, (S.1 19))] [] [] [] [])) fun o1 =>
if o1.1 = 0 then (
some ((0 : Int32), (S.1 14), (S.1 15), o1.2.1, o1.2.2.1, o1.2.2.2)) else (
bd (f_X12_see (wd_o S [(14, o1.2.2.2), (15, (S.1 15)), (17, o1.2.1), (18, o1.2.2.1), (19, o1.2.2.2)] [] [] [] [])) fun o2 =>
bd (f_X12_readsPlace (wd_o S [(14, o1.2.2.2), (15, (S.1 15)), (17, o2.2), (18, o1.2.2.1), (19, o1.2.2.2)] [] [] [] [])) fun o3 =>
if o3.1 = 0 then (
some ((0 : Int32), o1.2.2.2, (S.1 15), o3.2.1, o3.2.2.1, o3.2.2.2)) else (
if o3.2.2.2 = o1.2.2.2 then (
bd (f_X12_fails (wd_o S [(14, o1.2.2.2), (15, o3.2.2.2), (17, o3.2.1), (18, o3.2.2.1), (19, o3.2.2.2)] [] [] [] []) (1 : Int32) o2.2) fun o4 =>
if o4.1 = 0 then (
some ((0 : Int32), o1.2.2.2, o3.2.2.2, o3.2.1, o4.2, o3.2.2.2)) else (
some ((1 : Int32), o1.2.2.2, o3.2.2.2, o3.2.1, o4.2, o3.2.2.2))) else (
some ((1 : Int32), o1.2.2.2, o3.2.2.2, o3.2.1, o3.2.2.1, o3.2.2.2))))
set_option maxRecDepth 100000 in
set_option maxHeartbeats 4000000 in
theorem c_X12_readsEnds (l : Launch) (D : va_G) (q g : Nat → Nat) (cy : Nat → ClassId) (z : (Nat → Nat) × (Nat → Nat) × Nat) (S : wd_W) (o : o_X12_readsEnds) (hf : f_X12_readsEnds S = some o) : MX layM l yX12_readsEnds cX12_readsEnds 2 (some .boolean) ({ frames := 3, cells := 0, slots := 0, locals := 69 } : Room) D q g cy z [.ref (q 0)] S false (some (.int o.1)) (wd_o S [(14, o.2.1), (15, o.2.2.1), (17, o.2.2.2.1), (18, o.2.2.2.2.1), (19, o.2.2.2.2.2)] [] [] [] []) 0 0 := by
  refine mx_of (own := RX12) (lc := [(0, .ref (q 0))]) (by decide +kernel) rfl layM_ok (Nat.le_of_ble_eq_true rfl) rfl ?_
  intro X hXl hXq hXz hC hQ
  subst hXl; subst hXq; subst hXz
  unfold f_X12_readsEnds at hf
  refine go_keys (L1 := [(14, (S.1 14)), (15, (S.1 15)), (17, (S.1 17)), (18, (S.1 18)), (19, (S.1 19))]) (L2 := []) (L3 := []) (L4 := []) (L5 := []) [14, 15, 17, 18, 19] [] [] [] [] rfl rfl rfl rfl rfl ?_
  refine go_aload_n (pc' := 1) hC dX12_readsEnds_0 rfl rfl ?_
  obtain ⟨o1, ho1, hf⟩ := bd_e hf
  refine go_callV1 (pc' := 4) (As := []) (st := []) (st' := [.int o1.1]) (L1' := [(14, (S.1 14)), (15, (S.1 15)), (17, o1.2.1), (18, o1.2.2.1), (19, o1.2.2.2)]) (L2' := []) (L3' := []) (L4' := []) (L5' := []) (cells' := 0) (slots' := 0)  (b := 0) hC dX12_readsEnds_1 ⟨mw_538, mw_541, mw_5, yd_yX12_readsPlace, yp_yX12_readsPlace, Nat.le_of_ble_eq_true rfl, Nat.le_of_ble_eq_true rfl, (Nat.le_of_ble_eq_true rfl), (Nat.le_of_ble_eq_true rfl)⟩ mw_539 mw_540 layM_0 rfl rfl rfl (Nat.le_of_ble_eq_true rfl) (c_X12_readsPlace (x_l X) (x_D X) (x_q X) g (x_cy X) (x_z X) _  o1 ho1) rfl rfl rfl rfl rfl rfl rfl rfl rfl rfl rfl rfl rfl rfl ?_
  refine go_if_ne (tgt := 9) (pc' := 7) hC dX12_readsEnds_4 (by decide) rfl (fun h8 => ?_) (fun h8 => ?_)
  · have hf := ite_f h8 hf
    refine go_aload_n (pc' := 10) hC dX12_readsEnds_9 rfl rfl ?_
    refine go_aload_n (pc' := 11) hC dX12_readsEnds_10 rfl rfl ?_
    refine go_geti (v := o1.2.2.2) (pc' := 14) hC 0 19 layM_0 rfl rfl inlX12 (Nat.le_of_ble_eq_true rfl) mw_496 rfl dX12_readsEnds_11 rfl rfl ?_
    refine go_puti (L1' := [(14, o1.2.2.2), (15, (S.1 15)), (17, o1.2.1), (18, o1.2.2.1), (19, o1.2.2.2)]) (pc' := 17) hC 0 14 layM_0 rfl rfl inlX12 tyX12_ok nmX12 (Nat.le_of_ble_eq_true rfl) mw_239 rfl rfl rfl rfl dX12_readsEnds_14 rfl rfl rfl ?_
    refine go_aload_n (pc' := 18) hC dX12_readsEnds_17 rfl rfl ?_
    obtain ⟨o2, ho2, hf⟩ := bd_e hf
    refine go_callV1 (pc' := 21) (As := []) (st := []) (st' := [.int o2.1]) (L1' := [(14, o1.2.2.2), (15, (S.1 15)), (17, o2.2), (18, o1.2.2.1), (19, o1.2.2.2)]) (L2' := []) (L3' := []) (L4' := []) (L5' := []) (cells' := 0) (slots' := 0)  (b := 0) hC dX12_readsEnds_18 ⟨mw_505, mw_508, mw_5, yd_yX12_see, yp_yX12_see, Nat.le_of_ble_eq_true rfl, Nat.le_of_ble_eq_true rfl, (Nat.le_of_ble_eq_true rfl), (Nat.le_of_ble_eq_true rfl)⟩ mw_506 mw_507 layM_0 rfl rfl rfl (Nat.le_of_ble_eq_true rfl) (c_X12_see (x_l X) (x_D X) (x_q X) g (x_cy X) (x_z X) _  o2 ho2) rfl rfl rfl rfl rfl rfl rfl rfl rfl rfl rfl rfl rfl rfl ?_
    refine go_pop (pc' := 22) hC dX12_readsEnds_21 rfl rfl ?_
    refine go_aload_n (pc' := 23) hC dX12_readsEnds_22 rfl rfl ?_
    refine go_geti (v := o2.2) (pc' := 26) hC 0 17 layM_0 rfl rfl inlX12 (Nat.le_of_ble_eq_true rfl) mw_489 rfl dX12_readsEnds_23 rfl rfl ?_
    refine go_istore_n (lc' := [(0, .ref (x_q X 0)), (1, .int o2.2)]) (pc' := 27) hC dX12_readsEnds_26 (Nat.le_of_ble_eq_true rfl) rfl rfl ?_
    refine go_aload_n (pc' := 28) hC dX12_readsEnds_27 rfl rfl ?_
    obtain ⟨o3, ho3, hf⟩ := bd_e hf
    refine go_callV1 (pc' := 31) (As := []) (st := []) (st' := [.int o3.1]) (L1' := [(14, o1.2.2.2), (15, (S.1 15)), (17, o3.2.1), (18, o3.2.2.1), (19, o3.2.2.2)]) (L2' := []) (L3' := []) (L4' := []) (L5' := []) (cells' := 0) (slots' := 0)  (b := 0) hC dX12_readsEnds_28 ⟨mw_538, mw_541, mw_5, yd_yX12_readsPlace, yp_yX12_readsPlace, Nat.le_of_ble_eq_true rfl, Nat.le_of_ble_eq_true rfl, (Nat.le_of_ble_eq_true rfl), (Nat.le_of_ble_eq_true rfl)⟩ mw_539 mw_540 layM_0 rfl rfl rfl (Nat.le_of_ble_eq_true rfl) (c_X12_readsPlace (x_l X) (x_D X) (x_q X) g (x_cy X) (x_z X) _  o3 ho3) rfl rfl rfl rfl rfl rfl rfl rfl rfl rfl rfl rfl rfl rfl ?_
    refine go_if_ne (tgt := 36) (pc' := 34) hC dX12_readsEnds_31 (by decide) rfl (fun h7 => ?_) (fun h7 => ?_)
    · have hf := ite_f h7 hf
      refine go_aload_n (pc' := 37) hC dX12_readsEnds_36 rfl rfl ?_
      refine go_aload_n (pc' := 38) hC dX12_readsEnds_37 rfl rfl ?_
      refine go_geti (v := o3.2.2.2) (pc' := 41) hC 0 19 layM_0 rfl rfl inlX12 (Nat.le_of_ble_eq_true rfl) mw_496 rfl dX12_readsEnds_38 rfl rfl ?_
      refine go_puti (L1' := [(14, o1.2.2.2), (15, o3.2.2.2), (17, o3.2.1), (18, o3.2.2.1), (19, o3.2.2.2)]) (pc' := 44) hC 0 15 layM_0 rfl rfl inlX12 tyX12_ok nmX12 (Nat.le_of_ble_eq_true rfl) mw_240 rfl rfl rfl rfl dX12_readsEnds_41 rfl rfl rfl ?_
      refine go_aload_n (pc' := 45) hC dX12_readsEnds_44 rfl rfl ?_
      refine go_geti (v := o3.2.2.2) (pc' := 48) hC 0 15 layM_0 rfl rfl inlX12 (Nat.le_of_ble_eq_true rfl) mw_240 rfl dX12_readsEnds_45 rfl rfl ?_
      refine go_aload_n (pc' := 49) hC dX12_readsEnds_48 rfl rfl ?_
      refine go_geti (v := o1.2.2.2) (pc' := 52) hC 0 14 layM_0 rfl rfl inlX12 (Nat.le_of_ble_eq_true rfl) mw_239 rfl dX12_readsEnds_49 rfl rfl ?_
      refine go_icmp_ne (tgt := 64) (pc' := 55) hC dX12_readsEnds_52 (by decide) rfl (fun h6 => ?_) (fun h6 => ?_)
      · have hf := ite_f h6 hf
        refine go_iconst (pc' := 65) hC dX12_readsEnds_64 ki_1 rfl ?_
        refine go_goto (tgt := 69) hC dX12_readsEnds_65 (by decide) ?_
        obtain rfl := Option.some.inj hf
        exact go_iret hC hQ dX12_readsEnds_69 rfl rfl rfl rfl (fun _ => rfl) rfl rfl
      · have hf := ite_t h6 hf
        refine go_aload_n (pc' := 56) hC dX12_readsEnds_55 rfl rfl ?_
        refine go_iconst (pc' := 57) hC dX12_readsEnds_56 ki_1 rfl ?_
        refine go_iload_n (pc' := 58) hC dX12_readsEnds_57 rfl rfl ?_
        obtain ⟨o4, ho4, hf⟩ := bd_e hf
        refine go_callV1 (pc' := 61) (As := [.int (1 : Int32), .int o2.2]) (st := []) (st' := [.int o4.1]) (L1' := [(14, o1.2.2.2), (15, o3.2.2.2), (17, o3.2.1), (18, o4.2), (19, o3.2.2.2)]) (L2' := []) (L3' := []) (L4' := []) (L5' := []) (cells' := 0) (slots' := 0)  (b := 0) hC dX12_readsEnds_58 ⟨mw_509, mw_512, mw_5, yd_yX12_fails, yp_yX12_fails, Nat.le_of_ble_eq_true rfl, Nat.le_of_ble_eq_true rfl, (Nat.le_of_ble_eq_true rfl), (Nat.le_of_ble_eq_true rfl)⟩ mw_510 mw_511 layM_0 rfl rfl rfl (Nat.le_of_ble_eq_true rfl) (c_X12_fails (x_l X) (x_D X) (x_q X) g (x_cy X) (x_z X) _ (1 : Int32) o2.2 o4 ho4) rfl rfl rfl rfl rfl rfl rfl rfl rfl rfl rfl rfl rfl rfl ?_
        refine go_if_eq (tgt := 68) (pc' := 64) hC dX12_readsEnds_61 (by decide) rfl (fun h5 => ?_) (fun h5 => ?_)
        · have hf := ite_t h5 hf
          refine go_iconst (pc' := 69) hC dX12_readsEnds_68 ki_0 rfl ?_
          obtain rfl := Option.some.inj hf
          exact go_iret hC hQ dX12_readsEnds_69 rfl rfl rfl rfl (fun _ => rfl) rfl rfl
        · have hf := ite_f h5 hf
          refine go_iconst (pc' := 65) hC dX12_readsEnds_64 ki_1 rfl ?_
          refine go_goto (tgt := 69) hC dX12_readsEnds_65 (by decide) ?_
          obtain rfl := Option.some.inj hf
          exact go_iret hC hQ dX12_readsEnds_69 rfl rfl rfl rfl (fun _ => rfl) rfl rfl
    · have hf := ite_t h7 hf
      refine go_iconst (pc' := 35) hC dX12_readsEnds_34 ki_0 rfl ?_
      obtain rfl := Option.some.inj hf
      exact go_iret hC hQ dX12_readsEnds_35 rfl rfl rfl rfl (fun _ => rfl) rfl rfl
  · have hf := ite_t h8 hf
    refine go_iconst (pc' := 8) hC dX12_readsEnds_7 ki_0 rfl ?_
    obtain rfl := Option.some.inj hf
    exact go_iret hC hQ dX12_readsEnds_8 rfl rfl rfl rfl (fun _ => rfl) rfl rfl
theorem dX12_readThings_0 : decode cX12_readThings 0 = .ok (.aload_n 0, 1) := by decide +kernel
theorem dX12_readThings_1 : decode cX12_readThings 1 = .ok (.getfield 169, 3) := by decide +kernel
theorem dX12_readThings_4 : decode cX12_readThings 4 = .ok (.aload_n 0, 1) := by decide +kernel
theorem dX12_readThings_5 : decode cX12_readThings 5 = .ok (.getfield 172, 3) := by decide +kernel
theorem dX12_readThings_8 : decode cX12_readThings 8 = .ok (.iadd, 1) := by decide +kernel
theorem dX12_readThings_9 : decode cX12_readThings 9 = .ok (.aload_n 0, 1) := by decide +kernel
theorem dX12_readThings_10 : decode cX12_readThings 10 = .ok (.getfield 175, 3) := by decide +kernel
theorem dX12_readThings_13 : decode cX12_readThings 13 = .ok (.iadd, 1) := by decide +kernel
theorem dX12_readThings_14 : decode cX12_readThings 14 = .ok (.ireturn, 1) := by decide +kernel
abbrev o_X12_readThings : Type := Int32
def f_X12_readThings (S : wd_W) : Option o_X12_readThings :=
some (((S.1 3) + (S.1 6)) + (S.1 10))
set_option maxRecDepth 100000 in
set_option maxHeartbeats 4000000 in
theorem c_X12_readThings (l : Launch) (D : va_G) (q g : Nat → Nat) (cy : Nat → ClassId) (z : (Nat → Nat) × (Nat → Nat) × Nat) (S : wd_W) (o : o_X12_readThings) (hf : f_X12_readThings S = some o) : MX layM l yX12_readThings cX12_readThings 1 (some .int) ({ frames := 0, cells := 0, slots := 0, locals := 0 } : Room) D q g cy z [.ref (q 0)] S false (some (.int o)) (wd_o S [] [] [] [] []) 0 0 := by
  refine mx_of (own := RX12) (lc := [(0, .ref (q 0))]) (by decide +kernel) rfl layM_ok (Nat.le_of_ble_eq_true rfl) rfl ?_
  intro X hXl hXq hXz hC hQ
  subst hXl; subst hXq; subst hXz
  unfold f_X12_readThings at hf
  refine go_aload_n (pc' := 1) hC dX12_readThings_0 rfl rfl ?_
  refine go_geti (v := (S.1 3)) (pc' := 4) hC 0 3 layM_0 rfl rfl inlX12 (Nat.le_of_ble_eq_true rfl) mw_233 rfl dX12_readThings_1 rfl rfl ?_
  refine go_aload_n (pc' := 5) hC dX12_readThings_4 rfl rfl ?_
  refine go_geti (v := (S.1 6)) (pc' := 8) hC 0 6 layM_0 rfl rfl inlX12 (Nat.le_of_ble_eq_true rfl) mw_234 rfl dX12_readThings_5 rfl rfl ?_
  refine go_iadd (pc' := 9) hC dX12_readThings_8 rfl ?_
  refine go_aload_n (pc' := 10) hC dX12_readThings_9 rfl rfl ?_
  refine go_geti (v := (S.1 10)) (pc' := 13) hC 0 10 layM_0 rfl rfl inlX12 (Nat.le_of_ble_eq_true rfl) mw_235 rfl dX12_readThings_10 rfl rfl ?_
  refine go_iadd (pc' := 14) hC dX12_readThings_13 rfl ?_
  obtain rfl := Option.some.inj hf
  exact go_iret hC hQ dX12_readThings_14 rfl rfl rfl rfl (fun _ => rfl) rfl rfl
theorem dX12_readsLine_0 : decode cX12_readsLine 0 = .ok (.aload_n 0, 1) := by decide +kernel
theorem dX12_readsLine_1 : decode cX12_readsLine 1 = .ok (.getfield 169, 3) := by decide +kernel
theorem dX12_readsLine_4 : decode cX12_readsLine 4 = .ok (.bipush 12, 2) := by decide +kernel
theorem dX12_readsLine_6 : decode cX12_readsLine 6 = .ok (.if_icmp .eq 12, 3) := by decide +kernel
theorem dX12_readsLine_9 : decode cX12_readsLine 9 = .ok (.aload_n 0, 1) := by decide +kernel
theorem dX12_readsLine_10 : decode cX12_readsLine 10 = .ok (.invokevirtual 232, 3) := by decide +kernel
theorem dX12_readsLine_13 : decode cX12_readsLine 13 = .ok (.bipush 15, 2) := by decide +kernel
theorem dX12_readsLine_15 : decode cX12_readsLine 15 = .ok (.if_icmp .ne 10, 3) := by decide +kernel
theorem dX12_readsLine_18 : decode cX12_readsLine 18 = .ok (.aload_n 0, 1) := by decide +kernel
theorem dX12_readsLine_19 : decode cX12_readsLine 19 = .ok (.iconst 3, 1) := by decide +kernel
theorem dX12_readsLine_20 : decode cX12_readsLine 20 = .ok (.iload_n 1, 1) := by decide +kernel
theorem dX12_readsLine_21 : decode cX12_readsLine 21 = .ok (.invokevirtual 211, 3) := by decide +kernel
theorem dX12_readsLine_24 : decode cX12_readsLine 24 = .ok (.ireturn, 1) := by decide +kernel
theorem dX12_readsLine_25 : decode cX12_readsLine 25 = .ok (.aload_n 0, 1) := by decide +kernel
theorem dX12_readsLine_26 : decode cX12_readsLine 26 = .ok (.getfield 187, 3) := by decide +kernel
theorem dX12_readsLine_29 : decode cX12_readsLine 29 = .ok (.istore_n 2, 1) := by decide +kernel
theorem dX12_readsLine_30 : decode cX12_readsLine 30 = .ok (.aload_n 0, 1) := by decide +kernel
theorem dX12_readsLine_31 : decode cX12_readsLine 31 = .ok (.getfield 190, 3) := by decide +kernel
theorem dX12_readsLine_34 : decode cX12_readsLine 34 = .ok (.istore_n 3, 1) := by decide +kernel
theorem dX12_readsLine_35 : decode cX12_readsLine 35 = .ok (.aload_n 0, 1) := by decide +kernel
theorem dX12_readsLine_36 : decode cX12_readsLine 36 = .ok (.invokevirtual 235, 3) := by decide +kernel
theorem dX12_readsLine_39 : decode cX12_readsLine 39 = .ok (.ifCond .ne 5, 3) := by decide +kernel
theorem dX12_readsLine_42 : decode cX12_readsLine 42 = .ok (.iconst 0, 1) := by decide +kernel
theorem dX12_readsLine_43 : decode cX12_readsLine 43 = .ok (.ireturn, 1) := by decide +kernel
theorem dX12_readsLine_44 : decode cX12_readsLine 44 = .ok (.iconst 5, 1) := by decide +kernel
theorem dX12_readsLine_45 : decode cX12_readsLine 45 = .ok (.aload_n 0, 1) := by decide +kernel
theorem dX12_readsLine_46 : decode cX12_readsLine 46 = .ok (.getfield 169, 3) := by decide +kernel
theorem dX12_readsLine_49 : decode cX12_readsLine 49 = .ok (.imul, 1) := by decide +kernel
theorem dX12_readsLine_50 : decode cX12_readsLine 50 = .ok (.istore 4, 2) := by decide +kernel
theorem dX12_readsLine_52 : decode cX12_readsLine 52 = .ok (.aload_n 0, 1) := by decide +kernel
theorem dX12_readsLine_53 : decode cX12_readsLine 53 = .ok (.getfield 13, 3) := by decide +kernel
theorem dX12_readsLine_56 : decode cX12_readsLine 56 = .ok (.iload 4, 2) := by decide +kernel
theorem dX12_readsLine_58 : decode cX12_readsLine 58 = .ok (.aload_n 0, 1) := by decide +kernel
theorem dX12_readsLine_59 : decode cX12_readsLine 59 = .ok (.getfield 187, 3) := by decide +kernel
theorem dX12_readsLine_62 : decode cX12_readsLine 62 = .ok (.iastore, 1) := by decide +kernel
theorem dX12_readsLine_63 : decode cX12_readsLine 63 = .ok (.aload_n 0, 1) := by decide +kernel
theorem dX12_readsLine_64 : decode cX12_readsLine 64 = .ok (.getfield 13, 3) := by decide +kernel
theorem dX12_readsLine_67 : decode cX12_readsLine 67 = .ok (.iload 4, 2) := by decide +kernel
theorem dX12_readsLine_69 : decode cX12_readsLine 69 = .ok (.iconst 1, 1) := by decide +kernel
theorem dX12_readsLine_70 : decode cX12_readsLine 70 = .ok (.iadd, 1) := by decide +kernel
theorem dX12_readsLine_71 : decode cX12_readsLine 71 = .ok (.aload_n 0, 1) := by decide +kernel
theorem dX12_readsLine_72 : decode cX12_readsLine 72 = .ok (.getfield 190, 3) := by decide +kernel
theorem dX12_readsLine_75 : decode cX12_readsLine 75 = .ok (.iastore, 1) := by decide +kernel
theorem dX12_readsLine_76 : decode cX12_readsLine 76 = .ok (.aload_n 0, 1) := by decide +kernel
theorem dX12_readsLine_77 : decode cX12_readsLine 77 = .ok (.iload_n 2, 1) := by decide +kernel
theorem dX12_readsLine_78 : decode cX12_readsLine 78 = .ok (.putfield 187, 3) := by decide +kernel
theorem dX12_readsLine_81 : decode cX12_readsLine 81 = .ok (.aload_n 0, 1) := by decide +kernel
theorem dX12_readsLine_82 : decode cX12_readsLine 82 = .ok (.iload_n 3, 1) := by decide +kernel
theorem dX12_readsLine_83 : decode cX12_readsLine 83 = .ok (.putfield 190, 3) := by decide +kernel
theorem dX12_readsLine_86 : decode cX12_readsLine 86 = .ok (.aload_n 0, 1) := by decide +kernel
theorem dX12_readsLine_87 : decode cX12_readsLine 87 = .ok (.iconst 0, 1) := by decide +kernel
theorem dX12_readsLine_88 : decode cX12_readsLine 88 = .ok (.bipush 16, 2) := by decide +kernel
theorem dX12_readsLine_90 : decode cX12_readsLine 90 = .ok (.invokevirtual 226, 3) := by decide +kernel
theorem dX12_readsLine_93 : decode cX12_readsLine 93 = .ok (.ifCond .ne 5, 3) := by decide +kernel
theorem dX12_readsLine_96 : decode cX12_readsLine 96 = .ok (.iconst 0, 1) := by decide +kernel
theorem dX12_readsLine_97 : decode cX12_readsLine 97 = .ok (.ireturn, 1) := by decide +kernel
theorem dX12_readsLine_98 : decode cX12_readsLine 98 = .ok (.aload_n 0, 1) := by decide +kernel
theorem dX12_readsLine_99 : decode cX12_readsLine 99 = .ok (.getfield 13, 3) := by decide +kernel
theorem dX12_readsLine_102 : decode cX12_readsLine 102 = .ok (.iload 4, 2) := by decide +kernel
theorem dX12_readsLine_104 : decode cX12_readsLine 104 = .ok (.iconst 2, 1) := by decide +kernel
theorem dX12_readsLine_105 : decode cX12_readsLine 105 = .ok (.iadd, 1) := by decide +kernel
theorem dX12_readsLine_106 : decode cX12_readsLine 106 = .ok (.aload_n 0, 1) := by decide +kernel
theorem dX12_readsLine_107 : decode cX12_readsLine 107 = .ok (.getfield 215, 3) := by decide +kernel
theorem dX12_readsLine_110 : decode cX12_readsLine 110 = .ok (.iastore, 1) := by decide +kernel
theorem dX12_readsLine_111 : decode cX12_readsLine 111 = .ok (.aload_n 0, 1) := by decide +kernel
theorem dX12_readsLine_112 : decode cX12_readsLine 112 = .ok (.getfield 13, 3) := by decide +kernel
theorem dX12_readsLine_115 : decode cX12_readsLine 115 = .ok (.iload 4, 2) := by decide +kernel
theorem dX12_readsLine_117 : decode cX12_readsLine 117 = .ok (.iconst 3, 1) := by decide +kernel
theorem dX12_readsLine_118 : decode cX12_readsLine 118 = .ok (.iadd, 1) := by decide +kernel
theorem dX12_readsLine_119 : decode cX12_readsLine 119 = .ok (.iconst 1, 1) := by decide +kernel
theorem dX12_readsLine_120 : decode cX12_readsLine 120 = .ok (.iastore, 1) := by decide +kernel
theorem dX12_readsLine_121 : decode cX12_readsLine 121 = .ok (.aload_n 0, 1) := by decide +kernel
theorem dX12_readsLine_122 : decode cX12_readsLine 122 = .ok (.getfield 13, 3) := by decide +kernel
theorem dX12_readsLine_125 : decode cX12_readsLine 125 = .ok (.iload 4, 2) := by decide +kernel
theorem dX12_readsLine_127 : decode cX12_readsLine 127 = .ok (.iconst 4, 1) := by decide +kernel
theorem dX12_readsLine_128 : decode cX12_readsLine 128 = .ok (.iadd, 1) := by decide +kernel
theorem dX12_readsLine_129 : decode cX12_readsLine 129 = .ok (.iconst 0, 1) := by decide +kernel
theorem dX12_readsLine_130 : decode cX12_readsLine 130 = .ok (.iastore, 1) := by decide +kernel
theorem dX12_readsLine_131 : decode cX12_readsLine 131 = .ok (.aload_n 0, 1) := by decide +kernel
theorem dX12_readsLine_132 : decode cX12_readsLine 132 = .ok (.ldc2_w 238, 3) := by decide +kernel
theorem dX12_readsLine_135 : decode cX12_readsLine 135 = .ok (.invokevirtual 222, 3) := by decide +kernel
theorem dX12_readsLine_138 : decode cX12_readsLine 138 = .ok (.ifCond .ne 13, 3) := by decide +kernel
theorem dX12_readsLine_141 : decode cX12_readsLine 141 = .ok (.aload_n 0, 1) := by decide +kernel
theorem dX12_readsLine_142 : decode cX12_readsLine 142 = .ok (.ldc2_w 240, 3) := by decide +kernel
theorem dX12_readsLine_145 : decode cX12_readsLine 145 = .ok (.invokevirtual 222, 3) := by decide +kernel
theorem dX12_readsLine_148 : decode cX12_readsLine 148 = .ok (.ifCond .eq 124, 3) := by decide +kernel
theorem dX12_readsLine_151 : decode cX12_readsLine 151 = .ok (.aload_n 0, 1) := by decide +kernel
theorem dX12_readsLine_152 : decode cX12_readsLine 152 = .ok (.ldc2_w 238, 3) := by decide +kernel
theorem dX12_readsLine_155 : decode cX12_readsLine 155 = .ok (.invokevirtual 222, 3) := by decide +kernel
theorem dX12_readsLine_158 : decode cX12_readsLine 158 = .ok (.istore 5, 2) := by decide +kernel
theorem dX12_readsLine_160 : decode cX12_readsLine 160 = .ok (.iload 5, 2) := by decide +kernel
theorem dX12_readsLine_162 : decode cX12_readsLine 162 = .ok (.ifCond .eq 18, 3) := by decide +kernel
theorem dX12_readsLine_165 : decode cX12_readsLine 165 = .ok (.aload_n 0, 1) := by decide +kernel
theorem dX12_readsLine_166 : decode cX12_readsLine 166 = .ok (.getfield 13, 3) := by decide +kernel
theorem dX12_readsLine_169 : decode cX12_readsLine 169 = .ok (.iload 4, 2) := by decide +kernel
theorem dX12_readsLine_171 : decode cX12_readsLine 171 = .ok (.iconst 3, 1) := by decide +kernel
theorem dX12_readsLine_172 : decode cX12_readsLine 172 = .ok (.iadd, 1) := by decide +kernel
theorem dX12_readsLine_173 : decode cX12_readsLine 173 = .ok (.iaload, 1) := by decide +kernel
theorem dX12_readsLine_174 : decode cX12_readsLine 174 = .ok (.ifCond .ne 28, 3) := by decide +kernel
theorem dX12_readsLine_177 : decode cX12_readsLine 177 = .ok (.goto 15, 3) := by decide +kernel
theorem dX12_readsLine_180 : decode cX12_readsLine 180 = .ok (.aload_n 0, 1) := by decide +kernel
theorem dX12_readsLine_181 : decode cX12_readsLine 181 = .ok (.getfield 13, 3) := by decide +kernel
theorem dX12_readsLine_184 : decode cX12_readsLine 184 = .ok (.iload 4, 2) := by decide +kernel
theorem dX12_readsLine_186 : decode cX12_readsLine 186 = .ok (.iconst 4, 1) := by decide +kernel
theorem dX12_readsLine_187 : decode cX12_readsLine 187 = .ok (.iadd, 1) := by decide +kernel
theorem dX12_readsLine_188 : decode cX12_readsLine 188 = .ok (.iaload, 1) := by decide +kernel
theorem dX12_readsLine_189 : decode cX12_readsLine 189 = .ok (.ifCond .le 13, 3) := by decide +kernel
theorem dX12_readsLine_192 : decode cX12_readsLine 192 = .ok (.aload_n 0, 1) := by decide +kernel
theorem dX12_readsLine_193 : decode cX12_readsLine 193 = .ok (.iconst 0, 1) := by decide +kernel
theorem dX12_readsLine_194 : decode cX12_readsLine 194 = .ok (.aload_n 0, 1) := by decide +kernel
theorem dX12_readsLine_195 : decode cX12_readsLine 195 = .ok (.getfield 200, 3) := by decide +kernel
theorem dX12_readsLine_198 : decode cX12_readsLine 198 = .ok (.invokevirtual 211, 3) := by decide +kernel
theorem dX12_readsLine_201 : decode cX12_readsLine 201 = .ok (.ireturn, 1) := by decide +kernel
theorem dX12_readsLine_202 : decode cX12_readsLine 202 = .ok (.aload_n 0, 1) := by decide +kernel
theorem dX12_readsLine_203 : decode cX12_readsLine 203 = .ok (.iload 5, 2) := by decide +kernel
theorem dX12_readsLine_205 : decode cX12_readsLine 205 = .ok (.ifCond .eq 9, 3) := by decide +kernel
theorem dX12_readsLine_208 : decode cX12_readsLine 208 = .ok (.ldc2_w 238, 3) := by decide +kernel
theorem dX12_readsLine_211 : decode cX12_readsLine 211 = .ok (.goto 6, 3) := by decide +kernel
theorem dX12_readsLine_214 : decode cX12_readsLine 214 = .ok (.ldc2_w 240, 3) := by decide +kernel
theorem dX12_readsLine_217 : decode cX12_readsLine 217 = .ok (.invokevirtual 242, 3) := by decide +kernel
theorem dX12_readsLine_220 : decode cX12_readsLine 220 = .ok (.pop, 1) := by decide +kernel
theorem dX12_readsLine_221 : decode cX12_readsLine 221 = .ok (.iload 5, 2) := by decide +kernel
theorem dX12_readsLine_223 : decode cX12_readsLine 223 = .ok (.ifCond .ne 15, 3) := by decide +kernel
theorem dX12_readsLine_226 : decode cX12_readsLine 226 = .ok (.aload_n 0, 1) := by decide +kernel
theorem dX12_readsLine_227 : decode cX12_readsLine 227 = .ok (.iconst 1, 1) := by decide +kernel
theorem dX12_readsLine_228 : decode cX12_readsLine 228 = .ok (.bipush 9, 2) := by decide +kernel
theorem dX12_readsLine_230 : decode cX12_readsLine 230 = .ok (.invokevirtual 226, 3) := by decide +kernel
theorem dX12_readsLine_233 : decode cX12_readsLine 233 = .ok (.ifCond .ne 5, 3) := by decide +kernel
theorem dX12_readsLine_236 : decode cX12_readsLine 236 = .ok (.iconst 0, 1) := by decide +kernel
theorem dX12_readsLine_237 : decode cX12_readsLine 237 = .ok (.ireturn, 1) := by decide +kernel
theorem dX12_readsLine_238 : decode cX12_readsLine 238 = .ok (.iload 5, 2) := by decide +kernel
theorem dX12_readsLine_240 : decode cX12_readsLine 240 = .ok (.ifCond .eq 16, 3) := by decide +kernel
theorem dX12_readsLine_243 : decode cX12_readsLine 243 = .ok (.aload_n 0, 1) := by decide +kernel
theorem dX12_readsLine_244 : decode cX12_readsLine 244 = .ok (.getfield 13, 3) := by decide +kernel
theorem dX12_readsLine_247 : decode cX12_readsLine 247 = .ok (.iload 4, 2) := by decide +kernel
theorem dX12_readsLine_249 : decode cX12_readsLine 249 = .ok (.iconst 3, 1) := by decide +kernel
theorem dX12_readsLine_250 : decode cX12_readsLine 250 = .ok (.iadd, 1) := by decide +kernel
theorem dX12_readsLine_251 : decode cX12_readsLine 251 = .ok (.iconst 0, 1) := by decide +kernel
theorem dX12_readsLine_252 : decode cX12_readsLine 252 = .ok (.iastore, 1) := by decide +kernel
theorem dX12_readsLine_253 : decode cX12_readsLine 253 = .ok (.goto 16, 3) := by decide +kernel
theorem dX12_readsLine_256 : decode cX12_readsLine 256 = .ok (.aload_n 0, 1) := by decide +kernel
theorem dX12_readsLine_257 : decode cX12_readsLine 257 = .ok (.getfield 13, 3) := by decide +kernel
theorem dX12_readsLine_260 : decode cX12_readsLine 260 = .ok (.iload 4, 2) := by decide +kernel
theorem dX12_readsLine_262 : decode cX12_readsLine 262 = .ok (.iconst 4, 1) := by decide +kernel
theorem dX12_readsLine_263 : decode cX12_readsLine 263 = .ok (.iadd, 1) := by decide +kernel
theorem dX12_readsLine_264 : decode cX12_readsLine 264 = .ok (.aload_n 0, 1) := by decide +kernel
theorem dX12_readsLine_265 : decode cX12_readsLine 265 = .ok (.getfield 215, 3) := by decide +kernel
theorem dX12_readsLine_268 : decode cX12_readsLine 268 = .ok (.iastore, 1) := by decide +kernel
theorem dX12_readsLine_269 : decode cX12_readsLine 269 = .ok (.goto (-138), 3) := by decide +kernel
theorem dX12_readsLine_272 : decode cX12_readsLine 272 = .ok (.aload_n 0, 1) := by decide +kernel
theorem dX12_readsLine_273 : decode cX12_readsLine 273 = .ok (.getfield 13, 3) := by decide +kernel
theorem dX12_readsLine_276 : decode cX12_readsLine 276 = .ok (.iload 4, 2) := by decide +kernel
theorem dX12_readsLine_278 : decode cX12_readsLine 278 = .ok (.iconst 4, 1) := by decide +kernel
theorem dX12_readsLine_279 : decode cX12_readsLine 279 = .ok (.iadd, 1) := by decide +kernel
theorem dX12_readsLine_280 : decode cX12_readsLine 280 = .ok (.aload_n 0, 1) := by decide +kernel
theorem dX12_readsLine_281 : decode cX12_readsLine 281 = .ok (.getfield 13, 3) := by decide +kernel
theorem dX12_readsLine_284 : decode cX12_readsLine 284 = .ok (.iload 4, 2) := by decide +kernel
theorem dX12_readsLine_286 : decode cX12_readsLine 286 = .ok (.iconst 4, 1) := by decide +kernel
theorem dX12_readsLine_287 : decode cX12_readsLine 287 = .ok (.iadd, 1) := by decide +kernel
theorem dX12_readsLine_288 : decode cX12_readsLine 288 = .ok (.iaload, 1) := by decide +kernel
theorem dX12_readsLine_289 : decode cX12_readsLine 289 = .ok (.ifCond .ne 7, 3) := by decide +kernel
theorem dX12_readsLine_292 : decode cX12_readsLine 292 = .ok (.iconst 1, 1) := by decide +kernel
theorem dX12_readsLine_293 : decode cX12_readsLine 293 = .ok (.goto 12, 3) := by decide +kernel
theorem dX12_readsLine_296 : decode cX12_readsLine 296 = .ok (.aload_n 0, 1) := by decide +kernel
theorem dX12_readsLine_297 : decode cX12_readsLine 297 = .ok (.getfield 13, 3) := by decide +kernel
theorem dX12_readsLine_300 : decode cX12_readsLine 300 = .ok (.iload 4, 2) := by decide +kernel
theorem dX12_readsLine_302 : decode cX12_readsLine 302 = .ok (.iconst 4, 1) := by decide +kernel
theorem dX12_readsLine_303 : decode cX12_readsLine 303 = .ok (.iadd, 1) := by decide +kernel
theorem dX12_readsLine_304 : decode cX12_readsLine 304 = .ok (.iaload, 1) := by decide +kernel
theorem dX12_readsLine_305 : decode cX12_readsLine 305 = .ok (.iastore, 1) := by decide +kernel
theorem dX12_readsLine_306 : decode cX12_readsLine 306 = .ok (.aload_n 0, 1) := by decide +kernel
theorem dX12_readsLine_307 : decode cX12_readsLine 307 = .ok (.dup, 1) := by decide +kernel
theorem dX12_readsLine_308 : decode cX12_readsLine 308 = .ok (.getfield 169, 3) := by decide +kernel
theorem dX12_readsLine_311 : decode cX12_readsLine 311 = .ok (.iconst 1, 1) := by decide +kernel
theorem dX12_readsLine_312 : decode cX12_readsLine 312 = .ok (.iadd, 1) := by decide +kernel
theorem dX12_readsLine_313 : decode cX12_readsLine 313 = .ok (.putfield 169, 3) := by decide +kernel
theorem dX12_readsLine_316 : decode cX12_readsLine 316 = .ok (.iconst 1, 1) := by decide +kernel
theorem dX12_readsLine_317 : decode cX12_readsLine 317 = .ok (.ireturn, 1) := by decide +kernel
abbrev o_X12_readsLine : Type := Int32 × Int32 × Int32 × Int32 × Int32 × Int32 × Int32 × (Nat → Int32)
def f_X12_readsLine_L131 (S : wd_W) (x5 : Int32) (x6 : Int32) (x8 : Int32) (k192_24 : (Int32) → (Int32) → (Int32) → (Nat → Int32) → (Option o_X12_readsLine)) (k177_31 : (Int32) → (Int32) → (Int32) → (Nat → Int32) → (Option o_X12_readsLine)) (k272_36 : (Int32) → (Int32) → (Int32) → (Nat → Int32) → (Option o_X12_readsLine)) (r50 : (Int32) → (Int32) → (Int32) → (Nat → Int32) → (Option o_X12_readsLine)) (x46 : Int32) (x47 : Int32) (x48 : Int32) (a49 : Nat → Int32) : Option o_X12_readsLine :=
bd (f_X12_isWord (wd_o S [(3, (S.1 3)), (14, x5), (15, x6), (17, x46), (18, x47), (19, x48)] [] [(2, a49)] [] []) (7302757 : Int64)) fun o51 =>
lk (fun x52 =>
bd (f_X12_isWord (wd_o S [(3, (S.1 3)), (14, x5), (15, x6), (17, x52), (18, x47), (19, x48)] [] [(2, a49)] [] []) (7302757 : Int64)) fun o54 =>
lk (lk (fun x56 =>
bd (f_X12_takesWord (wd_o S [(3, (S.1 3)), (14, x5), (15, x6), (17, o54.2), (18, x47), (19, x48)] [] [(2, a49)] [] []) x56) fun o58 =>
lk (fun x59 x60 x61 =>
lk (fun a63 =>
r50 x59 x60 x61 a63) fun k269_64 =>
if o54.1 = 0 then (
gd (okx (x8 + (4 : Int32)) 60) <|
lz (upd a49 (x8 + (4 : Int32)).toNatClampNeg x61) fun a66 =>
k269_64 a66) else (
gd (okx (x8 + (3 : Int32)) 60) <|
lz (upd a49 (x8 + (3 : Int32)).toNatClampNeg (0 : Int32)) fun a68 =>
k269_64 a68)) fun k238_62 =>
if o54.1 = 0 then (
bd (f_X12_number (wd_o S [(3, (S.1 3)), (14, x5), (15, x6), (17, o58.2), (18, x47), (19, x48)] [] [(2, a49)] [] []) (1 : Int32) (9 : Int32)) fun o70 =>
if o70.1 = 0 then (
some ((0 : Int32), (S.1 3), x5, x6, o70.2.1, o70.2.2.1, o70.2.2.2, a49)) else (
k238_62 o70.2.1 o70.2.2.1 o70.2.2.2)) else (
k238_62 o58.2 x47 x48)) fun k217_57 =>
if o54.1 = 0 then (
k217_57 (1684109683 : Int64)) else (
k217_57 (7302757 : Int64))) fun k202_55 =>
if o54.1 = 0 then (
gd (okx (x8 + (4 : Int32)) 60) <|
if (a49 (x8 + (4 : Int32)).toNatClampNeg) ≤ 0 then (
k202_55) else (
k192_24 o54.2 x47 x48 a49)) else (
gd (okx (x8 + (3 : Int32)) 60) <|
if (a49 (x8 + (3 : Int32)).toNatClampNeg) = 0 then (
k177_31 o54.2 x47 x48 a49) else (
k202_55))) fun k151_53 =>
if o51.1 = 0 then (
bd (f_X12_isWord (wd_o S [(3, (S.1 3)), (14, x5), (15, x6), (17, o51.2), (18, x47), (19, x48)] [] [(2, a49)] [] []) (1684109683 : Int64)) fun o79 =>
if o79.1 = 0 then (
k272_36 o79.2 x47 x48 a49) else (
k151_53 o79.2)) else (
k151_53 o51.2)
def f_X12_readsLine (S : wd_W) (p1 : Int32) : Option o_X12_readsLine :=
lk (bd (f_X12_fails (wd_o S [(3, (S.1 3)), (14, (S.1 14)), (15, (S.1 15)), (17, (S.1 17)), (18, (S.1 18)), (19, (S.1 19))] [] [(2, (S.2.2.1 2))] [] []) (3 : Int32) p1) fun o2 =>
gd (okz o2.1) <|
some (o2.1, (S.1 3), (S.1 14), (S.1 15), (S.1 17), o2.2, (S.1 19), (S.2.2.1 2))) fun k18_1 =>
if (S.1 3) = (12 : Int32) then (
k18_1) else (
bd (f_X12_readThings (wd_o S [(3, (S.1 3)), (14, (S.1 14)), (15, (S.1 15)), (17, (S.1 17)), (18, (S.1 18)), (19, (S.1 19))] [] [(2, (S.2.2.1 2))] [] [])) fun o4 =>
if o4 = (15 : Int32) then (
k18_1) else (
lz ((S.1 14)) fun x5 =>
lz ((S.1 15)) fun x6 =>
bd (f_X12_readsEnds (wd_o S [(3, (S.1 3)), (14, (S.1 14)), (15, (S.1 15)), (17, (S.1 17)), (18, (S.1 18)), (19, (S.1 19))] [] [(2, (S.2.2.1 2))] [] [])) fun o7 =>
if o7.1 = 0 then (
some ((0 : Int32), (S.1 3), o7.2.1, o7.2.2.1, o7.2.2.2.1, o7.2.2.2.2.1, o7.2.2.2.2.2, (S.2.2.1 2))) else (
lz ((5 : Int32) * (S.1 3)) fun x8 =>
gd (okx x8 60) <|
lz (upd (S.2.2.1 2) x8.toNatClampNeg o7.2.1) fun a10 =>
gd (okx (x8 + (1 : Int32)) 60) <|
lz (upd a10 (x8 + (1 : Int32)).toNatClampNeg o7.2.2.1) fun a12 =>
bd (f_X12_number (wd_o S [(3, (S.1 3)), (14, x5), (15, x6), (17, o7.2.2.2.1), (18, o7.2.2.2.2.1), (19, o7.2.2.2.2.2)] [] [(2, a12)] [] []) (0 : Int32) (16 : Int32)) fun o13 =>
if o13.1 = 0 then (
some ((0 : Int32), (S.1 3), x5, x6, o13.2.1, o13.2.2.1, o13.2.2.2, a12)) else (
gd (okx (x8 + (2 : Int32)) 60) <|
lz (upd a12 (x8 + (2 : Int32)).toNatClampNeg o13.2.2.2) fun a15 =>
gd (okx (x8 + (3 : Int32)) 60) <|
lz (upd a15 (x8 + (3 : Int32)).toNatClampNeg (1 : Int32)) fun a17 =>
gd (okx (x8 + (4 : Int32)) 60) <|
lz (upd a17 (x8 + (4 : Int32)).toNatClampNeg (0 : Int32)) fun a19 =>
lk (fun x20 x21 x22 a23 =>
bd (f_X12_fails (wd_o S [(3, (S.1 3)), (14, x5), (15, x6), (17, x20), (18, x21), (19, x22)] [] [(2, a23)] [] []) (0 : Int32) x20) fun o25 =>
gd (okz o25.1) <|
some (o25.1, (S.1 3), x5, x6, x20, o25.2, x22, a23)) fun k192_24 =>
lk (fun x27 x28 x29 a30 =>
k192_24 x27 x28 x29 a30) fun k177_31 =>
lk (fun x32 x33 x34 a35 =>
gd (okx (x8 + (4 : Int32)) 60) <|
lk (fun x38 x39 =>
gd (okx x39 60) <|
lz (upd a35 x39.toNatClampNeg x38) fun a42 =>
lz ((S.1 3) + (1 : Int32)) fun x43 =>
some ((1 : Int32), x43, x5, x6, x32, x33, x34, a42)) fun k305_40 =>
if (a35 (x8 + (4 : Int32)).toNatClampNeg) = 0 then (
k305_40 (1 : Int32) (x8 + (4 : Int32))) else (
gd (okx (x8 + (4 : Int32)) 60) <|
k305_40 (a35 (x8 + (4 : Int32)).toNatClampNeg) (x8 + (4 : Int32)))) fun k272_36 =>
it4 (f_X12_readsLine_L131 S x5 x6 x8 k192_24 k177_31 k272_36) fuel o13.2.1 o13.2.2.1 o13.2.2.2 a19))))
set_option maxRecDepth 100000 in
set_option maxHeartbeats 4000000 in
theorem c_X12_readsLine (l : Launch) (D : va_G) (q g : Nat → Nat) (cy : Nat → ClassId) (z : (Nat → Nat) × (Nat → Nat) × Nat) (S : wd_W) (p1 : Int32) (o : o_X12_readsLine) (hf : f_X12_readsLine S p1 = some o) : MX layM l yX12_readsLine cX12_readsLine 6 (some .boolean) ({ frames := 4, cells := 0, slots := 0, locals := 90 } : Room) D q g cy z [.ref (q 0), .int p1] S false (some (.int o.1)) (wd_o S [(3, o.2.1), (14, o.2.2.1), (15, o.2.2.2.1), (17, o.2.2.2.2.1), (18, o.2.2.2.2.2.1), (19, o.2.2.2.2.2.2.1)] [] [(2, o.2.2.2.2.2.2.2)] [] []) 0 0 := by
  refine mx_of (own := RX12) (lc := [(0, .ref (q 0)), (1, .int p1)]) (by decide +kernel) rfl layM_ok (Nat.le_of_ble_eq_true rfl) rfl ?_
  intro X hXl hXq hXz hC hQ
  subst hXl; subst hXq; subst hXz
  unfold f_X12_readsLine at hf
  refine go_keys (L1 := [(3, (S.1 3)), (14, (S.1 14)), (15, (S.1 15)), (17, (S.1 17)), (18, (S.1 18)), (19, (S.1 19))]) (L2 := []) (L3 := [(2, (S.2.2.1 2))]) (L4 := []) (L5 := []) [3, 14, 15, 17, 18, 19] [] [2] [] [] rfl rfl rfl rfl rfl ?_
  refine go_aload_n (pc' := 1) hC dX12_readsLine_0 rfl rfl ?_
  refine go_geti (v := (S.1 3)) (pc' := 4) hC 0 3 layM_0 rfl rfl inlX12 (Nat.le_of_ble_eq_true rfl) mw_233 rfl dX12_readsLine_1 rfl rfl ?_
  refine go_bipush (pc' := 6) hC dX12_readsLine_4 kb_12 rfl ?_
  obtain ⟨k18_1, hk18_1, hf⟩ := lk_e0 hf
  have jk18_1 : ∀ (_ : Unit), k18_1 = some o → Go X layM S 18 [(0, .ref (x_q X 0)), (1, .int p1)] [] g [(3, (S.1 3)), (14, (S.1 14)), (15, (S.1 15)), (17, (S.1 17)), (18, (S.1 18)), (19, (S.1 19))] [] [(2, (S.2.2.1 2))] [] [] 0 0 := by
    intro _ hf
    have hf := hk18_1 hf
    clear hk18_1
    refine go_aload_n (pc' := 19) hC dX12_readsLine_18 rfl rfl ?_
    refine go_iconst (pc' := 20) hC dX12_readsLine_19 ki_3 rfl ?_
    refine go_iload_n (pc' := 21) hC dX12_readsLine_20 rfl rfl ?_
    obtain ⟨o2, ho2, hf⟩ := bd_e hf
    refine go_callV1 (pc' := 24) (As := [.int (3 : Int32), .int p1]) (st := []) (st' := [.int o2.1]) (L1' := [(3, (S.1 3)), (14, (S.1 14)), (15, (S.1 15)), (17, (S.1 17)), (18, o2.2), (19, (S.1 19))]) (L2' := []) (L3' := [(2, (S.2.2.1 2))]) (L4' := []) (L5' := []) (cells' := 0) (slots' := 0)  (b := 0) hC dX12_readsLine_21 ⟨mw_509, mw_512, mw_5, yd_yX12_fails, yp_yX12_fails, Nat.le_of_ble_eq_true rfl, Nat.le_of_ble_eq_true rfl, (Nat.le_of_ble_eq_true rfl), (Nat.le_of_ble_eq_true rfl)⟩ mw_510 mw_511 layM_0 rfl rfl rfl (Nat.le_of_ble_eq_true rfl) (c_X12_fails (x_l X) (x_D X) (x_q X) g (x_cy X) (x_z X) _ (3 : Int32) p1 o2 ho2) rfl rfl rfl rfl rfl rfl rfl rfl rfl rfl rfl rfl rfl rfl ?_
    obtain ⟨h3, hf⟩ := gd_e hf
    obtain rfl := Option.some.inj hf
    exact go_iret hC hQ dX12_readsLine_24 rfl (okz_n h3) rfl rfl (fun _ => rfl) rfl rfl
  clear hk18_1
  refine go_icmp_eq (tgt := 18) (pc' := 9) hC dX12_readsLine_6 (by decide) rfl (fun h86 => ?_) (fun h86 => ?_)
  · have hf := ite_t h86 hf
    exact jk18_1 () hf
  · have hf := ite_f h86 hf
    refine go_aload_n (pc' := 10) hC dX12_readsLine_9 rfl rfl ?_
    obtain ⟨o4, ho4, hf⟩ := bd_e hf
    refine go_callV0 (pc' := 13) (As := []) (st := []) (st' := [.int o4])    (b := 0) hC dX12_readsLine_10 ⟨mw_259, mw_262, mw_5, yd_yX12_readThings, yp_yX12_readThings, Nat.le_of_ble_eq_true rfl, Nat.le_of_ble_eq_true rfl, (Nat.le_of_ble_eq_true rfl), (Nat.le_of_ble_eq_true rfl)⟩ mw_260 mw_261 layM_0 rfl rfl rfl (Nat.le_of_ble_eq_true rfl) (c_X12_readThings (x_l X) (x_D X) (x_q X) g (x_cy X) (x_z X) _  o4 ho4) rfl rfl ?_
    refine go_bipush (pc' := 15) hC dX12_readsLine_13 kb_15 rfl ?_
    refine go_icmp_ne (tgt := 25) (pc' := 18) hC dX12_readsLine_15 (by decide) rfl (fun h85 => ?_) (fun h85 => ?_)
    · have hf := ite_f h85 hf
      refine go_aload_n (pc' := 26) hC dX12_readsLine_25 rfl rfl ?_
      refine go_geti (v := (S.1 14)) (pc' := 29) hC 0 14 layM_0 rfl rfl inlX12 (Nat.le_of_ble_eq_true rfl) mw_239 rfl dX12_readsLine_26 rfl rfl ?_
      refine go_namei (fun x5 hx => ?_)
      have hf := lz_r hx hf
      clear hx
      refine go_istore_n (lc' := [(0, .ref (x_q X 0)), (1, .int p1), (2, .int x5)]) (pc' := 30) hC dX12_readsLine_29 (Nat.le_of_ble_eq_true rfl) rfl rfl ?_
      refine go_aload_n (pc' := 31) hC dX12_readsLine_30 rfl rfl ?_
      refine go_geti (v := (S.1 15)) (pc' := 34) hC 0 15 layM_0 rfl rfl inlX12 (Nat.le_of_ble_eq_true rfl) mw_240 rfl dX12_readsLine_31 rfl rfl ?_
      refine go_namei (fun x6 hx => ?_)
      have hf := lz_r hx hf
      clear hx
      refine go_istore_n (lc' := [(0, .ref (x_q X 0)), (1, .int p1), (2, .int x5), (3, .int x6)]) (pc' := 35) hC dX12_readsLine_34 (Nat.le_of_ble_eq_true rfl) rfl rfl ?_
      refine go_aload_n (pc' := 36) hC dX12_readsLine_35 rfl rfl ?_
      obtain ⟨o7, ho7, hf⟩ := bd_e hf
      refine go_callV1 (pc' := 39) (As := []) (st := []) (st' := [.int o7.1]) (L1' := [(3, (S.1 3)), (14, o7.2.1), (15, o7.2.2.1), (17, o7.2.2.2.1), (18, o7.2.2.2.2.1), (19, o7.2.2.2.2.2)]) (L2' := []) (L3' := [(2, (S.2.2.1 2))]) (L4' := []) (L5' := []) (cells' := 0) (slots' := 0)  (b := 0) hC dX12_readsLine_36 ⟨mw_534, mw_537, mw_5, yd_yX12_readsEnds, yp_yX12_readsEnds, Nat.le_of_ble_eq_true rfl, Nat.le_of_ble_eq_true rfl, (Nat.le_of_ble_eq_true rfl), (Nat.le_of_ble_eq_true rfl)⟩ mw_535 mw_536 layM_0 rfl rfl rfl (Nat.le_of_ble_eq_true rfl) (c_X12_readsEnds (x_l X) (x_D X) (x_q X) g (x_cy X) (x_z X) _  o7 ho7) rfl rfl rfl rfl rfl rfl rfl rfl rfl rfl rfl rfl rfl rfl ?_
      refine go_if_ne (tgt := 44) (pc' := 42) hC dX12_readsLine_39 (by decide) rfl (fun h84 => ?_) (fun h84 => ?_)
      · have hf := ite_f h84 hf
        refine go_iconst (pc' := 45) hC dX12_readsLine_44 ki_5 rfl ?_
        refine go_aload_n (pc' := 46) hC dX12_readsLine_45 rfl rfl ?_
        refine go_geti (v := (S.1 3)) (pc' := 49) hC 0 3 layM_0 rfl rfl inlX12 (Nat.le_of_ble_eq_true rfl) mw_233 rfl dX12_readsLine_46 rfl rfl ?_
        refine go_imul (pc' := 50) hC dX12_readsLine_49 rfl ?_
        refine go_namei (fun x8 hx => ?_)
        have hf := lz_r hx hf
        clear hx
        refine go_istore (lc' := [(0, .ref (x_q X 0)), (1, .int p1), (2, .int x5), (3, .int x6), (4, .int x8)]) (pc' := 52) hC dX12_readsLine_50 (Nat.le_of_ble_eq_true rfl) rfl rfl ?_
        refine go_aload_n (pc' := 53) hC dX12_readsLine_52 rfl rfl ?_
        refine go_getq (pc' := 56) hC 0 2 layM_0 rfl rfl inlX12 (Nat.le_of_ble_eq_true rfl) mw_181 rfl dX12_readsLine_53 rfl ?_
        refine go_iload (pc' := 58) hC dX12_readsLine_56 rfl rfl ?_
        refine go_aload_n (pc' := 59) hC dX12_readsLine_58 rfl rfl ?_
        refine go_geti (v := o7.2.1) (pc' := 62) hC 0 14 layM_0 rfl rfl inlX12 (Nat.le_of_ble_eq_true rfl) mw_239 rfl dX12_readsLine_59 rfl rfl ?_
        obtain ⟨h9, hf⟩ := gd_e hf
        refine go_iast (f := (S.2.2.1 2)) (pc' := 63) hC 2 layM_2 rfl rfl dX12_readsLine_62 (okx_in h9) rfl rfl (fun a10 ha L3' hL => ?_)
        have hf := lz_r ha hf
        clear ha
        obtain rfl : L3' = [(2, a10)] := hL.symm
        refine go_aload_n (pc' := 64) hC dX12_readsLine_63 rfl rfl ?_
        refine go_getq (pc' := 67) hC 0 2 layM_0 rfl rfl inlX12 (Nat.le_of_ble_eq_true rfl) mw_181 rfl dX12_readsLine_64 rfl ?_
        refine go_iload (pc' := 69) hC dX12_readsLine_67 rfl rfl ?_
        refine go_iconst (pc' := 70) hC dX12_readsLine_69 ki_1 rfl ?_
        refine go_iadd (pc' := 71) hC dX12_readsLine_70 rfl ?_
        refine go_aload_n (pc' := 72) hC dX12_readsLine_71 rfl rfl ?_
        refine go_geti (v := o7.2.2.1) (pc' := 75) hC 0 15 layM_0 rfl rfl inlX12 (Nat.le_of_ble_eq_true rfl) mw_240 rfl dX12_readsLine_72 rfl rfl ?_
        obtain ⟨h11, hf⟩ := gd_e hf
        refine go_iast (f := a10) (pc' := 76) hC 2 layM_2 rfl rfl dX12_readsLine_75 (okx_in h11) rfl rfl (fun a12 ha L3' hL => ?_)
        have hf := lz_r ha hf
        clear ha
        obtain rfl : L3' = [(2, a12)] := hL.symm
        refine go_aload_n (pc' := 77) hC dX12_readsLine_76 rfl rfl ?_
        refine go_iload_n (pc' := 78) hC dX12_readsLine_77 rfl rfl ?_
        refine go_puti (L1' := [(3, (S.1 3)), (14, x5), (15, o7.2.2.1), (17, o7.2.2.2.1), (18, o7.2.2.2.2.1), (19, o7.2.2.2.2.2)]) (pc' := 81) hC 0 14 layM_0 rfl rfl inlX12 tyX12_ok nmX12 (Nat.le_of_ble_eq_true rfl) mw_239 rfl rfl rfl rfl dX12_readsLine_78 rfl rfl rfl ?_
        refine go_aload_n (pc' := 82) hC dX12_readsLine_81 rfl rfl ?_
        refine go_iload_n (pc' := 83) hC dX12_readsLine_82 rfl rfl ?_
        refine go_puti (L1' := [(3, (S.1 3)), (14, x5), (15, x6), (17, o7.2.2.2.1), (18, o7.2.2.2.2.1), (19, o7.2.2.2.2.2)]) (pc' := 86) hC 0 15 layM_0 rfl rfl inlX12 tyX12_ok nmX12 (Nat.le_of_ble_eq_true rfl) mw_240 rfl rfl rfl rfl dX12_readsLine_83 rfl rfl rfl ?_
        refine go_aload_n (pc' := 87) hC dX12_readsLine_86 rfl rfl ?_
        refine go_iconst (pc' := 88) hC dX12_readsLine_87 ki_0 rfl ?_
        refine go_bipush (pc' := 90) hC dX12_readsLine_88 kb_16 rfl ?_
        obtain ⟨o13, ho13, hf⟩ := bd_e hf
        refine go_callV1 (pc' := 93) (As := [.int (0 : Int32), .int (16 : Int32)]) (st := []) (st' := [.int o13.1]) (L1' := [(3, (S.1 3)), (14, x5), (15, x6), (17, o13.2.1), (18, o13.2.2.1), (19, o13.2.2.2)]) (L2' := []) (L3' := [(2, a12)]) (L4' := []) (L5' := []) (cells' := 0) (slots' := 0)  (b := 0) hC dX12_readsLine_90 ⟨mw_517, mw_520, mw_5, yd_yX12_number, yp_yX12_number, Nat.le_of_ble_eq_true rfl, Nat.le_of_ble_eq_true rfl, (Nat.le_of_ble_eq_true rfl), (Nat.le_of_ble_eq_true rfl)⟩ mw_518 mw_519 layM_0 rfl rfl rfl (Nat.le_of_ble_eq_true rfl) (c_X12_number (x_l X) (x_D X) (x_q X) g (x_cy X) (x_z X) _ (0 : Int32) (16 : Int32) o13 ho13) rfl rfl rfl rfl rfl rfl rfl rfl rfl rfl rfl rfl rfl rfl ?_
        refine go_if_ne (tgt := 98) (pc' := 96) hC dX12_readsLine_93 (by decide) rfl (fun h83 => ?_) (fun h83 => ?_)
        · have hf := ite_f h83 hf
          refine go_aload_n (pc' := 99) hC dX12_readsLine_98 rfl rfl ?_
          refine go_getq (pc' := 102) hC 0 2 layM_0 rfl rfl inlX12 (Nat.le_of_ble_eq_true rfl) mw_181 rfl dX12_readsLine_99 rfl ?_
          refine go_iload (pc' := 104) hC dX12_readsLine_102 rfl rfl ?_
          refine go_iconst (pc' := 105) hC dX12_readsLine_104 ki_2 rfl ?_
          refine go_iadd (pc' := 106) hC dX12_readsLine_105 rfl ?_
          refine go_aload_n (pc' := 107) hC dX12_readsLine_106 rfl rfl ?_
          refine go_geti (v := o13.2.2.2) (pc' := 110) hC 0 19 layM_0 rfl rfl inlX12 (Nat.le_of_ble_eq_true rfl) mw_496 rfl dX12_readsLine_107 rfl rfl ?_
          obtain ⟨h14, hf⟩ := gd_e hf
          refine go_iast (f := a12) (pc' := 111) hC 2 layM_2 rfl rfl dX12_readsLine_110 (okx_in h14) rfl rfl (fun a15 ha L3' hL => ?_)
          have hf := lz_r ha hf
          clear ha
          obtain rfl : L3' = [(2, a15)] := hL.symm
          refine go_aload_n (pc' := 112) hC dX12_readsLine_111 rfl rfl ?_
          refine go_getq (pc' := 115) hC 0 2 layM_0 rfl rfl inlX12 (Nat.le_of_ble_eq_true rfl) mw_181 rfl dX12_readsLine_112 rfl ?_
          refine go_iload (pc' := 117) hC dX12_readsLine_115 rfl rfl ?_
          refine go_iconst (pc' := 118) hC dX12_readsLine_117 ki_3 rfl ?_
          refine go_iadd (pc' := 119) hC dX12_readsLine_118 rfl ?_
          refine go_iconst (pc' := 120) hC dX12_readsLine_119 ki_1 rfl ?_
          obtain ⟨h16, hf⟩ := gd_e hf
          refine go_iast (f := a15) (pc' := 121) hC 2 layM_2 rfl rfl dX12_readsLine_120 (okx_in h16) rfl rfl (fun a17 ha L3' hL => ?_)
          have hf := lz_r ha hf
          clear ha
          obtain rfl : L3' = [(2, a17)] := hL.symm
          refine go_aload_n (pc' := 122) hC dX12_readsLine_121 rfl rfl ?_
          refine go_getq (pc' := 125) hC 0 2 layM_0 rfl rfl inlX12 (Nat.le_of_ble_eq_true rfl) mw_181 rfl dX12_readsLine_122 rfl ?_
          refine go_iload (pc' := 127) hC dX12_readsLine_125 rfl rfl ?_
          refine go_iconst (pc' := 128) hC dX12_readsLine_127 ki_4 rfl ?_
          refine go_iadd (pc' := 129) hC dX12_readsLine_128 rfl ?_
          refine go_iconst (pc' := 130) hC dX12_readsLine_129 ki_0 rfl ?_
          obtain ⟨h18, hf⟩ := gd_e hf
          refine go_iast (f := a17) (pc' := 131) hC 2 layM_2 rfl rfl dX12_readsLine_130 (okx_in h18) rfl rfl (fun a19 ha L3' hL => ?_)
          have hf := lz_r ha hf
          clear ha
          obtain rfl : L3' = [(2, a19)] := hL.symm
          obtain ⟨k192_24, hk192_24, hf⟩ := lk_e4 hf
          have jk192_24 : ∀ (x20 : Int32) (x21 : Int32) (x22 : Int32) (a23 : Nat → Int32), k192_24 x20 x21 x22 a23 = some o → Go X layM S 192 [(0, .ref (x_q X 0))] [] g [(3, (S.1 3)), (14, x5), (15, x6), (17, x20), (18, x21), (19, x22)] [] [(2, a23)] [] [] 0 0 := by
            intro x20 x21 x22 a23 hf
            have hf := hk192_24 x20 x21 x22 a23 hf
            clear hk192_24
            refine go_aload_n (pc' := 193) hC dX12_readsLine_192 rfl rfl ?_
            refine go_iconst (pc' := 194) hC dX12_readsLine_193 ki_0 rfl ?_
            refine go_aload_n (pc' := 195) hC dX12_readsLine_194 rfl rfl ?_
            refine go_geti (v := x20) (pc' := 198) hC 0 17 layM_0 rfl rfl inlX12 (Nat.le_of_ble_eq_true rfl) mw_489 rfl dX12_readsLine_195 rfl rfl ?_
            obtain ⟨o25, ho25, hf⟩ := bd_e hf
            refine go_callV1 (pc' := 201) (As := [.int (0 : Int32), .int x20]) (st := []) (st' := [.int o25.1]) (L1' := [(3, (S.1 3)), (14, x5), (15, x6), (17, x20), (18, o25.2), (19, x22)]) (L2' := []) (L3' := [(2, a23)]) (L4' := []) (L5' := []) (cells' := 0) (slots' := 0)  (b := 0) hC dX12_readsLine_198 ⟨mw_509, mw_512, mw_5, yd_yX12_fails, yp_yX12_fails, Nat.le_of_ble_eq_true rfl, Nat.le_of_ble_eq_true rfl, (Nat.le_of_ble_eq_true rfl), (Nat.le_of_ble_eq_true rfl)⟩ mw_510 mw_511 layM_0 rfl rfl rfl (Nat.le_of_ble_eq_true rfl) (c_X12_fails (x_l X) (x_D X) (x_q X) g (x_cy X) (x_z X) _ (0 : Int32) x20 o25 ho25) rfl rfl rfl rfl rfl rfl rfl rfl rfl rfl rfl rfl rfl rfl ?_
            obtain ⟨h26, hf⟩ := gd_e hf
            obtain rfl := Option.some.inj hf
            exact go_iret hC hQ dX12_readsLine_201 rfl (okz_n h26) rfl rfl (fun _ => rfl) rfl rfl
          clear hk192_24
          obtain ⟨k177_31, hk177_31, hf⟩ := lk_e4 hf
          have jk177_31 : ∀ (x27 : Int32) (x28 : Int32) (x29 : Int32) (a30 : Nat → Int32), k177_31 x27 x28 x29 a30 = some o → Go X layM S 177 [(0, .ref (x_q X 0))] [] g [(3, (S.1 3)), (14, x5), (15, x6), (17, x27), (18, x28), (19, x29)] [] [(2, a30)] [] [] 0 0 := by
            intro x27 x28 x29 a30 hf
            have hf := hk177_31 x27 x28 x29 a30 hf
            clear hk177_31
            refine go_goto (tgt := 192) hC dX12_readsLine_177 (by decide) ?_
            exact jk192_24 x27 x28 x29 a30 hf
          clear hk177_31
          obtain ⟨k272_36, hk272_36, hf⟩ := lk_e4 hf
          have jk272_36 : ∀ (x32 : Int32) (x33 : Int32) (x34 : Int32) (a35 : Nat → Int32), k272_36 x32 x33 x34 a35 = some o → Go X layM S 272 [(0, .ref (x_q X 0)), (4, .int x8)] [] g [(3, (S.1 3)), (14, x5), (15, x6), (17, x32), (18, x33), (19, x34)] [] [(2, a35)] [] [] 0 0 := by
            intro x32 x33 x34 a35 hf
            have hf := hk272_36 x32 x33 x34 a35 hf
            clear hk272_36
            refine go_aload_n (pc' := 273) hC dX12_readsLine_272 rfl rfl ?_
            refine go_getq (pc' := 276) hC 0 2 layM_0 rfl rfl inlX12 (Nat.le_of_ble_eq_true rfl) mw_181 rfl dX12_readsLine_273 rfl ?_
            refine go_iload (pc' := 278) hC dX12_readsLine_276 rfl rfl ?_
            refine go_iconst (pc' := 279) hC dX12_readsLine_278 ki_4 rfl ?_
            refine go_iadd (pc' := 280) hC dX12_readsLine_279 rfl ?_
            refine go_aload_n (pc' := 281) hC dX12_readsLine_280 rfl rfl ?_
            refine go_getq (pc' := 284) hC 0 2 layM_0 rfl rfl inlX12 (Nat.le_of_ble_eq_true rfl) mw_181 rfl dX12_readsLine_281 rfl ?_
            refine go_iload (pc' := 286) hC dX12_readsLine_284 rfl rfl ?_
            refine go_iconst (pc' := 287) hC dX12_readsLine_286 ki_4 rfl ?_
            refine go_iadd (pc' := 288) hC dX12_readsLine_287 rfl ?_
            obtain ⟨h37, hf⟩ := gd_e hf
            refine go_iald (f := a35) (pc' := 289) hC 2 layM_2 rfl rfl dX12_readsLine_288 (okx_in h37) rfl ?_
            obtain ⟨k305_40, hk305_40, hf⟩ := lk_e2 hf
            have jk305_40 : ∀ (x38 : Int32) (x39 : Int32), k305_40 x38 x39 = some o → Go X layM S 305 [(0, .ref (x_q X 0))] [.int x38, .int x39, .ref (x_q X 2)] g [(3, (S.1 3)), (14, x5), (15, x6), (17, x32), (18, x33), (19, x34)] [] [(2, a35)] [] [] 0 0 := by
              intro x38 x39 hf
              have hf := hk305_40 x38 x39 hf
              clear hk305_40
              obtain ⟨h41, hf⟩ := gd_e hf
              refine go_iast (f := a35) (pc' := 306) hC 2 layM_2 rfl rfl dX12_readsLine_305 (okx_in h41) rfl rfl (fun a42 ha L3' hL => ?_)
              have hf := lz_r ha hf
              clear ha
              obtain rfl : L3' = [(2, a42)] := hL.symm
              refine go_aload_n (pc' := 307) hC dX12_readsLine_306 rfl rfl ?_
              refine go_dup (pc' := 308) hC dX12_readsLine_307 rfl rfl ?_
              refine go_geti (v := (S.1 3)) (pc' := 311) hC 0 3 layM_0 rfl rfl inlX12 (Nat.le_of_ble_eq_true rfl) mw_233 rfl dX12_readsLine_308 rfl rfl ?_
              refine go_iconst (pc' := 312) hC dX12_readsLine_311 ki_1 rfl ?_
              refine go_iadd (pc' := 313) hC dX12_readsLine_312 rfl ?_
              refine go_namei (fun x43 hx => ?_)
              have hf := lz_r hx hf
              clear hx
              refine go_puti (L1' := [(3, x43), (14, x5), (15, x6), (17, x32), (18, x33), (19, x34)]) (pc' := 316) hC 0 3 layM_0 rfl rfl inlX12 tyX12_ok nmX12 (Nat.le_of_ble_eq_true rfl) mw_233 rfl rfl rfl rfl dX12_readsLine_313 rfl rfl rfl ?_
              refine go_iconst (pc' := 317) hC dX12_readsLine_316 ki_1 rfl ?_
              obtain rfl := Option.some.inj hf
              exact go_iret hC hQ dX12_readsLine_317 rfl rfl rfl rfl (fun _ => rfl) rfl rfl
            clear hk305_40
            refine go_if_ne (tgt := 296) (pc' := 292) hC dX12_readsLine_289 (by decide) rfl (fun h45 => ?_) (fun h45 => ?_)
            · have hf := ite_f h45 hf
              refine go_aload_n (pc' := 297) hC dX12_readsLine_296 rfl rfl ?_
              refine go_getq (pc' := 300) hC 0 2 layM_0 rfl rfl inlX12 (Nat.le_of_ble_eq_true rfl) mw_181 rfl dX12_readsLine_297 rfl ?_
              refine go_iload (pc' := 302) hC dX12_readsLine_300 rfl rfl ?_
              refine go_iconst (pc' := 303) hC dX12_readsLine_302 ki_4 rfl ?_
              refine go_iadd (pc' := 304) hC dX12_readsLine_303 rfl ?_
              obtain ⟨h44, hf⟩ := gd_e hf
              refine go_iald (f := a35) (pc' := 305) hC 2 layM_2 rfl rfl dX12_readsLine_304 (okx_in h44) rfl ?_
              refine go_sub [0] rfl ?_
              exact jk305_40 (a35 (x8 + (4 : Int32)).toNatClampNeg) (x8 + (4 : Int32)) hf
            · have hf := ite_t h45 hf
              refine go_iconst (pc' := 293) hC dX12_readsLine_292 ki_1 rfl ?_
              refine go_goto (tgt := 305) hC dX12_readsLine_293 (by decide) ?_
              refine go_sub [0] rfl ?_
              exact jk305_40 (1 : Int32) (x8 + (4 : Int32)) hf
          clear hk272_36
          have l131_82 : ∀ (nn : Nat) (x46 : Int32) (x47 : Int32) (x48 : Int32) (a49 : Nat → Int32), it4 (f_X12_readsLine_L131 S x5 x6 x8 k192_24 k177_31 k272_36) nn x46 x47 x48 a49 = some o → Go X layM S 131 [(0, .ref (x_q X 0)), (4, .int x8)] [] g [(3, (S.1 3)), (14, x5), (15, x6), (17, x46), (18, x47), (19, x48)] [] [(2, a49)] [] [] 0 0 := by
            intro nn
            induction nn with
            | zero =>
              intro x46 x47 x48 a49 hf
              exact none_no hf
            | succ nn ih =>
              intro x46 x47 x48 a49 hf
              have hf : f_X12_readsLine_L131 S x5 x6 x8 k192_24 k177_31 k272_36 (it4 (f_X12_readsLine_L131 S x5 x6 x8 k192_24 k177_31 k272_36) nn) x46 x47 x48 a49 = some o := hf
              generalize it4 (f_X12_readsLine_L131 S x5 x6 x8 k192_24 k177_31 k272_36) nn = r50 at ih hf
              unfold f_X12_readsLine_L131 at hf
              refine go_aload_n (pc' := 132) hC dX12_readsLine_131 rfl rfl ?_
              refine go_ldc2 (pc' := 135) hC dX12_readsLine_132 mw_532 rfl ?_
              obtain ⟨o51, ho51, hf⟩ := bd_e hf
              refine go_callV1 (pc' := 138) (As := [.long (7302757 : Int64)]) (st := []) (st' := [.int o51.1]) (L1' := [(3, (S.1 3)), (14, x5), (15, x6), (17, o51.2), (18, x47), (19, x48)]) (L2' := []) (L3' := [(2, a49)]) (L4' := []) (L5' := []) (cells' := 0) (slots' := 0)  (b := 0) hC dX12_readsLine_135 ⟨mw_501, mw_504, mw_5, yd_yX12_isWord, yp_yX12_isWord, Nat.le_of_ble_eq_true rfl, Nat.le_of_ble_eq_true rfl, (Nat.le_of_ble_eq_true rfl), (Nat.le_of_ble_eq_true rfl)⟩ mw_502 mw_503 layM_0 rfl rfl rfl (Nat.le_of_ble_eq_true rfl) (c_X12_isWord (x_l X) (x_D X) (x_q X) g (x_cy X) (x_z X) _ (7302757 : Int64) o51 ho51) rfl rfl rfl rfl rfl rfl rfl rfl rfl rfl rfl rfl rfl rfl ?_
              obtain ⟨k151_53, hk151_53, hf⟩ := lk_e1 hf
              have jk151_53 : ∀ (x52 : Int32), k151_53 x52 = some o → Go X layM S 151 [(0, .ref (x_q X 0)), (4, .int x8)] [] g [(3, (S.1 3)), (14, x5), (15, x6), (17, x52), (18, x47), (19, x48)] [] [(2, a49)] [] [] 0 0 := by
                intro x52 hf
                have hf := hk151_53 x52 hf
                clear hk151_53
                refine go_aload_n (pc' := 152) hC dX12_readsLine_151 rfl rfl ?_
                refine go_ldc2 (pc' := 155) hC dX12_readsLine_152 mw_532 rfl ?_
                obtain ⟨o54, ho54, hf⟩ := bd_e hf
                refine go_callV1 (pc' := 158) (As := [.long (7302757 : Int64)]) (st := []) (st' := [.int o54.1]) (L1' := [(3, (S.1 3)), (14, x5), (15, x6), (17, o54.2), (18, x47), (19, x48)]) (L2' := []) (L3' := [(2, a49)]) (L4' := []) (L5' := []) (cells' := 0) (slots' := 0)  (b := 0) hC dX12_readsLine_155 ⟨mw_501, mw_504, mw_5, yd_yX12_isWord, yp_yX12_isWord, Nat.le_of_ble_eq_true rfl, Nat.le_of_ble_eq_true rfl, (Nat.le_of_ble_eq_true rfl), (Nat.le_of_ble_eq_true rfl)⟩ mw_502 mw_503 layM_0 rfl rfl rfl (Nat.le_of_ble_eq_true rfl) (c_X12_isWord (x_l X) (x_D X) (x_q X) g (x_cy X) (x_z X) _ (7302757 : Int64) o54 ho54) rfl rfl rfl rfl rfl rfl rfl rfl rfl rfl rfl rfl rfl rfl ?_
                refine go_istore (lc' := [(0, .ref (x_q X 0)), (4, .int x8), (5, .int o54.1)]) (pc' := 160) hC dX12_readsLine_158 (Nat.le_of_ble_eq_true rfl) rfl rfl ?_
                refine go_iload (pc' := 162) hC dX12_readsLine_160 rfl rfl ?_
                obtain ⟨k202_55, hk202_55, hf⟩ := lk_e0 hf
                have jk202_55 : ∀ (_ : Unit), k202_55 = some o → Go X layM S 202 [(0, .ref (x_q X 0)), (4, .int x8), (5, .int o54.1)] [] g [(3, (S.1 3)), (14, x5), (15, x6), (17, o54.2), (18, x47), (19, x48)] [] [(2, a49)] [] [] 0 0 := by
                  intro _ hf
                  have hf := hk202_55 hf
                  clear hk202_55
                  refine go_aload_n (pc' := 203) hC dX12_readsLine_202 rfl rfl ?_
                  refine go_iload (pc' := 205) hC dX12_readsLine_203 rfl rfl ?_
                  obtain ⟨k217_57, hk217_57, hf⟩ := lk_e1 hf
                  have jk217_57 : ∀ (x56 : Int64), k217_57 x56 = some o → Go X layM S 217 [(0, .ref (x_q X 0)), (4, .int x8), (5, .int o54.1)] [.long x56, .ref (x_q X 0)] g [(3, (S.1 3)), (14, x5), (15, x6), (17, o54.2), (18, x47), (19, x48)] [] [(2, a49)] [] [] 0 0 := by
                    intro x56 hf
                    have hf := hk217_57 x56 hf
                    clear hk217_57
                    obtain ⟨o58, ho58, hf⟩ := bd_e hf
                    refine go_callV1 (pc' := 220) (As := [.long x56]) (st := []) (st' := [.int o58.1]) (L1' := [(3, (S.1 3)), (14, x5), (15, x6), (17, o58.2), (18, x47), (19, x48)]) (L2' := []) (L3' := [(2, a49)]) (L4' := []) (L5' := []) (cells' := 0) (slots' := 0)  (b := 0) hC dX12_readsLine_217 ⟨mw_513, mw_516, mw_5, yd_yX12_takesWord, yp_yX12_takesWord, Nat.le_of_ble_eq_true rfl, Nat.le_of_ble_eq_true rfl, (Nat.le_of_ble_eq_true rfl), (Nat.le_of_ble_eq_true rfl)⟩ mw_514 mw_515 layM_0 rfl rfl rfl (Nat.le_of_ble_eq_true rfl) (c_X12_takesWord (x_l X) (x_D X) (x_q X) g (x_cy X) (x_z X) _ x56 o58 ho58) rfl rfl rfl rfl rfl rfl rfl rfl rfl rfl rfl rfl rfl rfl ?_
                    refine go_pop (pc' := 221) hC dX12_readsLine_220 rfl rfl ?_
                    refine go_iload (pc' := 223) hC dX12_readsLine_221 rfl rfl ?_
                    obtain ⟨k238_62, hk238_62, hf⟩ := lk_e3 hf
                    have jk238_62 : ∀ (x59 : Int32) (x60 : Int32) (x61 : Int32), k238_62 x59 x60 x61 = some o → Go X layM S 238 [(0, .ref (x_q X 0)), (4, .int x8), (5, .int o54.1)] [] g [(3, (S.1 3)), (14, x5), (15, x6), (17, x59), (18, x60), (19, x61)] [] [(2, a49)] [] [] 0 0 := by
                      intro x59 x60 x61 hf
                      have hf := hk238_62 x59 x60 x61 hf
                      clear hk238_62
                      refine go_iload (pc' := 240) hC dX12_readsLine_238 rfl rfl ?_
                      obtain ⟨k269_64, hk269_64, hf⟩ := lk_e1 hf
                      have jk269_64 : ∀ (a63 : Nat → Int32), k269_64 a63 = some o → Go X layM S 269 [(0, .ref (x_q X 0)), (4, .int x8)] [] g [(3, (S.1 3)), (14, x5), (15, x6), (17, x59), (18, x60), (19, x61)] [] [(2, a63)] [] [] 0 0 := by
                        intro a63 hf
                        have hf := hk269_64 a63 hf
                        clear hk269_64
                        refine go_goto (tgt := 131) hC dX12_readsLine_269 (by decide) ?_
                        exact ih x59 x60 x61 a63 hf
                      clear hk269_64
                      refine go_if_eq (tgt := 256) (pc' := 243) hC dX12_readsLine_240 (by decide) rfl (fun h69 => ?_) (fun h69 => ?_)
                      · have hf := ite_t h69 hf
                        refine go_aload_n (pc' := 257) hC dX12_readsLine_256 rfl rfl ?_
                        refine go_getq (pc' := 260) hC 0 2 layM_0 rfl rfl inlX12 (Nat.le_of_ble_eq_true rfl) mw_181 rfl dX12_readsLine_257 rfl ?_
                        refine go_iload (pc' := 262) hC dX12_readsLine_260 rfl rfl ?_
                        refine go_iconst (pc' := 263) hC dX12_readsLine_262 ki_4 rfl ?_
                        refine go_iadd (pc' := 264) hC dX12_readsLine_263 rfl ?_
                        refine go_aload_n (pc' := 265) hC dX12_readsLine_264 rfl rfl ?_
                        refine go_geti (v := x61) (pc' := 268) hC 0 19 layM_0 rfl rfl inlX12 (Nat.le_of_ble_eq_true rfl) mw_496 rfl dX12_readsLine_265 rfl rfl ?_
                        obtain ⟨h65, hf⟩ := gd_e hf
                        refine go_iast (f := a49) (pc' := 269) hC 2 layM_2 rfl rfl dX12_readsLine_268 (okx_in h65) rfl rfl (fun a66 ha L3' hL => ?_)
                        have hf := lz_r ha hf
                        clear ha
                        obtain rfl : L3' = [(2, a66)] := hL.symm
                        refine go_sub [0, 4] rfl ?_
                        exact jk269_64 a66 hf
                      · have hf := ite_f h69 hf
                        refine go_aload_n (pc' := 244) hC dX12_readsLine_243 rfl rfl ?_
                        refine go_getq (pc' := 247) hC 0 2 layM_0 rfl rfl inlX12 (Nat.le_of_ble_eq_true rfl) mw_181 rfl dX12_readsLine_244 rfl ?_
                        refine go_iload (pc' := 249) hC dX12_readsLine_247 rfl rfl ?_
                        refine go_iconst (pc' := 250) hC dX12_readsLine_249 ki_3 rfl ?_
                        refine go_iadd (pc' := 251) hC dX12_readsLine_250 rfl ?_
                        refine go_iconst (pc' := 252) hC dX12_readsLine_251 ki_0 rfl ?_
                        obtain ⟨h67, hf⟩ := gd_e hf
                        refine go_iast (f := a49) (pc' := 253) hC 2 layM_2 rfl rfl dX12_readsLine_252 (okx_in h67) rfl rfl (fun a68 ha L3' hL => ?_)
                        have hf := lz_r ha hf
                        clear ha
                        obtain rfl : L3' = [(2, a68)] := hL.symm
                        refine go_goto (tgt := 269) hC dX12_readsLine_253 (by decide) ?_
                        refine go_sub [0, 4] rfl ?_
                        exact jk269_64 a68 hf
                    clear hk238_62
                    refine go_if_ne (tgt := 238) (pc' := 226) hC dX12_readsLine_223 (by decide) rfl (fun h72 => ?_) (fun h72 => ?_)
                    · have hf := ite_f h72 hf
                      exact jk238_62 o58.2 x47 x48 hf
                    · have hf := ite_t h72 hf
                      refine go_aload_n (pc' := 227) hC dX12_readsLine_226 rfl rfl ?_
                      refine go_iconst (pc' := 228) hC dX12_readsLine_227 ki_1 rfl ?_
                      refine go_bipush (pc' := 230) hC dX12_readsLine_228 kb_9 rfl ?_
                      obtain ⟨o70, ho70, hf⟩ := bd_e hf
                      refine go_callV1 (pc' := 233) (As := [.int (1 : Int32), .int (9 : Int32)]) (st := []) (st' := [.int o70.1]) (L1' := [(3, (S.1 3)), (14, x5), (15, x6), (17, o70.2.1), (18, o70.2.2.1), (19, o70.2.2.2)]) (L2' := []) (L3' := [(2, a49)]) (L4' := []) (L5' := []) (cells' := 0) (slots' := 0)  (b := 0) hC dX12_readsLine_230 ⟨mw_517, mw_520, mw_5, yd_yX12_number, yp_yX12_number, Nat.le_of_ble_eq_true rfl, Nat.le_of_ble_eq_true rfl, (Nat.le_of_ble_eq_true rfl), (Nat.le_of_ble_eq_true rfl)⟩ mw_518 mw_519 layM_0 rfl rfl rfl (Nat.le_of_ble_eq_true rfl) (c_X12_number (x_l X) (x_D X) (x_q X) g (x_cy X) (x_z X) _ (1 : Int32) (9 : Int32) o70 ho70) rfl rfl rfl rfl rfl rfl rfl rfl rfl rfl rfl rfl rfl rfl ?_
                      refine go_if_ne (tgt := 238) (pc' := 236) hC dX12_readsLine_233 (by decide) rfl (fun h71 => ?_) (fun h71 => ?_)
                      · have hf := ite_f h71 hf
                        exact jk238_62 o70.2.1 o70.2.2.1 o70.2.2.2 hf
                      · have hf := ite_t h71 hf
                        refine go_iconst (pc' := 237) hC dX12_readsLine_236 ki_0 rfl ?_
                        obtain rfl := Option.some.inj hf
                        exact go_iret hC hQ dX12_readsLine_237 rfl rfl rfl rfl (fun _ => rfl) rfl rfl
                  clear hk217_57
                  refine go_if_eq (tgt := 214) (pc' := 208) hC dX12_readsLine_205 (by decide) rfl (fun h73 => ?_) (fun h73 => ?_)
                  · have hf := ite_t h73 hf
                    refine go_ldc2 (pc' := 217) hC dX12_readsLine_214 mw_533 rfl ?_
                    exact jk217_57 (1684109683 : Int64) hf
                  · have hf := ite_f h73 hf
                    refine go_ldc2 (pc' := 211) hC dX12_readsLine_208 mw_532 rfl ?_
                    refine go_goto (tgt := 217) hC dX12_readsLine_211 (by decide) ?_
                    exact jk217_57 (7302757 : Int64) hf
                clear hk202_55
                refine go_if_eq (tgt := 180) (pc' := 165) hC dX12_readsLine_162 (by decide) rfl (fun h78 => ?_) (fun h78 => ?_)
                · have hf := ite_t h78 hf
                  refine go_aload_n (pc' := 181) hC dX12_readsLine_180 rfl rfl ?_
                  refine go_getq (pc' := 184) hC 0 2 layM_0 rfl rfl inlX12 (Nat.le_of_ble_eq_true rfl) mw_181 rfl dX12_readsLine_181 rfl ?_
                  refine go_iload (pc' := 186) hC dX12_readsLine_184 rfl rfl ?_
                  refine go_iconst (pc' := 187) hC dX12_readsLine_186 ki_4 rfl ?_
                  refine go_iadd (pc' := 188) hC dX12_readsLine_187 rfl ?_
                  obtain ⟨h74, hf⟩ := gd_e hf
                  refine go_iald (f := a49) (pc' := 189) hC 2 layM_2 rfl rfl dX12_readsLine_188 (okx_in h74) rfl ?_
                  refine go_if_le (tgt := 202) (pc' := 192) hC dX12_readsLine_189 (by decide) rfl (fun h75 => ?_) (fun h75 => ?_)
                  · have hf := ite_t h75 hf
                    exact jk202_55 () hf
                  · have hf := ite_f h75 hf
                    refine go_sub [0] rfl ?_
                    exact jk192_24 o54.2 x47 x48 a49 hf
                · have hf := ite_f h78 hf
                  refine go_aload_n (pc' := 166) hC dX12_readsLine_165 rfl rfl ?_
                  refine go_getq (pc' := 169) hC 0 2 layM_0 rfl rfl inlX12 (Nat.le_of_ble_eq_true rfl) mw_181 rfl dX12_readsLine_166 rfl ?_
                  refine go_iload (pc' := 171) hC dX12_readsLine_169 rfl rfl ?_
                  refine go_iconst (pc' := 172) hC dX12_readsLine_171 ki_3 rfl ?_
                  refine go_iadd (pc' := 173) hC dX12_readsLine_172 rfl ?_
                  obtain ⟨h76, hf⟩ := gd_e hf
                  refine go_iald (f := a49) (pc' := 174) hC 2 layM_2 rfl rfl dX12_readsLine_173 (okx_in h76) rfl ?_
                  refine go_if_ne (tgt := 202) (pc' := 177) hC dX12_readsLine_174 (by decide) rfl (fun h77 => ?_) (fun h77 => ?_)
                  · have hf := ite_f h77 hf
                    exact jk202_55 () hf
                  · have hf := ite_t h77 hf
                    refine go_sub [0] rfl ?_
                    exact jk177_31 o54.2 x47 x48 a49 hf
              clear hk151_53
              refine go_if_ne (tgt := 151) (pc' := 141) hC dX12_readsLine_138 (by decide) rfl (fun h81 => ?_) (fun h81 => ?_)
              · have hf := ite_f h81 hf
                exact jk151_53 o51.2 hf
              · have hf := ite_t h81 hf
                refine go_aload_n (pc' := 142) hC dX12_readsLine_141 rfl rfl ?_
                refine go_ldc2 (pc' := 145) hC dX12_readsLine_142 mw_533 rfl ?_
                obtain ⟨o79, ho79, hf⟩ := bd_e hf
                refine go_callV1 (pc' := 148) (As := [.long (1684109683 : Int64)]) (st := []) (st' := [.int o79.1]) (L1' := [(3, (S.1 3)), (14, x5), (15, x6), (17, o79.2), (18, x47), (19, x48)]) (L2' := []) (L3' := [(2, a49)]) (L4' := []) (L5' := []) (cells' := 0) (slots' := 0)  (b := 0) hC dX12_readsLine_145 ⟨mw_501, mw_504, mw_5, yd_yX12_isWord, yp_yX12_isWord, Nat.le_of_ble_eq_true rfl, Nat.le_of_ble_eq_true rfl, (Nat.le_of_ble_eq_true rfl), (Nat.le_of_ble_eq_true rfl)⟩ mw_502 mw_503 layM_0 rfl rfl rfl (Nat.le_of_ble_eq_true rfl) (c_X12_isWord (x_l X) (x_D X) (x_q X) g (x_cy X) (x_z X) _ (1684109683 : Int64) o79 ho79) rfl rfl rfl rfl rfl rfl rfl rfl rfl rfl rfl rfl rfl rfl ?_
                refine go_if_eq (tgt := 272) (pc' := 151) hC dX12_readsLine_148 (by decide) rfl (fun h80 => ?_) (fun h80 => ?_)
                · have hf := ite_t h80 hf
                  exact jk272_36 o79.2 x47 x48 a49 hf
                · have hf := ite_f h80 hf
                  exact jk151_53 o79.2 hf
          refine go_sub [0, 4] rfl ?_
          exact l131_82 fuel o13.2.1 o13.2.2.1 o13.2.2.2 a19 hf
        · have hf := ite_t h83 hf
          refine go_iconst (pc' := 97) hC dX12_readsLine_96 ki_0 rfl ?_
          obtain rfl := Option.some.inj hf
          exact go_iret hC hQ dX12_readsLine_97 rfl rfl rfl rfl (fun _ => rfl) rfl rfl
      · have hf := ite_t h84 hf
        refine go_iconst (pc' := 43) hC dX12_readsLine_42 ki_0 rfl ?_
        obtain rfl := Option.some.inj hf
        exact go_iret hC hQ dX12_readsLine_43 rfl rfl rfl rfl (fun _ => rfl) rfl rfl
    · have hf := ite_t h85 hf
      exact jk18_1 () hf
