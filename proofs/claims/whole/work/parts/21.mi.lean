theorem dX12_whole_0 : decode cX12_whole 0 = .ok (.iconst 0, 1) := by decide +kernel
theorem dX12_whole_1 : decode cX12_whole 1 = .ok (.istore_n 1, 1) := by decide +kernel
theorem dX12_whole_2 : decode cX12_whole 2 = .ok (.iload_n 1, 1) := by decide +kernel
theorem dX12_whole_3 : decode cX12_whole 3 = .ok (.aload_n 0, 1) := by decide +kernel
theorem dX12_whole_4 : decode cX12_whole 4 = .ok (.getfield 279, 3) := by decide +kernel
theorem dX12_whole_7 : decode cX12_whole 7 = .ok (.if_icmp .ge 21, 3) := by decide +kernel
theorem dX12_whole_10 : decode cX12_whole 10 = .ok (.aload_n 0, 1) := by decide +kernel
theorem dX12_whole_11 : decode cX12_whole 11 = .ok (.getfield 48, 3) := by decide +kernel
theorem dX12_whole_14 : decode cX12_whole 14 = .ok (.iload_n 1, 1) := by decide +kernel
theorem dX12_whole_15 : decode cX12_whole 15 = .ok (.aload_n 0, 1) := by decide +kernel
theorem dX12_whole_16 : decode cX12_whole 16 = .ok (.getfield 128, 3) := by decide +kernel
theorem dX12_whole_19 : decode cX12_whole 19 = .ok (.iload_n 1, 1) := by decide +kernel
theorem dX12_whole_20 : decode cX12_whole 20 = .ok (.iaload, 1) := by decide +kernel
theorem dX12_whole_21 : decode cX12_whole 21 = .ok (.iastore, 1) := by decide +kernel
theorem dX12_whole_22 : decode cX12_whole 22 = .ok (.iinc 1 1, 3) := by decide +kernel
theorem dX12_whole_25 : decode cX12_whole 25 = .ok (.goto (-23), 3) := by decide +kernel
theorem dX12_whole_28 : decode cX12_whole 28 = .ok (.iconst 0, 1) := by decide +kernel
theorem dX12_whole_29 : decode cX12_whole 29 = .ok (.istore_n 1, 1) := by decide +kernel
theorem dX12_whole_30 : decode cX12_whole 30 = .ok (.iload_n 1, 1) := by decide +kernel
theorem dX12_whole_31 : decode cX12_whole 31 = .ok (.aload_n 0, 1) := by decide +kernel
theorem dX12_whole_32 : decode cX12_whole 32 = .ok (.getfield 276, 3) := by decide +kernel
theorem dX12_whole_35 : decode cX12_whole 35 = .ok (.if_icmp .ge 21, 3) := by decide +kernel
theorem dX12_whole_38 : decode cX12_whole 38 = .ok (.aload_n 0, 1) := by decide +kernel
theorem dX12_whole_39 : decode cX12_whole 39 = .ok (.getfield 51, 3) := by decide +kernel
theorem dX12_whole_42 : decode cX12_whole 42 = .ok (.iload_n 1, 1) := by decide +kernel
theorem dX12_whole_43 : decode cX12_whole 43 = .ok (.aload_n 0, 1) := by decide +kernel
theorem dX12_whole_44 : decode cX12_whole 44 = .ok (.getfield 131, 3) := by decide +kernel
theorem dX12_whole_47 : decode cX12_whole 47 = .ok (.iload_n 1, 1) := by decide +kernel
theorem dX12_whole_48 : decode cX12_whole 48 = .ok (.iaload, 1) := by decide +kernel
theorem dX12_whole_49 : decode cX12_whole 49 = .ok (.iastore, 1) := by decide +kernel
theorem dX12_whole_50 : decode cX12_whole 50 = .ok (.iinc 1 1, 3) := by decide +kernel
theorem dX12_whole_53 : decode cX12_whole 53 = .ok (.goto (-23), 3) := by decide +kernel
theorem dX12_whole_56 : decode cX12_whole 56 = .ok (.iconst 0, 1) := by decide +kernel
theorem dX12_whole_57 : decode cX12_whole 57 = .ok (.istore_n 1, 1) := by decide +kernel
theorem dX12_whole_58 : decode cX12_whole 58 = .ok (.iload_n 1, 1) := by decide +kernel
theorem dX12_whole_59 : decode cX12_whole 59 = .ok (.aload_n 0, 1) := by decide +kernel
theorem dX12_whole_60 : decode cX12_whole 60 = .ok (.getfield 288, 3) := by decide +kernel
theorem dX12_whole_63 : decode cX12_whole 63 = .ok (.if_icmp .ge 21, 3) := by decide +kernel
theorem dX12_whole_66 : decode cX12_whole 66 = .ok (.aload_n 0, 1) := by decide +kernel
theorem dX12_whole_67 : decode cX12_whole 67 = .ok (.getfield 57, 3) := by decide +kernel
theorem dX12_whole_70 : decode cX12_whole 70 = .ok (.iload_n 1, 1) := by decide +kernel
theorem dX12_whole_71 : decode cX12_whole 71 = .ok (.aload_n 0, 1) := by decide +kernel
theorem dX12_whole_72 : decode cX12_whole 72 = .ok (.getfield 134, 3) := by decide +kernel
theorem dX12_whole_75 : decode cX12_whole 75 = .ok (.iload_n 1, 1) := by decide +kernel
theorem dX12_whole_76 : decode cX12_whole 76 = .ok (.iaload, 1) := by decide +kernel
theorem dX12_whole_77 : decode cX12_whole 77 = .ok (.iastore, 1) := by decide +kernel
theorem dX12_whole_78 : decode cX12_whole 78 = .ok (.iinc 1 1, 3) := by decide +kernel
theorem dX12_whole_81 : decode cX12_whole 81 = .ok (.goto (-23), 3) := by decide +kernel
theorem dX12_whole_84 : decode cX12_whole 84 = .ok (.return_, 1) := by decide +kernel
abbrev o_X12_whole : Type := (Nat → Int32) × (Nat → Int32) × (Nat → Int32)
def f_X12_whole_L58 (S : wd_W) (a1 : Nat → Int32) (a3 : Nat → Int32) (r7 : (Int32) → (Nat → Int32) → (Option o_X12_whole)) (x5 : Int32) (a6 : Nat → Int32) : Option o_X12_whole :=
if (S.1 32) ≤ x5 then (
some (a1, a3, a6)) else (
gd (okx x5 15) <|
lz ((S.2.2.1 41) x5.toNatClampNeg) fun x9 =>
gd (okx x5 15) <|
lz (upd a6 x5.toNatClampNeg x9) fun a11 =>
r7 (x5 + (1 : Int32)) a11)
def f_X12_whole_L30 (S : wd_W) (k56_4 : (Nat → Int32) → (Option o_X12_whole)) (r16 : (Int32) → (Nat → Int32) → (Option o_X12_whole)) (x14 : Int32) (a15 : Nat → Int32) : Option o_X12_whole :=
if (S.1 20) ≤ x14 then (
k56_4 a15) else (
gd (okx x14 10) <|
lz ((S.2.2.1 40) x14.toNatClampNeg) fun x18 =>
gd (okx x14 10) <|
lz (upd a15 x14.toNatClampNeg x18) fun a20 =>
r16 (x14 + (1 : Int32)) a20)
def f_X12_whole_L2 (S : wd_W) (k28_2 : (Nat → Int32) → (Option o_X12_whole)) (r25 : (Int32) → (Nat → Int32) → (Option o_X12_whole)) (x23 : Int32) (a24 : Nat → Int32) : Option o_X12_whole :=
if (S.1 21) ≤ x23 then (
k28_2 a24) else (
gd (okx x23 12) <|
lz ((S.2.2.1 39) x23.toNatClampNeg) fun x27 =>
gd (okx x23 13) <|
lz (upd a24 x23.toNatClampNeg x27) fun a29 =>
r25 (x23 + (1 : Int32)) a29)
def f_X12_whole (S : wd_W) : Option o_X12_whole :=
lk (fun a1 =>
lk (fun a3 =>
it2 (f_X12_whole_L58 S a1 a3) fuel (0 : Int32) (S.2.2.1 16)) fun k56_4 =>
it2 (f_X12_whole_L30 S k56_4) fuel (0 : Int32) (S.2.2.1 14)) fun k28_2 =>
it2 (f_X12_whole_L2 S k28_2) fuel (0 : Int32) (S.2.2.1 13)
set_option maxRecDepth 100000 in
set_option maxHeartbeats 4000000 in
theorem c_X12_whole (l : Launch) (D : va_G) (q g : Nat → Nat) (cy : Nat → ClassId) (z : (Nat → Nat) × (Nat → Nat) × Nat) (S : wd_W) (o : o_X12_whole) (hf : f_X12_whole S = some o) : MX layM l yX12_whole cX12_whole 2 none ({ frames := 0, cells := 0, slots := 0, locals := 0 } : Room) D q g cy z [.ref (q 0)] S false (none) (wd_o S [] [] [(13, o.1), (14, o.2.1), (16, o.2.2)] [] []) 0 0 := by
  refine mx_of (own := RX12) (lc := [(0, .ref (q 0))]) (by decide +kernel) rfl layM_ok (Nat.le_of_ble_eq_true rfl) rfl ?_
  intro X hXl hXq hXz hC hQ
  subst hXl; subst hXq; subst hXz
  unfold f_X12_whole at hf
  refine go_keys (L1 := []) (L2 := []) (L3 := [(13, (S.2.2.1 13)), (14, (S.2.2.1 14)), (16, (S.2.2.1 16))]) (L4 := []) (L5 := []) [] [] [13, 14, 16] [] [] rfl rfl rfl rfl rfl ?_
  refine go_iconst (pc' := 1) hC dX12_whole_0 ki_0 rfl ?_
  refine go_istore_n (lc' := [(0, .ref (x_q X 0)), (1, .int (0 : Int32))]) (pc' := 2) hC dX12_whole_1 (Nat.le_of_ble_eq_true rfl) rfl rfl ?_
  obtain ⟨k28_2, hk28_2, hf⟩ := lk_e1 hf
  have jk28_2 : ∀ (a1 : Nat → Int32), k28_2 a1 = some o → Go X layM S 28 [(0, .ref (x_q X 0))] [] g [] [] [(13, a1), (14, (S.2.2.1 14)), (16, (S.2.2.1 16))] [] [] 0 0 := by
    intro a1 hf
    have hf := hk28_2 a1 hf
    clear hk28_2
    refine go_iconst (pc' := 29) hC dX12_whole_28 ki_0 rfl ?_
    refine go_istore_n (lc' := [(0, .ref (x_q X 0)), (1, .int (0 : Int32))]) (pc' := 30) hC dX12_whole_29 (Nat.le_of_ble_eq_true rfl) rfl rfl ?_
    obtain ⟨k56_4, hk56_4, hf⟩ := lk_e1 hf
    have jk56_4 : ∀ (a3 : Nat → Int32), k56_4 a3 = some o → Go X layM S 56 [(0, .ref (x_q X 0))] [] g [] [] [(13, a1), (14, a3), (16, (S.2.2.1 16))] [] [] 0 0 := by
      intro a3 hf
      have hf := hk56_4 a3 hf
      clear hk56_4
      refine go_iconst (pc' := 57) hC dX12_whole_56 ki_0 rfl ?_
      refine go_istore_n (lc' := [(0, .ref (x_q X 0)), (1, .int (0 : Int32))]) (pc' := 58) hC dX12_whole_57 (Nat.le_of_ble_eq_true rfl) rfl rfl ?_
      have l58_13 : ∀ (nn : Nat) (x5 : Int32) (a6 : Nat → Int32), it2 (f_X12_whole_L58 S a1 a3) nn x5 a6 = some o → Go X layM S 58 [(0, .ref (x_q X 0)), (1, .int x5)] [] g [] [] [(13, a1), (14, a3), (16, a6)] [] [] 0 0 := by
        intro nn
        induction nn with
        | zero =>
          intro x5 a6 hf
          exact none_no hf
        | succ nn ih =>
          intro x5 a6 hf
          have hf : f_X12_whole_L58 S a1 a3 (it2 (f_X12_whole_L58 S a1 a3) nn) x5 a6 = some o := hf
          generalize it2 (f_X12_whole_L58 S a1 a3) nn = r7 at ih hf
          unfold f_X12_whole_L58 at hf
          refine go_iload_n (pc' := 59) hC dX12_whole_58 rfl rfl ?_
          refine go_aload_n (pc' := 60) hC dX12_whole_59 rfl rfl ?_
          refine go_geti (v := (S.1 32)) (pc' := 63) hC 0 32 layM_0 rfl rfl inlX12 (Nat.le_of_ble_eq_true rfl) mw_250 rfl dX12_whole_60 rfl rfl ?_
          refine go_icmp_ge (tgt := 84) (pc' := 66) hC dX12_whole_63 (by decide) rfl (fun h12 => ?_) (fun h12 => ?_)
          · have hf := ite_t h12 hf
            obtain rfl := Option.some.inj hf
            exact go_vret hC hQ dX12_whole_84 rfl rfl rfl (fun _ => rfl) rfl rfl
          · have hf := ite_f h12 hf
            refine go_aload_n (pc' := 67) hC dX12_whole_66 rfl rfl ?_
            refine go_getq (pc' := 70) hC 0 33 layM_0 rfl rfl inlX12 (Nat.le_of_ble_eq_true rfl) mw_196 rfl dX12_whole_67 rfl ?_
            refine go_iload_n (pc' := 71) hC dX12_whole_70 rfl rfl ?_
            refine go_aload_n (pc' := 72) hC dX12_whole_71 rfl rfl ?_
            refine go_getq (pc' := 75) hC 0 73 layM_0 rfl rfl inlX12 (Nat.le_of_ble_eq_true rfl) mw_222 rfl dX12_whole_72 rfl ?_
            refine go_iload_n (pc' := 76) hC dX12_whole_75 rfl rfl ?_
            obtain ⟨h8, hf⟩ := gd_e hf
            refine go_iald (f := (S.2.2.1 41)) (pc' := 77) hC 41 layM_41 rfl rfl dX12_whole_76 (okx_in h8) rfl ?_
            refine go_namei (fun x9 hx => ?_)
            have hf := lz_r hx hf
            clear hx
            obtain ⟨h10, hf⟩ := gd_e hf
            refine go_iast (f := a6) (pc' := 78) hC 16 layM_16 rfl rfl dX12_whole_77 (okx_in h10) rfl rfl (fun a11 ha L3' hL => ?_)
            have hf := lz_r ha hf
            clear ha
            obtain rfl : L3' = [(13, a1), (14, a3), (16, a11)] := hL.symm
            refine go_iinc (lc' := [(0, .ref (x_q X 0)), (1, .int (x5 + (1 : Int32)))]) (pc' := 81) hC dX12_whole_78 rfl ki_1 (Nat.le_of_ble_eq_true rfl) rfl rfl ?_
            refine go_goto (tgt := 58) hC dX12_whole_81 (by decide) ?_
            exact ih (x5 + (1 : Int32)) a11 hf
      exact l58_13 fuel (0 : Int32) (S.2.2.1 16) hf
    clear hk56_4
    have l30_22 : ∀ (nn : Nat) (x14 : Int32) (a15 : Nat → Int32), it2 (f_X12_whole_L30 S k56_4) nn x14 a15 = some o → Go X layM S 30 [(0, .ref (x_q X 0)), (1, .int x14)] [] g [] [] [(13, a1), (14, a15), (16, (S.2.2.1 16))] [] [] 0 0 := by
      intro nn
      induction nn with
      | zero =>
        intro x14 a15 hf
        exact none_no hf
      | succ nn ih =>
        intro x14 a15 hf
        have hf : f_X12_whole_L30 S k56_4 (it2 (f_X12_whole_L30 S k56_4) nn) x14 a15 = some o := hf
        generalize it2 (f_X12_whole_L30 S k56_4) nn = r16 at ih hf
        unfold f_X12_whole_L30 at hf
        refine go_iload_n (pc' := 31) hC dX12_whole_30 rfl rfl ?_
        refine go_aload_n (pc' := 32) hC dX12_whole_31 rfl rfl ?_
        refine go_geti (v := (S.1 20)) (pc' := 35) hC 0 20 layM_0 rfl rfl inlX12 (Nat.le_of_ble_eq_true rfl) mw_246 rfl dX12_whole_32 rfl rfl ?_
        refine go_icmp_ge (tgt := 56) (pc' := 38) hC dX12_whole_35 (by decide) rfl (fun h21 => ?_) (fun h21 => ?_)
        · have hf := ite_t h21 hf
          refine go_sub [0] rfl ?_
          exact jk56_4 a15 hf
        · have hf := ite_f h21 hf
          refine go_aload_n (pc' := 39) hC dX12_whole_38 rfl rfl ?_
          refine go_getq (pc' := 42) hC 0 28 layM_0 rfl rfl inlX12 (Nat.le_of_ble_eq_true rfl) mw_194 rfl dX12_whole_39 rfl ?_
          refine go_iload_n (pc' := 43) hC dX12_whole_42 rfl rfl ?_
          refine go_aload_n (pc' := 44) hC dX12_whole_43 rfl rfl ?_
          refine go_getq (pc' := 47) hC 0 71 layM_0 rfl rfl inlX12 (Nat.le_of_ble_eq_true rfl) mw_221 rfl dX12_whole_44 rfl ?_
          refine go_iload_n (pc' := 48) hC dX12_whole_47 rfl rfl ?_
          obtain ⟨h17, hf⟩ := gd_e hf
          refine go_iald (f := (S.2.2.1 40)) (pc' := 49) hC 40 layM_40 rfl rfl dX12_whole_48 (okx_in h17) rfl ?_
          refine go_namei (fun x18 hx => ?_)
          have hf := lz_r hx hf
          clear hx
          obtain ⟨h19, hf⟩ := gd_e hf
          refine go_iast (f := a15) (pc' := 50) hC 14 layM_14 rfl rfl dX12_whole_49 (okx_in h19) rfl rfl (fun a20 ha L3' hL => ?_)
          have hf := lz_r ha hf
          clear ha
          obtain rfl : L3' = [(13, a1), (14, a20), (16, (S.2.2.1 16))] := hL.symm
          refine go_iinc (lc' := [(0, .ref (x_q X 0)), (1, .int (x14 + (1 : Int32)))]) (pc' := 53) hC dX12_whole_50 rfl ki_1 (Nat.le_of_ble_eq_true rfl) rfl rfl ?_
          refine go_goto (tgt := 30) hC dX12_whole_53 (by decide) ?_
          exact ih (x14 + (1 : Int32)) a20 hf
    exact l30_22 fuel (0 : Int32) (S.2.2.1 14) hf
  clear hk28_2
  have l2_31 : ∀ (nn : Nat) (x23 : Int32) (a24 : Nat → Int32), it2 (f_X12_whole_L2 S k28_2) nn x23 a24 = some o → Go X layM S 2 [(0, .ref (x_q X 0)), (1, .int x23)] [] g [] [] [(13, a24), (14, (S.2.2.1 14)), (16, (S.2.2.1 16))] [] [] 0 0 := by
    intro nn
    induction nn with
    | zero =>
      intro x23 a24 hf
      exact none_no hf
    | succ nn ih =>
      intro x23 a24 hf
      have hf : f_X12_whole_L2 S k28_2 (it2 (f_X12_whole_L2 S k28_2) nn) x23 a24 = some o := hf
      generalize it2 (f_X12_whole_L2 S k28_2) nn = r25 at ih hf
      unfold f_X12_whole_L2 at hf
      refine go_iload_n (pc' := 3) hC dX12_whole_2 rfl rfl ?_
      refine go_aload_n (pc' := 4) hC dX12_whole_3 rfl rfl ?_
      refine go_geti (v := (S.1 21)) (pc' := 7) hC 0 21 layM_0 rfl rfl inlX12 (Nat.le_of_ble_eq_true rfl) mw_247 rfl dX12_whole_4 rfl rfl ?_
      refine go_icmp_ge (tgt := 28) (pc' := 10) hC dX12_whole_7 (by decide) rfl (fun h30 => ?_) (fun h30 => ?_)
      · have hf := ite_t h30 hf
        refine go_sub [0] rfl ?_
        exact jk28_2 a24 hf
      · have hf := ite_f h30 hf
        refine go_aload_n (pc' := 11) hC dX12_whole_10 rfl rfl ?_
        refine go_getq (pc' := 14) hC 0 27 layM_0 rfl rfl inlX12 (Nat.le_of_ble_eq_true rfl) mw_193 rfl dX12_whole_11 rfl ?_
        refine go_iload_n (pc' := 15) hC dX12_whole_14 rfl rfl ?_
        refine go_aload_n (pc' := 16) hC dX12_whole_15 rfl rfl ?_
        refine go_getq (pc' := 19) hC 0 70 layM_0 rfl rfl inlX12 (Nat.le_of_ble_eq_true rfl) mw_220 rfl dX12_whole_16 rfl ?_
        refine go_iload_n (pc' := 20) hC dX12_whole_19 rfl rfl ?_
        obtain ⟨h26, hf⟩ := gd_e hf
        refine go_iald (f := (S.2.2.1 39)) (pc' := 21) hC 39 layM_39 rfl rfl dX12_whole_20 (okx_in h26) rfl ?_
        refine go_namei (fun x27 hx => ?_)
        have hf := lz_r hx hf
        clear hx
        obtain ⟨h28, hf⟩ := gd_e hf
        refine go_iast (f := a24) (pc' := 22) hC 13 layM_13 rfl rfl dX12_whole_21 (okx_in h28) rfl rfl (fun a29 ha L3' hL => ?_)
        have hf := lz_r ha hf
        clear ha
        obtain rfl : L3' = [(13, a29), (14, (S.2.2.1 14)), (16, (S.2.2.1 16))] := hL.symm
        refine go_iinc (lc' := [(0, .ref (x_q X 0)), (1, .int (x23 + (1 : Int32)))]) (pc' := 25) hC dX12_whole_22 rfl ki_1 (Nat.le_of_ble_eq_true rfl) rfl rfl ?_
        refine go_goto (tgt := 2) hC dX12_whole_25 (by decide) ?_
        exact ih (x23 + (1 : Int32)) a29 hf
  exact l2_31 fuel (0 : Int32) (S.2.2.1 13) hf
theorem dX12_alone_0 : decode cX12_alone 0 = .ok (.iload_n 1, 1) := by decide +kernel
theorem dX12_alone_1 : decode cX12_alone 1 = .ok (.i2l, 1) := by decide +kernel
theorem dX12_alone_2 : decode cX12_alone 2 = .ok (.lconst 0, 1) := by decide +kernel
theorem dX12_alone_3 : decode cX12_alone 3 = .ok (.lconst 1, 1) := by decide +kernel
theorem dX12_alone_4 : decode cX12_alone 4 = .ok (.invokestatic 218, 3) := by decide +kernel
theorem dX12_alone_7 : decode cX12_alone 7 = .ok (.ifCond .ne 7, 3) := by decide +kernel
theorem dX12_alone_10 : decode cX12_alone 10 = .ok (.ldc2_w 373, 3) := by decide +kernel
theorem dX12_alone_13 : decode cX12_alone 13 = .ok (.lreturn, 1) := by decide +kernel
theorem dX12_alone_14 : decode cX12_alone 14 = .ok (.aload_n 0, 1) := by decide +kernel
theorem dX12_alone_15 : decode cX12_alone 15 = .ok (.getfield 288, 3) := by decide +kernel
theorem dX12_alone_18 : decode cX12_alone 18 = .ok (.istore_n 2, 1) := by decide +kernel
theorem dX12_alone_19 : decode cX12_alone 19 = .ok (.aload_n 0, 1) := by decide +kernel
theorem dX12_alone_20 : decode cX12_alone 20 = .ok (.invokevirtual 496, 3) := by decide +kernel
theorem dX12_alone_23 : decode cX12_alone 23 = .ok (.istore_n 3, 1) := by decide +kernel
theorem dX12_alone_24 : decode cX12_alone 24 = .ok (.ldc2_w 373, 3) := by decide +kernel
theorem dX12_alone_27 : decode cX12_alone 27 = .ok (.lstore 4, 2) := by decide +kernel
theorem dX12_alone_29 : decode cX12_alone 29 = .ok (.iload_n 3, 1) := by decide +kernel
theorem dX12_alone_30 : decode cX12_alone 30 = .ok (.bipush 15, 2) := by decide +kernel
theorem dX12_alone_32 : decode cX12_alone 32 = .ok (.if_icmp .gt 15, 3) := by decide +kernel
theorem dX12_alone_35 : decode cX12_alone 35 = .ok (.iload_n 1, 1) := by decide +kernel
theorem dX12_alone_36 : decode cX12_alone 36 = .ok (.iconst 1, 1) := by decide +kernel
theorem dX12_alone_37 : decode cX12_alone 37 = .ok (.if_icmp .ne 10, 3) := by decide +kernel
theorem dX12_alone_40 : decode cX12_alone 40 = .ok (.aload_n 0, 1) := by decide +kernel
theorem dX12_alone_41 : decode cX12_alone 41 = .ok (.iload_n 3, 1) := by decide +kernel
theorem dX12_alone_42 : decode cX12_alone 42 = .ok (.invokevirtual 369, 3) := by decide +kernel
theorem dX12_alone_45 : decode cX12_alone 45 = .ok (.lstore 4, 2) := by decide +kernel
theorem dX12_alone_47 : decode cX12_alone 47 = .ok (.iload_n 3, 1) := by decide +kernel
theorem dX12_alone_48 : decode cX12_alone 48 = .ok (.bipush 15, 2) := by decide +kernel
theorem dX12_alone_50 : decode cX12_alone 50 = .ok (.if_icmp .gt 84, 3) := by decide +kernel
theorem dX12_alone_53 : decode cX12_alone 53 = .ok (.iload_n 1, 1) := by decide +kernel
theorem dX12_alone_54 : decode cX12_alone 54 = .ok (.ifCond .ne 80, 3) := by decide +kernel
theorem dX12_alone_57 : decode cX12_alone 57 = .ok (.aload_n 0, 1) := by decide +kernel
theorem dX12_alone_58 : decode cX12_alone 58 = .ok (.iload_n 3, 1) := by decide +kernel
theorem dX12_alone_59 : decode cX12_alone 59 = .ok (.putfield 288, 3) := by decide +kernel
theorem dX12_alone_62 : decode cX12_alone 62 = .ok (.aload_n 0, 1) := by decide +kernel
theorem dX12_alone_63 : decode cX12_alone 63 = .ok (.invokevirtual 375, 3) := by decide +kernel
theorem dX12_alone_66 : decode cX12_alone 66 = .ok (.aload_n 0, 1) := by decide +kernel
theorem dX12_alone_67 : decode cX12_alone 67 = .ok (.invokevirtual 364, 3) := by decide +kernel
theorem dX12_alone_70 : decode cX12_alone 70 = .ok (.lconst 0, 1) := by decide +kernel
theorem dX12_alone_71 : decode cX12_alone 71 = .ok (.lstore 4, 2) := by decide +kernel
theorem dX12_alone_73 : decode cX12_alone 73 = .ok (.iconst 0, 1) := by decide +kernel
theorem dX12_alone_74 : decode cX12_alone 74 = .ok (.istore 6, 2) := by decide +kernel
theorem dX12_alone_76 : decode cX12_alone 76 = .ok (.iload 6, 2) := by decide +kernel
theorem dX12_alone_78 : decode cX12_alone 78 = .ok (.aload_n 0, 1) := by decide +kernel
theorem dX12_alone_79 : decode cX12_alone 79 = .ok (.invokevirtual 354, 3) := by decide +kernel
theorem dX12_alone_82 : decode cX12_alone 82 = .ok (.if_icmp .ge 47, 3) := by decide +kernel
theorem dX12_alone_85 : decode cX12_alone 85 = .ok (.lload 4, 2) := by decide +kernel
theorem dX12_alone_87 : decode cX12_alone 87 = .ok (.aload_n 0, 1) := by decide +kernel
theorem dX12_alone_88 : decode cX12_alone 88 = .ok (.getfield 73, 3) := by decide +kernel
theorem dX12_alone_91 : decode cX12_alone 91 = .ok (.iload 6, 2) := by decide +kernel
theorem dX12_alone_93 : decode cX12_alone 93 = .ok (.laload, 1) := by decide +kernel
theorem dX12_alone_94 : decode cX12_alone 94 = .ok (.lconst 0, 1) := by decide +kernel
theorem dX12_alone_95 : decode cX12_alone 95 = .ok (.lcmp, 1) := by decide +kernel
theorem dX12_alone_96 : decode cX12_alone 96 = .ok (.ifCond .le 23, 3) := by decide +kernel
theorem dX12_alone_99 : decode cX12_alone 99 = .ok (.aload_n 0, 1) := by decide +kernel
theorem dX12_alone_100 : decode cX12_alone 100 = .ok (.iload 6, 2) := by decide +kernel
theorem dX12_alone_102 : decode cX12_alone 102 = .ok (.iconst 0, 1) := by decide +kernel
theorem dX12_alone_103 : decode cX12_alone 103 = .ok (.invokevirtual 357, 3) := by decide +kernel
theorem dX12_alone_106 : decode cX12_alone 106 = .ok (.ifCond .eq 13, 3) := by decide +kernel
theorem dX12_alone_109 : decode cX12_alone 109 = .ok (.aload_n 0, 1) := by decide +kernel
theorem dX12_alone_110 : decode cX12_alone 110 = .ok (.getfield 73, 3) := by decide +kernel
theorem dX12_alone_113 : decode cX12_alone 113 = .ok (.iload 6, 2) := by decide +kernel
theorem dX12_alone_115 : decode cX12_alone 115 = .ok (.laload, 1) := by decide +kernel
theorem dX12_alone_116 : decode cX12_alone 116 = .ok (.goto 4, 3) := by decide +kernel
theorem dX12_alone_119 : decode cX12_alone 119 = .ok (.lconst 0, 1) := by decide +kernel
theorem dX12_alone_120 : decode cX12_alone 120 = .ok (.ladd, 1) := by decide +kernel
theorem dX12_alone_121 : decode cX12_alone 121 = .ok (.lstore 4, 2) := by decide +kernel
theorem dX12_alone_123 : decode cX12_alone 123 = .ok (.iinc 6 1, 3) := by decide +kernel
theorem dX12_alone_126 : decode cX12_alone 126 = .ok (.goto (-50), 3) := by decide +kernel
theorem dX12_alone_129 : decode cX12_alone 129 = .ok (.aload_n 0, 1) := by decide +kernel
theorem dX12_alone_130 : decode cX12_alone 130 = .ok (.iload_n 2, 1) := by decide +kernel
theorem dX12_alone_131 : decode cX12_alone 131 = .ok (.putfield 288, 3) := by decide +kernel
theorem dX12_alone_134 : decode cX12_alone 134 = .ok (.aload_n 0, 1) := by decide +kernel
theorem dX12_alone_135 : decode cX12_alone 135 = .ok (.invokevirtual 499, 3) := by decide +kernel
theorem dX12_alone_138 : decode cX12_alone 138 = .ok (.lload 4, 2) := by decide +kernel
theorem dX12_alone_140 : decode cX12_alone 140 = .ok (.lreturn, 1) := by decide +kernel
abbrev o_X12_alone : Type := Int64 × Int32 × Int32 × Int32 × Int32 × (Nat → Int32) × (Nat → Int32) × (Nat → Int32) × (Nat → Int32) × (Nat → Int32) × (Nat → Int32) × (Nat → Int32) × (Nat → Int32) × (Nat → Int32) × (Nat → Int32) × (Nat → Int32) × (Nat → Int64)
def f_X12_alone_L76 (S : wd_W) (o3 : o_X12_parts) (o18 : o_X12_plain) (o19 : o_X12_weighs) (k129_26 : (Int64) → (Int32) → (Int32) → (Nat → Int32) → (Nat → Int32) → (Nat → Int32) → (Option o_X12_alone)) (r34 : (Int64) → (Int32) → (Int32) → (Int32) → (Nat → Int32) → (Nat → Int32) → (Nat → Int32) → (Option o_X12_alone)) (x27 : Int64) (x28 : Int32) (x29 : Int32) (x30 : Int32) (a31 : Nat → Int32) (a32 : Nat → Int32) (a33 : Nat → Int32) : Option o_X12_alone :=
bd (f_X12_sets (wd_o S [(32, o3.1), (38, x29), (39, x30), (72, o3.2.1)] [] [(13, o3.2.2.1), (14, o3.2.2.2.1), (16, o3.2.2.2.2.1), (17, a31), (18, a32), (19, a33), (22, o18.1), (23, o18.2), (39, o3.2.2.2.2.2.1), (40, o3.2.2.2.2.2.2.1), (41, o3.2.2.2.2.2.2.2)] [(21, o19)] [])) fun o35 =>
if o35 ≤ x28 then (
k129_26 x27 x29 x30 a31 a32 a33) else (
gd (okx x28 32768) <|
lk (fun x37 x38 x39 x40 a41 a42 a43 =>
lz (x38 + x37) fun x45 =>
r34 x45 (x28 + (1 : Int32)) x39 x40 a41 a42 a43) fun k120_44 =>
lk (fun x46 x47 x48 a49 a50 a51 =>
k120_44 (0 : Int64) x46 x47 x48 a49 a50 a51) fun k119_52 =>
if (o19 x28.toNatClampNeg) ≤ (0 : Int64) then (
k119_52 x27 x29 x30 a31 a32 a33) else (
bd (f_X12_isThrough (wd_o S [(32, o3.1), (38, x29), (39, x30), (72, o3.2.1)] [] [(13, o3.2.2.1), (14, o3.2.2.2.1), (16, o3.2.2.2.2.1), (17, a31), (18, a32), (19, a33), (22, o18.1), (23, o18.2), (39, o3.2.2.2.2.2.1), (40, o3.2.2.2.2.2.2.1), (41, o3.2.2.2.2.2.2.2)] [(21, o19)] []) x28 (0 : Int32)) fun o53 =>
if o53.1 = 0 then (
k119_52 x27 o53.2.1 o53.2.2.1 o53.2.2.2.1 o53.2.2.2.2.1 o53.2.2.2.2.2) else (
gd (okx x28 32768) <|
k120_44 (o19 x28.toNatClampNeg) x27 o53.2.1 o53.2.2.1 o53.2.2.2.1 o53.2.2.2.2.1 o53.2.2.2.2.2)))
def f_X12_alone (S : wd_W) (p1 : Int32) : Option o_X12_alone :=
bd (f_X12_in p1.toInt64 (0 : Int64) (1 : Int64)) fun o1 =>
if o1 = 0 then (
some ((-1 : Int64), (S.1 32), (S.1 38), (S.1 39), (S.1 72), (S.2.2.1 13), (S.2.2.1 14), (S.2.2.1 16), (S.2.2.1 17), (S.2.2.1 18), (S.2.2.1 19), (S.2.2.1 22), (S.2.2.1 23), (S.2.2.1 39), (S.2.2.1 40), (S.2.2.1 41), (S.2.2.2.1 21))) else (
lz ((S.1 32)) fun x2 =>
bd (f_X12_parts (wd_o S [(32, (S.1 32)), (38, (S.1 38)), (39, (S.1 39)), (72, (S.1 72))] [] [(13, (S.2.2.1 13)), (14, (S.2.2.1 14)), (16, (S.2.2.1 16)), (17, (S.2.2.1 17)), (18, (S.2.2.1 18)), (19, (S.2.2.1 19)), (22, (S.2.2.1 22)), (23, (S.2.2.1 23)), (39, (S.2.2.1 39)), (40, (S.2.2.1 40)), (41, (S.2.2.1 41))] [(21, (S.2.2.2.1 21))] [])) fun o3 =>
lk (fun x4 =>
lk (fun x6 x7 x8 x9 a10 a11 a12 a13 a14 a15 =>
bd (f_X12_whole (wd_o S [(32, x7), (38, x8), (39, x9), (72, o3.2.1)] [] [(13, o3.2.2.1), (14, o3.2.2.2.1), (16, o3.2.2.2.2.1), (17, a10), (18, a11), (19, a12), (22, a13), (23, a14), (39, o3.2.2.2.2.2.1), (40, o3.2.2.2.2.2.2.1), (41, o3.2.2.2.2.2.2.2)] [(21, a15)] [])) fun o17 =>
some (x6, x7, x8, x9, o3.2.1, o17.1, o17.2.1, o17.2.2, a10, a11, a12, a13, a14, o3.2.2.2.2.2.1, o3.2.2.2.2.2.2.1, o3.2.2.2.2.2.2.2, a15)) fun k134_16 =>
if (15 : Int32) < o3.1 then (
k134_16 x4 (S.1 32) (S.1 38) (S.1 39) (S.2.2.1 17) (S.2.2.1 18) (S.2.2.1 19) (S.2.2.1 22) (S.2.2.1 23) (S.2.2.2.1 21)) else (
if p1 = 0 then (
bd (f_X12_plain (wd_o S [(32, o3.1), (38, (S.1 38)), (39, (S.1 39)), (72, o3.2.1)] [] [(13, o3.2.2.1), (14, o3.2.2.2.1), (16, o3.2.2.2.2.1), (17, (S.2.2.1 17)), (18, (S.2.2.1 18)), (19, (S.2.2.1 19)), (22, (S.2.2.1 22)), (23, (S.2.2.1 23)), (39, o3.2.2.2.2.2.1), (40, o3.2.2.2.2.2.2.1), (41, o3.2.2.2.2.2.2.2)] [(21, (S.2.2.2.1 21))] [])) fun o18 =>
bd (f_X12_weighs (wd_o S [(32, o3.1), (38, (S.1 38)), (39, (S.1 39)), (72, o3.2.1)] [] [(13, o3.2.2.1), (14, o3.2.2.2.1), (16, o3.2.2.2.2.1), (17, (S.2.2.1 17)), (18, (S.2.2.1 18)), (19, (S.2.2.1 19)), (22, o18.1), (23, o18.2), (39, o3.2.2.2.2.2.1), (40, o3.2.2.2.2.2.2.1), (41, o3.2.2.2.2.2.2.2)] [(21, (S.2.2.2.1 21))] [])) fun o19 =>
lk (fun x20 x21 x22 a23 a24 a25 =>
k134_16 x20 x2 x21 x22 a23 a24 a25 o18.1 o18.2 o19) fun k129_26 =>
it7 (f_X12_alone_L76 S o3 o18 o19 k129_26) fuel (0 : Int64) (0 : Int32) (S.1 38) (S.1 39) (S.2.2.1 17) (S.2.2.1 18) (S.2.2.1 19)) else (
k134_16 x4 (S.1 32) (S.1 38) (S.1 39) (S.2.2.1 17) (S.2.2.1 18) (S.2.2.1 19) (S.2.2.1 22) (S.2.2.1 23) (S.2.2.2.1 21)))) fun k47_5 =>
if (15 : Int32) < o3.1 then (
k47_5 (-1 : Int64)) else (
if p1 = (1 : Int32) then (
bd (f_X12_power o3.1) fun o61 =>
k47_5 o61) else (
k47_5 (-1 : Int64))))
set_option maxRecDepth 100000 in
set_option maxHeartbeats 4000000 in
theorem c_X12_alone (l : Launch) (D : va_G) (q g : Nat → Nat) (cy : Nat → ClassId) (z : (Nat → Nat) × (Nat → Nat) × Nat) (S : wd_W) (p1 : Int32) (o : o_X12_alone) (hf : f_X12_alone S p1 = some o) : MX layM l yX12_alone cX12_alone 7 (some .long) ({ frames := 4, cells := 0, slots := 0, locals := 94 } : Room) D q g cy z [.ref (q 0), .int p1] S false (some (.long o.1)) (wd_o S [(32, o.2.1), (38, o.2.2.1), (39, o.2.2.2.1), (72, o.2.2.2.2.1)] [] [(13, o.2.2.2.2.2.1), (14, o.2.2.2.2.2.2.1), (16, o.2.2.2.2.2.2.2.1), (17, o.2.2.2.2.2.2.2.2.1), (18, o.2.2.2.2.2.2.2.2.2.1), (19, o.2.2.2.2.2.2.2.2.2.2.1), (22, o.2.2.2.2.2.2.2.2.2.2.2.1), (23, o.2.2.2.2.2.2.2.2.2.2.2.2.1), (39, o.2.2.2.2.2.2.2.2.2.2.2.2.2.1), (40, o.2.2.2.2.2.2.2.2.2.2.2.2.2.2.1), (41, o.2.2.2.2.2.2.2.2.2.2.2.2.2.2.2.1)] [(21, o.2.2.2.2.2.2.2.2.2.2.2.2.2.2.2.2)] []) 0 0 := by
  refine mx_of (own := RX12) (lc := [(0, .ref (q 0)), (1, .int p1)]) (by decide +kernel) rfl layM_ok (Nat.le_of_ble_eq_true rfl) rfl ?_
  intro X hXl hXq hXz hC hQ
  subst hXl; subst hXq; subst hXz
  unfold f_X12_alone at hf
  refine go_keys (L1 := [(32, (S.1 32)), (38, (S.1 38)), (39, (S.1 39)), (72, (S.1 72))]) (L2 := []) (L3 := [(13, (S.2.2.1 13)), (14, (S.2.2.1 14)), (16, (S.2.2.1 16)), (17, (S.2.2.1 17)), (18, (S.2.2.1 18)), (19, (S.2.2.1 19)), (22, (S.2.2.1 22)), (23, (S.2.2.1 23)), (39, (S.2.2.1 39)), (40, (S.2.2.1 40)), (41, (S.2.2.1 41))]) (L4 := [(21, (S.2.2.2.1 21))]) (L5 := []) [32, 38, 39, 72] [] [13, 14, 16, 17, 18, 19, 22, 23, 39, 40, 41] [21] [] rfl rfl rfl rfl rfl ?_
  refine go_iload_n (pc' := 1) hC dX12_alone_0 rfl rfl ?_
  refine go_i2l (pc' := 2) hC dX12_alone_1 rfl ?_
  refine go_lconst (pc' := 3) hC dX12_alone_2 kl_0 rfl ?_
  refine go_lconst (pc' := 4) hC dX12_alone_3 kl_1 rfl ?_
  obtain ⟨o1, ho1, hf⟩ := bd_e hf
  refine go_callS0 (pc' := 7) (As := [.long p1.toInt64, .long (0 : Int64), .long (1 : Int64)]) (st := []) (st' := [.int o1])    hC dX12_alone_4 ⟨mw_525, mw_527, mw_5, yd_yX12_in, yp_yX12_in, Nat.le_of_ble_eq_true rfl, Nat.le_of_ble_eq_true rfl, (Nat.le_of_ble_eq_true rfl), (Nat.le_of_ble_eq_true rfl)⟩ mw_526 rfl rfl (Nat.le_of_ble_eq_true rfl) (c_X12_in (x_l X) (x_D X) (x_q X) g (x_cy X) (x_z X) _ p1.toInt64 (0 : Int64) (1 : Int64) o1 ho1) rfl rfl ?_
  refine go_if_ne (tgt := 14) (pc' := 10) hC dX12_alone_7 (by decide) rfl (fun h64 => ?_) (fun h64 => ?_)
  · have hf := ite_f h64 hf
    refine go_aload_n (pc' := 15) hC dX12_alone_14 rfl rfl ?_
    refine go_geti (v := (S.1 32)) (pc' := 18) hC 0 32 layM_0 rfl rfl inlX12 (Nat.le_of_ble_eq_true rfl) mw_250 rfl dX12_alone_15 rfl rfl ?_
    refine go_namei (fun x2 hx => ?_)
    have hf := lz_r hx hf
    clear hx
    refine go_istore_n (lc' := [(0, .ref (x_q X 0)), (1, .int p1), (2, .int x2)]) (pc' := 19) hC dX12_alone_18 (Nat.le_of_ble_eq_true rfl) rfl rfl ?_
    refine go_aload_n (pc' := 20) hC dX12_alone_19 rfl rfl ?_
    obtain ⟨o3, ho3, hf⟩ := bd_e hf
    refine go_callV1 (pc' := 23) (As := []) (st := []) (st' := [.int o3.1]) (L1' := [(32, (S.1 32)), (38, (S.1 38)), (39, (S.1 39)), (72, o3.2.1)]) (L2' := []) (L3' := [(13, o3.2.2.1), (14, o3.2.2.2.1), (16, o3.2.2.2.2.1), (17, (S.2.2.1 17)), (18, (S.2.2.1 18)), (19, (S.2.2.1 19)), (22, (S.2.2.1 22)), (23, (S.2.2.1 23)), (39, o3.2.2.2.2.2.1), (40, o3.2.2.2.2.2.2.1), (41, o3.2.2.2.2.2.2.2)]) (L4' := [(21, (S.2.2.2.1 21))]) (L5' := []) (cells' := 0) (slots' := 0)  (b := 0) hC dX12_alone_20 ⟨mw_1418, mw_1421, mw_5, yd_yX12_parts, yp_yX12_parts, Nat.le_of_ble_eq_true rfl, Nat.le_of_ble_eq_true rfl, (Nat.le_of_ble_eq_true rfl), (Nat.le_of_ble_eq_true rfl)⟩ mw_1419 mw_1420 layM_0 rfl rfl rfl (Nat.le_of_ble_eq_true rfl) (c_X12_parts (x_l X) (x_D X) (x_q X) g (x_cy X) (x_z X) _  o3 ho3) rfl rfl rfl rfl rfl rfl rfl rfl rfl rfl rfl rfl rfl rfl ?_
    refine go_istore_n (lc' := [(0, .ref (x_q X 0)), (1, .int p1), (2, .int x2), (3, .int o3.1)]) (pc' := 24) hC dX12_alone_23 (Nat.le_of_ble_eq_true rfl) rfl rfl ?_
    refine go_ldc2 (pc' := 27) hC dX12_alone_24 mw_922 rfl ?_
    refine go_lstore (lc' := [(0, .ref (x_q X 0)), (1, .int p1), (2, .int x2), (3, .int o3.1), (4, .long (-1 : Int64))]) (pc' := 29) hC dX12_alone_27 (Nat.le_of_ble_eq_true rfl) rfl rfl ?_
    refine go_iload_n (pc' := 30) hC dX12_alone_29 rfl rfl ?_
    refine go_bipush (pc' := 32) hC dX12_alone_30 kb_15 rfl ?_
    obtain ⟨k47_5, hk47_5, hf⟩ := lk_e1 hf
    have jk47_5 : ∀ (x4 : Int64), k47_5 x4 = some o → Go X layM S 47 [(0, .ref (x_q X 0)), (1, .int p1), (2, .int x2), (3, .int o3.1), (4, .long x4)] [] g [(32, (S.1 32)), (38, (S.1 38)), (39, (S.1 39)), (72, o3.2.1)] [] [(13, o3.2.2.1), (14, o3.2.2.2.1), (16, o3.2.2.2.2.1), (17, (S.2.2.1 17)), (18, (S.2.2.1 18)), (19, (S.2.2.1 19)), (22, (S.2.2.1 22)), (23, (S.2.2.1 23)), (39, o3.2.2.2.2.2.1), (40, o3.2.2.2.2.2.2.1), (41, o3.2.2.2.2.2.2.2)] [(21, (S.2.2.2.1 21))] [] 0 0 := by
      intro x4 hf
      have hf := hk47_5 x4 hf
      clear hk47_5
      refine go_iload_n (pc' := 48) hC dX12_alone_47 rfl rfl ?_
      refine go_bipush (pc' := 50) hC dX12_alone_48 kb_15 rfl ?_
      obtain ⟨k134_16, hk134_16, hf⟩ := lk_e10 hf
      have jk134_16 : ∀ (x6 : Int64) (x7 : Int32) (x8 : Int32) (x9 : Int32) (a10 : Nat → Int32) (a11 : Nat → Int32) (a12 : Nat → Int32) (a13 : Nat → Int32) (a14 : Nat → Int32) (a15 : Nat → Int64), k134_16 x6 x7 x8 x9 a10 a11 a12 a13 a14 a15 = some o → Go X layM S 134 [(0, .ref (x_q X 0)), (4, .long x6)] [] g [(32, x7), (38, x8), (39, x9), (72, o3.2.1)] [] [(13, o3.2.2.1), (14, o3.2.2.2.1), (16, o3.2.2.2.2.1), (17, a10), (18, a11), (19, a12), (22, a13), (23, a14), (39, o3.2.2.2.2.2.1), (40, o3.2.2.2.2.2.2.1), (41, o3.2.2.2.2.2.2.2)] [(21, a15)] [] 0 0 := by
        intro x6 x7 x8 x9 a10 a11 a12 a13 a14 a15 hf
        have hf := hk134_16 x6 x7 x8 x9 a10 a11 a12 a13 a14 a15 hf
        clear hk134_16
        refine go_aload_n (pc' := 135) hC dX12_alone_134 rfl rfl ?_
        obtain ⟨o17, ho17, hf⟩ := bd_e hf
        refine go_callV1 (pc' := 138) (As := []) (st := []) (st' := []) (L1' := [(32, x7), (38, x8), (39, x9), (72, o3.2.1)]) (L2' := []) (L3' := [(13, o17.1), (14, o17.2.1), (16, o17.2.2), (17, a10), (18, a11), (19, a12), (22, a13), (23, a14), (39, o3.2.2.2.2.2.1), (40, o3.2.2.2.2.2.2.1), (41, o3.2.2.2.2.2.2.2)]) (L4' := [(21, a15)]) (L5' := []) (cells' := 0) (slots' := 0)  (b := 0) hC dX12_alone_135 ⟨mw_1427, mw_1430, mw_5, yd_yX12_whole, yp_yX12_whole, Nat.le_of_ble_eq_true rfl, Nat.le_of_ble_eq_true rfl, (Nat.le_of_ble_eq_true rfl), (Nat.le_of_ble_eq_true rfl)⟩ mw_1428 mw_1429 layM_0 rfl rfl rfl (Nat.le_of_ble_eq_true rfl) (c_X12_whole (x_l X) (x_D X) (x_q X) g (x_cy X) (x_z X) _  o17 ho17) rfl rfl rfl rfl rfl rfl rfl rfl rfl rfl rfl rfl rfl rfl ?_
        refine go_lload (pc' := 140) hC dX12_alone_138 rfl rfl ?_
        obtain rfl := Option.some.inj hf
        exact go_lret hC hQ dX12_alone_140 rfl rfl rfl (fun _ => rfl) rfl rfl
      clear hk134_16
      refine go_icmp_gt (tgt := 134) (pc' := 53) hC dX12_alone_50 (by decide) rfl (fun h60 => ?_) (fun h60 => ?_)
      · have hf := ite_t h60 hf
        refine go_sub [0, 4] rfl ?_
        exact jk134_16 x4 (S.1 32) (S.1 38) (S.1 39) (S.2.2.1 17) (S.2.2.1 18) (S.2.2.1 19) (S.2.2.1 22) (S.2.2.1 23) (S.2.2.2.1 21) hf
      · have hf := ite_f h60 hf
        refine go_iload_n (pc' := 54) hC dX12_alone_53 rfl rfl ?_
        refine go_if_ne (tgt := 134) (pc' := 57) hC dX12_alone_54 (by decide) rfl (fun h59 => ?_) (fun h59 => ?_)
        · have hf := ite_f h59 hf
          refine go_sub [0, 4] rfl ?_
          exact jk134_16 x4 (S.1 32) (S.1 38) (S.1 39) (S.2.2.1 17) (S.2.2.1 18) (S.2.2.1 19) (S.2.2.1 22) (S.2.2.1 23) (S.2.2.2.1 21) hf
        · have hf := ite_t h59 hf
          refine go_aload_n (pc' := 58) hC dX12_alone_57 rfl rfl ?_
          refine go_iload_n (pc' := 59) hC dX12_alone_58 rfl rfl ?_
          refine go_puti (L1' := [(32, o3.1), (38, (S.1 38)), (39, (S.1 39)), (72, o3.2.1)]) (pc' := 62) hC 0 32 layM_0 rfl rfl inlX12 tyX12_ok nmX12 (Nat.le_of_ble_eq_true rfl) mw_250 rfl rfl rfl rfl dX12_alone_59 rfl rfl rfl ?_
          refine go_aload_n (pc' := 63) hC dX12_alone_62 rfl rfl ?_
          obtain ⟨o18, ho18, hf⟩ := bd_e hf
          refine go_callV1 (pc' := 66) (As := []) (st := []) (st' := []) (L1' := [(32, o3.1), (38, (S.1 38)), (39, (S.1 39)), (72, o3.2.1)]) (L2' := []) (L3' := [(13, o3.2.2.1), (14, o3.2.2.2.1), (16, o3.2.2.2.2.1), (17, (S.2.2.1 17)), (18, (S.2.2.1 18)), (19, (S.2.2.1 19)), (22, o18.1), (23, o18.2), (39, o3.2.2.2.2.2.1), (40, o3.2.2.2.2.2.2.1), (41, o3.2.2.2.2.2.2.2)]) (L4' := [(21, (S.2.2.2.1 21))]) (L5' := []) (cells' := 0) (slots' := 0)  (b := 0) hC dX12_alone_63 ⟨mw_927, mw_930, mw_5, yd_yX12_plain, yp_yX12_plain, Nat.le_of_ble_eq_true rfl, Nat.le_of_ble_eq_true rfl, (Nat.le_of_ble_eq_true rfl), (Nat.le_of_ble_eq_true rfl)⟩ mw_928 mw_929 layM_0 rfl rfl rfl (Nat.le_of_ble_eq_true rfl) (c_X12_plain (x_l X) (x_D X) (x_q X) g (x_cy X) (x_z X) _  o18 ho18) rfl rfl rfl rfl rfl rfl rfl rfl rfl rfl rfl rfl rfl rfl ?_
          refine go_aload_n (pc' := 67) hC dX12_alone_66 rfl rfl ?_
          obtain ⟨o19, ho19, hf⟩ := bd_e hf
          refine go_callV1 (pc' := 70) (As := []) (st := []) (st' := []) (L1' := [(32, o3.1), (38, (S.1 38)), (39, (S.1 39)), (72, o3.2.1)]) (L2' := []) (L3' := [(13, o3.2.2.1), (14, o3.2.2.2.1), (16, o3.2.2.2.2.1), (17, (S.2.2.1 17)), (18, (S.2.2.1 18)), (19, (S.2.2.1 19)), (22, o18.1), (23, o18.2), (39, o3.2.2.2.2.2.1), (40, o3.2.2.2.2.2.2.1), (41, o3.2.2.2.2.2.2.2)]) (L4' := [(21, o19)]) (L5' := []) (cells' := 0) (slots' := 0)  (b := 0) hC dX12_alone_67 ⟨mw_935, mw_938, mw_5, yd_yX12_weighs, yp_yX12_weighs, Nat.le_of_ble_eq_true rfl, Nat.le_of_ble_eq_true rfl, (Nat.le_of_ble_eq_true rfl), (Nat.le_of_ble_eq_true rfl)⟩ mw_936 mw_937 layM_0 rfl rfl rfl (Nat.le_of_ble_eq_true rfl) (c_X12_weighs (x_l X) (x_D X) (x_q X) g (x_cy X) (x_z X) _  o19 ho19) rfl rfl rfl rfl rfl rfl rfl rfl rfl rfl rfl rfl rfl rfl ?_
          refine go_lconst (pc' := 71) hC dX12_alone_70 kl_0 rfl ?_
          refine go_lstore (lc' := [(0, .ref (x_q X 0)), (1, .int p1), (2, .int x2), (3, .int o3.1), (4, .long (0 : Int64))]) (pc' := 73) hC dX12_alone_71 (Nat.le_of_ble_eq_true rfl) rfl rfl ?_
          refine go_iconst (pc' := 74) hC dX12_alone_73 ki_0 rfl ?_
          refine go_istore (lc' := [(0, .ref (x_q X 0)), (1, .int p1), (2, .int x2), (3, .int o3.1), (4, .long (0 : Int64)), (6, .int (0 : Int32))]) (pc' := 76) hC dX12_alone_74 (Nat.le_of_ble_eq_true rfl) rfl rfl ?_
          obtain ⟨k129_26, hk129_26, hf⟩ := lk_e6 hf
          have jk129_26 : ∀ (x20 : Int64) (x21 : Int32) (x22 : Int32) (a23 : Nat → Int32) (a24 : Nat → Int32) (a25 : Nat → Int32), k129_26 x20 x21 x22 a23 a24 a25 = some o → Go X layM S 129 [(0, .ref (x_q X 0)), (2, .int x2), (4, .long x20)] [] g [(32, o3.1), (38, x21), (39, x22), (72, o3.2.1)] [] [(13, o3.2.2.1), (14, o3.2.2.2.1), (16, o3.2.2.2.2.1), (17, a23), (18, a24), (19, a25), (22, o18.1), (23, o18.2), (39, o3.2.2.2.2.2.1), (40, o3.2.2.2.2.2.2.1), (41, o3.2.2.2.2.2.2.2)] [(21, o19)] [] 0 0 := by
            intro x20 x21 x22 a23 a24 a25 hf
            have hf := hk129_26 x20 x21 x22 a23 a24 a25 hf
            clear hk129_26
            refine go_aload_n (pc' := 130) hC dX12_alone_129 rfl rfl ?_
            refine go_iload_n (pc' := 131) hC dX12_alone_130 rfl rfl ?_
            refine go_puti (L1' := [(32, x2), (38, x21), (39, x22), (72, o3.2.1)]) (pc' := 134) hC 0 32 layM_0 rfl rfl inlX12 tyX12_ok nmX12 (Nat.le_of_ble_eq_true rfl) mw_250 rfl rfl rfl rfl dX12_alone_131 rfl rfl rfl ?_
            refine go_sub [0, 4] rfl ?_
            exact jk134_16 x20 x2 x21 x22 a23 a24 a25 o18.1 o18.2 o19 hf
          clear hk129_26
          have l76_58 : ∀ (nn : Nat) (x27 : Int64) (x28 : Int32) (x29 : Int32) (x30 : Int32) (a31 : Nat → Int32) (a32 : Nat → Int32) (a33 : Nat → Int32), it7 (f_X12_alone_L76 S o3 o18 o19 k129_26) nn x27 x28 x29 x30 a31 a32 a33 = some o → Go X layM S 76 [(0, .ref (x_q X 0)), (2, .int x2), (4, .long x27), (6, .int x28)] [] g [(32, o3.1), (38, x29), (39, x30), (72, o3.2.1)] [] [(13, o3.2.2.1), (14, o3.2.2.2.1), (16, o3.2.2.2.2.1), (17, a31), (18, a32), (19, a33), (22, o18.1), (23, o18.2), (39, o3.2.2.2.2.2.1), (40, o3.2.2.2.2.2.2.1), (41, o3.2.2.2.2.2.2.2)] [(21, o19)] [] 0 0 := by
            intro nn
            induction nn with
            | zero =>
              intro x27 x28 x29 x30 a31 a32 a33 hf
              exact none_no hf
            | succ nn ih =>
              intro x27 x28 x29 x30 a31 a32 a33 hf
              have hf : f_X12_alone_L76 S o3 o18 o19 k129_26 (it7 (f_X12_alone_L76 S o3 o18 o19 k129_26) nn) x27 x28 x29 x30 a31 a32 a33 = some o := hf
              generalize it7 (f_X12_alone_L76 S o3 o18 o19 k129_26) nn = r34 at ih hf
              unfold f_X12_alone_L76 at hf
              refine go_iload (pc' := 78) hC dX12_alone_76 rfl rfl ?_
              refine go_aload_n (pc' := 79) hC dX12_alone_78 rfl rfl ?_
              obtain ⟨o35, ho35, hf⟩ := bd_e hf
              refine go_callV0 (pc' := 82) (As := []) (st := [.int x28]) (st' := [.int o35, .int x28])    (b := 0) hC dX12_alone_79 ⟨mw_856, mw_859, mw_5, yd_yX12_sets, yp_yX12_sets, Nat.le_of_ble_eq_true rfl, Nat.le_of_ble_eq_true rfl, (Nat.le_of_ble_eq_true rfl), (Nat.le_of_ble_eq_true rfl)⟩ mw_857 mw_858 layM_0 rfl rfl rfl (Nat.le_of_ble_eq_true rfl) (c_X12_sets (x_l X) (x_D X) (x_q X) g (x_cy X) (x_z X) _  o35 ho35) rfl rfl ?_
              refine go_icmp_ge (tgt := 129) (pc' := 85) hC dX12_alone_82 (by decide) rfl (fun h57 => ?_) (fun h57 => ?_)
              · have hf := ite_t h57 hf
                refine go_sub [0, 2, 4] rfl ?_
                exact jk129_26 x27 x29 x30 a31 a32 a33 hf
              · have hf := ite_f h57 hf
                refine go_lload (pc' := 87) hC dX12_alone_85 rfl rfl ?_
                refine go_aload_n (pc' := 88) hC dX12_alone_87 rfl rfl ?_
                refine go_getq (pc' := 91) hC 0 45 layM_0 rfl rfl inlX12 (Nat.le_of_ble_eq_true rfl) mw_202 rfl dX12_alone_88 rfl ?_
                refine go_iload (pc' := 93) hC dX12_alone_91 rfl rfl ?_
                obtain ⟨h36, hf⟩ := gd_e hf
                refine go_lald (f := o19) (pc' := 94) hC 21 layM_21 rfl rfl dX12_alone_93 (okx_in h36) rfl ?_
                refine go_lconst (pc' := 95) hC dX12_alone_94 kl_0 rfl ?_
                refine go_lcmp (pc' := 96) hC dX12_alone_95 rfl ?_
                obtain ⟨k120_44, hk120_44, hf⟩ := lk_e7 hf
                have jk120_44 : ∀ (x37 : Int64) (x38 : Int64) (x39 : Int32) (x40 : Int32) (a41 : Nat → Int32) (a42 : Nat → Int32) (a43 : Nat → Int32), k120_44 x37 x38 x39 x40 a41 a42 a43 = some o → Go X layM S 120 [(0, .ref (x_q X 0)), (2, .int x2), (6, .int x28)] [.long x37, .long x38] g [(32, o3.1), (38, x39), (39, x40), (72, o3.2.1)] [] [(13, o3.2.2.1), (14, o3.2.2.2.1), (16, o3.2.2.2.2.1), (17, a41), (18, a42), (19, a43), (22, o18.1), (23, o18.2), (39, o3.2.2.2.2.2.1), (40, o3.2.2.2.2.2.2.1), (41, o3.2.2.2.2.2.2.2)] [(21, o19)] [] 0 0 := by
                  intro x37 x38 x39 x40 a41 a42 a43 hf
                  have hf := hk120_44 x37 x38 x39 x40 a41 a42 a43 hf
                  clear hk120_44
                  refine go_ladd (pc' := 121) hC dX12_alone_120 rfl ?_
                  refine go_namel (fun x45 hx => ?_)
                  have hf := lz_r hx hf
                  clear hx
                  refine go_lstore (lc' := [(0, .ref (x_q X 0)), (2, .int x2), (4, .long x45), (6, .int x28)]) (pc' := 123) hC dX12_alone_121 (Nat.le_of_ble_eq_true rfl) rfl rfl ?_
                  refine go_iinc (lc' := [(0, .ref (x_q X 0)), (2, .int x2), (4, .long x45), (6, .int (x28 + (1 : Int32)))]) (pc' := 126) hC dX12_alone_123 rfl ki_1 (Nat.le_of_ble_eq_true rfl) rfl rfl ?_
                  refine go_goto (tgt := 76) hC dX12_alone_126 (by decide) ?_
                  exact ih x45 (x28 + (1 : Int32)) x39 x40 a41 a42 a43 hf
                clear hk120_44
                obtain ⟨k119_52, hk119_52, hf⟩ := lk_e6 hf
                have jk119_52 : ∀ (x46 : Int64) (x47 : Int32) (x48 : Int32) (a49 : Nat → Int32) (a50 : Nat → Int32) (a51 : Nat → Int32), k119_52 x46 x47 x48 a49 a50 a51 = some o → Go X layM S 119 [(0, .ref (x_q X 0)), (2, .int x2), (6, .int x28)] [.long x46] g [(32, o3.1), (38, x47), (39, x48), (72, o3.2.1)] [] [(13, o3.2.2.1), (14, o3.2.2.2.1), (16, o3.2.2.2.2.1), (17, a49), (18, a50), (19, a51), (22, o18.1), (23, o18.2), (39, o3.2.2.2.2.2.1), (40, o3.2.2.2.2.2.2.1), (41, o3.2.2.2.2.2.2.2)] [(21, o19)] [] 0 0 := by
                  intro x46 x47 x48 a49 a50 a51 hf
                  have hf := hk119_52 x46 x47 x48 a49 a50 a51 hf
                  clear hk119_52
                  refine go_lconst (pc' := 120) hC dX12_alone_119 kl_0 rfl ?_
                  exact jk120_44 (0 : Int64) x46 x47 x48 a49 a50 a51 hf
                clear hk119_52
                refine go_if_le (tgt := 119) (pc' := 99) hC dX12_alone_96 (by decide) rfl (fun h56 => ?_) (fun h56 => ?_)
                · have hf := ite_t (lg_le.mp h56) hf
                  refine go_sub [0, 2, 6] rfl ?_
                  exact jk119_52 x27 x29 x30 a31 a32 a33 hf
                · have hf := ite_f (mt lg_le.mpr h56) hf
                  refine go_aload_n (pc' := 100) hC dX12_alone_99 rfl rfl ?_
                  refine go_iload (pc' := 102) hC dX12_alone_100 rfl rfl ?_
                  refine go_iconst (pc' := 103) hC dX12_alone_102 ki_0 rfl ?_
                  obtain ⟨o53, ho53, hf⟩ := bd_e hf
                  refine go_callV1 (pc' := 106) (As := [.int x28, .int (0 : Int32)]) (st := [.long x27]) (st' := [.int o53.1, .long x27]) (L1' := [(32, o3.1), (38, o53.2.1), (39, o53.2.2.1), (72, o3.2.1)]) (L2' := []) (L3' := [(13, o3.2.2.1), (14, o3.2.2.2.1), (16, o3.2.2.2.2.1), (17, o53.2.2.2.1), (18, o53.2.2.2.2.1), (19, o53.2.2.2.2.2), (22, o18.1), (23, o18.2), (39, o3.2.2.2.2.2.1), (40, o3.2.2.2.2.2.2.1), (41, o3.2.2.2.2.2.2.2)]) (L4' := [(21, o19)]) (L5' := []) (cells' := 0) (slots' := 0)  (b := 0) hC dX12_alone_103 ⟨mw_864, mw_867, mw_5, yd_yX12_isThrough, yp_yX12_isThrough, Nat.le_of_ble_eq_true rfl, Nat.le_of_ble_eq_true rfl, (Nat.le_of_ble_eq_true rfl), (Nat.le_of_ble_eq_true rfl)⟩ mw_865 mw_866 layM_0 rfl rfl rfl (Nat.le_of_ble_eq_true rfl) (c_X12_isThrough (x_l X) (x_D X) (x_q X) g (x_cy X) (x_z X) _ x28 (0 : Int32) o53 ho53) rfl rfl rfl rfl rfl rfl rfl rfl rfl rfl rfl rfl rfl rfl ?_
                  refine go_if_eq (tgt := 119) (pc' := 109) hC dX12_alone_106 (by decide) rfl (fun h55 => ?_) (fun h55 => ?_)
                  · have hf := ite_t h55 hf
                    refine go_sub [0, 2, 6] rfl ?_
                    exact jk119_52 x27 o53.2.1 o53.2.2.1 o53.2.2.2.1 o53.2.2.2.2.1 o53.2.2.2.2.2 hf
                  · have hf := ite_f h55 hf
                    refine go_aload_n (pc' := 110) hC dX12_alone_109 rfl rfl ?_
                    refine go_getq (pc' := 113) hC 0 45 layM_0 rfl rfl inlX12 (Nat.le_of_ble_eq_true rfl) mw_202 rfl dX12_alone_110 rfl ?_
                    refine go_iload (pc' := 115) hC dX12_alone_113 rfl rfl ?_
                    obtain ⟨h54, hf⟩ := gd_e hf
                    refine go_lald (f := o19) (pc' := 116) hC 21 layM_21 rfl rfl dX12_alone_115 (okx_in h54) rfl ?_
                    refine go_goto (tgt := 120) hC dX12_alone_116 (by decide) ?_
                    refine go_sub [0, 2, 6] rfl ?_
                    exact jk120_44 (o19 x28.toNatClampNeg) x27 o53.2.1 o53.2.2.1 o53.2.2.2.1 o53.2.2.2.2.1 o53.2.2.2.2.2 hf
          refine go_sub [0, 2, 4, 6] rfl ?_
          exact l76_58 fuel (0 : Int64) (0 : Int32) (S.1 38) (S.1 39) (S.2.2.1 17) (S.2.2.1 18) (S.2.2.1 19) hf
    clear hk47_5
    refine go_icmp_gt (tgt := 47) (pc' := 35) hC dX12_alone_32 (by decide) rfl (fun h63 => ?_) (fun h63 => ?_)
    · have hf := ite_t h63 hf
      exact jk47_5 (-1 : Int64) hf
    · have hf := ite_f h63 hf
      refine go_iload_n (pc' := 36) hC dX12_alone_35 rfl rfl ?_
      refine go_iconst (pc' := 37) hC dX12_alone_36 ki_1 rfl ?_
      refine go_icmp_ne (tgt := 47) (pc' := 40) hC dX12_alone_37 (by decide) rfl (fun h62 => ?_) (fun h62 => ?_)
      · have hf := ite_f h62 hf
        exact jk47_5 (-1 : Int64) hf
      · have hf := ite_t h62 hf
        refine go_aload_n (pc' := 41) hC dX12_alone_40 rfl rfl ?_
        refine go_iload_n (pc' := 42) hC dX12_alone_41 rfl rfl ?_
        obtain ⟨o61, ho61, hf⟩ := bd_e hf
        refine go_callV0 (pc' := 45) (As := [.int o3.1]) (st := []) (st' := [.long o61])    (b := 0) hC dX12_alone_42 ⟨mw_923, mw_926, mw_5, yd_yX12_power, yp_yX12_power, Nat.le_of_ble_eq_true rfl, Nat.le_of_ble_eq_true rfl, (Nat.le_of_ble_eq_true rfl), (Nat.le_of_ble_eq_true rfl)⟩ mw_924 mw_925 layM_0 rfl rfl rfl (Nat.le_of_ble_eq_true rfl) (c_X12_power (x_l X) (x_D X) (x_q X) g (x_cy X) (x_z X) _ o3.1 o61 ho61) rfl rfl ?_
        refine go_lstore (lc' := [(0, .ref (x_q X 0)), (1, .int p1), (2, .int x2), (3, .int o3.1), (4, .long o61)]) (pc' := 47) hC dX12_alone_45 (Nat.le_of_ble_eq_true rfl) rfl rfl ?_
        exact jk47_5 o61 hf
  · have hf := ite_t h64 hf
    refine go_ldc2 (pc' := 13) hC dX12_alone_10 mw_922 rfl ?_
    obtain rfl := Option.some.inj hf
    exact go_lret hC hQ dX12_alone_13 rfl rfl rfl (fun _ => rfl) rfl rfl
theorem dX12_alike_0 : decode cX12_alike 0 = .ok (.iload_n 1, 1) := by decide +kernel
theorem dX12_alike_1 : decode cX12_alike 1 = .ok (.i2l, 1) := by decide +kernel
theorem dX12_alike_2 : decode cX12_alike 2 = .ok (.lconst 0, 1) := by decide +kernel
theorem dX12_alike_3 : decode cX12_alike 3 = .ok (.ldc2_w 367, 3) := by decide +kernel
theorem dX12_alike_6 : decode cX12_alike 6 = .ok (.invokestatic 218, 3) := by decide +kernel
theorem dX12_alike_9 : decode cX12_alike 9 = .ok (.ifCond .ne 7, 3) := by decide +kernel
theorem dX12_alike_12 : decode cX12_alike 12 = .ok (.ldc2_w 373, 3) := by decide +kernel
theorem dX12_alike_15 : decode cX12_alike 15 = .ok (.lreturn, 1) := by decide +kernel
theorem dX12_alike_16 : decode cX12_alike 16 = .ok (.lconst 0, 1) := by decide +kernel
theorem dX12_alike_17 : decode cX12_alike 17 = .ok (.lstore_n 2, 1) := by decide +kernel
theorem dX12_alike_18 : decode cX12_alike 18 = .ok (.iconst 0, 1) := by decide +kernel
theorem dX12_alike_19 : decode cX12_alike 19 = .ok (.istore 4, 2) := by decide +kernel
theorem dX12_alike_21 : decode cX12_alike 21 = .ok (.iload 4, 2) := by decide +kernel
theorem dX12_alike_23 : decode cX12_alike 23 = .ok (.aload_n 0, 1) := by decide +kernel
theorem dX12_alike_24 : decode cX12_alike 24 = .ok (.getfield 279, 3) := by decide +kernel
theorem dX12_alike_27 : decode cX12_alike 27 = .ok (.if_icmp .gt 63, 3) := by decide +kernel
theorem dX12_alike_30 : decode cX12_alike 30 = .ok (.aload_n 0, 1) := by decide +kernel
theorem dX12_alike_31 : decode cX12_alike 31 = .ok (.iload 4, 2) := by decide +kernel
theorem dX12_alike_33 : decode cX12_alike 33 = .ok (.invokevirtual 502, 3) := by decide +kernel
theorem dX12_alike_36 : decode cX12_alike 36 = .ok (.i2l, 1) := by decide +kernel
theorem dX12_alike_37 : decode cX12_alike 37 = .ok (.lstore 5, 2) := by decide +kernel
theorem dX12_alike_39 : decode cX12_alike 39 = .ok (.iconst 0, 1) := by decide +kernel
theorem dX12_alike_40 : decode cX12_alike 40 = .ok (.istore 7, 2) := by decide +kernel
theorem dX12_alike_42 : decode cX12_alike 42 = .ok (.iload 7, 2) := by decide +kernel
theorem dX12_alike_44 : decode cX12_alike 44 = .ok (.aload_n 0, 1) := by decide +kernel
theorem dX12_alike_45 : decode cX12_alike 45 = .ok (.getfield 279, 3) := by decide +kernel
theorem dX12_alike_48 : decode cX12_alike 48 = .ok (.if_icmp .ge 31, 3) := by decide +kernel
theorem dX12_alike_51 : decode cX12_alike 51 = .ok (.lload 5, 2) := by decide +kernel
theorem dX12_alike_53 : decode cX12_alike 53 = .ok (.iload 7, 2) := by decide +kernel
theorem dX12_alike_55 : decode cX12_alike 55 = .ok (.iload 4, 2) := by decide +kernel
theorem dX12_alike_57 : decode cX12_alike 57 = .ok (.if_icmp .ge 8, 3) := by decide +kernel
theorem dX12_alike_60 : decode cX12_alike 60 = .ok (.iload_n 1, 1) := by decide +kernel
theorem dX12_alike_61 : decode cX12_alike 61 = .ok (.i2l, 1) := by decide +kernel
theorem dX12_alike_62 : decode cX12_alike 62 = .ok (.goto 8, 3) := by decide +kernel
theorem dX12_alike_65 : decode cX12_alike 65 = .ok (.bipush 16, 2) := by decide +kernel
theorem dX12_alike_67 : decode cX12_alike 67 = .ok (.iload_n 1, 1) := by decide +kernel
theorem dX12_alike_68 : decode cX12_alike 68 = .ok (.isub, 1) := by decide +kernel
theorem dX12_alike_69 : decode cX12_alike 69 = .ok (.i2l, 1) := by decide +kernel
theorem dX12_alike_70 : decode cX12_alike 70 = .ok (.lmul, 1) := by decide +kernel
theorem dX12_alike_71 : decode cX12_alike 71 = .ok (.lstore 5, 2) := by decide +kernel
theorem dX12_alike_73 : decode cX12_alike 73 = .ok (.iinc 7 1, 3) := by decide +kernel
theorem dX12_alike_76 : decode cX12_alike 76 = .ok (.goto (-34), 3) := by decide +kernel
theorem dX12_alike_79 : decode cX12_alike 79 = .ok (.lload_n 2, 1) := by decide +kernel
theorem dX12_alike_80 : decode cX12_alike 80 = .ok (.lload 5, 2) := by decide +kernel
theorem dX12_alike_82 : decode cX12_alike 82 = .ok (.ladd, 1) := by decide +kernel
theorem dX12_alike_83 : decode cX12_alike 83 = .ok (.lstore_n 2, 1) := by decide +kernel
theorem dX12_alike_84 : decode cX12_alike 84 = .ok (.iinc 4 1, 3) := by decide +kernel
theorem dX12_alike_87 : decode cX12_alike 87 = .ok (.goto (-66), 3) := by decide +kernel
theorem dX12_alike_90 : decode cX12_alike 90 = .ok (.lload_n 2, 1) := by decide +kernel
theorem dX12_alike_91 : decode cX12_alike 91 = .ok (.lreturn, 1) := by decide +kernel
abbrev o_X12_alike : Type := Int64 × Int32 × Int32 × Int32 × (Nat → Int32) × (Nat → Int32) × (Nat → Int32) × (Nat → Int32)
def f_X12_alike_L42 (S : wd_W) (p1 : Int32) (x3 : Int32) (k79_15 : (Int64) → (Option o_X12_alike)) (r19 : (Int64) → (Int32) → (Option o_X12_alike)) (x17 : Int64) (x18 : Int32) : Option o_X12_alike :=
if (S.1 21) ≤ x18 then (
k79_15 x17) else (
lk (fun x20 x21 =>
lz (x21 * x20) fun x23 =>
r19 x23 (x18 + (1 : Int32))) fun k70_22 =>
if x3 ≤ x18 then (
k70_22 (((16 : Int32) - p1).toInt64) x17) else (
k70_22 p1.toInt64 x17))
def f_X12_alike_L21 (S : wd_W) (p1 : Int32) (r11 : (Int64) → (Int32) → (Int32) → (Int32) → (Int32) → (Nat → Int32) → (Nat → Int32) → (Nat → Int32) → (Nat → Int32) → (Option o_X12_alike)) (x2 : Int64) (x3 : Int32) (x4 : Int32) (x5 : Int32) (x6 : Int32) (a7 : Nat → Int32) (a8 : Nat → Int32) (a9 : Nat → Int32) (a10 : Nat → Int32) : Option o_X12_alike :=
if (S.1 21) < x3 then (
some (x2, x4, x5, x6, a7, a8, a9, a10)) else (
bd (f_X12_row (wd_o S [(38, x4), (39, x5), (44, x6)] [] [(17, a7), (18, a8), (19, a9), (20, a10)] [] []) x3) fun o12 =>
lz (o12.1.toInt64) fun x13 =>
lk (fun x14 =>
lz (x2 + x14) fun x16 =>
r11 x16 (x3 + (1 : Int32)) o12.2.1 o12.2.2.1 o12.2.2.2.1 o12.2.2.2.2.1 o12.2.2.2.2.2.1 o12.2.2.2.2.2.2.1 o12.2.2.2.2.2.2.2) fun k79_15 =>
it2 (f_X12_alike_L42 S p1 x3 k79_15) fuel x13 (0 : Int32))
def f_X12_alike (S : wd_W) (p1 : Int32) : Option o_X12_alike :=
bd (f_X12_in p1.toInt64 (0 : Int64) (16 : Int64)) fun o1 =>
if o1 = 0 then (
some ((-1 : Int64), (S.1 38), (S.1 39), (S.1 44), (S.2.2.1 17), (S.2.2.1 18), (S.2.2.1 19), (S.2.2.1 20))) else (
it9 (f_X12_alike_L21 S p1) fuel (0 : Int64) (0 : Int32) (S.1 38) (S.1 39) (S.1 44) (S.2.2.1 17) (S.2.2.1 18) (S.2.2.1 19) (S.2.2.1 20))
set_option maxRecDepth 100000 in
set_option maxHeartbeats 4000000 in
theorem c_X12_alike (l : Launch) (D : va_G) (q g : Nat → Nat) (cy : Nat → ClassId) (z : (Nat → Nat) × (Nat → Nat) × Nat) (S : wd_W) (p1 : Int32) (o : o_X12_alike) (hf : f_X12_alike S p1 = some o) : MX layM l yX12_alike cX12_alike 8 (some .long) ({ frames := 6, cells := 0, slots := 0, locals := 139 } : Room) D q g cy z [.ref (q 0), .int p1] S false (some (.long o.1)) (wd_o S [(38, o.2.1), (39, o.2.2.1), (44, o.2.2.2.1)] [] [(17, o.2.2.2.2.1), (18, o.2.2.2.2.2.1), (19, o.2.2.2.2.2.2.1), (20, o.2.2.2.2.2.2.2)] [] []) 0 0 := by
  refine mx_of (own := RX12) (lc := [(0, .ref (q 0)), (1, .int p1)]) (by decide +kernel) rfl layM_ok (Nat.le_of_ble_eq_true rfl) rfl ?_
  intro X hXl hXq hXz hC hQ
  subst hXl; subst hXq; subst hXz
  unfold f_X12_alike at hf
  refine go_keys (L1 := [(38, (S.1 38)), (39, (S.1 39)), (44, (S.1 44))]) (L2 := []) (L3 := [(17, (S.2.2.1 17)), (18, (S.2.2.1 18)), (19, (S.2.2.1 19)), (20, (S.2.2.1 20))]) (L4 := []) (L5 := []) [38, 39, 44] [] [17, 18, 19, 20] [] [] rfl rfl rfl rfl rfl ?_
  refine go_iload_n (pc' := 1) hC dX12_alike_0 rfl rfl ?_
  refine go_i2l (pc' := 2) hC dX12_alike_1 rfl ?_
  refine go_lconst (pc' := 3) hC dX12_alike_2 kl_0 rfl ?_
  refine go_ldc2 (pc' := 6) hC dX12_alike_3 mw_1038 rfl ?_
  obtain ⟨o1, ho1, hf⟩ := bd_e hf
  refine go_callS0 (pc' := 9) (As := [.long p1.toInt64, .long (0 : Int64), .long (16 : Int64)]) (st := []) (st' := [.int o1])    hC dX12_alike_6 ⟨mw_525, mw_527, mw_5, yd_yX12_in, yp_yX12_in, Nat.le_of_ble_eq_true rfl, Nat.le_of_ble_eq_true rfl, (Nat.le_of_ble_eq_true rfl), (Nat.le_of_ble_eq_true rfl)⟩ mw_526 rfl rfl (Nat.le_of_ble_eq_true rfl) (c_X12_in (x_l X) (x_D X) (x_q X) g (x_cy X) (x_z X) _ p1.toInt64 (0 : Int64) (16 : Int64) o1 ho1) rfl rfl ?_
  refine go_if_ne (tgt := 16) (pc' := 12) hC dX12_alike_9 (by decide) rfl (fun h29 => ?_) (fun h29 => ?_)
  · have hf := ite_f h29 hf
    refine go_lconst (pc' := 17) hC dX12_alike_16 kl_0 rfl ?_
    refine go_lstore_n (lc' := [(0, .ref (x_q X 0)), (1, .int p1), (2, .long (0 : Int64))]) (pc' := 18) hC dX12_alike_17 (Nat.le_of_ble_eq_true rfl) rfl rfl ?_
    refine go_iconst (pc' := 19) hC dX12_alike_18 ki_0 rfl ?_
    refine go_istore (lc' := [(0, .ref (x_q X 0)), (1, .int p1), (2, .long (0 : Int64)), (4, .int (0 : Int32))]) (pc' := 21) hC dX12_alike_19 (Nat.le_of_ble_eq_true rfl) rfl rfl ?_
    have l21_28 : ∀ (nn : Nat) (x2 : Int64) (x3 : Int32) (x4 : Int32) (x5 : Int32) (x6 : Int32) (a7 : Nat → Int32) (a8 : Nat → Int32) (a9 : Nat → Int32) (a10 : Nat → Int32), it9 (f_X12_alike_L21 S p1) nn x2 x3 x4 x5 x6 a7 a8 a9 a10 = some o → Go X layM S 21 [(0, .ref (x_q X 0)), (1, .int p1), (2, .long x2), (4, .int x3)] [] g [(38, x4), (39, x5), (44, x6)] [] [(17, a7), (18, a8), (19, a9), (20, a10)] [] [] 0 0 := by
      intro nn
      induction nn with
      | zero =>
        intro x2 x3 x4 x5 x6 a7 a8 a9 a10 hf
        exact none_no hf
      | succ nn ih =>
        intro x2 x3 x4 x5 x6 a7 a8 a9 a10 hf
        have hf : f_X12_alike_L21 S p1 (it9 (f_X12_alike_L21 S p1) nn) x2 x3 x4 x5 x6 a7 a8 a9 a10 = some o := hf
        generalize it9 (f_X12_alike_L21 S p1) nn = r11 at ih hf
        unfold f_X12_alike_L21 at hf
        refine go_iload (pc' := 23) hC dX12_alike_21 rfl rfl ?_
        refine go_aload_n (pc' := 24) hC dX12_alike_23 rfl rfl ?_
        refine go_geti (v := (S.1 21)) (pc' := 27) hC 0 21 layM_0 rfl rfl inlX12 (Nat.le_of_ble_eq_true rfl) mw_247 rfl dX12_alike_24 rfl rfl ?_
        refine go_icmp_gt (tgt := 90) (pc' := 30) hC dX12_alike_27 (by decide) rfl (fun h27 => ?_) (fun h27 => ?_)
        · have hf := ite_t h27 hf
          refine go_lload_n (pc' := 91) hC dX12_alike_90 rfl rfl ?_
          obtain rfl := Option.some.inj hf
          exact go_lret hC hQ dX12_alike_91 rfl rfl rfl (fun _ => rfl) rfl rfl
        · have hf := ite_f h27 hf
          refine go_aload_n (pc' := 31) hC dX12_alike_30 rfl rfl ?_
          refine go_iload (pc' := 33) hC dX12_alike_31 rfl rfl ?_
          obtain ⟨o12, ho12, hf⟩ := bd_e hf
          refine go_callV1 (pc' := 36) (As := [.int x3]) (st := []) (st' := [.int o12.1]) (L1' := [(38, o12.2.1), (39, o12.2.2.1), (44, o12.2.2.2.1)]) (L2' := []) (L3' := [(17, o12.2.2.2.2.1), (18, o12.2.2.2.2.2.1), (19, o12.2.2.2.2.2.2.1), (20, o12.2.2.2.2.2.2.2)]) (L4' := []) (L5' := []) (cells' := 0) (slots' := 0)  (b := 0) hC dX12_alike_33 ⟨mw_1442, mw_1078, mw_5, yd_yX12_row, yp_yX12_row, Nat.le_of_ble_eq_true rfl, Nat.le_of_ble_eq_true rfl, (Nat.le_of_ble_eq_true rfl), (Nat.le_of_ble_eq_true rfl)⟩ mw_1076 mw_1077 layM_0 rfl rfl rfl (Nat.le_of_ble_eq_true rfl) (c_X12_row (x_l X) (x_D X) (x_q X) g (x_cy X) (x_z X) _ x3 o12 ho12) rfl rfl rfl rfl rfl rfl rfl rfl rfl rfl rfl rfl rfl rfl ?_
          refine go_i2l (pc' := 37) hC dX12_alike_36 rfl ?_
          refine go_namel (fun x13 hx => ?_)
          have hf := lz_r hx hf
          clear hx
          refine go_lstore (lc' := [(0, .ref (x_q X 0)), (1, .int p1), (2, .long x2), (4, .int x3), (5, .long x13)]) (pc' := 39) hC dX12_alike_37 (Nat.le_of_ble_eq_true rfl) rfl rfl ?_
          refine go_iconst (pc' := 40) hC dX12_alike_39 ki_0 rfl ?_
          refine go_istore (lc' := [(0, .ref (x_q X 0)), (1, .int p1), (2, .long x2), (4, .int x3), (5, .long x13), (7, .int (0 : Int32))]) (pc' := 42) hC dX12_alike_40 (Nat.le_of_ble_eq_true rfl) rfl rfl ?_
          obtain ⟨k79_15, hk79_15, hf⟩ := lk_e1 hf
          have jk79_15 : ∀ (x14 : Int64), k79_15 x14 = some o → Go X layM S 79 [(0, .ref (x_q X 0)), (1, .int p1), (2, .long x2), (4, .int x3), (5, .long x14)] [] g [(38, o12.2.1), (39, o12.2.2.1), (44, o12.2.2.2.1)] [] [(17, o12.2.2.2.2.1), (18, o12.2.2.2.2.2.1), (19, o12.2.2.2.2.2.2.1), (20, o12.2.2.2.2.2.2.2)] [] [] 0 0 := by
            intro x14 hf
            have hf := hk79_15 x14 hf
            clear hk79_15
            refine go_lload_n (pc' := 80) hC dX12_alike_79 rfl rfl ?_
            refine go_lload (pc' := 82) hC dX12_alike_80 rfl rfl ?_
            refine go_ladd (pc' := 83) hC dX12_alike_82 rfl ?_
            refine go_namel (fun x16 hx => ?_)
            have hf := lz_r hx hf
            clear hx
            refine go_lstore_n (lc' := [(0, .ref (x_q X 0)), (1, .int p1), (2, .long x16), (4, .int x3), (5, .long x14)]) (pc' := 84) hC dX12_alike_83 (Nat.le_of_ble_eq_true rfl) rfl rfl ?_
            refine go_iinc (lc' := [(0, .ref (x_q X 0)), (1, .int p1), (2, .long x16), (4, .int (x3 + (1 : Int32))), (5, .long x14)]) (pc' := 87) hC dX12_alike_84 rfl ki_1 (Nat.le_of_ble_eq_true rfl) rfl rfl ?_
            refine go_goto (tgt := 21) hC dX12_alike_87 (by decide) ?_
            refine go_sub [0, 1, 2, 4] rfl ?_
            exact ih x16 (x3 + (1 : Int32)) o12.2.1 o12.2.2.1 o12.2.2.2.1 o12.2.2.2.2.1 o12.2.2.2.2.2.1 o12.2.2.2.2.2.2.1 o12.2.2.2.2.2.2.2 hf
          clear hk79_15
          have l42_26 : ∀ (nn : Nat) (x17 : Int64) (x18 : Int32), it2 (f_X12_alike_L42 S p1 x3 k79_15) nn x17 x18 = some o → Go X layM S 42 [(0, .ref (x_q X 0)), (1, .int p1), (2, .long x2), (4, .int x3), (5, .long x17), (7, .int x18)] [] g [(38, o12.2.1), (39, o12.2.2.1), (44, o12.2.2.2.1)] [] [(17, o12.2.2.2.2.1), (18, o12.2.2.2.2.2.1), (19, o12.2.2.2.2.2.2.1), (20, o12.2.2.2.2.2.2.2)] [] [] 0 0 := by
            intro nn
            induction nn with
            | zero =>
              intro x17 x18 hf
              exact none_no hf
            | succ nn ih =>
              intro x17 x18 hf
              have hf : f_X12_alike_L42 S p1 x3 k79_15 (it2 (f_X12_alike_L42 S p1 x3 k79_15) nn) x17 x18 = some o := hf
              generalize it2 (f_X12_alike_L42 S p1 x3 k79_15) nn = r19 at ih hf
              unfold f_X12_alike_L42 at hf
              refine go_iload (pc' := 44) hC dX12_alike_42 rfl rfl ?_
              refine go_aload_n (pc' := 45) hC dX12_alike_44 rfl rfl ?_
              refine go_geti (v := (S.1 21)) (pc' := 48) hC 0 21 layM_0 rfl rfl inlX12 (Nat.le_of_ble_eq_true rfl) mw_247 rfl dX12_alike_45 rfl rfl ?_
              refine go_icmp_ge (tgt := 79) (pc' := 51) hC dX12_alike_48 (by decide) rfl (fun h25 => ?_) (fun h25 => ?_)
              · have hf := ite_t h25 hf
                refine go_sub [0, 1, 2, 4, 5] rfl ?_
                exact jk79_15 x17 hf
              · have hf := ite_f h25 hf
                refine go_lload (pc' := 53) hC dX12_alike_51 rfl rfl ?_
                refine go_iload (pc' := 55) hC dX12_alike_53 rfl rfl ?_
                refine go_iload (pc' := 57) hC dX12_alike_55 rfl rfl ?_
                obtain ⟨k70_22, hk70_22, hf⟩ := lk_e2 hf
                have jk70_22 : ∀ (x20 : Int64) (x21 : Int64), k70_22 x20 x21 = some o → Go X layM S 70 [(0, .ref (x_q X 0)), (1, .int p1), (2, .long x2), (4, .int x3), (7, .int x18)] [.long x20, .long x21] g [(38, o12.2.1), (39, o12.2.2.1), (44, o12.2.2.2.1)] [] [(17, o12.2.2.2.2.1), (18, o12.2.2.2.2.2.1), (19, o12.2.2.2.2.2.2.1), (20, o12.2.2.2.2.2.2.2)] [] [] 0 0 := by
                  intro x20 x21 hf
                  have hf := hk70_22 x20 x21 hf
                  clear hk70_22
                  refine go_lmul (pc' := 71) hC dX12_alike_70 rfl ?_
                  refine go_namel (fun x23 hx => ?_)
                  have hf := lz_r hx hf
                  clear hx
                  refine go_lstore (lc' := [(0, .ref (x_q X 0)), (1, .int p1), (2, .long x2), (4, .int x3), (5, .long x23), (7, .int x18)]) (pc' := 73) hC dX12_alike_71 (Nat.le_of_ble_eq_true rfl) rfl rfl ?_
                  refine go_iinc (lc' := [(0, .ref (x_q X 0)), (1, .int p1), (2, .long x2), (4, .int x3), (5, .long x23), (7, .int (x18 + (1 : Int32)))]) (pc' := 76) hC dX12_alike_73 rfl ki_1 (Nat.le_of_ble_eq_true rfl) rfl rfl ?_
                  refine go_goto (tgt := 42) hC dX12_alike_76 (by decide) ?_
                  exact ih x23 (x18 + (1 : Int32)) hf
                clear hk70_22
                refine go_icmp_ge (tgt := 65) (pc' := 60) hC dX12_alike_57 (by decide) rfl (fun h24 => ?_) (fun h24 => ?_)
                · have hf := ite_t h24 hf
                  refine go_bipush (pc' := 67) hC dX12_alike_65 kb_16 rfl ?_
                  refine go_iload_n (pc' := 68) hC dX12_alike_67 rfl rfl ?_
                  refine go_isub (pc' := 69) hC dX12_alike_68 rfl ?_
                  refine go_i2l (pc' := 70) hC dX12_alike_69 rfl ?_
                  refine go_sub [0, 1, 2, 4, 7] rfl ?_
                  exact jk70_22 (((16 : Int32) - p1).toInt64) x17 hf
                · have hf := ite_f h24 hf
                  refine go_iload_n (pc' := 61) hC dX12_alike_60 rfl rfl ?_
                  refine go_i2l (pc' := 62) hC dX12_alike_61 rfl ?_
                  refine go_goto (tgt := 70) hC dX12_alike_62 (by decide) ?_
                  refine go_sub [0, 1, 2, 4, 7] rfl ?_
                  exact jk70_22 p1.toInt64 x17 hf
          exact l42_26 fuel x13 (0 : Int32) hf
    exact l21_28 fuel (0 : Int64) (0 : Int32) (S.1 38) (S.1 39) (S.1 44) (S.2.2.1 17) (S.2.2.1 18) (S.2.2.1 19) (S.2.2.1 20) hf
  · have hf := ite_t h29 hf
    refine go_ldc2 (pc' := 15) hC dX12_alike_12 mw_922 rfl ?_
    obtain rfl := Option.some.inj hf
    exact go_lret hC hQ dX12_alike_15 rfl rfl rfl (fun _ => rfl) rfl rfl
theorem dX12_even_0 : decode cX12_even 0 = .ok (.iconst 1, 1) := by decide +kernel
theorem dX12_even_1 : decode cX12_even 1 = .ok (.istore_n 1, 1) := by decide +kernel
theorem dX12_even_2 : decode cX12_even 2 = .ok (.iload_n 1, 1) := by decide +kernel
theorem dX12_even_3 : decode cX12_even 3 = .ok (.aload_n 0, 1) := by decide +kernel
theorem dX12_even_4 : decode cX12_even 4 = .ok (.getfield 279, 3) := by decide +kernel
theorem dX12_even_7 : decode cX12_even 7 = .ok (.if_icmp .ge 45, 3) := by decide +kernel
theorem dX12_even_10 : decode cX12_even 10 = .ok (.aload_n 0, 1) := by decide +kernel
theorem dX12_even_11 : decode cX12_even 11 = .ok (.iload_n 1, 1) := by decide +kernel
theorem dX12_even_12 : decode cX12_even 12 = .ok (.invokevirtual 502, 3) := by decide +kernel
theorem dX12_even_15 : decode cX12_even 15 = .ok (.i2l, 1) := by decide +kernel
theorem dX12_even_16 : decode cX12_even 16 = .ok (.aload_n 0, 1) := by decide +kernel
theorem dX12_even_17 : decode cX12_even 17 = .ok (.iload_n 1, 1) := by decide +kernel
theorem dX12_even_18 : decode cX12_even 18 = .ok (.invokevirtual 502, 3) := by decide +kernel
theorem dX12_even_21 : decode cX12_even 21 = .ok (.i2l, 1) := by decide +kernel
theorem dX12_even_22 : decode cX12_even 22 = .ok (.lmul, 1) := by decide +kernel
theorem dX12_even_23 : decode cX12_even 23 = .ok (.aload_n 0, 1) := by decide +kernel
theorem dX12_even_24 : decode cX12_even 24 = .ok (.iload_n 1, 1) := by decide +kernel
theorem dX12_even_25 : decode cX12_even 25 = .ok (.iconst 1, 1) := by decide +kernel
theorem dX12_even_26 : decode cX12_even 26 = .ok (.isub, 1) := by decide +kernel
theorem dX12_even_27 : decode cX12_even 27 = .ok (.invokevirtual 502, 3) := by decide +kernel
theorem dX12_even_30 : decode cX12_even 30 = .ok (.i2l, 1) := by decide +kernel
theorem dX12_even_31 : decode cX12_even 31 = .ok (.aload_n 0, 1) := by decide +kernel
theorem dX12_even_32 : decode cX12_even 32 = .ok (.iload_n 1, 1) := by decide +kernel
theorem dX12_even_33 : decode cX12_even 33 = .ok (.iconst 1, 1) := by decide +kernel
theorem dX12_even_34 : decode cX12_even 34 = .ok (.iadd, 1) := by decide +kernel
theorem dX12_even_35 : decode cX12_even 35 = .ok (.invokevirtual 502, 3) := by decide +kernel
theorem dX12_even_38 : decode cX12_even 38 = .ok (.i2l, 1) := by decide +kernel
theorem dX12_even_39 : decode cX12_even 39 = .ok (.lmul, 1) := by decide +kernel
theorem dX12_even_40 : decode cX12_even 40 = .ok (.lcmp, 1) := by decide +kernel
theorem dX12_even_41 : decode cX12_even 41 = .ok (.ifCond .ge 5, 3) := by decide +kernel
theorem dX12_even_44 : decode cX12_even 44 = .ok (.iconst 0, 1) := by decide +kernel
theorem dX12_even_45 : decode cX12_even 45 = .ok (.ireturn, 1) := by decide +kernel
theorem dX12_even_46 : decode cX12_even 46 = .ok (.iinc 1 1, 3) := by decide +kernel
theorem dX12_even_49 : decode cX12_even 49 = .ok (.goto (-47), 3) := by decide +kernel
theorem dX12_even_52 : decode cX12_even 52 = .ok (.iconst 1, 1) := by decide +kernel
theorem dX12_even_53 : decode cX12_even 53 = .ok (.ireturn, 1) := by decide +kernel
abbrev o_X12_even : Type := Int32 × Int32 × Int32 × Int32 × (Nat → Int32) × (Nat → Int32) × (Nat → Int32) × (Nat → Int32)
def f_X12_even_L2 (S : wd_W) (r9 : (Int32) → (Int32) → (Int32) → (Int32) → (Nat → Int32) → (Nat → Int32) → (Nat → Int32) → (Nat → Int32) → (Option o_X12_even)) (x1 : Int32) (x2 : Int32) (x3 : Int32) (x4 : Int32) (a5 : Nat → Int32) (a6 : Nat → Int32) (a7 : Nat → Int32) (a8 : Nat → Int32) : Option o_X12_even :=
if (S.1 21) ≤ x1 then (
some ((1 : Int32), x2, x3, x4, a5, a6, a7, a8)) else (
bd (f_X12_row (wd_o S [(38, x2), (39, x3), (44, x4)] [] [(17, a5), (18, a6), (19, a7), (20, a8)] [] []) x1) fun o10 =>
bd (f_X12_row (wd_o S [(38, o10.2.1), (39, o10.2.2.1), (44, o10.2.2.2.1)] [] [(17, o10.2.2.2.2.1), (18, o10.2.2.2.2.2.1), (19, o10.2.2.2.2.2.2.1), (20, o10.2.2.2.2.2.2.2)] [] []) x1) fun o11 =>
bd (f_X12_row (wd_o S [(38, o11.2.1), (39, o11.2.2.1), (44, o11.2.2.2.1)] [] [(17, o11.2.2.2.2.1), (18, o11.2.2.2.2.2.1), (19, o11.2.2.2.2.2.2.1), (20, o11.2.2.2.2.2.2.2)] [] []) (x1 - (1 : Int32))) fun o12 =>
bd (f_X12_row (wd_o S [(38, o12.2.1), (39, o12.2.2.1), (44, o12.2.2.2.1)] [] [(17, o12.2.2.2.2.1), (18, o12.2.2.2.2.2.1), (19, o12.2.2.2.2.2.2.1), (20, o12.2.2.2.2.2.2.2)] [] []) (x1 + (1 : Int32))) fun o13 =>
if (o12.1.toInt64 * o13.1.toInt64) ≤ (o10.1.toInt64 * o11.1.toInt64) then (
r9 (x1 + (1 : Int32)) o13.2.1 o13.2.2.1 o13.2.2.2.1 o13.2.2.2.2.1 o13.2.2.2.2.2.1 o13.2.2.2.2.2.2.1 o13.2.2.2.2.2.2.2) else (
some ((0 : Int32), o13.2.1, o13.2.2.1, o13.2.2.2.1, o13.2.2.2.2.1, o13.2.2.2.2.2.1, o13.2.2.2.2.2.2.1, o13.2.2.2.2.2.2.2)))
def f_X12_even (S : wd_W) : Option o_X12_even :=
it8 (f_X12_even_L2 S) fuel (1 : Int32) (S.1 38) (S.1 39) (S.1 44) (S.2.2.1 17) (S.2.2.1 18) (S.2.2.1 19) (S.2.2.1 20)
set_option maxRecDepth 100000 in
set_option maxHeartbeats 4000000 in
theorem c_X12_even (l : Launch) (D : va_G) (q g : Nat → Nat) (cy : Nat → ClassId) (z : (Nat → Nat) × (Nat → Nat) × Nat) (S : wd_W) (o : o_X12_even) (hf : f_X12_even S = some o) : MX layM l yX12_even cX12_even 2 (some .int) ({ frames := 6, cells := 0, slots := 0, locals := 139 } : Room) D q g cy z [.ref (q 0)] S false (some (.int o.1)) (wd_o S [(38, o.2.1), (39, o.2.2.1), (44, o.2.2.2.1)] [] [(17, o.2.2.2.2.1), (18, o.2.2.2.2.2.1), (19, o.2.2.2.2.2.2.1), (20, o.2.2.2.2.2.2.2)] [] []) 0 0 := by
  refine mx_of (own := RX12) (lc := [(0, .ref (q 0))]) (by decide +kernel) rfl layM_ok (Nat.le_of_ble_eq_true rfl) rfl ?_
  intro X hXl hXq hXz hC hQ
  subst hXl; subst hXq; subst hXz
  unfold f_X12_even at hf
  refine go_keys (L1 := [(38, (S.1 38)), (39, (S.1 39)), (44, (S.1 44))]) (L2 := []) (L3 := [(17, (S.2.2.1 17)), (18, (S.2.2.1 18)), (19, (S.2.2.1 19)), (20, (S.2.2.1 20))]) (L4 := []) (L5 := []) [38, 39, 44] [] [17, 18, 19, 20] [] [] rfl rfl rfl rfl rfl ?_
  refine go_iconst (pc' := 1) hC dX12_even_0 ki_1 rfl ?_
  refine go_istore_n (lc' := [(0, .ref (x_q X 0)), (1, .int (1 : Int32))]) (pc' := 2) hC dX12_even_1 (Nat.le_of_ble_eq_true rfl) rfl rfl ?_
  have l2_16 : ∀ (nn : Nat) (x1 : Int32) (x2 : Int32) (x3 : Int32) (x4 : Int32) (a5 : Nat → Int32) (a6 : Nat → Int32) (a7 : Nat → Int32) (a8 : Nat → Int32), it8 (f_X12_even_L2 S) nn x1 x2 x3 x4 a5 a6 a7 a8 = some o → Go X layM S 2 [(0, .ref (x_q X 0)), (1, .int x1)] [] g [(38, x2), (39, x3), (44, x4)] [] [(17, a5), (18, a6), (19, a7), (20, a8)] [] [] 0 0 := by
    intro nn
    induction nn with
    | zero =>
      intro x1 x2 x3 x4 a5 a6 a7 a8 hf
      exact none_no hf
    | succ nn ih =>
      intro x1 x2 x3 x4 a5 a6 a7 a8 hf
      have hf : f_X12_even_L2 S (it8 (f_X12_even_L2 S) nn) x1 x2 x3 x4 a5 a6 a7 a8 = some o := hf
      generalize it8 (f_X12_even_L2 S) nn = r9 at ih hf
      unfold f_X12_even_L2 at hf
      refine go_iload_n (pc' := 3) hC dX12_even_2 rfl rfl ?_
      refine go_aload_n (pc' := 4) hC dX12_even_3 rfl rfl ?_
      refine go_geti (v := (S.1 21)) (pc' := 7) hC 0 21 layM_0 rfl rfl inlX12 (Nat.le_of_ble_eq_true rfl) mw_247 rfl dX12_even_4 rfl rfl ?_
      refine go_icmp_ge (tgt := 52) (pc' := 10) hC dX12_even_7 (by decide) rfl (fun h15 => ?_) (fun h15 => ?_)
      · have hf := ite_t h15 hf
        refine go_iconst (pc' := 53) hC dX12_even_52 ki_1 rfl ?_
        obtain rfl := Option.some.inj hf
        exact go_iret hC hQ dX12_even_53 rfl rfl rfl rfl (fun _ => rfl) rfl rfl
      · have hf := ite_f h15 hf
        refine go_aload_n (pc' := 11) hC dX12_even_10 rfl rfl ?_
        refine go_iload_n (pc' := 12) hC dX12_even_11 rfl rfl ?_
        obtain ⟨o10, ho10, hf⟩ := bd_e hf
        refine go_callV1 (pc' := 15) (As := [.int x1]) (st := []) (st' := [.int o10.1]) (L1' := [(38, o10.2.1), (39, o10.2.2.1), (44, o10.2.2.2.1)]) (L2' := []) (L3' := [(17, o10.2.2.2.2.1), (18, o10.2.2.2.2.2.1), (19, o10.2.2.2.2.2.2.1), (20, o10.2.2.2.2.2.2.2)]) (L4' := []) (L5' := []) (cells' := 0) (slots' := 0)  (b := 0) hC dX12_even_12 ⟨mw_1442, mw_1078, mw_5, yd_yX12_row, yp_yX12_row, Nat.le_of_ble_eq_true rfl, Nat.le_of_ble_eq_true rfl, (Nat.le_of_ble_eq_true rfl), (Nat.le_of_ble_eq_true rfl)⟩ mw_1076 mw_1077 layM_0 rfl rfl rfl (Nat.le_of_ble_eq_true rfl) (c_X12_row (x_l X) (x_D X) (x_q X) g (x_cy X) (x_z X) _ x1 o10 ho10) rfl rfl rfl rfl rfl rfl rfl rfl rfl rfl rfl rfl rfl rfl ?_
        refine go_i2l (pc' := 16) hC dX12_even_15 rfl ?_
        refine go_aload_n (pc' := 17) hC dX12_even_16 rfl rfl ?_
        refine go_iload_n (pc' := 18) hC dX12_even_17 rfl rfl ?_
        obtain ⟨o11, ho11, hf⟩ := bd_e hf
        refine go_callV1 (pc' := 21) (As := [.int x1]) (st := [.long o10.1.toInt64]) (st' := [.int o11.1, .long o10.1.toInt64]) (L1' := [(38, o11.2.1), (39, o11.2.2.1), (44, o11.2.2.2.1)]) (L2' := []) (L3' := [(17, o11.2.2.2.2.1), (18, o11.2.2.2.2.2.1), (19, o11.2.2.2.2.2.2.1), (20, o11.2.2.2.2.2.2.2)]) (L4' := []) (L5' := []) (cells' := 0) (slots' := 0)  (b := 0) hC dX12_even_18 ⟨mw_1442, mw_1078, mw_5, yd_yX12_row, yp_yX12_row, Nat.le_of_ble_eq_true rfl, Nat.le_of_ble_eq_true rfl, (Nat.le_of_ble_eq_true rfl), (Nat.le_of_ble_eq_true rfl)⟩ mw_1076 mw_1077 layM_0 rfl rfl rfl (Nat.le_of_ble_eq_true rfl) (c_X12_row (x_l X) (x_D X) (x_q X) g (x_cy X) (x_z X) _ x1 o11 ho11) rfl rfl rfl rfl rfl rfl rfl rfl rfl rfl rfl rfl rfl rfl ?_
        refine go_i2l (pc' := 22) hC dX12_even_21 rfl ?_
        refine go_lmul (pc' := 23) hC dX12_even_22 rfl ?_
        refine go_aload_n (pc' := 24) hC dX12_even_23 rfl rfl ?_
        refine go_iload_n (pc' := 25) hC dX12_even_24 rfl rfl ?_
        refine go_iconst (pc' := 26) hC dX12_even_25 ki_1 rfl ?_
        refine go_isub (pc' := 27) hC dX12_even_26 rfl ?_
        obtain ⟨o12, ho12, hf⟩ := bd_e hf
        refine go_callV1 (pc' := 30) (As := [.int (x1 - (1 : Int32))]) (st := [.long (o10.1.toInt64 * o11.1.toInt64)]) (st' := [.int o12.1, .long (o10.1.toInt64 * o11.1.toInt64)]) (L1' := [(38, o12.2.1), (39, o12.2.2.1), (44, o12.2.2.2.1)]) (L2' := []) (L3' := [(17, o12.2.2.2.2.1), (18, o12.2.2.2.2.2.1), (19, o12.2.2.2.2.2.2.1), (20, o12.2.2.2.2.2.2.2)]) (L4' := []) (L5' := []) (cells' := 0) (slots' := 0)  (b := 0) hC dX12_even_27 ⟨mw_1442, mw_1078, mw_5, yd_yX12_row, yp_yX12_row, Nat.le_of_ble_eq_true rfl, Nat.le_of_ble_eq_true rfl, (Nat.le_of_ble_eq_true rfl), (Nat.le_of_ble_eq_true rfl)⟩ mw_1076 mw_1077 layM_0 rfl rfl rfl (Nat.le_of_ble_eq_true rfl) (c_X12_row (x_l X) (x_D X) (x_q X) g (x_cy X) (x_z X) _ (x1 - (1 : Int32)) o12 ho12) rfl rfl rfl rfl rfl rfl rfl rfl rfl rfl rfl rfl rfl rfl ?_
        refine go_i2l (pc' := 31) hC dX12_even_30 rfl ?_
        refine go_aload_n (pc' := 32) hC dX12_even_31 rfl rfl ?_
        refine go_iload_n (pc' := 33) hC dX12_even_32 rfl rfl ?_
        refine go_iconst (pc' := 34) hC dX12_even_33 ki_1 rfl ?_
        refine go_iadd (pc' := 35) hC dX12_even_34 rfl ?_
        obtain ⟨o13, ho13, hf⟩ := bd_e hf
        refine go_callV1 (pc' := 38) (As := [.int (x1 + (1 : Int32))]) (st := [.long o12.1.toInt64, .long (o10.1.toInt64 * o11.1.toInt64)]) (st' := [.int o13.1, .long o12.1.toInt64, .long (o10.1.toInt64 * o11.1.toInt64)]) (L1' := [(38, o13.2.1), (39, o13.2.2.1), (44, o13.2.2.2.1)]) (L2' := []) (L3' := [(17, o13.2.2.2.2.1), (18, o13.2.2.2.2.2.1), (19, o13.2.2.2.2.2.2.1), (20, o13.2.2.2.2.2.2.2)]) (L4' := []) (L5' := []) (cells' := 0) (slots' := 0)  (b := 0) hC dX12_even_35 ⟨mw_1442, mw_1078, mw_5, yd_yX12_row, yp_yX12_row, Nat.le_of_ble_eq_true rfl, Nat.le_of_ble_eq_true rfl, (Nat.le_of_ble_eq_true rfl), (Nat.le_of_ble_eq_true rfl)⟩ mw_1076 mw_1077 layM_0 rfl rfl rfl (Nat.le_of_ble_eq_true rfl) (c_X12_row (x_l X) (x_D X) (x_q X) g (x_cy X) (x_z X) _ (x1 + (1 : Int32)) o13 ho13) rfl rfl rfl rfl rfl rfl rfl rfl rfl rfl rfl rfl rfl rfl ?_
        refine go_i2l (pc' := 39) hC dX12_even_38 rfl ?_
        refine go_lmul (pc' := 40) hC dX12_even_39 rfl ?_
        refine go_lcmp (pc' := 41) hC dX12_even_40 rfl ?_
        refine go_if_ge (tgt := 46) (pc' := 44) hC dX12_even_41 (by decide) rfl (fun h14 => ?_) (fun h14 => ?_)
        · have hf := ite_t (lg_ge.mp h14) hf
          refine go_iinc (lc' := [(0, .ref (x_q X 0)), (1, .int (x1 + (1 : Int32)))]) (pc' := 49) hC dX12_even_46 rfl ki_1 (Nat.le_of_ble_eq_true rfl) rfl rfl ?_
          refine go_goto (tgt := 2) hC dX12_even_49 (by decide) ?_
          exact ih (x1 + (1 : Int32)) o13.2.1 o13.2.2.1 o13.2.2.2.1 o13.2.2.2.2.1 o13.2.2.2.2.2.1 o13.2.2.2.2.2.2.1 o13.2.2.2.2.2.2.2 hf
        · have hf := ite_f (mt lg_ge.mpr h14) hf
          refine go_iconst (pc' := 45) hC dX12_even_44 ki_0 rfl ?_
          obtain rfl := Option.some.inj hf
          exact go_iret hC hQ dX12_even_45 rfl rfl rfl rfl (fun _ => rfl) rfl rfl
  exact l2_16 fuel (1 : Int32) (S.1 38) (S.1 39) (S.1 44) (S.2.2.1 17) (S.2.2.1 18) (S.2.2.1 19) (S.2.2.1 20) hf
theorem dX12_areJoined_0 : decode cX12_areJoined 0 = .ok (.iconst 1, 1) := by decide +kernel
theorem dX12_areJoined_1 : decode cX12_areJoined 1 = .ok (.istore_n 2, 1) := by decide +kernel
theorem dX12_areJoined_2 : decode cX12_areJoined 2 = .ok (.iconst 0, 1) := by decide +kernel
theorem dX12_areJoined_3 : decode cX12_areJoined 3 = .ok (.istore_n 3, 1) := by decide +kernel
theorem dX12_areJoined_4 : decode cX12_areJoined 4 = .ok (.iload_n 2, 1) := by decide +kernel
theorem dX12_areJoined_5 : decode cX12_areJoined 5 = .ok (.iload_n 3, 1) := by decide +kernel
theorem dX12_areJoined_6 : decode cX12_areJoined 6 = .ok (.if_icmp .eq 83, 3) := by decide +kernel
theorem dX12_areJoined_9 : decode cX12_areJoined 9 = .ok (.iload_n 2, 1) := by decide +kernel
theorem dX12_areJoined_10 : decode cX12_areJoined 10 = .ok (.istore_n 3, 1) := by decide +kernel
theorem dX12_areJoined_11 : decode cX12_areJoined 11 = .ok (.iconst 0, 1) := by decide +kernel
theorem dX12_areJoined_12 : decode cX12_areJoined 12 = .ok (.istore 4, 2) := by decide +kernel
theorem dX12_areJoined_14 : decode cX12_areJoined 14 = .ok (.iload 4, 2) := by decide +kernel
theorem dX12_areJoined_16 : decode cX12_areJoined 16 = .ok (.aload_n 0, 1) := by decide +kernel
theorem dX12_areJoined_17 : decode cX12_areJoined 17 = .ok (.getfield 279, 3) := by decide +kernel
theorem dX12_areJoined_20 : decode cX12_areJoined 20 = .ok (.if_icmp .ge 66, 3) := by decide +kernel
theorem dX12_areJoined_23 : decode cX12_areJoined 23 = .ok (.iload_n 1, 1) := by decide +kernel
theorem dX12_areJoined_24 : decode cX12_areJoined 24 = .ok (.iload 4, 2) := by decide +kernel
theorem dX12_areJoined_26 : decode cX12_areJoined 26 = .ok (.ishr, 1) := by decide +kernel
theorem dX12_areJoined_27 : decode cX12_areJoined 27 = .ok (.iconst 1, 1) := by decide +kernel
theorem dX12_areJoined_28 : decode cX12_areJoined 28 = .ok (.iand, 1) := by decide +kernel
theorem dX12_areJoined_29 : decode cX12_areJoined 29 = .ok (.iconst 1, 1) := by decide +kernel
theorem dX12_areJoined_30 : decode cX12_areJoined 30 = .ok (.if_icmp .ne 50, 3) := by decide +kernel
theorem dX12_areJoined_33 : decode cX12_areJoined 33 = .ok (.iload_n 2, 1) := by decide +kernel
theorem dX12_areJoined_34 : decode cX12_areJoined 34 = .ok (.aload_n 0, 1) := by decide +kernel
theorem dX12_areJoined_35 : decode cX12_areJoined 35 = .ok (.getfield 32, 3) := by decide +kernel
theorem dX12_areJoined_38 : decode cX12_areJoined 38 = .ok (.iload 4, 2) := by decide +kernel
theorem dX12_areJoined_40 : decode cX12_areJoined 40 = .ok (.iaload, 1) := by decide +kernel
theorem dX12_areJoined_41 : decode cX12_areJoined 41 = .ok (.ishr, 1) := by decide +kernel
theorem dX12_areJoined_42 : decode cX12_areJoined 42 = .ok (.iload_n 2, 1) := by decide +kernel
theorem dX12_areJoined_43 : decode cX12_areJoined 43 = .ok (.aload_n 0, 1) := by decide +kernel
theorem dX12_areJoined_44 : decode cX12_areJoined 44 = .ok (.getfield 35, 3) := by decide +kernel
theorem dX12_areJoined_47 : decode cX12_areJoined 47 = .ok (.iload 4, 2) := by decide +kernel
theorem dX12_areJoined_49 : decode cX12_areJoined 49 = .ok (.iaload, 1) := by decide +kernel
theorem dX12_areJoined_50 : decode cX12_areJoined 50 = .ok (.ishr, 1) := by decide +kernel
theorem dX12_areJoined_51 : decode cX12_areJoined 51 = .ok (.ior, 1) := by decide +kernel
theorem dX12_areJoined_52 : decode cX12_areJoined 52 = .ok (.iconst 1, 1) := by decide +kernel
theorem dX12_areJoined_53 : decode cX12_areJoined 53 = .ok (.iand, 1) := by decide +kernel
theorem dX12_areJoined_54 : decode cX12_areJoined 54 = .ok (.iconst 1, 1) := by decide +kernel
theorem dX12_areJoined_55 : decode cX12_areJoined 55 = .ok (.if_icmp .ne 25, 3) := by decide +kernel
theorem dX12_areJoined_58 : decode cX12_areJoined 58 = .ok (.iload_n 2, 1) := by decide +kernel
theorem dX12_areJoined_59 : decode cX12_areJoined 59 = .ok (.iconst 1, 1) := by decide +kernel
theorem dX12_areJoined_60 : decode cX12_areJoined 60 = .ok (.aload_n 0, 1) := by decide +kernel
theorem dX12_areJoined_61 : decode cX12_areJoined 61 = .ok (.getfield 32, 3) := by decide +kernel
theorem dX12_areJoined_64 : decode cX12_areJoined 64 = .ok (.iload 4, 2) := by decide +kernel
theorem dX12_areJoined_66 : decode cX12_areJoined 66 = .ok (.iaload, 1) := by decide +kernel
theorem dX12_areJoined_67 : decode cX12_areJoined 67 = .ok (.ishl, 1) := by decide +kernel
theorem dX12_areJoined_68 : decode cX12_areJoined 68 = .ok (.iconst 1, 1) := by decide +kernel
theorem dX12_areJoined_69 : decode cX12_areJoined 69 = .ok (.aload_n 0, 1) := by decide +kernel
theorem dX12_areJoined_70 : decode cX12_areJoined 70 = .ok (.getfield 35, 3) := by decide +kernel
theorem dX12_areJoined_73 : decode cX12_areJoined 73 = .ok (.iload 4, 2) := by decide +kernel
theorem dX12_areJoined_75 : decode cX12_areJoined 75 = .ok (.iaload, 1) := by decide +kernel
theorem dX12_areJoined_76 : decode cX12_areJoined 76 = .ok (.ishl, 1) := by decide +kernel
theorem dX12_areJoined_77 : decode cX12_areJoined 77 = .ok (.ior, 1) := by decide +kernel
theorem dX12_areJoined_78 : decode cX12_areJoined 78 = .ok (.ior, 1) := by decide +kernel
theorem dX12_areJoined_79 : decode cX12_areJoined 79 = .ok (.istore_n 2, 1) := by decide +kernel
theorem dX12_areJoined_80 : decode cX12_areJoined 80 = .ok (.iinc 4 1, 3) := by decide +kernel
theorem dX12_areJoined_83 : decode cX12_areJoined 83 = .ok (.goto (-69), 3) := by decide +kernel
theorem dX12_areJoined_86 : decode cX12_areJoined 86 = .ok (.goto (-82), 3) := by decide +kernel
theorem dX12_areJoined_89 : decode cX12_areJoined 89 = .ok (.iload_n 2, 1) := by decide +kernel
theorem dX12_areJoined_90 : decode cX12_areJoined 90 = .ok (.iconst 1, 1) := by decide +kernel
theorem dX12_areJoined_91 : decode cX12_areJoined 91 = .ok (.aload_n 0, 1) := by decide +kernel
theorem dX12_areJoined_92 : decode cX12_areJoined 92 = .ok (.getfield 276, 3) := by decide +kernel
theorem dX12_areJoined_95 : decode cX12_areJoined 95 = .ok (.ishl, 1) := by decide +kernel
theorem dX12_areJoined_96 : decode cX12_areJoined 96 = .ok (.iconst 1, 1) := by decide +kernel
theorem dX12_areJoined_97 : decode cX12_areJoined 97 = .ok (.isub, 1) := by decide +kernel
theorem dX12_areJoined_98 : decode cX12_areJoined 98 = .ok (.if_icmp .ne 7, 3) := by decide +kernel
theorem dX12_areJoined_101 : decode cX12_areJoined 101 = .ok (.iconst 1, 1) := by decide +kernel
theorem dX12_areJoined_102 : decode cX12_areJoined 102 = .ok (.goto 4, 3) := by decide +kernel
theorem dX12_areJoined_105 : decode cX12_areJoined 105 = .ok (.iconst 0, 1) := by decide +kernel
theorem dX12_areJoined_106 : decode cX12_areJoined 106 = .ok (.ireturn, 1) := by decide +kernel
abbrev o_X12_areJoined : Type := Int32
def f_X12_areJoined_L14 (S : wd_W) (p1 : Int32) (k86_8 : (Int32) → (Option o_X12_areJoined)) (r11 : (Int32) → (Int32) → (Option o_X12_areJoined)) (x9 : Int32) (x10 : Int32) : Option o_X12_areJoined :=
if (S.1 21) ≤ x10 then (
k86_8 x9) else (
lk (fun x12 =>
r11 x12 (x10 + (1 : Int32))) fun k80_13 =>
if ((p1 >>> (x10 &&& 31)) &&& (1 : Int32)) = (1 : Int32) then (
gd (okx x10 13) <|
gd (okx x10 13) <|
if (((x9 >>> (((S.2.2.1 8) x10.toNatClampNeg) &&& 31)) ||| (x9 >>> (((S.2.2.1 9) x10.toNatClampNeg) &&& 31))) &&& (1 : Int32)) = (1 : Int32) then (
gd (okx x10 13) <|
gd (okx x10 13) <|
lz (x9 ||| (((1 : Int32) <<< (((S.2.2.1 8) x10.toNatClampNeg) &&& 31)) ||| ((1 : Int32) <<< (((S.2.2.1 9) x10.toNatClampNeg) &&& 31)))) fun x18 =>
k80_13 x18) else (
k80_13 x9)) else (
k80_13 x9))
def f_X12_areJoined_L4 (S : wd_W) (p1 : Int32) (k89_2 : (Int32) → (Option o_X12_areJoined)) (r6 : (Int32) → (Int32) → (Option o_X12_areJoined)) (x4 : Int32) (x5 : Int32) : Option o_X12_areJoined :=
if x4 = x5 then (
k89_2 x4) else (
lk (fun x7 =>
r6 x7 x4) fun k86_8 =>
it2 (f_X12_areJoined_L14 S p1 k86_8) fuel x4 (0 : Int32))
def f_X12_areJoined (S : wd_W) (p1 : Int32) : Option o_X12_areJoined :=
lk (fun x1 =>
if x1 = (((1 : Int32) <<< ((S.1 20) &&& 31)) - (1 : Int32)) then (
some (1 : Int32)) else (
some (0 : Int32))) fun k89_2 =>
it2 (f_X12_areJoined_L4 S p1 k89_2) fuel (1 : Int32) (0 : Int32)
set_option maxRecDepth 100000 in
set_option maxHeartbeats 4000000 in
theorem c_X12_areJoined (l : Launch) (D : va_G) (q g : Nat → Nat) (cy : Nat → ClassId) (z : (Nat → Nat) × (Nat → Nat) × Nat) (S : wd_W) (p1 : Int32) (o : o_X12_areJoined) (hf : f_X12_areJoined S p1 = some o) : MX layM l yX12_areJoined cX12_areJoined 5 (some .boolean) ({ frames := 0, cells := 0, slots := 0, locals := 0 } : Room) D q g cy z [.ref (q 0), .int p1] S false (some (.int o)) (wd_o S [] [] [] [] []) 0 0 := by
  refine mx_of (own := RX12) (lc := [(0, .ref (q 0)), (1, .int p1)]) (by decide +kernel) rfl layM_ok (Nat.le_of_ble_eq_true rfl) rfl ?_
  intro X hXl hXq hXz hC hQ
  subst hXl; subst hXq; subst hXz
  unfold f_X12_areJoined at hf
  refine go_iconst (pc' := 1) hC dX12_areJoined_0 ki_1 rfl ?_
  refine go_istore_n (lc' := [(0, .ref (x_q X 0)), (1, .int p1), (2, .int (1 : Int32))]) (pc' := 2) hC dX12_areJoined_1 (Nat.le_of_ble_eq_true rfl) rfl rfl ?_
  refine go_iconst (pc' := 3) hC dX12_areJoined_2 ki_0 rfl ?_
  refine go_istore_n (lc' := [(0, .ref (x_q X 0)), (1, .int p1), (2, .int (1 : Int32)), (3, .int (0 : Int32))]) (pc' := 4) hC dX12_areJoined_3 (Nat.le_of_ble_eq_true rfl) rfl rfl ?_
  obtain ⟨k89_2, hk89_2, hf⟩ := lk_e1 hf
  have jk89_2 : ∀ (x1 : Int32), k89_2 x1 = some o → Go X layM S 89 [(0, .ref (x_q X 0)), (2, .int x1)] [] g [] [] [] [] [] 0 0 := by
    intro x1 hf
    have hf := hk89_2 x1 hf
    clear hk89_2
    refine go_iload_n (pc' := 90) hC dX12_areJoined_89 rfl rfl ?_
    refine go_iconst (pc' := 91) hC dX12_areJoined_90 ki_1 rfl ?_
    refine go_aload_n (pc' := 92) hC dX12_areJoined_91 rfl rfl ?_
    refine go_geti (v := (S.1 20)) (pc' := 95) hC 0 20 layM_0 rfl rfl inlX12 (Nat.le_of_ble_eq_true rfl) mw_246 rfl dX12_areJoined_92 rfl rfl ?_
    refine go_ishl (pc' := 96) hC dX12_areJoined_95 rfl ?_
    refine go_iconst (pc' := 97) hC dX12_areJoined_96 ki_1 rfl ?_
    refine go_isub (pc' := 98) hC dX12_areJoined_97 rfl ?_
    refine go_icmp_ne (tgt := 105) (pc' := 101) hC dX12_areJoined_98 (by decide) rfl (fun h3 => ?_) (fun h3 => ?_)
    · have hf := ite_f h3 hf
      refine go_iconst (pc' := 106) hC dX12_areJoined_105 ki_0 rfl ?_
      obtain rfl := Option.some.inj hf
      exact go_iret hC hQ dX12_areJoined_106 rfl rfl rfl rfl (fun _ => rfl) rfl rfl
    · have hf := ite_t h3 hf
      refine go_iconst (pc' := 102) hC dX12_areJoined_101 ki_1 rfl ?_
      refine go_goto (tgt := 106) hC dX12_areJoined_102 (by decide) ?_
      obtain rfl := Option.some.inj hf
      exact go_iret hC hQ dX12_areJoined_106 rfl rfl rfl rfl (fun _ => rfl) rfl rfl
  clear hk89_2
  have l4_24 : ∀ (nn : Nat) (x4 : Int32) (x5 : Int32), it2 (f_X12_areJoined_L4 S p1 k89_2) nn x4 x5 = some o → Go X layM S 4 [(0, .ref (x_q X 0)), (1, .int p1), (2, .int x4), (3, .int x5)] [] g [] [] [] [] [] 0 0 := by
    intro nn
    induction nn with
    | zero =>
      intro x4 x5 hf
      exact none_no hf
    | succ nn ih =>
      intro x4 x5 hf
      have hf : f_X12_areJoined_L4 S p1 k89_2 (it2 (f_X12_areJoined_L4 S p1 k89_2) nn) x4 x5 = some o := hf
      generalize it2 (f_X12_areJoined_L4 S p1 k89_2) nn = r6 at ih hf
      unfold f_X12_areJoined_L4 at hf
      refine go_iload_n (pc' := 5) hC dX12_areJoined_4 rfl rfl ?_
      refine go_iload_n (pc' := 6) hC dX12_areJoined_5 rfl rfl ?_
      refine go_icmp_eq (tgt := 89) (pc' := 9) hC dX12_areJoined_6 (by decide) rfl (fun h23 => ?_) (fun h23 => ?_)
      · have hf := ite_t h23 hf
        refine go_sub [0, 2] rfl ?_
        exact jk89_2 x4 hf
      · have hf := ite_f h23 hf
        refine go_iload_n (pc' := 10) hC dX12_areJoined_9 rfl rfl ?_
        refine go_istore_n (lc' := [(0, .ref (x_q X 0)), (1, .int p1), (2, .int x4), (3, .int x4)]) (pc' := 11) hC dX12_areJoined_10 (Nat.le_of_ble_eq_true rfl) rfl rfl ?_
        refine go_iconst (pc' := 12) hC dX12_areJoined_11 ki_0 rfl ?_
        refine go_istore (lc' := [(0, .ref (x_q X 0)), (1, .int p1), (2, .int x4), (3, .int x4), (4, .int (0 : Int32))]) (pc' := 14) hC dX12_areJoined_12 (Nat.le_of_ble_eq_true rfl) rfl rfl ?_
        obtain ⟨k86_8, hk86_8, hf⟩ := lk_e1 hf
        have jk86_8 : ∀ (x7 : Int32), k86_8 x7 = some o → Go X layM S 86 [(0, .ref (x_q X 0)), (1, .int p1), (2, .int x7), (3, .int x4)] [] g [] [] [] [] [] 0 0 := by
          intro x7 hf
          have hf := hk86_8 x7 hf
          clear hk86_8
          refine go_goto (tgt := 4) hC dX12_areJoined_86 (by decide) ?_
          exact ih x7 x4 hf
        clear hk86_8
        have l14_22 : ∀ (nn : Nat) (x9 : Int32) (x10 : Int32), it2 (f_X12_areJoined_L14 S p1 k86_8) nn x9 x10 = some o → Go X layM S 14 [(0, .ref (x_q X 0)), (1, .int p1), (2, .int x9), (3, .int x4), (4, .int x10)] [] g [] [] [] [] [] 0 0 := by
          intro nn
          induction nn with
          | zero =>
            intro x9 x10 hf
            exact none_no hf
          | succ nn ih =>
            intro x9 x10 hf
            have hf : f_X12_areJoined_L14 S p1 k86_8 (it2 (f_X12_areJoined_L14 S p1 k86_8) nn) x9 x10 = some o := hf
            generalize it2 (f_X12_areJoined_L14 S p1 k86_8) nn = r11 at ih hf
            unfold f_X12_areJoined_L14 at hf
            refine go_iload (pc' := 16) hC dX12_areJoined_14 rfl rfl ?_
            refine go_aload_n (pc' := 17) hC dX12_areJoined_16 rfl rfl ?_
            refine go_geti (v := (S.1 21)) (pc' := 20) hC 0 21 layM_0 rfl rfl inlX12 (Nat.le_of_ble_eq_true rfl) mw_247 rfl dX12_areJoined_17 rfl rfl ?_
            refine go_icmp_ge (tgt := 86) (pc' := 23) hC dX12_areJoined_20 (by decide) rfl (fun h21 => ?_) (fun h21 => ?_)
            · have hf := ite_t h21 hf
              refine go_sub [0, 1, 2, 3] rfl ?_
              exact jk86_8 x9 hf
            · have hf := ite_f h21 hf
              refine go_iload_n (pc' := 24) hC dX12_areJoined_23 rfl rfl ?_
              refine go_iload (pc' := 26) hC dX12_areJoined_24 rfl rfl ?_
              refine go_ishr (pc' := 27) hC dX12_areJoined_26 rfl ?_
              refine go_iconst (pc' := 28) hC dX12_areJoined_27 ki_1 rfl ?_
              refine go_iand (pc' := 29) hC dX12_areJoined_28 rfl ?_
              refine go_iconst (pc' := 30) hC dX12_areJoined_29 ki_1 rfl ?_
              obtain ⟨k80_13, hk80_13, hf⟩ := lk_e1 hf
              have jk80_13 : ∀ (x12 : Int32), k80_13 x12 = some o → Go X layM S 80 [(0, .ref (x_q X 0)), (1, .int p1), (2, .int x12), (3, .int x4), (4, .int x10)] [] g [] [] [] [] [] 0 0 := by
                intro x12 hf
                have hf := hk80_13 x12 hf
                clear hk80_13
                refine go_iinc (lc' := [(0, .ref (x_q X 0)), (1, .int p1), (2, .int x12), (3, .int x4), (4, .int (x10 + (1 : Int32)))]) (pc' := 83) hC dX12_areJoined_80 rfl ki_1 (Nat.le_of_ble_eq_true rfl) rfl rfl ?_
                refine go_goto (tgt := 14) hC dX12_areJoined_83 (by decide) ?_
                exact ih x12 (x10 + (1 : Int32)) hf
              clear hk80_13
              refine go_icmp_ne (tgt := 80) (pc' := 33) hC dX12_areJoined_30 (by decide) rfl (fun h20 => ?_) (fun h20 => ?_)
              · have hf := ite_f h20 hf
                exact jk80_13 x9 hf
              · have hf := ite_t h20 hf
                refine go_iload_n (pc' := 34) hC dX12_areJoined_33 rfl rfl ?_
                refine go_aload_n (pc' := 35) hC dX12_areJoined_34 rfl rfl ?_
                refine go_getq (pc' := 38) hC 0 22 layM_0 rfl rfl inlX12 (Nat.le_of_ble_eq_true rfl) mw_187 rfl dX12_areJoined_35 rfl ?_
                refine go_iload (pc' := 40) hC dX12_areJoined_38 rfl rfl ?_
                obtain ⟨h14, hf⟩ := gd_e hf
                refine go_iald (f := (S.2.2.1 8)) (pc' := 41) hC 8 layM_8 rfl rfl dX12_areJoined_40 (okx_in h14) rfl ?_
                refine go_ishr (pc' := 42) hC dX12_areJoined_41 rfl ?_
                refine go_iload_n (pc' := 43) hC dX12_areJoined_42 rfl rfl ?_
                refine go_aload_n (pc' := 44) hC dX12_areJoined_43 rfl rfl ?_
                refine go_getq (pc' := 47) hC 0 23 layM_0 rfl rfl inlX12 (Nat.le_of_ble_eq_true rfl) mw_188 rfl dX12_areJoined_44 rfl ?_
                refine go_iload (pc' := 49) hC dX12_areJoined_47 rfl rfl ?_
                obtain ⟨h15, hf⟩ := gd_e hf
                refine go_iald (f := (S.2.2.1 9)) (pc' := 50) hC 9 layM_9 rfl rfl dX12_areJoined_49 (okx_in h15) rfl ?_
                refine go_ishr (pc' := 51) hC dX12_areJoined_50 rfl ?_
                refine go_ior (pc' := 52) hC dX12_areJoined_51 rfl ?_
                refine go_iconst (pc' := 53) hC dX12_areJoined_52 ki_1 rfl ?_
                refine go_iand (pc' := 54) hC dX12_areJoined_53 rfl ?_
                refine go_iconst (pc' := 55) hC dX12_areJoined_54 ki_1 rfl ?_
                refine go_icmp_ne (tgt := 80) (pc' := 58) hC dX12_areJoined_55 (by decide) rfl (fun h19 => ?_) (fun h19 => ?_)
                · have hf := ite_f h19 hf
                  exact jk80_13 x9 hf
                · have hf := ite_t h19 hf
                  refine go_iload_n (pc' := 59) hC dX12_areJoined_58 rfl rfl ?_
                  refine go_iconst (pc' := 60) hC dX12_areJoined_59 ki_1 rfl ?_
                  refine go_aload_n (pc' := 61) hC dX12_areJoined_60 rfl rfl ?_
                  refine go_getq (pc' := 64) hC 0 22 layM_0 rfl rfl inlX12 (Nat.le_of_ble_eq_true rfl) mw_187 rfl dX12_areJoined_61 rfl ?_
                  refine go_iload (pc' := 66) hC dX12_areJoined_64 rfl rfl ?_
                  obtain ⟨h16, hf⟩ := gd_e hf
                  refine go_iald (f := (S.2.2.1 8)) (pc' := 67) hC 8 layM_8 rfl rfl dX12_areJoined_66 (okx_in h16) rfl ?_
                  refine go_ishl (pc' := 68) hC dX12_areJoined_67 rfl ?_
                  refine go_iconst (pc' := 69) hC dX12_areJoined_68 ki_1 rfl ?_
                  refine go_aload_n (pc' := 70) hC dX12_areJoined_69 rfl rfl ?_
                  refine go_getq (pc' := 73) hC 0 23 layM_0 rfl rfl inlX12 (Nat.le_of_ble_eq_true rfl) mw_188 rfl dX12_areJoined_70 rfl ?_
                  refine go_iload (pc' := 75) hC dX12_areJoined_73 rfl rfl ?_
                  obtain ⟨h17, hf⟩ := gd_e hf
                  refine go_iald (f := (S.2.2.1 9)) (pc' := 76) hC 9 layM_9 rfl rfl dX12_areJoined_75 (okx_in h17) rfl ?_
                  refine go_ishl (pc' := 77) hC dX12_areJoined_76 rfl ?_
                  refine go_ior (pc' := 78) hC dX12_areJoined_77 rfl ?_
                  refine go_ior (pc' := 79) hC dX12_areJoined_78 rfl ?_
                  refine go_namei (fun x18 hx => ?_)
                  have hf := lz_r hx hf
                  clear hx
                  refine go_istore_n (lc' := [(0, .ref (x_q X 0)), (1, .int p1), (2, .int x18), (3, .int x4), (4, .int x10)]) (pc' := 80) hC dX12_areJoined_79 (Nat.le_of_ble_eq_true rfl) rfl rfl ?_
                  exact jk80_13 x18 hf
        exact l14_22 fuel x4 (0 : Int32) hf
  exact l4_24 fuel (1 : Int32) (0 : Int32) hf
theorem dX12_trees_0 : decode cX12_trees 0 = .ok (.iconst 0, 1) := by decide +kernel
theorem dX12_trees_1 : decode cX12_trees 1 = .ok (.istore_n 1, 1) := by decide +kernel
theorem dX12_trees_2 : decode cX12_trees 2 = .ok (.iconst 0, 1) := by decide +kernel
theorem dX12_trees_3 : decode cX12_trees 3 = .ok (.istore_n 2, 1) := by decide +kernel
theorem dX12_trees_4 : decode cX12_trees 4 = .ok (.iload_n 2, 1) := by decide +kernel
theorem dX12_trees_5 : decode cX12_trees 5 = .ok (.iconst 1, 1) := by decide +kernel
theorem dX12_trees_6 : decode cX12_trees 6 = .ok (.aload_n 0, 1) := by decide +kernel
theorem dX12_trees_7 : decode cX12_trees 7 = .ok (.getfield 279, 3) := by decide +kernel
theorem dX12_trees_10 : decode cX12_trees 10 = .ok (.ishl, 1) := by decide +kernel
theorem dX12_trees_11 : decode cX12_trees 11 = .ok (.if_icmp .ge 33, 3) := by decide +kernel
theorem dX12_trees_14 : decode cX12_trees 14 = .ok (.iload_n 2, 1) := by decide +kernel
theorem dX12_trees_15 : decode cX12_trees 15 = .ok (.invokestatic 344, 3) := by decide +kernel
theorem dX12_trees_18 : decode cX12_trees 18 = .ok (.aload_n 0, 1) := by decide +kernel
theorem dX12_trees_19 : decode cX12_trees 19 = .ok (.getfield 276, 3) := by decide +kernel
theorem dX12_trees_22 : decode cX12_trees 22 = .ok (.iconst 1, 1) := by decide +kernel
theorem dX12_trees_23 : decode cX12_trees 23 = .ok (.isub, 1) := by decide +kernel
theorem dX12_trees_24 : decode cX12_trees 24 = .ok (.if_icmp .ne 14, 3) := by decide +kernel
theorem dX12_trees_27 : decode cX12_trees 27 = .ok (.aload_n 0, 1) := by decide +kernel
theorem dX12_trees_28 : decode cX12_trees 28 = .ok (.iload_n 2, 1) := by decide +kernel
theorem dX12_trees_29 : decode cX12_trees 29 = .ok (.invokevirtual 505, 3) := by decide +kernel
theorem dX12_trees_32 : decode cX12_trees 32 = .ok (.ifCond .eq 6, 3) := by decide +kernel
theorem dX12_trees_35 : decode cX12_trees 35 = .ok (.iinc 1 1, 3) := by decide +kernel
theorem dX12_trees_38 : decode cX12_trees 38 = .ok (.iinc 2 1, 3) := by decide +kernel
theorem dX12_trees_41 : decode cX12_trees 41 = .ok (.goto (-37), 3) := by decide +kernel
theorem dX12_trees_44 : decode cX12_trees 44 = .ok (.iload_n 1, 1) := by decide +kernel
theorem dX12_trees_45 : decode cX12_trees 45 = .ok (.ireturn, 1) := by decide +kernel
abbrev o_X12_trees : Type := Int32
def f_X12_trees_L4 (S : wd_W) (r3 : (Int32) → (Int32) → (Option o_X12_trees)) (x1 : Int32) (x2 : Int32) : Option o_X12_trees :=
if ((1 : Int32) <<< ((S.1 21) &&& 31)) ≤ x2 then (
some x1) else (
bd (f_X12_bits x2) fun o4 =>
lk (fun x5 =>
r3 x5 (x2 + (1 : Int32))) fun k38_6 =>
if o4 = ((S.1 20) - (1 : Int32)) then (
bd (f_X12_areJoined (wd_o S [] [] [] [] []) x2) fun o7 =>
if o7 = 0 then (
k38_6 x1) else (
k38_6 (x1 + (1 : Int32)))) else (
k38_6 x1))
def f_X12_trees (S : wd_W) : Option o_X12_trees :=
it2 (f_X12_trees_L4 S) fuel (0 : Int32) (0 : Int32)
set_option maxRecDepth 100000 in
set_option maxHeartbeats 4000000 in
theorem c_X12_trees (l : Launch) (D : va_G) (q g : Nat → Nat) (cy : Nat → ClassId) (z : (Nat → Nat) × (Nat → Nat) × Nat) (S : wd_W) (o : o_X12_trees) (hf : f_X12_trees S = some o) : MX layM l yX12_trees cX12_trees 3 (some .int) ({ frames := 1, cells := 0, slots := 0, locals := 24 } : Room) D q g cy z [.ref (q 0)] S false (some (.int o)) (wd_o S [] [] [] [] []) 0 0 := by
  refine mx_of (own := RX12) (lc := [(0, .ref (q 0))]) (by decide +kernel) rfl layM_ok (Nat.le_of_ble_eq_true rfl) rfl ?_
  intro X hXl hXq hXz hC hQ
  subst hXl; subst hXq; subst hXz
  unfold f_X12_trees at hf
  refine go_iconst (pc' := 1) hC dX12_trees_0 ki_0 rfl ?_
  refine go_istore_n (lc' := [(0, .ref (x_q X 0)), (1, .int (0 : Int32))]) (pc' := 2) hC dX12_trees_1 (Nat.le_of_ble_eq_true rfl) rfl rfl ?_
  refine go_iconst (pc' := 3) hC dX12_trees_2 ki_0 rfl ?_
  refine go_istore_n (lc' := [(0, .ref (x_q X 0)), (1, .int (0 : Int32)), (2, .int (0 : Int32))]) (pc' := 4) hC dX12_trees_3 (Nat.le_of_ble_eq_true rfl) rfl rfl ?_
  have l4_11 : ∀ (nn : Nat) (x1 : Int32) (x2 : Int32), it2 (f_X12_trees_L4 S) nn x1 x2 = some o → Go X layM S 4 [(0, .ref (x_q X 0)), (1, .int x1), (2, .int x2)] [] g [] [] [] [] [] 0 0 := by
    intro nn
    induction nn with
    | zero =>
      intro x1 x2 hf
      exact none_no hf
    | succ nn ih =>
      intro x1 x2 hf
      have hf : f_X12_trees_L4 S (it2 (f_X12_trees_L4 S) nn) x1 x2 = some o := hf
      generalize it2 (f_X12_trees_L4 S) nn = r3 at ih hf
      unfold f_X12_trees_L4 at hf
      refine go_iload_n (pc' := 5) hC dX12_trees_4 rfl rfl ?_
      refine go_iconst (pc' := 6) hC dX12_trees_5 ki_1 rfl ?_
      refine go_aload_n (pc' := 7) hC dX12_trees_6 rfl rfl ?_
      refine go_geti (v := (S.1 21)) (pc' := 10) hC 0 21 layM_0 rfl rfl inlX12 (Nat.le_of_ble_eq_true rfl) mw_247 rfl dX12_trees_7 rfl rfl ?_
      refine go_ishl (pc' := 11) hC dX12_trees_10 rfl ?_
      refine go_icmp_ge (tgt := 44) (pc' := 14) hC dX12_trees_11 (by decide) rfl (fun h10 => ?_) (fun h10 => ?_)
      · have hf := ite_t h10 hf
        refine go_iload_n (pc' := 45) hC dX12_trees_44 rfl rfl ?_
        obtain rfl := Option.some.inj hf
        exact go_iret hC hQ dX12_trees_45 rfl rfl rfl rfl (fun _ => rfl) rfl rfl
      · have hf := ite_f h10 hf
        refine go_iload_n (pc' := 15) hC dX12_trees_14 rfl rfl ?_
        obtain ⟨o4, ho4, hf⟩ := bd_e hf
        refine go_callS0 (pc' := 18) (As := [.int x2]) (st := []) (st' := [.int o4])    hC dX12_trees_15 ⟨mw_890, mw_892, mw_5, yd_yX12_bits, yp_yX12_bits, Nat.le_of_ble_eq_true rfl, Nat.le_of_ble_eq_true rfl, (Nat.le_of_ble_eq_true rfl), (Nat.le_of_ble_eq_true rfl)⟩ mw_891 rfl rfl (Nat.le_of_ble_eq_true rfl) (c_X12_bits (x_l X) (x_D X) (x_q X) g (x_cy X) (x_z X) _ x2 o4 ho4) rfl rfl ?_
        refine go_aload_n (pc' := 19) hC dX12_trees_18 rfl rfl ?_
        refine go_geti (v := (S.1 20)) (pc' := 22) hC 0 20 layM_0 rfl rfl inlX12 (Nat.le_of_ble_eq_true rfl) mw_246 rfl dX12_trees_19 rfl rfl ?_
        refine go_iconst (pc' := 23) hC dX12_trees_22 ki_1 rfl ?_
        refine go_isub (pc' := 24) hC dX12_trees_23 rfl ?_
        obtain ⟨k38_6, hk38_6, hf⟩ := lk_e1 hf
        have jk38_6 : ∀ (x5 : Int32), k38_6 x5 = some o → Go X layM S 38 [(0, .ref (x_q X 0)), (1, .int x5), (2, .int x2)] [] g [] [] [] [] [] 0 0 := by
          intro x5 hf
          have hf := hk38_6 x5 hf
          clear hk38_6
          refine go_iinc (lc' := [(0, .ref (x_q X 0)), (1, .int x5), (2, .int (x2 + (1 : Int32)))]) (pc' := 41) hC dX12_trees_38 rfl ki_1 (Nat.le_of_ble_eq_true rfl) rfl rfl ?_
          refine go_goto (tgt := 4) hC dX12_trees_41 (by decide) ?_
          exact ih x5 (x2 + (1 : Int32)) hf
        clear hk38_6
        refine go_icmp_ne (tgt := 38) (pc' := 27) hC dX12_trees_24 (by decide) rfl (fun h9 => ?_) (fun h9 => ?_)
        · have hf := ite_f h9 hf
          exact jk38_6 x1 hf
        · have hf := ite_t h9 hf
          refine go_aload_n (pc' := 28) hC dX12_trees_27 rfl rfl ?_
          refine go_iload_n (pc' := 29) hC dX12_trees_28 rfl rfl ?_
          obtain ⟨o7, ho7, hf⟩ := bd_e hf
          refine go_callV0 (pc' := 32) (As := [.int x2]) (st := []) (st' := [.int o7])    (b := 0) hC dX12_trees_29 ⟨mw_1463, mw_1466, mw_5, yd_yX12_areJoined, yp_yX12_areJoined, Nat.le_of_ble_eq_true rfl, Nat.le_of_ble_eq_true rfl, (Nat.le_of_ble_eq_true rfl), (Nat.le_of_ble_eq_true rfl)⟩ mw_1464 mw_1465 layM_0 rfl rfl rfl (Nat.le_of_ble_eq_true rfl) (c_X12_areJoined (x_l X) (x_D X) (x_q X) g (x_cy X) (x_z X) _ x2 o7 ho7) rfl rfl ?_
          refine go_if_eq (tgt := 38) (pc' := 35) hC dX12_trees_32 (by decide) rfl (fun h8 => ?_) (fun h8 => ?_)
          · have hf := ite_t h8 hf
            exact jk38_6 x1 hf
          · have hf := ite_f h8 hf
            refine go_iinc (lc' := [(0, .ref (x_q X 0)), (1, .int (x1 + (1 : Int32))), (2, .int x2)]) (pc' := 38) hC dX12_trees_35 rfl ki_1 (Nat.le_of_ble_eq_true rfl) rfl rfl ?_
            exact jk38_6 (x1 + (1 : Int32)) hf
  exact l4_11 fuel (0 : Int32) (0 : Int32) hf
theorem dX12_looksAll_0 : decode cX12_looksAll 0 = .ok (.aload_n 0, 1) := by decide +kernel
theorem dX12_looksAll_1 : decode cX12_looksAll 1 = .ok (.invokevirtual 361, 3) := by decide +kernel
theorem dX12_looksAll_4 : decode cX12_looksAll 4 = .ok (.aload_n 0, 1) := by decide +kernel
theorem dX12_looksAll_5 : decode cX12_looksAll 5 = .ok (.getfield 146, 3) := by decide +kernel
theorem dX12_looksAll_8 : decode cX12_looksAll 8 = .ok (.iconst 0, 1) := by decide +kernel
theorem dX12_looksAll_9 : decode cX12_looksAll 9 = .ok (.iconst 1, 1) := by decide +kernel
theorem dX12_looksAll_10 : decode cX12_looksAll 10 = .ok (.iastore, 1) := by decide +kernel
theorem dX12_looksAll_11 : decode cX12_looksAll 11 = .ok (.iconst 0, 1) := by decide +kernel
theorem dX12_looksAll_12 : decode cX12_looksAll 12 = .ok (.istore_n 1, 1) := by decide +kernel
theorem dX12_looksAll_13 : decode cX12_looksAll 13 = .ok (.iload_n 1, 1) := by decide +kernel
theorem dX12_looksAll_14 : decode cX12_looksAll 14 = .ok (.aload_n 0, 1) := by decide +kernel
theorem dX12_looksAll_15 : decode cX12_looksAll 15 = .ok (.getfield 288, 3) := by decide +kernel
theorem dX12_looksAll_18 : decode cX12_looksAll 18 = .ok (.if_icmp .ge 25, 3) := by decide +kernel
theorem dX12_looksAll_21 : decode cX12_looksAll 21 = .ok (.aload_n 0, 1) := by decide +kernel
theorem dX12_looksAll_22 : decode cX12_looksAll 22 = .ok (.getfield 146, 3) := by decide +kernel
theorem dX12_looksAll_25 : decode cX12_looksAll 25 = .ok (.iload_n 1, 1) := by decide +kernel
theorem dX12_looksAll_26 : decode cX12_looksAll 26 = .ok (.iconst 1, 1) := by decide +kernel
theorem dX12_looksAll_27 : decode cX12_looksAll 27 = .ok (.iadd, 1) := by decide +kernel
theorem dX12_looksAll_28 : decode cX12_looksAll 28 = .ok (.iconst 3, 1) := by decide +kernel
theorem dX12_looksAll_29 : decode cX12_looksAll 29 = .ok (.aload_n 0, 1) := by decide +kernel
theorem dX12_looksAll_30 : decode cX12_looksAll 30 = .ok (.getfield 146, 3) := by decide +kernel
theorem dX12_looksAll_33 : decode cX12_looksAll 33 = .ok (.iload_n 1, 1) := by decide +kernel
theorem dX12_looksAll_34 : decode cX12_looksAll 34 = .ok (.iaload, 1) := by decide +kernel
theorem dX12_looksAll_35 : decode cX12_looksAll 35 = .ok (.imul, 1) := by decide +kernel
theorem dX12_looksAll_36 : decode cX12_looksAll 36 = .ok (.iastore, 1) := by decide +kernel
theorem dX12_looksAll_37 : decode cX12_looksAll 37 = .ok (.iinc 1 1, 3) := by decide +kernel
theorem dX12_looksAll_40 : decode cX12_looksAll 40 = .ok (.goto (-27), 3) := by decide +kernel
theorem dX12_looksAll_43 : decode cX12_looksAll 43 = .ok (.aload_n 0, 1) := by decide +kernel
theorem dX12_looksAll_44 : decode cX12_looksAll 44 = .ok (.getfield 146, 3) := by decide +kernel
theorem dX12_looksAll_47 : decode cX12_looksAll 47 = .ok (.aload_n 0, 1) := by decide +kernel
theorem dX12_looksAll_48 : decode cX12_looksAll 48 = .ok (.getfield 288, 3) := by decide +kernel
theorem dX12_looksAll_51 : decode cX12_looksAll 51 = .ok (.iaload, 1) := by decide +kernel
theorem dX12_looksAll_52 : decode cX12_looksAll 52 = .ok (.iconst 1, 1) := by decide +kernel
theorem dX12_looksAll_53 : decode cX12_looksAll 53 = .ok (.isub, 1) := by decide +kernel
theorem dX12_looksAll_54 : decode cX12_looksAll 54 = .ok (.istore_n 1, 1) := by decide +kernel
theorem dX12_looksAll_55 : decode cX12_looksAll 55 = .ok (.iload_n 1, 1) := by decide +kernel
theorem dX12_looksAll_56 : decode cX12_looksAll 56 = .ok (.ifCond .lt 300, 3) := by decide +kernel
theorem dX12_looksAll_59 : decode cX12_looksAll 59 = .ok (.iconst 0, 1) := by decide +kernel
theorem dX12_looksAll_60 : decode cX12_looksAll 60 = .ok (.istore_n 2, 1) := by decide +kernel
theorem dX12_looksAll_61 : decode cX12_looksAll 61 = .ok (.iconst (-1), 1) := by decide +kernel
theorem dX12_looksAll_62 : decode cX12_looksAll 62 = .ok (.istore_n 3, 1) := by decide +kernel
theorem dX12_looksAll_63 : decode cX12_looksAll 63 = .ok (.iconst 0, 1) := by decide +kernel
theorem dX12_looksAll_64 : decode cX12_looksAll 64 = .ok (.istore 4, 2) := by decide +kernel
theorem dX12_looksAll_66 : decode cX12_looksAll 66 = .ok (.iload 4, 2) := by decide +kernel
theorem dX12_looksAll_68 : decode cX12_looksAll 68 = .ok (.aload_n 0, 1) := by decide +kernel
theorem dX12_looksAll_69 : decode cX12_looksAll 69 = .ok (.getfield 288, 3) := by decide +kernel
theorem dX12_looksAll_72 : decode cX12_looksAll 72 = .ok (.if_icmp .ge 51, 3) := by decide +kernel
theorem dX12_looksAll_75 : decode cX12_looksAll 75 = .ok (.iload_n 1, 1) := by decide +kernel
theorem dX12_looksAll_76 : decode cX12_looksAll 76 = .ok (.aload_n 0, 1) := by decide +kernel
theorem dX12_looksAll_77 : decode cX12_looksAll 77 = .ok (.getfield 146, 3) := by decide +kernel
theorem dX12_looksAll_80 : decode cX12_looksAll 80 = .ok (.iload 4, 2) := by decide +kernel
theorem dX12_looksAll_82 : decode cX12_looksAll 82 = .ok (.iaload, 1) := by decide +kernel
theorem dX12_looksAll_83 : decode cX12_looksAll 83 = .ok (.idiv, 1) := by decide +kernel
theorem dX12_looksAll_84 : decode cX12_looksAll 84 = .ok (.iconst 3, 1) := by decide +kernel
theorem dX12_looksAll_85 : decode cX12_looksAll 85 = .ok (.irem, 1) := by decide +kernel
theorem dX12_looksAll_86 : decode cX12_looksAll 86 = .ok (.istore 5, 2) := by decide +kernel
theorem dX12_looksAll_88 : decode cX12_looksAll 88 = .ok (.iload_n 2, 1) := by decide +kernel
theorem dX12_looksAll_89 : decode cX12_looksAll 89 = .ok (.iload 5, 2) := by decide +kernel
theorem dX12_looksAll_91 : decode cX12_looksAll 91 = .ok (.iconst 1, 1) := by decide +kernel
theorem dX12_looksAll_92 : decode cX12_looksAll 92 = .ok (.if_icmp .ne 10, 3) := by decide +kernel
theorem dX12_looksAll_95 : decode cX12_looksAll 95 = .ok (.iconst 1, 1) := by decide +kernel
theorem dX12_looksAll_96 : decode cX12_looksAll 96 = .ok (.iload 4, 2) := by decide +kernel
theorem dX12_looksAll_98 : decode cX12_looksAll 98 = .ok (.ishl, 1) := by decide +kernel
theorem dX12_looksAll_99 : decode cX12_looksAll 99 = .ok (.goto 4, 3) := by decide +kernel
theorem dX12_looksAll_102 : decode cX12_looksAll 102 = .ok (.iconst 0, 1) := by decide +kernel
theorem dX12_looksAll_103 : decode cX12_looksAll 103 = .ok (.ior, 1) := by decide +kernel
theorem dX12_looksAll_104 : decode cX12_looksAll 104 = .ok (.istore_n 2, 1) := by decide +kernel
theorem dX12_looksAll_105 : decode cX12_looksAll 105 = .ok (.iload 5, 2) := by decide +kernel
theorem dX12_looksAll_107 : decode cX12_looksAll 107 = .ok (.ifCond .ne 8, 3) := by decide +kernel
theorem dX12_looksAll_110 : decode cX12_looksAll 110 = .ok (.iload 4, 2) := by decide +kernel
theorem dX12_looksAll_112 : decode cX12_looksAll 112 = .ok (.goto 4, 3) := by decide +kernel
theorem dX12_looksAll_115 : decode cX12_looksAll 115 = .ok (.iload_n 3, 1) := by decide +kernel
theorem dX12_looksAll_116 : decode cX12_looksAll 116 = .ok (.istore_n 3, 1) := by decide +kernel
theorem dX12_looksAll_117 : decode cX12_looksAll 117 = .ok (.iinc 4 1, 3) := by decide +kernel
theorem dX12_looksAll_120 : decode cX12_looksAll 120 = .ok (.goto (-54), 3) := by decide +kernel
theorem dX12_looksAll_123 : decode cX12_looksAll 123 = .ok (.aload_n 0, 1) := by decide +kernel
theorem dX12_looksAll_124 : decode cX12_looksAll 124 = .ok (.getfield 140, 3) := by decide +kernel
theorem dX12_looksAll_127 : decode cX12_looksAll 127 = .ok (.iload_n 1, 1) := by decide +kernel
theorem dX12_looksAll_128 : decode cX12_looksAll 128 = .ok (.iconst 0, 1) := by decide +kernel
theorem dX12_looksAll_129 : decode cX12_looksAll 129 = .ok (.iastore, 1) := by decide +kernel
theorem dX12_looksAll_130 : decode cX12_looksAll 130 = .ok (.aload_n 0, 1) := by decide +kernel
theorem dX12_looksAll_131 : decode cX12_looksAll 131 = .ok (.getfield 143, 3) := by decide +kernel
theorem dX12_looksAll_134 : decode cX12_looksAll 134 = .ok (.iload_n 1, 1) := by decide +kernel
theorem dX12_looksAll_135 : decode cX12_looksAll 135 = .ok (.iconst (-1), 1) := by decide +kernel
theorem dX12_looksAll_136 : decode cX12_looksAll 136 = .ok (.iastore, 1) := by decide +kernel
theorem dX12_looksAll_137 : decode cX12_looksAll 137 = .ok (.iload_n 3, 1) := by decide +kernel
theorem dX12_looksAll_138 : decode cX12_looksAll 138 = .ok (.ifCond .ge 26, 3) := by decide +kernel
theorem dX12_looksAll_141 : decode cX12_looksAll 141 = .ok (.aload_n 0, 1) := by decide +kernel
theorem dX12_looksAll_142 : decode cX12_looksAll 142 = .ok (.getfield 137, 3) := by decide +kernel
theorem dX12_looksAll_145 : decode cX12_looksAll 145 = .ok (.iload_n 1, 1) := by decide +kernel
theorem dX12_looksAll_146 : decode cX12_looksAll 146 = .ok (.aload_n 0, 1) := by decide +kernel
theorem dX12_looksAll_147 : decode cX12_looksAll 147 = .ok (.getfield 70, 3) := by decide +kernel
theorem dX12_looksAll_150 : decode cX12_looksAll 150 = .ok (.iload_n 2, 1) := by decide +kernel
theorem dX12_looksAll_151 : decode cX12_looksAll 151 = .ok (.baload, 1) := by decide +kernel
theorem dX12_looksAll_152 : decode cX12_looksAll 152 = .ok (.ifCond .eq 7, 3) := by decide +kernel
theorem dX12_looksAll_155 : decode cX12_looksAll 155 = .ok (.iconst 1, 1) := by decide +kernel
theorem dX12_looksAll_156 : decode cX12_looksAll 156 = .ok (.goto 4, 3) := by decide +kernel
theorem dX12_looksAll_159 : decode cX12_looksAll 159 = .ok (.iconst 0, 1) := by decide +kernel
theorem dX12_looksAll_160 : decode cX12_looksAll 160 = .ok (.iastore, 1) := by decide +kernel
theorem dX12_looksAll_161 : decode cX12_looksAll 161 = .ok (.goto 189, 3) := by decide +kernel
theorem dX12_looksAll_164 : decode cX12_looksAll 164 = .ok (.aload_n 0, 1) := by decide +kernel
theorem dX12_looksAll_165 : decode cX12_looksAll 165 = .ok (.getfield 137, 3) := by decide +kernel
theorem dX12_looksAll_168 : decode cX12_looksAll 168 = .ok (.iload_n 1, 1) := by decide +kernel
theorem dX12_looksAll_169 : decode cX12_looksAll 169 = .ok (.aload_n 0, 1) := by decide +kernel
theorem dX12_looksAll_170 : decode cX12_looksAll 170 = .ok (.getfield 146, 3) := by decide +kernel
theorem dX12_looksAll_173 : decode cX12_looksAll 173 = .ok (.iload_n 3, 1) := by decide +kernel
theorem dX12_looksAll_174 : decode cX12_looksAll 174 = .ok (.iaload, 1) := by decide +kernel
theorem dX12_looksAll_175 : decode cX12_looksAll 175 = .ok (.iadd, 1) := by decide +kernel
theorem dX12_looksAll_176 : decode cX12_looksAll 176 = .ok (.iaload, 1) := by decide +kernel
theorem dX12_looksAll_177 : decode cX12_looksAll 177 = .ok (.istore 4, 2) := by decide +kernel
theorem dX12_looksAll_179 : decode cX12_looksAll 179 = .ok (.aload_n 0, 1) := by decide +kernel
theorem dX12_looksAll_180 : decode cX12_looksAll 180 = .ok (.getfield 137, 3) := by decide +kernel
theorem dX12_looksAll_183 : decode cX12_looksAll 183 = .ok (.iload_n 1, 1) := by decide +kernel
theorem dX12_looksAll_184 : decode cX12_looksAll 184 = .ok (.iload 4, 2) := by decide +kernel
theorem dX12_looksAll_186 : decode cX12_looksAll 186 = .ok (.aload_n 0, 1) := by decide +kernel
theorem dX12_looksAll_187 : decode cX12_looksAll 187 = .ok (.getfield 137, 3) := by decide +kernel
theorem dX12_looksAll_190 : decode cX12_looksAll 190 = .ok (.iload_n 1, 1) := by decide +kernel
theorem dX12_looksAll_191 : decode cX12_looksAll 191 = .ok (.iconst 2, 1) := by decide +kernel
theorem dX12_looksAll_192 : decode cX12_looksAll 192 = .ok (.aload_n 0, 1) := by decide +kernel
theorem dX12_looksAll_193 : decode cX12_looksAll 193 = .ok (.getfield 146, 3) := by decide +kernel
theorem dX12_looksAll_196 : decode cX12_looksAll 196 = .ok (.iload_n 3, 1) := by decide +kernel
theorem dX12_looksAll_197 : decode cX12_looksAll 197 = .ok (.iaload, 1) := by decide +kernel
theorem dX12_looksAll_198 : decode cX12_looksAll 198 = .ok (.imul, 1) := by decide +kernel
theorem dX12_looksAll_199 : decode cX12_looksAll 199 = .ok (.iadd, 1) := by decide +kernel
theorem dX12_looksAll_200 : decode cX12_looksAll 200 = .ok (.iaload, 1) := by decide +kernel
theorem dX12_looksAll_201 : decode cX12_looksAll 201 = .ok (.if_icmp .ne 8, 3) := by decide +kernel
theorem dX12_looksAll_204 : decode cX12_looksAll 204 = .ok (.iload 4, 2) := by decide +kernel
theorem dX12_looksAll_206 : decode cX12_looksAll 206 = .ok (.goto 4, 3) := by decide +kernel
theorem dX12_looksAll_209 : decode cX12_looksAll 209 = .ok (.iconst 2, 1) := by decide +kernel
theorem dX12_looksAll_210 : decode cX12_looksAll 210 = .ok (.iastore, 1) := by decide +kernel
theorem dX12_looksAll_211 : decode cX12_looksAll 211 = .ok (.aload_n 0, 1) := by decide +kernel
theorem dX12_looksAll_212 : decode cX12_looksAll 212 = .ok (.getfield 137, 3) := by decide +kernel
theorem dX12_looksAll_215 : decode cX12_looksAll 215 = .ok (.iload_n 1, 1) := by decide +kernel
theorem dX12_looksAll_216 : decode cX12_looksAll 216 = .ok (.iaload, 1) := by decide +kernel
theorem dX12_looksAll_217 : decode cX12_looksAll 217 = .ok (.iconst 2, 1) := by decide +kernel
theorem dX12_looksAll_218 : decode cX12_looksAll 218 = .ok (.if_icmp .ge 6, 3) := by decide +kernel
theorem dX12_looksAll_221 : decode cX12_looksAll 221 = .ok (.goto 129, 3) := by decide +kernel
theorem dX12_looksAll_224 : decode cX12_looksAll 224 = .ok (.iconst 0, 1) := by decide +kernel
theorem dX12_looksAll_225 : decode cX12_looksAll 225 = .ok (.istore 5, 2) := by decide +kernel
theorem dX12_looksAll_227 : decode cX12_looksAll 227 = .ok (.iload 5, 2) := by decide +kernel
theorem dX12_looksAll_229 : decode cX12_looksAll 229 = .ok (.aload_n 0, 1) := by decide +kernel
theorem dX12_looksAll_230 : decode cX12_looksAll 230 = .ok (.getfield 288, 3) := by decide +kernel
theorem dX12_looksAll_233 : decode cX12_looksAll 233 = .ok (.if_icmp .ge 117, 3) := by decide +kernel
theorem dX12_looksAll_236 : decode cX12_looksAll 236 = .ok (.iload_n 1, 1) := by decide +kernel
theorem dX12_looksAll_237 : decode cX12_looksAll 237 = .ok (.aload_n 0, 1) := by decide +kernel
theorem dX12_looksAll_238 : decode cX12_looksAll 238 = .ok (.getfield 146, 3) := by decide +kernel
theorem dX12_looksAll_241 : decode cX12_looksAll 241 = .ok (.iload 5, 2) := by decide +kernel
theorem dX12_looksAll_243 : decode cX12_looksAll 243 = .ok (.iaload, 1) := by decide +kernel
theorem dX12_looksAll_244 : decode cX12_looksAll 244 = .ok (.idiv, 1) := by decide +kernel
theorem dX12_looksAll_245 : decode cX12_looksAll 245 = .ok (.iconst 3, 1) := by decide +kernel
theorem dX12_looksAll_246 : decode cX12_looksAll 246 = .ok (.irem, 1) := by decide +kernel
theorem dX12_looksAll_247 : decode cX12_looksAll 247 = .ok (.ifCond .eq 6, 3) := by decide +kernel
theorem dX12_looksAll_250 : decode cX12_looksAll 250 = .ok (.goto 94, 3) := by decide +kernel
theorem dX12_looksAll_253 : decode cX12_looksAll 253 = .ok (.aload_n 0, 1) := by decide +kernel
theorem dX12_looksAll_254 : decode cX12_looksAll 254 = .ok (.getfield 140, 3) := by decide +kernel
theorem dX12_looksAll_257 : decode cX12_looksAll 257 = .ok (.iload_n 1, 1) := by decide +kernel
theorem dX12_looksAll_258 : decode cX12_looksAll 258 = .ok (.aload_n 0, 1) := by decide +kernel
theorem dX12_looksAll_259 : decode cX12_looksAll 259 = .ok (.getfield 146, 3) := by decide +kernel
theorem dX12_looksAll_262 : decode cX12_looksAll 262 = .ok (.iload 5, 2) := by decide +kernel
theorem dX12_looksAll_264 : decode cX12_looksAll 264 = .ok (.iaload, 1) := by decide +kernel
theorem dX12_looksAll_265 : decode cX12_looksAll 265 = .ok (.iadd, 1) := by decide +kernel
theorem dX12_looksAll_266 : decode cX12_looksAll 266 = .ok (.iaload, 1) := by decide +kernel
theorem dX12_looksAll_267 : decode cX12_looksAll 267 = .ok (.istore 6, 2) := by decide +kernel
theorem dX12_looksAll_269 : decode cX12_looksAll 269 = .ok (.aload_n 0, 1) := by decide +kernel
theorem dX12_looksAll_270 : decode cX12_looksAll 270 = .ok (.getfield 140, 3) := by decide +kernel
theorem dX12_looksAll_273 : decode cX12_looksAll 273 = .ok (.iload_n 1, 1) := by decide +kernel
theorem dX12_looksAll_274 : decode cX12_looksAll 274 = .ok (.iconst 2, 1) := by decide +kernel
theorem dX12_looksAll_275 : decode cX12_looksAll 275 = .ok (.aload_n 0, 1) := by decide +kernel
theorem dX12_looksAll_276 : decode cX12_looksAll 276 = .ok (.getfield 146, 3) := by decide +kernel
theorem dX12_looksAll_279 : decode cX12_looksAll 279 = .ok (.iload 5, 2) := by decide +kernel
theorem dX12_looksAll_281 : decode cX12_looksAll 281 = .ok (.iaload, 1) := by decide +kernel
theorem dX12_looksAll_282 : decode cX12_looksAll 282 = .ok (.imul, 1) := by decide +kernel
theorem dX12_looksAll_283 : decode cX12_looksAll 283 = .ok (.iadd, 1) := by decide +kernel
theorem dX12_looksAll_284 : decode cX12_looksAll 284 = .ok (.iaload, 1) := by decide +kernel
theorem dX12_looksAll_285 : decode cX12_looksAll 285 = .ok (.istore 7, 2) := by decide +kernel
theorem dX12_looksAll_287 : decode cX12_looksAll 287 = .ok (.iconst 1, 1) := by decide +kernel
theorem dX12_looksAll_288 : decode cX12_looksAll 288 = .ok (.iload 6, 2) := by decide +kernel
theorem dX12_looksAll_290 : decode cX12_looksAll 290 = .ok (.iload 7, 2) := by decide +kernel
theorem dX12_looksAll_292 : decode cX12_looksAll 292 = .ok (.if_icmp .le 8, 3) := by decide +kernel
theorem dX12_looksAll_295 : decode cX12_looksAll 295 = .ok (.iload 6, 2) := by decide +kernel
theorem dX12_looksAll_297 : decode cX12_looksAll 297 = .ok (.goto 5, 3) := by decide +kernel
theorem dX12_looksAll_300 : decode cX12_looksAll 300 = .ok (.iload 7, 2) := by decide +kernel
theorem dX12_looksAll_302 : decode cX12_looksAll 302 = .ok (.iadd, 1) := by decide +kernel
theorem dX12_looksAll_303 : decode cX12_looksAll 303 = .ok (.istore 8, 2) := by decide +kernel
theorem dX12_looksAll_305 : decode cX12_looksAll 305 = .ok (.aload_n 0, 1) := by decide +kernel
theorem dX12_looksAll_306 : decode cX12_looksAll 306 = .ok (.getfield 143, 3) := by decide +kernel
theorem dX12_looksAll_309 : decode cX12_looksAll 309 = .ok (.iload_n 1, 1) := by decide +kernel
theorem dX12_looksAll_310 : decode cX12_looksAll 310 = .ok (.iaload, 1) := by decide +kernel
theorem dX12_looksAll_311 : decode cX12_looksAll 311 = .ok (.ifCond .lt 17, 3) := by decide +kernel
theorem dX12_looksAll_314 : decode cX12_looksAll 314 = .ok (.iload 8, 2) := by decide +kernel
theorem dX12_looksAll_316 : decode cX12_looksAll 316 = .ok (.aload_n 0, 1) := by decide +kernel
theorem dX12_looksAll_317 : decode cX12_looksAll 317 = .ok (.getfield 140, 3) := by decide +kernel
theorem dX12_looksAll_320 : decode cX12_looksAll 320 = .ok (.iload_n 1, 1) := by decide +kernel
theorem dX12_looksAll_321 : decode cX12_looksAll 321 = .ok (.iaload, 1) := by decide +kernel
theorem dX12_looksAll_322 : decode cX12_looksAll 322 = .ok (.if_icmp .lt 6, 3) := by decide +kernel
theorem dX12_looksAll_325 : decode cX12_looksAll 325 = .ok (.goto 19, 3) := by decide +kernel
theorem dX12_looksAll_328 : decode cX12_looksAll 328 = .ok (.aload_n 0, 1) := by decide +kernel
theorem dX12_looksAll_329 : decode cX12_looksAll 329 = .ok (.getfield 140, 3) := by decide +kernel
theorem dX12_looksAll_332 : decode cX12_looksAll 332 = .ok (.iload_n 1, 1) := by decide +kernel
theorem dX12_looksAll_333 : decode cX12_looksAll 333 = .ok (.iload 8, 2) := by decide +kernel
theorem dX12_looksAll_335 : decode cX12_looksAll 335 = .ok (.iastore, 1) := by decide +kernel
theorem dX12_looksAll_336 : decode cX12_looksAll 336 = .ok (.aload_n 0, 1) := by decide +kernel
theorem dX12_looksAll_337 : decode cX12_looksAll 337 = .ok (.getfield 143, 3) := by decide +kernel
theorem dX12_looksAll_340 : decode cX12_looksAll 340 = .ok (.iload_n 1, 1) := by decide +kernel
theorem dX12_looksAll_341 : decode cX12_looksAll 341 = .ok (.iload 5, 2) := by decide +kernel
theorem dX12_looksAll_343 : decode cX12_looksAll 343 = .ok (.iastore, 1) := by decide +kernel
theorem dX12_looksAll_344 : decode cX12_looksAll 344 = .ok (.iinc 5 1, 3) := by decide +kernel
theorem dX12_looksAll_347 : decode cX12_looksAll 347 = .ok (.goto (-120), 3) := by decide +kernel
theorem dX12_looksAll_350 : decode cX12_looksAll 350 = .ok (.iinc 1 (-1), 3) := by decide +kernel
theorem dX12_looksAll_353 : decode cX12_looksAll 353 = .ok (.goto (-298), 3) := by decide +kernel
theorem dX12_looksAll_356 : decode cX12_looksAll 356 = .ok (.return_, 1) := by decide +kernel
abbrev o_X12_looksAll : Type := Int32 × Int32 × Int32 × (Nat → Int32) × (Nat → Int32) × (Nat → Int32) × (Nat → Int32) × (Nat → Int32) × (Nat → Int32) × (Nat → Int32) × (Nat → Int32)
def f_X12_looksAll_L227 (S : wd_W) (a4 : Nat → Int32) (x8 : Int32) (k350_23 : (Nat → Int32) → (Nat → Int32) → (Nat → Int32) → (Option o_X12_looksAll)) (a33 : Nat → Int32) (r38 : (Int32) → (Nat → Int32) → (Nat → Int32) → (Option o_X12_looksAll)) (x35 : Int32) (a36 : Nat → Int32) (a37 : Nat → Int32) : Option o_X12_looksAll :=
if (S.1 32) ≤ x35 then (
k350_23 a33 a36 a37) else (
gd (okx x35 10) <|
gd (ne0 (a4 x35.toNatClampNeg)) <|
lk (fun a41 a42 =>
r38 (x35 + (1 : Int32)) a41 a42) fun k344_43 =>
if ((x8 / (a4 x35.toNatClampNeg)) - (x8 / (a4 x35.toNatClampNeg)) / (3 : Int32) * (3 : Int32)) = 0 then (
gd (okx x35 10) <|
gd (okx (x8 + (a4 x35.toNatClampNeg)) 19683) <|
lz (a36 (x8 + (a4 x35.toNatClampNeg)).toNatClampNeg) fun x46 =>
gd (okx x35 10) <|
gd (okx (x8 + ((2 : Int32) * (a4 x35.toNatClampNeg))) 19683) <|
lz (a36 (x8 + ((2 : Int32) * (a4 x35.toNatClampNeg))).toNatClampNeg) fun x49 =>
lk (fun x50 x51 =>
lz (x51 + x50) fun x53 =>
gd (okx x8 19683) <|
lk (gd (okx x8 19683) <|
lz (upd a36 x8.toNatClampNeg x53) fun a57 =>
gd (okx x8 19683) <|
lz (upd a37 x8.toNatClampNeg x35) fun a59 =>
k344_43 a57 a59) fun k328_55 =>
if (a37 x8.toNatClampNeg) < 0 then (
k328_55) else (
gd (okx x8 19683) <|
if x53 < (a36 x8.toNatClampNeg) then (
k328_55) else (
k344_43 a36 a37))) fun k302_52 =>
if x46 ≤ x49 then (
k302_52 x49 (1 : Int32)) else (
k302_52 x46 (1 : Int32))) else (
k344_43 a36 a37))
def f_X12_looksAll_L66 (S : wd_W) (a4 : Nat → Int32) (x8 : Int32) (k123_15 : (Int32) → (Int32) → (Option o_X12_looksAll)) (r80 : (Int32) → (Int32) → (Int32) → (Option o_X12_looksAll)) (x77 : Int32) (x78 : Int32) (x79 : Int32) : Option o_X12_looksAll :=
if (S.1 32) ≤ x79 then (
k123_15 x77 x78) else (
gd (okx x79 10) <|
gd (ne0 (a4 x79.toNatClampNeg)) <|
lz ((x8 / (a4 x79.toNatClampNeg)) - (x8 / (a4 x79.toNatClampNeg)) / (3 : Int32) * (3 : Int32)) fun x83 =>
lk (fun x84 x85 =>
lz (x85 ||| x84) fun x87 =>
lk (fun x88 =>
r80 x87 x88 (x79 + (1 : Int32))) fun k116_89 =>
if x83 = 0 then (
k116_89 x79) else (
k116_89 x78)) fun k103_86 =>
if x83 = (1 : Int32) then (
k103_86 ((1 : Int32) <<< (x79 &&& 31)) x77) else (
k103_86 (0 : Int32) x77))
def f_X12_looksAll_L55 (S : wd_W) (o1 : o_X12_lays) (a4 : Nat → Int32) (r12 : (Int32) → (Nat → Int32) → (Nat → Int32) → (Nat → Int32) → (Option o_X12_looksAll)) (x8 : Int32) (a9 : Nat → Int32) (a10 : Nat → Int32) (a11 : Nat → Int32) : Option o_X12_looksAll :=
if x8 < 0 then (
some (o1.1, o1.2.1, o1.2.2.1, o1.2.2.2.1, o1.2.2.2.2.1, o1.2.2.2.2.2.1, o1.2.2.2.2.2.2, a9, a10, a11, a4)) else (
lk (fun x13 x14 =>
gd (okx x8 19683) <|
lz (upd a10 x8.toNatClampNeg (0 : Int32)) fun a17 =>
gd (okx x8 19683) <|
lz (upd a11 x8.toNatClampNeg (-1 : Int32)) fun a19 =>
lk (fun a20 a21 a22 =>
r12 (x8 + (-1 : Int32)) a20 a21 a22) fun k350_23 =>
if 0 ≤ x14 then (
gd (okx x14 10) <|
gd (okx (x8 + (a4 x14.toNatClampNeg)) 19683) <|
lz (a9 (x8 + (a4 x14.toNatClampNeg)).toNatClampNeg) fun x26 =>
gd (okx x14 10) <|
gd (okx (x8 + ((2 : Int32) * (a4 x14.toNatClampNeg))) 19683) <|
lk (fun x29 x30 =>
gd (okx x30 19683) <|
lz (upd a9 x30.toNatClampNeg x29) fun a33 =>
gd (okx x8 19683) <|
if (2 : Int32) ≤ (a33 x8.toNatClampNeg) then (
it3 (f_X12_looksAll_L227 S a4 x8 k350_23 a33) fuel (0 : Int32) a17 a19) else (
k350_23 a33 a17 a19)) fun k210_31 =>
if x26 = (a9 (x8 + ((2 : Int32) * (a4 x14.toNatClampNeg))).toNatClampNeg) then (
k210_31 x26 x8) else (
k210_31 (2 : Int32) x8)) else (
gd (okx x13 32768) <|
lk (fun x70 x71 =>
gd (okx x71 19683) <|
lz (upd a9 x71.toNatClampNeg x70) fun a74 =>
k350_23 a74 a17 a19) fun k160_72 =>
if (o1.2.2.2.2.2.2 x13.toNatClampNeg) = 0 then (
k160_72 (0 : Int32) x8) else (
k160_72 (1 : Int32) x8))) fun k123_15 =>
it3 (f_X12_looksAll_L66 S a4 x8 k123_15) fuel (0 : Int32) (-1 : Int32) (0 : Int32))
def f_X12_looksAll_L13 (S : wd_W) (k43_5 : (Nat → Int32) → (Option o_X12_looksAll)) (r98 : (Int32) → (Nat → Int32) → (Option o_X12_looksAll)) (x96 : Int32) (a97 : Nat → Int32) : Option o_X12_looksAll :=
if (S.1 32) ≤ x96 then (
k43_5 a97) else (
gd (okx x96 10) <|
lz ((3 : Int32) * (a97 x96.toNatClampNeg)) fun x100 =>
gd (okx (x96 + (1 : Int32)) 10) <|
lz (upd a97 (x96 + (1 : Int32)).toNatClampNeg x100) fun a102 =>
r98 (x96 + (1 : Int32)) a102)
def f_X12_looksAll (S : wd_W) : Option o_X12_looksAll :=
bd (f_X12_lays (wd_o S [(38, (S.1 38)), (39, (S.1 39)), (44, (S.1 44))] [] [(17, (S.2.2.1 17)), (18, (S.2.2.1 18)), (19, (S.2.2.1 19)), (20, (S.2.2.1 20)), (42, (S.2.2.1 42)), (43, (S.2.2.1 43)), (44, (S.2.2.1 44)), (45, (S.2.2.1 45))] [] [])) fun o1 =>
gd (okx (0 : Int32) 10) <|
lz (upd (S.2.2.1 45) (0 : Int32).toNatClampNeg (1 : Int32)) fun a3 =>
lk (fun a4 =>
gd (okx (S.1 32) 10) <|
lz ((a4 (S.1 32).toNatClampNeg) - (1 : Int32)) fun x7 =>
it4 (f_X12_looksAll_L55 S o1 a4) fuel x7 (S.2.2.1 42) (S.2.2.1 43) (S.2.2.1 44)) fun k43_5 =>
it2 (f_X12_looksAll_L13 S k43_5) fuel (0 : Int32) a3
set_option maxRecDepth 100000 in
set_option maxHeartbeats 4000000 in
theorem c_X12_looksAll (l : Launch) (D : va_G) (q g : Nat → Nat) (cy : Nat → ClassId) (z : (Nat → Nat) × (Nat → Nat) × Nat) (S : wd_W) (o : o_X12_looksAll) (hf : f_X12_looksAll S = some o) : MX layM l yX12_looksAll cX12_looksAll 9 none ({ frames := 5, cells := 0, slots := 0, locals := 115 } : Room) D q g cy z [.ref (q 0)] S false (none) (wd_o S [(38, o.1), (39, o.2.1), (44, o.2.2.1)] [] [(17, o.2.2.2.1), (18, o.2.2.2.2.1), (19, o.2.2.2.2.2.1), (20, o.2.2.2.2.2.2.1), (42, o.2.2.2.2.2.2.2.1), (43, o.2.2.2.2.2.2.2.2.1), (44, o.2.2.2.2.2.2.2.2.2.1), (45, o.2.2.2.2.2.2.2.2.2.2)] [] []) 0 0 := by
  refine mx_of (own := RX12) (lc := [(0, .ref (q 0))]) (by decide +kernel) rfl layM_ok (Nat.le_of_ble_eq_true rfl) rfl ?_
  intro X hXl hXq hXz hC hQ
  subst hXl; subst hXq; subst hXz
  unfold f_X12_looksAll at hf
  refine go_keys (L1 := [(38, (S.1 38)), (39, (S.1 39)), (44, (S.1 44))]) (L2 := []) (L3 := [(17, (S.2.2.1 17)), (18, (S.2.2.1 18)), (19, (S.2.2.1 19)), (20, (S.2.2.1 20)), (42, (S.2.2.1 42)), (43, (S.2.2.1 43)), (44, (S.2.2.1 44)), (45, (S.2.2.1 45))]) (L4 := []) (L5 := []) [38, 39, 44] [] [17, 18, 19, 20, 42, 43, 44, 45] [] [] rfl rfl rfl rfl rfl ?_
  refine go_aload_n (pc' := 1) hC dX12_looksAll_0 rfl rfl ?_
  obtain ⟨o1, ho1, hf⟩ := bd_e hf
  refine go_callV1 (pc' := 4) (As := []) (st := []) (st' := []) (L1' := [(38, o1.1), (39, o1.2.1), (44, o1.2.2.1)]) (L2' := []) (L3' := [(17, o1.2.2.2.1), (18, o1.2.2.2.2.1), (19, o1.2.2.2.2.2.1), (20, o1.2.2.2.2.2.2), (42, (S.2.2.1 42)), (43, (S.2.2.1 43)), (44, (S.2.2.1 44)), (45, (S.2.2.1 45))]) (L4' := []) (L5' := []) (cells' := 0) (slots' := 0)  (b := 0) hC dX12_looksAll_1 ⟨mw_860, mw_863, mw_5, yd_yX12_lays, yp_yX12_lays, Nat.le_of_ble_eq_true rfl, Nat.le_of_ble_eq_true rfl, (Nat.le_of_ble_eq_true rfl), (Nat.le_of_ble_eq_true rfl)⟩ mw_861 mw_862 layM_0 rfl rfl rfl (Nat.le_of_ble_eq_true rfl) (c_X12_lays (x_l X) (x_D X) (x_q X) g (x_cy X) (x_z X) _  o1 ho1) rfl rfl rfl rfl rfl rfl rfl rfl rfl rfl rfl rfl rfl rfl ?_
  refine go_aload_n (pc' := 5) hC dX12_looksAll_4 rfl rfl ?_
  refine go_getq (pc' := 8) hC 0 77 layM_0 rfl rfl inlX12 (Nat.le_of_ble_eq_true rfl) mw_226 rfl dX12_looksAll_5 rfl ?_
  refine go_iconst (pc' := 9) hC dX12_looksAll_8 ki_0 rfl ?_
  refine go_iconst (pc' := 10) hC dX12_looksAll_9 ki_1 rfl ?_
  obtain ⟨h2, hf⟩ := gd_e hf
  refine go_iast (f := (S.2.2.1 45)) (pc' := 11) hC 45 layM_45 rfl rfl dX12_looksAll_10 (okx_in h2) rfl rfl (fun a3 ha L3' hL => ?_)
  have hf := lz_r ha hf
  clear ha
  obtain rfl : L3' = [(17, o1.2.2.2.1), (18, o1.2.2.2.2.1), (19, o1.2.2.2.2.2.1), (20, o1.2.2.2.2.2.2), (42, (S.2.2.1 42)), (43, (S.2.2.1 43)), (44, (S.2.2.1 44)), (45, a3)] := hL.symm
  refine go_iconst (pc' := 12) hC dX12_looksAll_11 ki_0 rfl ?_
  refine go_istore_n (lc' := [(0, .ref (x_q X 0)), (1, .int (0 : Int32))]) (pc' := 13) hC dX12_looksAll_12 (Nat.le_of_ble_eq_true rfl) rfl rfl ?_
  obtain ⟨k43_5, hk43_5, hf⟩ := lk_e1 hf
  have jk43_5 : ∀ (a4 : Nat → Int32), k43_5 a4 = some o → Go X layM S 43 [(0, .ref (x_q X 0))] [] g [(38, o1.1), (39, o1.2.1), (44, o1.2.2.1)] [] [(17, o1.2.2.2.1), (18, o1.2.2.2.2.1), (19, o1.2.2.2.2.2.1), (20, o1.2.2.2.2.2.2), (42, (S.2.2.1 42)), (43, (S.2.2.1 43)), (44, (S.2.2.1 44)), (45, a4)] [] [] 0 0 := by
    intro a4 hf
    have hf := hk43_5 a4 hf
    clear hk43_5
    refine go_aload_n (pc' := 44) hC dX12_looksAll_43 rfl rfl ?_
    refine go_getq (pc' := 47) hC 0 77 layM_0 rfl rfl inlX12 (Nat.le_of_ble_eq_true rfl) mw_226 rfl dX12_looksAll_44 rfl ?_
    refine go_aload_n (pc' := 48) hC dX12_looksAll_47 rfl rfl ?_
    refine go_geti (v := (S.1 32)) (pc' := 51) hC 0 32 layM_0 rfl rfl inlX12 (Nat.le_of_ble_eq_true rfl) mw_250 rfl dX12_looksAll_48 rfl rfl ?_
    obtain ⟨h6, hf⟩ := gd_e hf
    refine go_iald (f := a4) (pc' := 52) hC 45 layM_45 rfl rfl dX12_looksAll_51 (okx_in h6) rfl ?_
    refine go_iconst (pc' := 53) hC dX12_looksAll_52 ki_1 rfl ?_
    refine go_isub (pc' := 54) hC dX12_looksAll_53 rfl ?_
    refine go_namei (fun x7 hx => ?_)
    have hf := lz_r hx hf
    clear hx
    refine go_istore_n (lc' := [(0, .ref (x_q X 0)), (1, .int x7)]) (pc' := 55) hC dX12_looksAll_54 (Nat.le_of_ble_eq_true rfl) rfl rfl ?_
    have l55_95 : ∀ (nn : Nat) (x8 : Int32) (a9 : Nat → Int32) (a10 : Nat → Int32) (a11 : Nat → Int32), it4 (f_X12_looksAll_L55 S o1 a4) nn x8 a9 a10 a11 = some o → Go X layM S 55 [(0, .ref (x_q X 0)), (1, .int x8)] [] g [(38, o1.1), (39, o1.2.1), (44, o1.2.2.1)] [] [(17, o1.2.2.2.1), (18, o1.2.2.2.2.1), (19, o1.2.2.2.2.2.1), (20, o1.2.2.2.2.2.2), (42, a9), (43, a10), (44, a11), (45, a4)] [] [] 0 0 := by
      intro nn
      induction nn with
      | zero =>
        intro x8 a9 a10 a11 hf
        exact none_no hf
      | succ nn ih =>
        intro x8 a9 a10 a11 hf
        have hf : f_X12_looksAll_L55 S o1 a4 (it4 (f_X12_looksAll_L55 S o1 a4) nn) x8 a9 a10 a11 = some o := hf
        generalize it4 (f_X12_looksAll_L55 S o1 a4) nn = r12 at ih hf
        unfold f_X12_looksAll_L55 at hf
        refine go_iload_n (pc' := 56) hC dX12_looksAll_55 rfl rfl ?_
        refine go_if_lt (tgt := 356) (pc' := 59) hC dX12_looksAll_56 (by decide) rfl (fun h94 => ?_) (fun h94 => ?_)
        · have hf := ite_t h94 hf
          obtain rfl := Option.some.inj hf
          exact go_vret hC hQ dX12_looksAll_356 rfl rfl rfl (fun _ => rfl) rfl rfl
        · have hf := ite_f h94 hf
          refine go_iconst (pc' := 60) hC dX12_looksAll_59 ki_0 rfl ?_
          refine go_istore_n (lc' := [(0, .ref (x_q X 0)), (1, .int x8), (2, .int (0 : Int32))]) (pc' := 61) hC dX12_looksAll_60 (Nat.le_of_ble_eq_true rfl) rfl rfl ?_
          refine go_iconst (pc' := 62) hC dX12_looksAll_61 ki_m1 rfl ?_
          refine go_istore_n (lc' := [(0, .ref (x_q X 0)), (1, .int x8), (2, .int (0 : Int32)), (3, .int (-1 : Int32))]) (pc' := 63) hC dX12_looksAll_62 (Nat.le_of_ble_eq_true rfl) rfl rfl ?_
          refine go_iconst (pc' := 64) hC dX12_looksAll_63 ki_0 rfl ?_
          refine go_istore (lc' := [(0, .ref (x_q X 0)), (1, .int x8), (2, .int (0 : Int32)), (3, .int (-1 : Int32)), (4, .int (0 : Int32))]) (pc' := 66) hC dX12_looksAll_64 (Nat.le_of_ble_eq_true rfl) rfl rfl ?_
          obtain ⟨k123_15, hk123_15, hf⟩ := lk_e2 hf
          have jk123_15 : ∀ (x13 : Int32) (x14 : Int32), k123_15 x13 x14 = some o → Go X layM S 123 [(0, .ref (x_q X 0)), (1, .int x8), (2, .int x13), (3, .int x14)] [] g [(38, o1.1), (39, o1.2.1), (44, o1.2.2.1)] [] [(17, o1.2.2.2.1), (18, o1.2.2.2.2.1), (19, o1.2.2.2.2.2.1), (20, o1.2.2.2.2.2.2), (42, a9), (43, a10), (44, a11), (45, a4)] [] [] 0 0 := by
            intro x13 x14 hf
            have hf := hk123_15 x13 x14 hf
            clear hk123_15
            refine go_aload_n (pc' := 124) hC dX12_looksAll_123 rfl rfl ?_
            refine go_getq (pc' := 127) hC 0 75 layM_0 rfl rfl inlX12 (Nat.le_of_ble_eq_true rfl) mw_224 rfl dX12_looksAll_124 rfl ?_
            refine go_iload_n (pc' := 128) hC dX12_looksAll_127 rfl rfl ?_
            refine go_iconst (pc' := 129) hC dX12_looksAll_128 ki_0 rfl ?_
            obtain ⟨h16, hf⟩ := gd_e hf
            refine go_iast (f := a10) (pc' := 130) hC 43 layM_43 rfl rfl dX12_looksAll_129 (okx_in h16) rfl rfl (fun a17 ha L3' hL => ?_)
            have hf := lz_r ha hf
            clear ha
            obtain rfl : L3' = [(17, o1.2.2.2.1), (18, o1.2.2.2.2.1), (19, o1.2.2.2.2.2.1), (20, o1.2.2.2.2.2.2), (42, a9), (43, a17), (44, a11), (45, a4)] := hL.symm
            refine go_aload_n (pc' := 131) hC dX12_looksAll_130 rfl rfl ?_
            refine go_getq (pc' := 134) hC 0 76 layM_0 rfl rfl inlX12 (Nat.le_of_ble_eq_true rfl) mw_225 rfl dX12_looksAll_131 rfl ?_
            refine go_iload_n (pc' := 135) hC dX12_looksAll_134 rfl rfl ?_
            refine go_iconst (pc' := 136) hC dX12_looksAll_135 ki_m1 rfl ?_
            obtain ⟨h18, hf⟩ := gd_e hf
            refine go_iast (f := a11) (pc' := 137) hC 44 layM_44 rfl rfl dX12_looksAll_136 (okx_in h18) rfl rfl (fun a19 ha L3' hL => ?_)
            have hf := lz_r ha hf
            clear ha
            obtain rfl : L3' = [(17, o1.2.2.2.1), (18, o1.2.2.2.2.1), (19, o1.2.2.2.2.2.1), (20, o1.2.2.2.2.2.2), (42, a9), (43, a17), (44, a19), (45, a4)] := hL.symm
            refine go_iload_n (pc' := 138) hC dX12_looksAll_137 rfl rfl ?_
            obtain ⟨k350_23, hk350_23, hf⟩ := lk_e3 hf
            have jk350_23 : ∀ (a20 : Nat → Int32) (a21 : Nat → Int32) (a22 : Nat → Int32), k350_23 a20 a21 a22 = some o → Go X layM S 350 [(0, .ref (x_q X 0)), (1, .int x8)] [] g [(38, o1.1), (39, o1.2.1), (44, o1.2.2.1)] [] [(17, o1.2.2.2.1), (18, o1.2.2.2.2.1), (19, o1.2.2.2.2.2.1), (20, o1.2.2.2.2.2.2), (42, a20), (43, a21), (44, a22), (45, a4)] [] [] 0 0 := by
              intro a20 a21 a22 hf
              have hf := hk350_23 a20 a21 a22 hf
              clear hk350_23
              refine go_iinc (lc' := [(0, .ref (x_q X 0)), (1, .int (x8 + (-1 : Int32)))]) (pc' := 353) hC dX12_looksAll_350 rfl ki_m1 (Nat.le_of_ble_eq_true rfl) rfl rfl ?_
              refine go_goto (tgt := 55) hC dX12_looksAll_353 (by decide) ?_
              exact ih (x8 + (-1 : Int32)) a20 a21 a22 hf
            clear hk350_23
            refine go_if_ge (tgt := 164) (pc' := 141) hC dX12_looksAll_138 (by decide) rfl (fun h76 => ?_) (fun h76 => ?_)
            · have hf := ite_t h76 hf
              refine go_aload_n (pc' := 165) hC dX12_looksAll_164 rfl rfl ?_
              refine go_getq (pc' := 168) hC 0 74 layM_0 rfl rfl inlX12 (Nat.le_of_ble_eq_true rfl) mw_223 rfl dX12_looksAll_165 rfl ?_
              refine go_iload_n (pc' := 169) hC dX12_looksAll_168 rfl rfl ?_
              refine go_aload_n (pc' := 170) hC dX12_looksAll_169 rfl rfl ?_
              refine go_getq (pc' := 173) hC 0 77 layM_0 rfl rfl inlX12 (Nat.le_of_ble_eq_true rfl) mw_226 rfl dX12_looksAll_170 rfl ?_
              refine go_iload_n (pc' := 174) hC dX12_looksAll_173 rfl rfl ?_
              obtain ⟨h24, hf⟩ := gd_e hf
              refine go_iald (f := a4) (pc' := 175) hC 45 layM_45 rfl rfl dX12_looksAll_174 (okx_in h24) rfl ?_
              refine go_iadd (pc' := 176) hC dX12_looksAll_175 rfl ?_
              obtain ⟨h25, hf⟩ := gd_e hf
              refine go_iald (f := a9) (pc' := 177) hC 42 layM_42 rfl rfl dX12_looksAll_176 (okx_in h25) rfl ?_
              refine go_namei (fun x26 hx => ?_)
              have hf := lz_r hx hf
              clear hx
              refine go_istore (lc' := [(0, .ref (x_q X 0)), (1, .int x8), (2, .int x13), (3, .int x14), (4, .int x26)]) (pc' := 179) hC dX12_looksAll_177 (Nat.le_of_ble_eq_true rfl) rfl rfl ?_
              refine go_aload_n (pc' := 180) hC dX12_looksAll_179 rfl rfl ?_
              refine go_getq (pc' := 183) hC 0 74 layM_0 rfl rfl inlX12 (Nat.le_of_ble_eq_true rfl) mw_223 rfl dX12_looksAll_180 rfl ?_
              refine go_iload_n (pc' := 184) hC dX12_looksAll_183 rfl rfl ?_
              refine go_iload (pc' := 186) hC dX12_looksAll_184 rfl rfl ?_
              refine go_aload_n (pc' := 187) hC dX12_looksAll_186 rfl rfl ?_
              refine go_getq (pc' := 190) hC 0 74 layM_0 rfl rfl inlX12 (Nat.le_of_ble_eq_true rfl) mw_223 rfl dX12_looksAll_187 rfl ?_
              refine go_iload_n (pc' := 191) hC dX12_looksAll_190 rfl rfl ?_
              refine go_iconst (pc' := 192) hC dX12_looksAll_191 ki_2 rfl ?_
              refine go_aload_n (pc' := 193) hC dX12_looksAll_192 rfl rfl ?_
              refine go_getq (pc' := 196) hC 0 77 layM_0 rfl rfl inlX12 (Nat.le_of_ble_eq_true rfl) mw_226 rfl dX12_looksAll_193 rfl ?_
              refine go_iload_n (pc' := 197) hC dX12_looksAll_196 rfl rfl ?_
              obtain ⟨h27, hf⟩ := gd_e hf
              refine go_iald (f := a4) (pc' := 198) hC 45 layM_45 rfl rfl dX12_looksAll_197 (okx_in h27) rfl ?_
              refine go_imul (pc' := 199) hC dX12_looksAll_198 rfl ?_
              refine go_iadd (pc' := 200) hC dX12_looksAll_199 rfl ?_
              obtain ⟨h28, hf⟩ := gd_e hf
              refine go_iald (f := a9) (pc' := 201) hC 42 layM_42 rfl rfl dX12_looksAll_200 (okx_in h28) rfl ?_
              obtain ⟨k210_31, hk210_31, hf⟩ := lk_e2 hf
              have jk210_31 : ∀ (x29 : Int32) (x30 : Int32), k210_31 x29 x30 = some o → Go X layM S 210 [(0, .ref (x_q X 0)), (1, .int x8)] [.int x29, .int x30, .ref (x_q X 42)] g [(38, o1.1), (39, o1.2.1), (44, o1.2.2.1)] [] [(17, o1.2.2.2.1), (18, o1.2.2.2.2.1), (19, o1.2.2.2.2.2.1), (20, o1.2.2.2.2.2.2), (42, a9), (43, a17), (44, a19), (45, a4)] [] [] 0 0 := by
                intro x29 x30 hf
                have hf := hk210_31 x29 x30 hf
                clear hk210_31
                obtain ⟨h32, hf⟩ := gd_e hf
                refine go_iast (f := a9) (pc' := 211) hC 42 layM_42 rfl rfl dX12_looksAll_210 (okx_in h32) rfl rfl (fun a33 ha L3' hL => ?_)
                have hf := lz_r ha hf
                clear ha
                obtain rfl : L3' = [(17, o1.2.2.2.1), (18, o1.2.2.2.2.1), (19, o1.2.2.2.2.2.1), (20, o1.2.2.2.2.2.2), (42, a33), (43, a17), (44, a19), (45, a4)] := hL.symm
                refine go_aload_n (pc' := 212) hC dX12_looksAll_211 rfl rfl ?_
                refine go_getq (pc' := 215) hC 0 74 layM_0 rfl rfl inlX12 (Nat.le_of_ble_eq_true rfl) mw_223 rfl dX12_looksAll_212 rfl ?_
                refine go_iload_n (pc' := 216) hC dX12_looksAll_215 rfl rfl ?_
                obtain ⟨h34, hf⟩ := gd_e hf
                refine go_iald (f := a33) (pc' := 217) hC 42 layM_42 rfl rfl dX12_looksAll_216 (okx_in h34) rfl ?_
                refine go_iconst (pc' := 218) hC dX12_looksAll_217 ki_2 rfl ?_
                refine go_icmp_ge (tgt := 224) (pc' := 221) hC dX12_looksAll_218 (by decide) rfl (fun h67 => ?_) (fun h67 => ?_)
                · have hf := ite_t h67 hf
                  refine go_iconst (pc' := 225) hC dX12_looksAll_224 ki_0 rfl ?_
                  refine go_istore (lc' := [(0, .ref (x_q X 0)), (1, .int x8), (5, .int (0 : Int32))]) (pc' := 227) hC dX12_looksAll_225 (Nat.le_of_ble_eq_true rfl) rfl rfl ?_
                  have l227_66 : ∀ (nn : Nat) (x35 : Int32) (a36 : Nat → Int32) (a37 : Nat → Int32), it3 (f_X12_looksAll_L227 S a4 x8 k350_23 a33) nn x35 a36 a37 = some o → Go X layM S 227 [(0, .ref (x_q X 0)), (1, .int x8), (5, .int x35)] [] g [(38, o1.1), (39, o1.2.1), (44, o1.2.2.1)] [] [(17, o1.2.2.2.1), (18, o1.2.2.2.2.1), (19, o1.2.2.2.2.2.1), (20, o1.2.2.2.2.2.2), (42, a33), (43, a36), (44, a37), (45, a4)] [] [] 0 0 := by
                    intro nn
                    induction nn with
                    | zero =>
                      intro x35 a36 a37 hf
                      exact none_no hf
                    | succ nn ih =>
                      intro x35 a36 a37 hf
                      have hf : f_X12_looksAll_L227 S a4 x8 k350_23 a33 (it3 (f_X12_looksAll_L227 S a4 x8 k350_23 a33) nn) x35 a36 a37 = some o := hf
                      generalize it3 (f_X12_looksAll_L227 S a4 x8 k350_23 a33) nn = r38 at ih hf
                      unfold f_X12_looksAll_L227 at hf
                      refine go_iload (pc' := 229) hC dX12_looksAll_227 rfl rfl ?_
                      refine go_aload_n (pc' := 230) hC dX12_looksAll_229 rfl rfl ?_
                      refine go_geti (v := (S.1 32)) (pc' := 233) hC 0 32 layM_0 rfl rfl inlX12 (Nat.le_of_ble_eq_true rfl) mw_250 rfl dX12_looksAll_230 rfl rfl ?_
                      refine go_icmp_ge (tgt := 350) (pc' := 236) hC dX12_looksAll_233 (by decide) rfl (fun h65 => ?_) (fun h65 => ?_)
                      · have hf := ite_t h65 hf
                        refine go_sub [0, 1] rfl ?_
                        exact jk350_23 a33 a36 a37 hf
                      · have hf := ite_f h65 hf
                        refine go_iload_n (pc' := 237) hC dX12_looksAll_236 rfl rfl ?_
                        refine go_aload_n (pc' := 238) hC dX12_looksAll_237 rfl rfl ?_
                        refine go_getq (pc' := 241) hC 0 77 layM_0 rfl rfl inlX12 (Nat.le_of_ble_eq_true rfl) mw_226 rfl dX12_looksAll_238 rfl ?_
                        refine go_iload (pc' := 243) hC dX12_looksAll_241 rfl rfl ?_
                        obtain ⟨h39, hf⟩ := gd_e hf
                        refine go_iald (f := a4) (pc' := 244) hC 45 layM_45 rfl rfl dX12_looksAll_243 (okx_in h39) rfl ?_
                        obtain ⟨h40, hf⟩ := gd_e hf
                        refine go_idiv (pc' := 245) hC dX12_looksAll_244 (ne0_e h40) rfl ?_
                        refine go_iconst (pc' := 246) hC dX12_looksAll_245 ki_3 rfl ?_
                        refine go_irem (pc' := 247) hC dX12_looksAll_246 (by decide) rfl ?_
                        obtain ⟨k344_43, hk344_43, hf⟩ := lk_e2 hf
                        have jk344_43 : ∀ (a41 : Nat → Int32) (a42 : Nat → Int32), k344_43 a41 a42 = some o → Go X layM S 344 [(0, .ref (x_q X 0)), (1, .int x8), (5, .int x35)] [] g [(38, o1.1), (39, o1.2.1), (44, o1.2.2.1)] [] [(17, o1.2.2.2.1), (18, o1.2.2.2.2.1), (19, o1.2.2.2.2.2.1), (20, o1.2.2.2.2.2.2), (42, a33), (43, a41), (44, a42), (45, a4)] [] [] 0 0 := by
                          intro a41 a42 hf
                          have hf := hk344_43 a41 a42 hf
                          clear hk344_43
                          refine go_iinc (lc' := [(0, .ref (x_q X 0)), (1, .int x8), (5, .int (x35 + (1 : Int32)))]) (pc' := 347) hC dX12_looksAll_344 rfl ki_1 (Nat.le_of_ble_eq_true rfl) rfl rfl ?_
                          refine go_goto (tgt := 227) hC dX12_looksAll_347 (by decide) ?_
                          exact ih (x35 + (1 : Int32)) a41 a42 hf
                        clear hk344_43
                        refine go_if_eq (tgt := 253) (pc' := 250) hC dX12_looksAll_247 (by decide) rfl (fun h64 => ?_) (fun h64 => ?_)
                        · have hf := ite_t h64 hf
                          refine go_aload_n (pc' := 254) hC dX12_looksAll_253 rfl rfl ?_
                          refine go_getq (pc' := 257) hC 0 75 layM_0 rfl rfl inlX12 (Nat.le_of_ble_eq_true rfl) mw_224 rfl dX12_looksAll_254 rfl ?_
                          refine go_iload_n (pc' := 258) hC dX12_looksAll_257 rfl rfl ?_
                          refine go_aload_n (pc' := 259) hC dX12_looksAll_258 rfl rfl ?_
                          refine go_getq (pc' := 262) hC 0 77 layM_0 rfl rfl inlX12 (Nat.le_of_ble_eq_true rfl) mw_226 rfl dX12_looksAll_259 rfl ?_
                          refine go_iload (pc' := 264) hC dX12_looksAll_262 rfl rfl ?_
                          obtain ⟨h44, hf⟩ := gd_e hf
                          refine go_iald (f := a4) (pc' := 265) hC 45 layM_45 rfl rfl dX12_looksAll_264 (okx_in h44) rfl ?_
                          refine go_iadd (pc' := 266) hC dX12_looksAll_265 rfl ?_
                          obtain ⟨h45, hf⟩ := gd_e hf
                          refine go_iald (f := a36) (pc' := 267) hC 43 layM_43 rfl rfl dX12_looksAll_266 (okx_in h45) rfl ?_
                          refine go_namei (fun x46 hx => ?_)
                          have hf := lz_r hx hf
                          clear hx
                          refine go_istore (lc' := [(0, .ref (x_q X 0)), (1, .int x8), (5, .int x35), (6, .int x46)]) (pc' := 269) hC dX12_looksAll_267 (Nat.le_of_ble_eq_true rfl) rfl rfl ?_
                          refine go_aload_n (pc' := 270) hC dX12_looksAll_269 rfl rfl ?_
                          refine go_getq (pc' := 273) hC 0 75 layM_0 rfl rfl inlX12 (Nat.le_of_ble_eq_true rfl) mw_224 rfl dX12_looksAll_270 rfl ?_
                          refine go_iload_n (pc' := 274) hC dX12_looksAll_273 rfl rfl ?_
                          refine go_iconst (pc' := 275) hC dX12_looksAll_274 ki_2 rfl ?_
                          refine go_aload_n (pc' := 276) hC dX12_looksAll_275 rfl rfl ?_
                          refine go_getq (pc' := 279) hC 0 77 layM_0 rfl rfl inlX12 (Nat.le_of_ble_eq_true rfl) mw_226 rfl dX12_looksAll_276 rfl ?_
                          refine go_iload (pc' := 281) hC dX12_looksAll_279 rfl rfl ?_
                          obtain ⟨h47, hf⟩ := gd_e hf
                          refine go_iald (f := a4) (pc' := 282) hC 45 layM_45 rfl rfl dX12_looksAll_281 (okx_in h47) rfl ?_
                          refine go_imul (pc' := 283) hC dX12_looksAll_282 rfl ?_
                          refine go_iadd (pc' := 284) hC dX12_looksAll_283 rfl ?_
                          obtain ⟨h48, hf⟩ := gd_e hf
                          refine go_iald (f := a36) (pc' := 285) hC 43 layM_43 rfl rfl dX12_looksAll_284 (okx_in h48) rfl ?_
                          refine go_namei (fun x49 hx => ?_)
                          have hf := lz_r hx hf
                          clear hx
                          refine go_istore (lc' := [(0, .ref (x_q X 0)), (1, .int x8), (5, .int x35), (6, .int x46), (7, .int x49)]) (pc' := 287) hC dX12_looksAll_285 (Nat.le_of_ble_eq_true rfl) rfl rfl ?_
                          refine go_iconst (pc' := 288) hC dX12_looksAll_287 ki_1 rfl ?_
                          refine go_iload (pc' := 290) hC dX12_looksAll_288 rfl rfl ?_
                          refine go_iload (pc' := 292) hC dX12_looksAll_290 rfl rfl ?_
                          obtain ⟨k302_52, hk302_52, hf⟩ := lk_e2 hf
                          have jk302_52 : ∀ (x50 : Int32) (x51 : Int32), k302_52 x50 x51 = some o → Go X layM S 302 [(0, .ref (x_q X 0)), (1, .int x8), (5, .int x35)] [.int x50, .int x51] g [(38, o1.1), (39, o1.2.1), (44, o1.2.2.1)] [] [(17, o1.2.2.2.1), (18, o1.2.2.2.2.1), (19, o1.2.2.2.2.2.1), (20, o1.2.2.2.2.2.2), (42, a33), (43, a36), (44, a37), (45, a4)] [] [] 0 0 := by
                            intro x50 x51 hf
                            have hf := hk302_52 x50 x51 hf
                            clear hk302_52
                            refine go_iadd (pc' := 303) hC dX12_looksAll_302 rfl ?_
                            refine go_namei (fun x53 hx => ?_)
                            have hf := lz_r hx hf
                            clear hx
                            refine go_istore (lc' := [(0, .ref (x_q X 0)), (1, .int x8), (5, .int x35), (8, .int x53)]) (pc' := 305) hC dX12_looksAll_303 (Nat.le_of_ble_eq_true rfl) rfl rfl ?_
                            refine go_aload_n (pc' := 306) hC dX12_looksAll_305 rfl rfl ?_
                            refine go_getq (pc' := 309) hC 0 76 layM_0 rfl rfl inlX12 (Nat.le_of_ble_eq_true rfl) mw_225 rfl dX12_looksAll_306 rfl ?_
                            refine go_iload_n (pc' := 310) hC dX12_looksAll_309 rfl rfl ?_
                            obtain ⟨h54, hf⟩ := gd_e hf
                            refine go_iald (f := a37) (pc' := 311) hC 44 layM_44 rfl rfl dX12_looksAll_310 (okx_in h54) rfl ?_
                            obtain ⟨k328_55, hk328_55, hf⟩ := lk_e0 hf
                            have jk328_55 : ∀ (_ : Unit), k328_55 = some o → Go X layM S 328 [(0, .ref (x_q X 0)), (1, .int x8), (5, .int x35), (8, .int x53)] [] g [(38, o1.1), (39, o1.2.1), (44, o1.2.2.1)] [] [(17, o1.2.2.2.1), (18, o1.2.2.2.2.1), (19, o1.2.2.2.2.2.1), (20, o1.2.2.2.2.2.2), (42, a33), (43, a36), (44, a37), (45, a4)] [] [] 0 0 := by
                              intro _ hf
                              have hf := hk328_55 hf
                              clear hk328_55
                              refine go_aload_n (pc' := 329) hC dX12_looksAll_328 rfl rfl ?_
                              refine go_getq (pc' := 332) hC 0 75 layM_0 rfl rfl inlX12 (Nat.le_of_ble_eq_true rfl) mw_224 rfl dX12_looksAll_329 rfl ?_
                              refine go_iload_n (pc' := 333) hC dX12_looksAll_332 rfl rfl ?_
                              refine go_iload (pc' := 335) hC dX12_looksAll_333 rfl rfl ?_
                              obtain ⟨h56, hf⟩ := gd_e hf
                              refine go_iast (f := a36) (pc' := 336) hC 43 layM_43 rfl rfl dX12_looksAll_335 (okx_in h56) rfl rfl (fun a57 ha L3' hL => ?_)
                              have hf := lz_r ha hf
                              clear ha
                              obtain rfl : L3' = [(17, o1.2.2.2.1), (18, o1.2.2.2.2.1), (19, o1.2.2.2.2.2.1), (20, o1.2.2.2.2.2.2), (42, a33), (43, a57), (44, a37), (45, a4)] := hL.symm
                              refine go_aload_n (pc' := 337) hC dX12_looksAll_336 rfl rfl ?_
                              refine go_getq (pc' := 340) hC 0 76 layM_0 rfl rfl inlX12 (Nat.le_of_ble_eq_true rfl) mw_225 rfl dX12_looksAll_337 rfl ?_
                              refine go_iload_n (pc' := 341) hC dX12_looksAll_340 rfl rfl ?_
                              refine go_iload (pc' := 343) hC dX12_looksAll_341 rfl rfl ?_
                              obtain ⟨h58, hf⟩ := gd_e hf
                              refine go_iast (f := a37) (pc' := 344) hC 44 layM_44 rfl rfl dX12_looksAll_343 (okx_in h58) rfl rfl (fun a59 ha L3' hL => ?_)
                              have hf := lz_r ha hf
                              clear ha
                              obtain rfl : L3' = [(17, o1.2.2.2.1), (18, o1.2.2.2.2.1), (19, o1.2.2.2.2.2.1), (20, o1.2.2.2.2.2.2), (42, a33), (43, a57), (44, a59), (45, a4)] := hL.symm
                              refine go_sub [0, 1, 5] rfl ?_
                              exact jk344_43 a57 a59 hf
                            clear hk328_55
                            refine go_if_lt (tgt := 328) (pc' := 314) hC dX12_looksAll_311 (by decide) rfl (fun h62 => ?_) (fun h62 => ?_)
                            · have hf := ite_t h62 hf
                              exact jk328_55 () hf
                            · have hf := ite_f h62 hf
                              refine go_iload (pc' := 316) hC dX12_looksAll_314 rfl rfl ?_
                              refine go_aload_n (pc' := 317) hC dX12_looksAll_316 rfl rfl ?_
                              refine go_getq (pc' := 320) hC 0 75 layM_0 rfl rfl inlX12 (Nat.le_of_ble_eq_true rfl) mw_224 rfl dX12_looksAll_317 rfl ?_
                              refine go_iload_n (pc' := 321) hC dX12_looksAll_320 rfl rfl ?_
                              obtain ⟨h60, hf⟩ := gd_e hf
                              refine go_iald (f := a36) (pc' := 322) hC 43 layM_43 rfl rfl dX12_looksAll_321 (okx_in h60) rfl ?_
                              refine go_icmp_lt (tgt := 328) (pc' := 325) hC dX12_looksAll_322 (by decide) rfl (fun h61 => ?_) (fun h61 => ?_)
                              · have hf := ite_t h61 hf
                                exact jk328_55 () hf
                              · have hf := ite_f h61 hf
                                refine go_goto (tgt := 344) hC dX12_looksAll_325 (by decide) ?_
                                refine go_sub [0, 1, 5] rfl ?_
                                exact jk344_43 a36 a37 hf
                          clear hk302_52
                          refine go_icmp_le (tgt := 300) (pc' := 295) hC dX12_looksAll_292 (by decide) rfl (fun h63 => ?_) (fun h63 => ?_)
                          · have hf := ite_t h63 hf
                            refine go_iload (pc' := 302) hC dX12_looksAll_300 rfl rfl ?_
                            refine go_sub [0, 1, 5] rfl ?_
                            exact jk302_52 x49 (1 : Int32) hf
                          · have hf := ite_f h63 hf
                            refine go_iload (pc' := 297) hC dX12_looksAll_295 rfl rfl ?_
                            refine go_goto (tgt := 302) hC dX12_looksAll_297 (by decide) ?_
                            refine go_sub [0, 1, 5] rfl ?_
                            exact jk302_52 x46 (1 : Int32) hf
                        · have hf := ite_f h64 hf
                          refine go_goto (tgt := 344) hC dX12_looksAll_250 (by decide) ?_
                          exact jk344_43 a36 a37 hf
                  exact l227_66 fuel (0 : Int32) a17 a19 hf
                · have hf := ite_f h67 hf
                  refine go_goto (tgt := 350) hC dX12_looksAll_221 (by decide) ?_
                  exact jk350_23 a33 a17 a19 hf
              clear hk210_31
              refine go_icmp_ne (tgt := 209) (pc' := 204) hC dX12_looksAll_201 (by decide) rfl (fun h68 => ?_) (fun h68 => ?_)
              · have hf := ite_f h68 hf
                refine go_iconst (pc' := 210) hC dX12_looksAll_209 ki_2 rfl ?_
                refine go_sub [0, 1] rfl ?_
                exact jk210_31 (2 : Int32) x8 hf
              · have hf := ite_t h68 hf
                refine go_iload (pc' := 206) hC dX12_looksAll_204 rfl rfl ?_
                refine go_goto (tgt := 210) hC dX12_looksAll_206 (by decide) ?_
                refine go_sub [0, 1] rfl ?_
                exact jk210_31 x26 x8 hf
            · have hf := ite_f h76 hf
              refine go_aload_n (pc' := 142) hC dX12_looksAll_141 rfl rfl ?_
              refine go_getq (pc' := 145) hC 0 74 layM_0 rfl rfl inlX12 (Nat.le_of_ble_eq_true rfl) mw_223 rfl dX12_looksAll_142 rfl ?_
              refine go_iload_n (pc' := 146) hC dX12_looksAll_145 rfl rfl ?_
              refine go_aload_n (pc' := 147) hC dX12_looksAll_146 rfl rfl ?_
              refine go_getq (pc' := 150) hC 0 43 layM_0 rfl rfl inlX12 (Nat.le_of_ble_eq_true rfl) mw_201 rfl dX12_looksAll_147 rfl ?_
              refine go_iload_n (pc' := 151) hC dX12_looksAll_150 rfl rfl ?_
              obtain ⟨h69, hf⟩ := gd_e hf
              refine go_zald (f := o1.2.2.2.2.2.2) (pc' := 152) hC 20 layM_20 rfl rfl dX12_looksAll_151 (okx_in h69) rfl ?_
              obtain ⟨k160_72, hk160_72, hf⟩ := lk_e2 hf
              have jk160_72 : ∀ (x70 : Int32) (x71 : Int32), k160_72 x70 x71 = some o → Go X layM S 160 [(0, .ref (x_q X 0)), (1, .int x8)] [.int x70, .int x71, .ref (x_q X 42)] g [(38, o1.1), (39, o1.2.1), (44, o1.2.2.1)] [] [(17, o1.2.2.2.1), (18, o1.2.2.2.2.1), (19, o1.2.2.2.2.2.1), (20, o1.2.2.2.2.2.2), (42, a9), (43, a17), (44, a19), (45, a4)] [] [] 0 0 := by
                intro x70 x71 hf
                have hf := hk160_72 x70 x71 hf
                clear hk160_72
                obtain ⟨h73, hf⟩ := gd_e hf
                refine go_iast (f := a9) (pc' := 161) hC 42 layM_42 rfl rfl dX12_looksAll_160 (okx_in h73) rfl rfl (fun a74 ha L3' hL => ?_)
                have hf := lz_r ha hf
                clear ha
                obtain rfl : L3' = [(17, o1.2.2.2.1), (18, o1.2.2.2.2.1), (19, o1.2.2.2.2.2.1), (20, o1.2.2.2.2.2.2), (42, a74), (43, a17), (44, a19), (45, a4)] := hL.symm
                refine go_goto (tgt := 350) hC dX12_looksAll_161 (by decide) ?_
                exact jk350_23 a74 a17 a19 hf
              clear hk160_72
              refine go_if_eq (tgt := 159) (pc' := 155) hC dX12_looksAll_152 (by decide) rfl (fun h75 => ?_) (fun h75 => ?_)
              · have hf := ite_t h75 hf
                refine go_iconst (pc' := 160) hC dX12_looksAll_159 ki_0 rfl ?_
                refine go_sub [0, 1] rfl ?_
                exact jk160_72 (0 : Int32) x8 hf
              · have hf := ite_f h75 hf
                refine go_iconst (pc' := 156) hC dX12_looksAll_155 ki_1 rfl ?_
                refine go_goto (tgt := 160) hC dX12_looksAll_156 (by decide) ?_
                refine go_sub [0, 1] rfl ?_
                exact jk160_72 (1 : Int32) x8 hf
          clear hk123_15
          have l66_93 : ∀ (nn : Nat) (x77 : Int32) (x78 : Int32) (x79 : Int32), it3 (f_X12_looksAll_L66 S a4 x8 k123_15) nn x77 x78 x79 = some o → Go X layM S 66 [(0, .ref (x_q X 0)), (1, .int x8), (2, .int x77), (3, .int x78), (4, .int x79)] [] g [(38, o1.1), (39, o1.2.1), (44, o1.2.2.1)] [] [(17, o1.2.2.2.1), (18, o1.2.2.2.2.1), (19, o1.2.2.2.2.2.1), (20, o1.2.2.2.2.2.2), (42, a9), (43, a10), (44, a11), (45, a4)] [] [] 0 0 := by
            intro nn
            induction nn with
            | zero =>
              intro x77 x78 x79 hf
              exact none_no hf
            | succ nn ih =>
              intro x77 x78 x79 hf
              have hf : f_X12_looksAll_L66 S a4 x8 k123_15 (it3 (f_X12_looksAll_L66 S a4 x8 k123_15) nn) x77 x78 x79 = some o := hf
              generalize it3 (f_X12_looksAll_L66 S a4 x8 k123_15) nn = r80 at ih hf
              unfold f_X12_looksAll_L66 at hf
              refine go_iload (pc' := 68) hC dX12_looksAll_66 rfl rfl ?_
              refine go_aload_n (pc' := 69) hC dX12_looksAll_68 rfl rfl ?_
              refine go_geti (v := (S.1 32)) (pc' := 72) hC 0 32 layM_0 rfl rfl inlX12 (Nat.le_of_ble_eq_true rfl) mw_250 rfl dX12_looksAll_69 rfl rfl ?_
              refine go_icmp_ge (tgt := 123) (pc' := 75) hC dX12_looksAll_72 (by decide) rfl (fun h92 => ?_) (fun h92 => ?_)
              · have hf := ite_t h92 hf
                refine go_sub [0, 1, 2, 3] rfl ?_
                exact jk123_15 x77 x78 hf
              · have hf := ite_f h92 hf
                refine go_iload_n (pc' := 76) hC dX12_looksAll_75 rfl rfl ?_
                refine go_aload_n (pc' := 77) hC dX12_looksAll_76 rfl rfl ?_
                refine go_getq (pc' := 80) hC 0 77 layM_0 rfl rfl inlX12 (Nat.le_of_ble_eq_true rfl) mw_226 rfl dX12_looksAll_77 rfl ?_
                refine go_iload (pc' := 82) hC dX12_looksAll_80 rfl rfl ?_
                obtain ⟨h81, hf⟩ := gd_e hf
                refine go_iald (f := a4) (pc' := 83) hC 45 layM_45 rfl rfl dX12_looksAll_82 (okx_in h81) rfl ?_
                obtain ⟨h82, hf⟩ := gd_e hf
                refine go_idiv (pc' := 84) hC dX12_looksAll_83 (ne0_e h82) rfl ?_
                refine go_iconst (pc' := 85) hC dX12_looksAll_84 ki_3 rfl ?_
                refine go_irem (pc' := 86) hC dX12_looksAll_85 (by decide) rfl ?_
                refine go_namei (fun x83 hx => ?_)
                have hf := lz_r hx hf
                clear hx
                refine go_istore (lc' := [(0, .ref (x_q X 0)), (1, .int x8), (2, .int x77), (3, .int x78), (4, .int x79), (5, .int x83)]) (pc' := 88) hC dX12_looksAll_86 (Nat.le_of_ble_eq_true rfl) rfl rfl ?_
                refine go_iload_n (pc' := 89) hC dX12_looksAll_88 rfl rfl ?_
                refine go_iload (pc' := 91) hC dX12_looksAll_89 rfl rfl ?_
                refine go_iconst (pc' := 92) hC dX12_looksAll_91 ki_1 rfl ?_
                obtain ⟨k103_86, hk103_86, hf⟩ := lk_e2 hf
                have jk103_86 : ∀ (x84 : Int32) (x85 : Int32), k103_86 x84 x85 = some o → Go X layM S 103 [(0, .ref (x_q X 0)), (1, .int x8), (3, .int x78), (4, .int x79), (5, .int x83)] [.int x84, .int x85] g [(38, o1.1), (39, o1.2.1), (44, o1.2.2.1)] [] [(17, o1.2.2.2.1), (18, o1.2.2.2.2.1), (19, o1.2.2.2.2.2.1), (20, o1.2.2.2.2.2.2), (42, a9), (43, a10), (44, a11), (45, a4)] [] [] 0 0 := by
                  intro x84 x85 hf
                  have hf := hk103_86 x84 x85 hf
                  clear hk103_86
                  refine go_ior (pc' := 104) hC dX12_looksAll_103 rfl ?_
                  refine go_namei (fun x87 hx => ?_)
                  have hf := lz_r hx hf
                  clear hx
                  refine go_istore_n (lc' := [(0, .ref (x_q X 0)), (1, .int x8), (2, .int x87), (3, .int x78), (4, .int x79), (5, .int x83)]) (pc' := 105) hC dX12_looksAll_104 (Nat.le_of_ble_eq_true rfl) rfl rfl ?_
                  refine go_iload (pc' := 107) hC dX12_looksAll_105 rfl rfl ?_
                  obtain ⟨k116_89, hk116_89, hf⟩ := lk_e1 hf
                  have jk116_89 : ∀ (x88 : Int32), k116_89 x88 = some o → Go X layM S 116 [(0, .ref (x_q X 0)), (1, .int x8), (2, .int x87), (4, .int x79)] [.int x88] g [(38, o1.1), (39, o1.2.1), (44, o1.2.2.1)] [] [(17, o1.2.2.2.1), (18, o1.2.2.2.2.1), (19, o1.2.2.2.2.2.1), (20, o1.2.2.2.2.2.2), (42, a9), (43, a10), (44, a11), (45, a4)] [] [] 0 0 := by
                    intro x88 hf
                    have hf := hk116_89 x88 hf
                    clear hk116_89
                    refine go_istore_n (lc' := [(0, .ref (x_q X 0)), (1, .int x8), (2, .int x87), (3, .int x88), (4, .int x79)]) (pc' := 117) hC dX12_looksAll_116 (Nat.le_of_ble_eq_true rfl) rfl rfl ?_
                    refine go_iinc (lc' := [(0, .ref (x_q X 0)), (1, .int x8), (2, .int x87), (3, .int x88), (4, .int (x79 + (1 : Int32)))]) (pc' := 120) hC dX12_looksAll_117 rfl ki_1 (Nat.le_of_ble_eq_true rfl) rfl rfl ?_
                    refine go_goto (tgt := 66) hC dX12_looksAll_120 (by decide) ?_
                    exact ih x87 x88 (x79 + (1 : Int32)) hf
                  clear hk116_89
                  refine go_if_ne (tgt := 115) (pc' := 110) hC dX12_looksAll_107 (by decide) rfl (fun h90 => ?_) (fun h90 => ?_)
                  · have hf := ite_f h90 hf
                    refine go_iload_n (pc' := 116) hC dX12_looksAll_115 rfl rfl ?_
                    refine go_sub [0, 1, 2, 4] rfl ?_
                    exact jk116_89 x78 hf
                  · have hf := ite_t h90 hf
                    refine go_iload (pc' := 112) hC dX12_looksAll_110 rfl rfl ?_
                    refine go_goto (tgt := 116) hC dX12_looksAll_112 (by decide) ?_
                    refine go_sub [0, 1, 2, 4] rfl ?_
                    exact jk116_89 x79 hf
                clear hk103_86
                refine go_icmp_ne (tgt := 102) (pc' := 95) hC dX12_looksAll_92 (by decide) rfl (fun h91 => ?_) (fun h91 => ?_)
                · have hf := ite_f h91 hf
                  refine go_iconst (pc' := 103) hC dX12_looksAll_102 ki_0 rfl ?_
                  refine go_sub [0, 1, 3, 4, 5] rfl ?_
                  exact jk103_86 (0 : Int32) x77 hf
                · have hf := ite_t h91 hf
                  refine go_iconst (pc' := 96) hC dX12_looksAll_95 ki_1 rfl ?_
                  refine go_iload (pc' := 98) hC dX12_looksAll_96 rfl rfl ?_
                  refine go_ishl (pc' := 99) hC dX12_looksAll_98 rfl ?_
                  refine go_goto (tgt := 103) hC dX12_looksAll_99 (by decide) ?_
                  refine go_sub [0, 1, 3, 4, 5] rfl ?_
                  exact jk103_86 ((1 : Int32) <<< (x79 &&& 31)) x77 hf
          exact l66_93 fuel (0 : Int32) (-1 : Int32) (0 : Int32) hf
    exact l55_95 fuel x7 (S.2.2.1 42) (S.2.2.1 43) (S.2.2.1 44) hf
  clear hk43_5
  have l13_104 : ∀ (nn : Nat) (x96 : Int32) (a97 : Nat → Int32), it2 (f_X12_looksAll_L13 S k43_5) nn x96 a97 = some o → Go X layM S 13 [(0, .ref (x_q X 0)), (1, .int x96)] [] g [(38, o1.1), (39, o1.2.1), (44, o1.2.2.1)] [] [(17, o1.2.2.2.1), (18, o1.2.2.2.2.1), (19, o1.2.2.2.2.2.1), (20, o1.2.2.2.2.2.2), (42, (S.2.2.1 42)), (43, (S.2.2.1 43)), (44, (S.2.2.1 44)), (45, a97)] [] [] 0 0 := by
    intro nn
    induction nn with
    | zero =>
      intro x96 a97 hf
      exact none_no hf
    | succ nn ih =>
      intro x96 a97 hf
      have hf : f_X12_looksAll_L13 S k43_5 (it2 (f_X12_looksAll_L13 S k43_5) nn) x96 a97 = some o := hf
      generalize it2 (f_X12_looksAll_L13 S k43_5) nn = r98 at ih hf
      unfold f_X12_looksAll_L13 at hf
      refine go_iload_n (pc' := 14) hC dX12_looksAll_13 rfl rfl ?_
      refine go_aload_n (pc' := 15) hC dX12_looksAll_14 rfl rfl ?_
      refine go_geti (v := (S.1 32)) (pc' := 18) hC 0 32 layM_0 rfl rfl inlX12 (Nat.le_of_ble_eq_true rfl) mw_250 rfl dX12_looksAll_15 rfl rfl ?_
      refine go_icmp_ge (tgt := 43) (pc' := 21) hC dX12_looksAll_18 (by decide) rfl (fun h103 => ?_) (fun h103 => ?_)
      · have hf := ite_t h103 hf
        refine go_sub [0] rfl ?_
        exact jk43_5 a97 hf
      · have hf := ite_f h103 hf
        refine go_aload_n (pc' := 22) hC dX12_looksAll_21 rfl rfl ?_
        refine go_getq (pc' := 25) hC 0 77 layM_0 rfl rfl inlX12 (Nat.le_of_ble_eq_true rfl) mw_226 rfl dX12_looksAll_22 rfl ?_
        refine go_iload_n (pc' := 26) hC dX12_looksAll_25 rfl rfl ?_
        refine go_iconst (pc' := 27) hC dX12_looksAll_26 ki_1 rfl ?_
        refine go_iadd (pc' := 28) hC dX12_looksAll_27 rfl ?_
        refine go_iconst (pc' := 29) hC dX12_looksAll_28 ki_3 rfl ?_
        refine go_aload_n (pc' := 30) hC dX12_looksAll_29 rfl rfl ?_
        refine go_getq (pc' := 33) hC 0 77 layM_0 rfl rfl inlX12 (Nat.le_of_ble_eq_true rfl) mw_226 rfl dX12_looksAll_30 rfl ?_
        refine go_iload_n (pc' := 34) hC dX12_looksAll_33 rfl rfl ?_
        obtain ⟨h99, hf⟩ := gd_e hf
        refine go_iald (f := a97) (pc' := 35) hC 45 layM_45 rfl rfl dX12_looksAll_34 (okx_in h99) rfl ?_
        refine go_imul (pc' := 36) hC dX12_looksAll_35 rfl ?_
        refine go_namei (fun x100 hx => ?_)
        have hf := lz_r hx hf
        clear hx
        obtain ⟨h101, hf⟩ := gd_e hf
        refine go_iast (f := a97) (pc' := 37) hC 45 layM_45 rfl rfl dX12_looksAll_36 (okx_in h101) rfl rfl (fun a102 ha L3' hL => ?_)
        have hf := lz_r ha hf
        clear ha
        obtain rfl : L3' = [(17, o1.2.2.2.1), (18, o1.2.2.2.2.1), (19, o1.2.2.2.2.2.1), (20, o1.2.2.2.2.2.2), (42, (S.2.2.1 42)), (43, (S.2.2.1 43)), (44, (S.2.2.1 44)), (45, a102)] := hL.symm
        refine go_iinc (lc' := [(0, .ref (x_q X 0)), (1, .int (x96 + (1 : Int32)))]) (pc' := 40) hC dX12_looksAll_37 rfl ki_1 (Nat.le_of_ble_eq_true rfl) rfl rfl ?_
        refine go_goto (tgt := 13) hC dX12_looksAll_40 (by decide) ?_
        exact ih (x96 + (1 : Int32)) a102 hf
  exact l13_104 fuel (0 : Int32) a3 hf
theorem dX12_looks_0 : decode cX12_looks 0 = .ok (.iload_n 1, 1) := by decide +kernel
theorem dX12_looks_1 : decode cX12_looks 1 = .ok (.i2l, 1) := by decide +kernel
theorem dX12_looks_2 : decode cX12_looks 2 = .ok (.lconst 0, 1) := by decide +kernel
theorem dX12_looks_3 : decode cX12_looks 3 = .ok (.lconst 1, 1) := by decide +kernel
theorem dX12_looks_4 : decode cX12_looks 4 = .ok (.invokestatic 218, 3) := by decide +kernel
theorem dX12_looks_7 : decode cX12_looks 7 = .ok (.ifCond .eq 12, 3) := by decide +kernel
theorem dX12_looks_10 : decode cX12_looks 10 = .ok (.aload_n 0, 1) := by decide +kernel
theorem dX12_looks_11 : decode cX12_looks 11 = .ok (.getfield 288, 3) := by decide +kernel
theorem dX12_looks_14 : decode cX12_looks 14 = .ok (.bipush 9, 2) := by decide +kernel
theorem dX12_looks_16 : decode cX12_looks 16 = .ok (.if_icmp .le 5, 3) := by decide +kernel
theorem dX12_looks_19 : decode cX12_looks 19 = .ok (.iconst (-1), 1) := by decide +kernel
theorem dX12_looks_20 : decode cX12_looks 20 = .ok (.ireturn, 1) := by decide +kernel
theorem dX12_looks_21 : decode cX12_looks 21 = .ok (.aload_n 0, 1) := by decide +kernel
theorem dX12_looks_22 : decode cX12_looks 22 = .ok (.invokevirtual 508, 3) := by decide +kernel
theorem dX12_looks_25 : decode cX12_looks 25 = .ok (.iload_n 1, 1) := by decide +kernel
theorem dX12_looks_26 : decode cX12_looks 26 = .ok (.ifCond .ne 12, 3) := by decide +kernel
theorem dX12_looks_29 : decode cX12_looks 29 = .ok (.aload_n 0, 1) := by decide +kernel
theorem dX12_looks_30 : decode cX12_looks 30 = .ok (.getfield 140, 3) := by decide +kernel
theorem dX12_looks_33 : decode cX12_looks 33 = .ok (.iconst 0, 1) := by decide +kernel
theorem dX12_looks_34 : decode cX12_looks 34 = .ok (.iaload, 1) := by decide +kernel
theorem dX12_looks_35 : decode cX12_looks 35 = .ok (.goto 9, 3) := by decide +kernel
theorem dX12_looks_38 : decode cX12_looks 38 = .ok (.aload_n 0, 1) := by decide +kernel
theorem dX12_looks_39 : decode cX12_looks 39 = .ok (.getfield 143, 3) := by decide +kernel
theorem dX12_looks_42 : decode cX12_looks 42 = .ok (.iconst 0, 1) := by decide +kernel
theorem dX12_looks_43 : decode cX12_looks 43 = .ok (.iaload, 1) := by decide +kernel
theorem dX12_looks_44 : decode cX12_looks 44 = .ok (.ireturn, 1) := by decide +kernel
abbrev o_X12_looks : Type := Int32 × Int32 × Int32 × Int32 × (Nat → Int32) × (Nat → Int32) × (Nat → Int32) × (Nat → Int32) × (Nat → Int32) × (Nat → Int32) × (Nat → Int32) × (Nat → Int32)
def f_X12_looks (S : wd_W) (p1 : Int32) : Option o_X12_looks :=
bd (f_X12_in p1.toInt64 (0 : Int64) (1 : Int64)) fun o1 =>
if o1 = 0 then (
some ((-1 : Int32), (S.1 38), (S.1 39), (S.1 44), (S.2.2.1 17), (S.2.2.1 18), (S.2.2.1 19), (S.2.2.1 20), (S.2.2.1 42), (S.2.2.1 43), (S.2.2.1 44), (S.2.2.1 45))) else (
if (S.1 32) ≤ (9 : Int32) then (
bd (f_X12_looksAll (wd_o S [(38, (S.1 38)), (39, (S.1 39)), (44, (S.1 44))] [] [(17, (S.2.2.1 17)), (18, (S.2.2.1 18)), (19, (S.2.2.1 19)), (20, (S.2.2.1 20)), (42, (S.2.2.1 42)), (43, (S.2.2.1 43)), (44, (S.2.2.1 44)), (45, (S.2.2.1 45))] [] [])) fun o2 =>
if p1 = 0 then (
gd (okx (0 : Int32) 19683) <|
some (o2.2.2.2.2.2.2.2.2.1 (0 : Int32).toNatClampNeg, o2.1, o2.2.1, o2.2.2.1, o2.2.2.2.1, o2.2.2.2.2.1, o2.2.2.2.2.2.1, o2.2.2.2.2.2.2.1, o2.2.2.2.2.2.2.2.1, o2.2.2.2.2.2.2.2.2.1, o2.2.2.2.2.2.2.2.2.2.1, o2.2.2.2.2.2.2.2.2.2.2)) else (
gd (okx (0 : Int32) 19683) <|
some (o2.2.2.2.2.2.2.2.2.2.1 (0 : Int32).toNatClampNeg, o2.1, o2.2.1, o2.2.2.1, o2.2.2.2.1, o2.2.2.2.2.1, o2.2.2.2.2.2.1, o2.2.2.2.2.2.2.1, o2.2.2.2.2.2.2.2.1, o2.2.2.2.2.2.2.2.2.1, o2.2.2.2.2.2.2.2.2.2.1, o2.2.2.2.2.2.2.2.2.2.2))) else (
some ((-1 : Int32), (S.1 38), (S.1 39), (S.1 44), (S.2.2.1 17), (S.2.2.1 18), (S.2.2.1 19), (S.2.2.1 20), (S.2.2.1 42), (S.2.2.1 43), (S.2.2.1 44), (S.2.2.1 45))))
set_option maxRecDepth 100000 in
set_option maxHeartbeats 4000000 in
theorem c_X12_looks (l : Launch) (D : va_G) (q g : Nat → Nat) (cy : Nat → ClassId) (z : (Nat → Nat) × (Nat → Nat) × Nat) (S : wd_W) (p1 : Int32) (o : o_X12_looks) (hf : f_X12_looks S p1 = some o) : MX layM l yX12_looks cX12_looks 2 (some .int) ({ frames := 6, cells := 0, slots := 0, locals := 143 } : Room) D q g cy z [.ref (q 0), .int p1] S false (some (.int o.1)) (wd_o S [(38, o.2.1), (39, o.2.2.1), (44, o.2.2.2.1)] [] [(17, o.2.2.2.2.1), (18, o.2.2.2.2.2.1), (19, o.2.2.2.2.2.2.1), (20, o.2.2.2.2.2.2.2.1), (42, o.2.2.2.2.2.2.2.2.1), (43, o.2.2.2.2.2.2.2.2.2.1), (44, o.2.2.2.2.2.2.2.2.2.2.1), (45, o.2.2.2.2.2.2.2.2.2.2.2)] [] []) 0 0 := by
  refine mx_of (own := RX12) (lc := [(0, .ref (q 0)), (1, .int p1)]) (by decide +kernel) rfl layM_ok (Nat.le_of_ble_eq_true rfl) rfl ?_
  intro X hXl hXq hXz hC hQ
  subst hXl; subst hXq; subst hXz
  unfold f_X12_looks at hf
  refine go_keys (L1 := [(38, (S.1 38)), (39, (S.1 39)), (44, (S.1 44))]) (L2 := []) (L3 := [(17, (S.2.2.1 17)), (18, (S.2.2.1 18)), (19, (S.2.2.1 19)), (20, (S.2.2.1 20)), (42, (S.2.2.1 42)), (43, (S.2.2.1 43)), (44, (S.2.2.1 44)), (45, (S.2.2.1 45))]) (L4 := []) (L5 := []) [38, 39, 44] [] [17, 18, 19, 20, 42, 43, 44, 45] [] [] rfl rfl rfl rfl rfl ?_
  refine go_iload_n (pc' := 1) hC dX12_looks_0 rfl rfl ?_
  refine go_i2l (pc' := 2) hC dX12_looks_1 rfl ?_
  refine go_lconst (pc' := 3) hC dX12_looks_2 kl_0 rfl ?_
  refine go_lconst (pc' := 4) hC dX12_looks_3 kl_1 rfl ?_
  obtain ⟨o1, ho1, hf⟩ := bd_e hf
  refine go_callS0 (pc' := 7) (As := [.long p1.toInt64, .long (0 : Int64), .long (1 : Int64)]) (st := []) (st' := [.int o1])    hC dX12_looks_4 ⟨mw_525, mw_527, mw_5, yd_yX12_in, yp_yX12_in, Nat.le_of_ble_eq_true rfl, Nat.le_of_ble_eq_true rfl, (Nat.le_of_ble_eq_true rfl), (Nat.le_of_ble_eq_true rfl)⟩ mw_526 rfl rfl (Nat.le_of_ble_eq_true rfl) (c_X12_in (x_l X) (x_D X) (x_q X) g (x_cy X) (x_z X) _ p1.toInt64 (0 : Int64) (1 : Int64) o1 ho1) rfl rfl ?_
  refine go_if_eq (tgt := 19) (pc' := 10) hC dX12_looks_7 (by decide) rfl (fun h7 => ?_) (fun h7 => ?_)
  · have hf := ite_t h7 hf
    refine go_iconst (pc' := 20) hC dX12_looks_19 ki_m1 rfl ?_
    obtain rfl := Option.some.inj hf
    exact go_iret hC hQ dX12_looks_20 rfl rfl rfl rfl (fun _ => rfl) rfl rfl
  · have hf := ite_f h7 hf
    refine go_aload_n (pc' := 11) hC dX12_looks_10 rfl rfl ?_
    refine go_geti (v := (S.1 32)) (pc' := 14) hC 0 32 layM_0 rfl rfl inlX12 (Nat.le_of_ble_eq_true rfl) mw_250 rfl dX12_looks_11 rfl rfl ?_
    refine go_bipush (pc' := 16) hC dX12_looks_14 kb_9 rfl ?_
    refine go_icmp_le (tgt := 21) (pc' := 19) hC dX12_looks_16 (by decide) rfl (fun h6 => ?_) (fun h6 => ?_)
    · have hf := ite_t h6 hf
      refine go_aload_n (pc' := 22) hC dX12_looks_21 rfl rfl ?_
      obtain ⟨o2, ho2, hf⟩ := bd_e hf
      refine go_callV1 (pc' := 25) (As := []) (st := []) (st' := []) (L1' := [(38, o2.1), (39, o2.2.1), (44, o2.2.2.1)]) (L2' := []) (L3' := [(17, o2.2.2.2.1), (18, o2.2.2.2.2.1), (19, o2.2.2.2.2.2.1), (20, o2.2.2.2.2.2.2.1), (42, o2.2.2.2.2.2.2.2.1), (43, o2.2.2.2.2.2.2.2.2.1), (44, o2.2.2.2.2.2.2.2.2.2.1), (45, o2.2.2.2.2.2.2.2.2.2.2)]) (L4' := []) (L5' := []) (cells' := 0) (slots' := 0)  (b := 0) hC dX12_looks_22 ⟨mw_1483, mw_1486, mw_5, yd_yX12_looksAll, yp_yX12_looksAll, Nat.le_of_ble_eq_true rfl, Nat.le_of_ble_eq_true rfl, (Nat.le_of_ble_eq_true rfl), (Nat.le_of_ble_eq_true rfl)⟩ mw_1484 mw_1485 layM_0 rfl rfl rfl (Nat.le_of_ble_eq_true rfl) (c_X12_looksAll (x_l X) (x_D X) (x_q X) g (x_cy X) (x_z X) _  o2 ho2) rfl rfl rfl rfl rfl rfl rfl rfl rfl rfl rfl rfl rfl rfl ?_
      refine go_iload_n (pc' := 26) hC dX12_looks_25 rfl rfl ?_
      refine go_if_ne (tgt := 38) (pc' := 29) hC dX12_looks_26 (by decide) rfl (fun h5 => ?_) (fun h5 => ?_)
      · have hf := ite_f h5 hf
        refine go_aload_n (pc' := 39) hC dX12_looks_38 rfl rfl ?_
        refine go_getq (pc' := 42) hC 0 76 layM_0 rfl rfl inlX12 (Nat.le_of_ble_eq_true rfl) mw_225 rfl dX12_looks_39 rfl ?_
        refine go_iconst (pc' := 43) hC dX12_looks_42 ki_0 rfl ?_
        obtain ⟨h3, hf⟩ := gd_e hf
        refine go_iald (f := o2.2.2.2.2.2.2.2.2.2.1) (pc' := 44) hC 44 layM_44 rfl rfl dX12_looks_43 (okx_in h3) rfl ?_
        obtain rfl := Option.some.inj hf
        exact go_iret hC hQ dX12_looks_44 rfl rfl rfl rfl (fun _ => rfl) rfl rfl
      · have hf := ite_t h5 hf
        refine go_aload_n (pc' := 30) hC dX12_looks_29 rfl rfl ?_
        refine go_getq (pc' := 33) hC 0 75 layM_0 rfl rfl inlX12 (Nat.le_of_ble_eq_true rfl) mw_224 rfl dX12_looks_30 rfl ?_
        refine go_iconst (pc' := 34) hC dX12_looks_33 ki_0 rfl ?_
        obtain ⟨h4, hf⟩ := gd_e hf
        refine go_iald (f := o2.2.2.2.2.2.2.2.2.1) (pc' := 35) hC 43 layM_43 rfl rfl dX12_looks_34 (okx_in h4) rfl ?_
        refine go_goto (tgt := 44) hC dX12_looks_35 (by decide) ?_
        obtain rfl := Option.some.inj hf
        exact go_iret hC hQ dX12_looks_44 rfl rfl rfl rfl (fun _ => rfl) rfl rfl
    · have hf := ite_f h6 hf
      refine go_iconst (pc' := 20) hC dX12_looks_19 ki_m1 rfl ?_
      obtain rfl := Option.some.inj hf
      exact go_iret hC hQ dX12_looks_20 rfl rfl rfl rfl (fun _ => rfl) rfl rfl
theorem dX12_mean_0 : decode cX12_mean 0 = .ok (.aload_n 0, 1) := by decide +kernel
theorem dX12_mean_1 : decode cX12_mean 1 = .ok (.iload_n 1, 1) := by decide +kernel
theorem dX12_mean_2 : decode cX12_mean 2 = .ok (.iload_n 2, 1) := by decide +kernel
theorem dX12_mean_3 : decode cX12_mean 3 = .ok (.invokevirtual 446, 3) := by decide +kernel
theorem dX12_mean_6 : decode cX12_mean 6 = .ok (.ifCond .eq 13, 3) := by decide +kernel
theorem dX12_mean_9 : decode cX12_mean 9 = .ok (.iload_n 3, 1) := by decide +kernel
theorem dX12_mean_10 : decode cX12_mean 10 = .ok (.i2l, 1) := by decide +kernel
theorem dX12_mean_11 : decode cX12_mean 11 = .ok (.lconst 0, 1) := by decide +kernel
theorem dX12_mean_12 : decode cX12_mean 12 = .ok (.lconst 1, 1) := by decide +kernel
theorem dX12_mean_13 : decode cX12_mean 13 = .ok (.invokestatic 218, 3) := by decide +kernel
theorem dX12_mean_16 : decode cX12_mean 16 = .ok (.ifCond .ne 7, 3) := by decide +kernel
theorem dX12_mean_19 : decode cX12_mean 19 = .ok (.ldc2_w 373, 3) := by decide +kernel
theorem dX12_mean_22 : decode cX12_mean 22 = .ok (.lreturn, 1) := by decide +kernel
theorem dX12_mean_23 : decode cX12_mean 23 = .ok (.aload_n 0, 1) := by decide +kernel
theorem dX12_mean_24 : decode cX12_mean 24 = .ok (.iload_n 1, 1) := by decide +kernel
theorem dX12_mean_25 : decode cX12_mean 25 = .ok (.iload_n 2, 1) := by decide +kernel
theorem dX12_mean_26 : decode cX12_mean 26 = .ok (.invokevirtual 461, 3) := by decide +kernel
theorem dX12_mean_29 : decode cX12_mean 29 = .ok (.lconst 0, 1) := by decide +kernel
theorem dX12_mean_30 : decode cX12_mean 30 = .ok (.lstore 4, 2) := by decide +kernel
theorem dX12_mean_32 : decode cX12_mean 32 = .ok (.iconst 1, 1) := by decide +kernel
theorem dX12_mean_33 : decode cX12_mean 33 = .ok (.istore 6, 2) := by decide +kernel
theorem dX12_mean_35 : decode cX12_mean 35 = .ok (.iload 6, 2) := by decide +kernel
theorem dX12_mean_37 : decode cX12_mean 37 = .ok (.bipush 99, 2) := by decide +kernel
theorem dX12_mean_39 : decode cX12_mean 39 = .ok (.if_icmp .gt 39, 3) := by decide +kernel
theorem dX12_mean_42 : decode cX12_mean 42 = .ok (.lload 4, 2) := by decide +kernel
theorem dX12_mean_44 : decode cX12_mean 44 = .ok (.iload_n 3, 1) := by decide +kernel
theorem dX12_mean_45 : decode cX12_mean 45 = .ok (.ifCond .ne 17, 3) := by decide +kernel
theorem dX12_mean_48 : decode cX12_mean 48 = .ok (.iload 6, 2) := by decide +kernel
theorem dX12_mean_50 : decode cX12_mean 50 = .ok (.i2l, 1) := by decide +kernel
theorem dX12_mean_51 : decode cX12_mean 51 = .ok (.aload_n 0, 1) := by decide +kernel
theorem dX12_mean_52 : decode cX12_mean 52 = .ok (.getfield 119, 3) := by decide +kernel
theorem dX12_mean_55 : decode cX12_mean 55 = .ok (.iload 6, 2) := by decide +kernel
theorem dX12_mean_57 : decode cX12_mean 57 = .ok (.laload, 1) := by decide +kernel
theorem dX12_mean_58 : decode cX12_mean 58 = .ok (.lmul, 1) := by decide +kernel
theorem dX12_mean_59 : decode cX12_mean 59 = .ok (.goto 10, 3) := by decide +kernel
theorem dX12_mean_62 : decode cX12_mean 62 = .ok (.aload_n 0, 1) := by decide +kernel
theorem dX12_mean_63 : decode cX12_mean 63 = .ok (.getfield 119, 3) := by decide +kernel
theorem dX12_mean_66 : decode cX12_mean 66 = .ok (.iload 6, 2) := by decide +kernel
theorem dX12_mean_68 : decode cX12_mean 68 = .ok (.laload, 1) := by decide +kernel
theorem dX12_mean_69 : decode cX12_mean 69 = .ok (.ladd, 1) := by decide +kernel
theorem dX12_mean_70 : decode cX12_mean 70 = .ok (.lstore 4, 2) := by decide +kernel
theorem dX12_mean_72 : decode cX12_mean 72 = .ok (.iinc 6 1, 3) := by decide +kernel
theorem dX12_mean_75 : decode cX12_mean 75 = .ok (.goto (-40), 3) := by decide +kernel
theorem dX12_mean_78 : decode cX12_mean 78 = .ok (.lload 4, 2) := by decide +kernel
theorem dX12_mean_80 : decode cX12_mean 80 = .ok (.lreturn, 1) := by decide +kernel
abbrev o_X12_mean : Type := Int64 × Int32 × Int32 × (Nat → Int32) × (Nat → Int32) × (Nat → Int32) × (Nat → Int64) × (Nat → Int64)
def f_X12_mean_L35 (p3 : Int32) (o3 : o_X12_daysOf) (r6 : (Int64) → (Int32) → (Option o_X12_mean)) (x4 : Int64) (x5 : Int32) : Option o_X12_mean :=
if (99 : Int32) < x5 then (
some (x4, o3.1, o3.2.1, o3.2.2.1, o3.2.2.2.1, o3.2.2.2.2.1, o3.2.2.2.2.2.1, o3.2.2.2.2.2.2)) else (
lk (fun x7 x8 =>
lz (x8 + x7) fun x10 =>
r6 x10 (x5 + (1 : Int32))) fun k69_9 =>
if p3 = 0 then (
gd (okx x5 100) <|
k69_9 (x5.toInt64 * (o3.2.2.2.2.2.2 x5.toNatClampNeg)) x4) else (
gd (okx x5 100) <|
k69_9 (o3.2.2.2.2.2.2 x5.toNatClampNeg) x4))
def f_X12_mean (S : wd_W) (p1 : Int32) (p2 : Int32) (p3 : Int32) : Option o_X12_mean :=
bd (f_X12_areEnds (wd_o S [(38, (S.1 38)), (39, (S.1 39))] [] [(17, (S.2.2.1 17)), (22, (S.2.2.1 22)), (23, (S.2.2.1 23))] [(21, (S.2.2.2.1 21)), (36, (S.2.2.2.1 36))] []) p1 p2) fun o1 =>
if o1 = 0 then (
some ((-1 : Int64), (S.1 38), (S.1 39), (S.2.2.1 17), (S.2.2.1 22), (S.2.2.1 23), (S.2.2.2.1 21), (S.2.2.2.1 36))) else (
bd (f_X12_in p3.toInt64 (0 : Int64) (1 : Int64)) fun o2 =>
if o2 = 0 then (
some ((-1 : Int64), (S.1 38), (S.1 39), (S.2.2.1 17), (S.2.2.1 22), (S.2.2.1 23), (S.2.2.2.1 21), (S.2.2.2.1 36))) else (
bd (f_X12_daysOf (wd_o S [(38, (S.1 38)), (39, (S.1 39))] [] [(17, (S.2.2.1 17)), (22, (S.2.2.1 22)), (23, (S.2.2.1 23))] [(21, (S.2.2.2.1 21)), (36, (S.2.2.2.1 36))] []) p1 p2) fun o3 =>
it2 (f_X12_mean_L35 p3 o3) fuel (0 : Int64) (1 : Int32)))
set_option maxRecDepth 100000 in
set_option maxHeartbeats 4000000 in
theorem c_X12_mean (l : Launch) (D : va_G) (q g : Nat → Nat) (cy : Nat → ClassId) (z : (Nat → Nat) × (Nat → Nat) × Nat) (S : wd_W) (p1 : Int32) (p2 : Int32) (p3 : Int32) (o : o_X12_mean) (hf : f_X12_mean S p1 p2 p3 = some o) : MX layM l yX12_mean cX12_mean 7 (some .long) ({ frames := 3, cells := 0, slots := 0, locals := 69 } : Room) D q g cy z [.ref (q 0), .int p1, .int p2, .int p3] S false (some (.long o.1)) (wd_o S [(38, o.2.1), (39, o.2.2.1)] [] [(17, o.2.2.2.1), (22, o.2.2.2.2.1), (23, o.2.2.2.2.2.1)] [(21, o.2.2.2.2.2.2.1), (36, o.2.2.2.2.2.2.2)] []) 0 0 := by
  refine mx_of (own := RX12) (lc := [(0, .ref (q 0)), (1, .int p1), (2, .int p2), (3, .int p3)]) (by decide +kernel) rfl layM_ok (Nat.le_of_ble_eq_true rfl) rfl ?_
  intro X hXl hXq hXz hC hQ
  subst hXl; subst hXq; subst hXz
  unfold f_X12_mean at hf
  refine go_keys (L1 := [(38, (S.1 38)), (39, (S.1 39))]) (L2 := []) (L3 := [(17, (S.2.2.1 17)), (22, (S.2.2.1 22)), (23, (S.2.2.1 23))]) (L4 := [(21, (S.2.2.2.1 21)), (36, (S.2.2.2.1 36))]) (L5 := []) [38, 39] [] [17, 22, 23] [21, 36] [] rfl rfl rfl rfl rfl ?_
  refine go_aload_n (pc' := 1) hC dX12_mean_0 rfl rfl ?_
  refine go_iload_n (pc' := 2) hC dX12_mean_1 rfl rfl ?_
  refine go_iload_n (pc' := 3) hC dX12_mean_2 rfl rfl ?_
  obtain ⟨o1, ho1, hf⟩ := bd_e hf
  refine go_callV0 (pc' := 6) (As := [.int p1, .int p2]) (st := []) (st' := [.int o1])    (b := 0) hC dX12_mean_3 ⟨mw_1249, mw_1252, mw_5, yd_yX12_areEnds, yp_yX12_areEnds, Nat.le_of_ble_eq_true rfl, Nat.le_of_ble_eq_true rfl, (Nat.le_of_ble_eq_true rfl), (Nat.le_of_ble_eq_true rfl)⟩ mw_1250 mw_1251 layM_0 rfl rfl rfl (Nat.le_of_ble_eq_true rfl) (c_X12_areEnds (x_l X) (x_D X) (x_q X) g (x_cy X) (x_z X) _ p1 p2 o1 ho1) rfl rfl ?_
  refine go_if_eq (tgt := 19) (pc' := 9) hC dX12_mean_6 (by decide) rfl (fun h17 => ?_) (fun h17 => ?_)
  · have hf := ite_t h17 hf
    refine go_ldc2 (pc' := 22) hC dX12_mean_19 mw_922 rfl ?_
    obtain rfl := Option.some.inj hf
    exact go_lret hC hQ dX12_mean_22 rfl rfl rfl (fun _ => rfl) rfl rfl
  · have hf := ite_f h17 hf
    refine go_iload_n (pc' := 10) hC dX12_mean_9 rfl rfl ?_
    refine go_i2l (pc' := 11) hC dX12_mean_10 rfl ?_
    refine go_lconst (pc' := 12) hC dX12_mean_11 kl_0 rfl ?_
    refine go_lconst (pc' := 13) hC dX12_mean_12 kl_1 rfl ?_
    obtain ⟨o2, ho2, hf⟩ := bd_e hf
    refine go_callS0 (pc' := 16) (As := [.long p3.toInt64, .long (0 : Int64), .long (1 : Int64)]) (st := []) (st' := [.int o2])    hC dX12_mean_13 ⟨mw_525, mw_527, mw_5, yd_yX12_in, yp_yX12_in, Nat.le_of_ble_eq_true rfl, Nat.le_of_ble_eq_true rfl, (Nat.le_of_ble_eq_true rfl), (Nat.le_of_ble_eq_true rfl)⟩ mw_526 rfl rfl (Nat.le_of_ble_eq_true rfl) (c_X12_in (x_l X) (x_D X) (x_q X) g (x_cy X) (x_z X) _ p3.toInt64 (0 : Int64) (1 : Int64) o2 ho2) rfl rfl ?_
    refine go_if_ne (tgt := 23) (pc' := 19) hC dX12_mean_16 (by decide) rfl (fun h16 => ?_) (fun h16 => ?_)
    · have hf := ite_f h16 hf
      refine go_aload_n (pc' := 24) hC dX12_mean_23 rfl rfl ?_
      refine go_iload_n (pc' := 25) hC dX12_mean_24 rfl rfl ?_
      refine go_iload_n (pc' := 26) hC dX12_mean_25 rfl rfl ?_
      obtain ⟨o3, ho3, hf⟩ := bd_e hf
      refine go_callV1 (pc' := 29) (As := [.int p1, .int p2]) (st := []) (st' := []) (L1' := [(38, o3.1), (39, o3.2.1)]) (L2' := []) (L3' := [(17, o3.2.2.1), (22, o3.2.2.2.1), (23, o3.2.2.2.2.1)]) (L4' := [(21, o3.2.2.2.2.2.1), (36, o3.2.2.2.2.2.2)]) (L5' := []) (cells' := 0) (slots' := 0)  (b := 0) hC dX12_mean_26 ⟨mw_1328, mw_1331, mw_5, yd_yX12_daysOf, yp_yX12_daysOf, Nat.le_of_ble_eq_true rfl, Nat.le_of_ble_eq_true rfl, (Nat.le_of_ble_eq_true rfl), (Nat.le_of_ble_eq_true rfl)⟩ mw_1329 mw_1330 layM_0 rfl rfl rfl (Nat.le_of_ble_eq_true rfl) (c_X12_daysOf (x_l X) (x_D X) (x_q X) g (x_cy X) (x_z X) _ p1 p2 o3 ho3) rfl rfl rfl rfl rfl rfl rfl rfl rfl rfl rfl rfl rfl rfl ?_
      refine go_lconst (pc' := 30) hC dX12_mean_29 kl_0 rfl ?_
      refine go_lstore (lc' := [(0, .ref (x_q X 0)), (1, .int p1), (2, .int p2), (3, .int p3), (4, .long (0 : Int64))]) (pc' := 32) hC dX12_mean_30 (Nat.le_of_ble_eq_true rfl) rfl rfl ?_
      refine go_iconst (pc' := 33) hC dX12_mean_32 ki_1 rfl ?_
      refine go_istore (lc' := [(0, .ref (x_q X 0)), (1, .int p1), (2, .int p2), (3, .int p3), (4, .long (0 : Int64)), (6, .int (1 : Int32))]) (pc' := 35) hC dX12_mean_33 (Nat.le_of_ble_eq_true rfl) rfl rfl ?_
      have l35_15 : ∀ (nn : Nat) (x4 : Int64) (x5 : Int32), it2 (f_X12_mean_L35 p3 o3) nn x4 x5 = some o → Go X layM S 35 [(0, .ref (x_q X 0)), (3, .int p3), (4, .long x4), (6, .int x5)] [] g [(38, o3.1), (39, o3.2.1)] [] [(17, o3.2.2.1), (22, o3.2.2.2.1), (23, o3.2.2.2.2.1)] [(21, o3.2.2.2.2.2.1), (36, o3.2.2.2.2.2.2)] [] 0 0 := by
        intro nn
        induction nn with
        | zero =>
          intro x4 x5 hf
          exact none_no hf
        | succ nn ih =>
          intro x4 x5 hf
          have hf : f_X12_mean_L35 p3 o3 (it2 (f_X12_mean_L35 p3 o3) nn) x4 x5 = some o := hf
          generalize it2 (f_X12_mean_L35 p3 o3) nn = r6 at ih hf
          unfold f_X12_mean_L35 at hf
          refine go_iload (pc' := 37) hC dX12_mean_35 rfl rfl ?_
          refine go_bipush (pc' := 39) hC dX12_mean_37 kb_99 rfl ?_
          refine go_icmp_gt (tgt := 78) (pc' := 42) hC dX12_mean_39 (by decide) rfl (fun h14 => ?_) (fun h14 => ?_)
          · have hf := ite_t h14 hf
            refine go_lload (pc' := 80) hC dX12_mean_78 rfl rfl ?_
            obtain rfl := Option.some.inj hf
            exact go_lret hC hQ dX12_mean_80 rfl rfl rfl (fun _ => rfl) rfl rfl
          · have hf := ite_f h14 hf
            refine go_lload (pc' := 44) hC dX12_mean_42 rfl rfl ?_
            refine go_iload_n (pc' := 45) hC dX12_mean_44 rfl rfl ?_
            obtain ⟨k69_9, hk69_9, hf⟩ := lk_e2 hf
            have jk69_9 : ∀ (x7 : Int64) (x8 : Int64), k69_9 x7 x8 = some o → Go X layM S 69 [(0, .ref (x_q X 0)), (3, .int p3), (6, .int x5)] [.long x7, .long x8] g [(38, o3.1), (39, o3.2.1)] [] [(17, o3.2.2.1), (22, o3.2.2.2.1), (23, o3.2.2.2.2.1)] [(21, o3.2.2.2.2.2.1), (36, o3.2.2.2.2.2.2)] [] 0 0 := by
              intro x7 x8 hf
              have hf := hk69_9 x7 x8 hf
              clear hk69_9
              refine go_ladd (pc' := 70) hC dX12_mean_69 rfl ?_
              refine go_namel (fun x10 hx => ?_)
              have hf := lz_r hx hf
              clear hx
              refine go_lstore (lc' := [(0, .ref (x_q X 0)), (3, .int p3), (4, .long x10), (6, .int x5)]) (pc' := 72) hC dX12_mean_70 (Nat.le_of_ble_eq_true rfl) rfl rfl ?_
              refine go_iinc (lc' := [(0, .ref (x_q X 0)), (3, .int p3), (4, .long x10), (6, .int (x5 + (1 : Int32)))]) (pc' := 75) hC dX12_mean_72 rfl ki_1 (Nat.le_of_ble_eq_true rfl) rfl rfl ?_
              refine go_goto (tgt := 35) hC dX12_mean_75 (by decide) ?_
              exact ih x10 (x5 + (1 : Int32)) hf
            clear hk69_9
            refine go_if_ne (tgt := 62) (pc' := 48) hC dX12_mean_45 (by decide) rfl (fun h13 => ?_) (fun h13 => ?_)
            · have hf := ite_f h13 hf
              refine go_aload_n (pc' := 63) hC dX12_mean_62 rfl rfl ?_
              refine go_getq (pc' := 66) hC 0 66 layM_0 rfl rfl inlX12 (Nat.le_of_ble_eq_true rfl) mw_217 rfl dX12_mean_63 rfl ?_
              refine go_iload (pc' := 68) hC dX12_mean_66 rfl rfl ?_
              obtain ⟨h11, hf⟩ := gd_e hf
              refine go_lald (f := o3.2.2.2.2.2.2) (pc' := 69) hC 36 layM_36 rfl rfl dX12_mean_68 (okx_in h11) rfl ?_
              refine go_sub [0, 3, 6] rfl ?_
              exact jk69_9 (o3.2.2.2.2.2.2 x5.toNatClampNeg) x4 hf
            · have hf := ite_t h13 hf
              refine go_iload (pc' := 50) hC dX12_mean_48 rfl rfl ?_
              refine go_i2l (pc' := 51) hC dX12_mean_50 rfl ?_
              refine go_aload_n (pc' := 52) hC dX12_mean_51 rfl rfl ?_
              refine go_getq (pc' := 55) hC 0 66 layM_0 rfl rfl inlX12 (Nat.le_of_ble_eq_true rfl) mw_217 rfl dX12_mean_52 rfl ?_
              refine go_iload (pc' := 57) hC dX12_mean_55 rfl rfl ?_
              obtain ⟨h12, hf⟩ := gd_e hf
              refine go_lald (f := o3.2.2.2.2.2.2) (pc' := 58) hC 36 layM_36 rfl rfl dX12_mean_57 (okx_in h12) rfl ?_
              refine go_lmul (pc' := 59) hC dX12_mean_58 rfl ?_
              refine go_goto (tgt := 69) hC dX12_mean_59 (by decide) ?_
              refine go_sub [0, 3, 6] rfl ?_
              exact jk69_9 (x5.toInt64 * (o3.2.2.2.2.2.2 x5.toNatClampNeg)) x4 hf
      refine go_sub [0, 3, 4, 6] rfl ?_
      exact l35_15 fuel (0 : Int64) (1 : Int32) hf
    · have hf := ite_t h16 hf
      refine go_ldc2 (pc' := 22) hC dX12_mean_19 mw_922 rfl ?_
      obtain rfl := Option.some.inj hf
      exact go_lret hC hQ dX12_mean_22 rfl rfl rfl (fun _ => rfl) rfl rfl
