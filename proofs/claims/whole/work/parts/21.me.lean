theorem dX12_together_0 : decode cX12_together 0 = .ok (.aload_n 0, 1) := by decide +kernel
theorem dX12_together_1 : decode cX12_together 1 = .ok (.invokevirtual 361, 3) := by decide +kernel
theorem dX12_together_4 : decode cX12_together 4 = .ok (.aload_n 0, 1) := by decide +kernel
theorem dX12_together_5 : decode cX12_together 5 = .ok (.invokevirtual 364, 3) := by decide +kernel
theorem dX12_together_8 : decode cX12_together 8 = .ok (.lconst 0, 1) := by decide +kernel
theorem dX12_together_9 : decode cX12_together 9 = .ok (.lstore_n 1, 1) := by decide +kernel
theorem dX12_together_10 : decode cX12_together 10 = .ok (.iconst 0, 1) := by decide +kernel
theorem dX12_together_11 : decode cX12_together 11 = .ok (.istore_n 3, 1) := by decide +kernel
theorem dX12_together_12 : decode cX12_together 12 = .ok (.iload_n 3, 1) := by decide +kernel
theorem dX12_together_13 : decode cX12_together 13 = .ok (.aload_n 0, 1) := by decide +kernel
theorem dX12_together_14 : decode cX12_together 14 = .ok (.invokevirtual 354, 3) := by decide +kernel
theorem dX12_together_17 : decode cX12_together 17 = .ok (.if_icmp .ge 31, 3) := by decide +kernel
theorem dX12_together_20 : decode cX12_together 20 = .ok (.lload_n 1, 1) := by decide +kernel
theorem dX12_together_21 : decode cX12_together 21 = .ok (.aload_n 0, 1) := by decide +kernel
theorem dX12_together_22 : decode cX12_together 22 = .ok (.getfield 70, 3) := by decide +kernel
theorem dX12_together_25 : decode cX12_together 25 = .ok (.iload_n 3, 1) := by decide +kernel
theorem dX12_together_26 : decode cX12_together 26 = .ok (.baload, 1) := by decide +kernel
theorem dX12_together_27 : decode cX12_together 27 = .ok (.ifCond .eq 12, 3) := by decide +kernel
theorem dX12_together_30 : decode cX12_together 30 = .ok (.aload_n 0, 1) := by decide +kernel
theorem dX12_together_31 : decode cX12_together 31 = .ok (.getfield 73, 3) := by decide +kernel
theorem dX12_together_34 : decode cX12_together 34 = .ok (.iload_n 3, 1) := by decide +kernel
theorem dX12_together_35 : decode cX12_together 35 = .ok (.laload, 1) := by decide +kernel
theorem dX12_together_36 : decode cX12_together 36 = .ok (.goto 4, 3) := by decide +kernel
theorem dX12_together_39 : decode cX12_together 39 = .ok (.lconst 0, 1) := by decide +kernel
theorem dX12_together_40 : decode cX12_together 40 = .ok (.ladd, 1) := by decide +kernel
theorem dX12_together_41 : decode cX12_together 41 = .ok (.lstore_n 1, 1) := by decide +kernel
theorem dX12_together_42 : decode cX12_together 42 = .ok (.iinc 3 1, 3) := by decide +kernel
theorem dX12_together_45 : decode cX12_together 45 = .ok (.goto (-33), 3) := by decide +kernel
theorem dX12_together_48 : decode cX12_together 48 = .ok (.lload_n 1, 1) := by decide +kernel
theorem dX12_together_49 : decode cX12_together 49 = .ok (.lreturn, 1) := by decide +kernel
abbrev o_X12_together : Type := Int64 × Int32 × Int32 × Int32 × (Nat → Int32) × (Nat → Int32) × (Nat → Int32) × (Nat → Int32) × (Nat → Int64)
def f_X12_together_L12 (S : wd_W) (o1 : o_X12_lays) (o2 : o_X12_weighs) (r5 : (Int64) → (Int32) → (Option o_X12_together)) (x3 : Int64) (x4 : Int32) : Option o_X12_together :=
bd (f_X12_sets (wd_o S [(38, o1.1), (39, o1.2.1), (44, o1.2.2.1)] [] [(17, o1.2.2.2.1), (18, o1.2.2.2.2.1), (19, o1.2.2.2.2.2.1), (20, o1.2.2.2.2.2.2)] [(21, o2)] [])) fun o6 =>
if o6 ≤ x4 then (
some (x3, o1.1, o1.2.1, o1.2.2.1, o1.2.2.2.1, o1.2.2.2.2.1, o1.2.2.2.2.2.1, o1.2.2.2.2.2.2, o2)) else (
gd (okx x4 32768) <|
lk (fun x8 x9 =>
lz (x9 + x8) fun x11 =>
r5 x11 (x4 + (1 : Int32))) fun k40_10 =>
if (o1.2.2.2.2.2.2 x4.toNatClampNeg) = 0 then (
k40_10 (0 : Int64) x3) else (
gd (okx x4 32768) <|
k40_10 (o2 x4.toNatClampNeg) x3))
def f_X12_together (S : wd_W) : Option o_X12_together :=
bd (f_X12_lays (wd_o S [(38, (S.1 38)), (39, (S.1 39)), (44, (S.1 44))] [] [(17, (S.2.2.1 17)), (18, (S.2.2.1 18)), (19, (S.2.2.1 19)), (20, (S.2.2.1 20))] [(21, (S.2.2.2.1 21))] [])) fun o1 =>
bd (f_X12_weighs (wd_o S [(38, o1.1), (39, o1.2.1), (44, o1.2.2.1)] [] [(17, o1.2.2.2.1), (18, o1.2.2.2.2.1), (19, o1.2.2.2.2.2.1), (20, o1.2.2.2.2.2.2)] [(21, (S.2.2.2.1 21))] [])) fun o2 =>
it2 (f_X12_together_L12 S o1 o2) fuel (0 : Int64) (0 : Int32)
set_option maxRecDepth 100000 in
set_option maxHeartbeats 4000000 in
theorem c_X12_together (l : Launch) (D : va_G) (q g : Nat → Nat) (cy : Nat → ClassId) (z : (Nat → Nat) × (Nat → Nat) × Nat) (S : wd_W) (o : o_X12_together) (hf : f_X12_together S = some o) : MX layM l yX12_together cX12_together 4 (some .long) ({ frames := 5, cells := 0, slots := 0, locals := 115 } : Room) D q g cy z [.ref (q 0)] S false (some (.long o.1)) (wd_o S [(38, o.2.1), (39, o.2.2.1), (44, o.2.2.2.1)] [] [(17, o.2.2.2.2.1), (18, o.2.2.2.2.2.1), (19, o.2.2.2.2.2.2.1), (20, o.2.2.2.2.2.2.2.1)] [(21, o.2.2.2.2.2.2.2.2)] []) 0 0 := by
  refine mx_of (own := RX12) (lc := [(0, .ref (q 0))]) (by decide +kernel) rfl layM_ok (Nat.le_of_ble_eq_true rfl) rfl ?_
  intro X hXl hXq hXz hC hQ
  subst hXl; subst hXq; subst hXz
  unfold f_X12_together at hf
  refine go_keys (L1 := [(38, (S.1 38)), (39, (S.1 39)), (44, (S.1 44))]) (L2 := []) (L3 := [(17, (S.2.2.1 17)), (18, (S.2.2.1 18)), (19, (S.2.2.1 19)), (20, (S.2.2.1 20))]) (L4 := [(21, (S.2.2.2.1 21))]) (L5 := []) [38, 39, 44] [] [17, 18, 19, 20] [21] [] rfl rfl rfl rfl rfl ?_
  refine go_aload_n (pc' := 1) hC dX12_together_0 rfl rfl ?_
  obtain ⟨o1, ho1, hf⟩ := bd_e hf
  refine go_callV1 (pc' := 4) (As := []) (st := []) (st' := []) (L1' := [(38, o1.1), (39, o1.2.1), (44, o1.2.2.1)]) (L2' := []) (L3' := [(17, o1.2.2.2.1), (18, o1.2.2.2.2.1), (19, o1.2.2.2.2.2.1), (20, o1.2.2.2.2.2.2)]) (L4' := [(21, (S.2.2.2.1 21))]) (L5' := []) (cells' := 0) (slots' := 0)  (b := 0) hC dX12_together_1 ⟨mw_860, mw_863, mw_5, yd_yX12_lays, yp_yX12_lays, Nat.le_of_ble_eq_true rfl, Nat.le_of_ble_eq_true rfl, (Nat.le_of_ble_eq_true rfl), (Nat.le_of_ble_eq_true rfl)⟩ mw_861 mw_862 layM_0 rfl rfl rfl (Nat.le_of_ble_eq_true rfl) (c_X12_lays (x_l X) (x_D X) (x_q X) g (x_cy X) (x_z X) _  o1 ho1) rfl rfl rfl rfl rfl rfl rfl rfl rfl rfl rfl rfl rfl rfl ?_
  refine go_aload_n (pc' := 5) hC dX12_together_4 rfl rfl ?_
  obtain ⟨o2, ho2, hf⟩ := bd_e hf
  refine go_callV1 (pc' := 8) (As := []) (st := []) (st' := []) (L1' := [(38, o1.1), (39, o1.2.1), (44, o1.2.2.1)]) (L2' := []) (L3' := [(17, o1.2.2.2.1), (18, o1.2.2.2.2.1), (19, o1.2.2.2.2.2.1), (20, o1.2.2.2.2.2.2)]) (L4' := [(21, o2)]) (L5' := []) (cells' := 0) (slots' := 0)  (b := 0) hC dX12_together_5 ⟨mw_935, mw_938, mw_5, yd_yX12_weighs, yp_yX12_weighs, Nat.le_of_ble_eq_true rfl, Nat.le_of_ble_eq_true rfl, (Nat.le_of_ble_eq_true rfl), (Nat.le_of_ble_eq_true rfl)⟩ mw_936 mw_937 layM_0 rfl rfl rfl (Nat.le_of_ble_eq_true rfl) (c_X12_weighs (x_l X) (x_D X) (x_q X) g (x_cy X) (x_z X) _  o2 ho2) rfl rfl rfl rfl rfl rfl rfl rfl rfl rfl rfl rfl rfl rfl ?_
  refine go_lconst (pc' := 9) hC dX12_together_8 kl_0 rfl ?_
  refine go_lstore_n (lc' := [(0, .ref (x_q X 0)), (1, .long (0 : Int64))]) (pc' := 10) hC dX12_together_9 (Nat.le_of_ble_eq_true rfl) rfl rfl ?_
  refine go_iconst (pc' := 11) hC dX12_together_10 ki_0 rfl ?_
  refine go_istore_n (lc' := [(0, .ref (x_q X 0)), (1, .long (0 : Int64)), (3, .int (0 : Int32))]) (pc' := 12) hC dX12_together_11 (Nat.le_of_ble_eq_true rfl) rfl rfl ?_
  have l12_15 : ∀ (nn : Nat) (x3 : Int64) (x4 : Int32), it2 (f_X12_together_L12 S o1 o2) nn x3 x4 = some o → Go X layM S 12 [(0, .ref (x_q X 0)), (1, .long x3), (3, .int x4)] [] g [(38, o1.1), (39, o1.2.1), (44, o1.2.2.1)] [] [(17, o1.2.2.2.1), (18, o1.2.2.2.2.1), (19, o1.2.2.2.2.2.1), (20, o1.2.2.2.2.2.2)] [(21, o2)] [] 0 0 := by
    intro nn
    induction nn with
    | zero =>
      intro x3 x4 hf
      exact none_no hf
    | succ nn ih =>
      intro x3 x4 hf
      have hf : f_X12_together_L12 S o1 o2 (it2 (f_X12_together_L12 S o1 o2) nn) x3 x4 = some o := hf
      generalize it2 (f_X12_together_L12 S o1 o2) nn = r5 at ih hf
      unfold f_X12_together_L12 at hf
      refine go_iload_n (pc' := 13) hC dX12_together_12 rfl rfl ?_
      refine go_aload_n (pc' := 14) hC dX12_together_13 rfl rfl ?_
      obtain ⟨o6, ho6, hf⟩ := bd_e hf
      refine go_callV0 (pc' := 17) (As := []) (st := [.int x4]) (st' := [.int o6, .int x4])    (b := 0) hC dX12_together_14 ⟨mw_856, mw_859, mw_5, yd_yX12_sets, yp_yX12_sets, Nat.le_of_ble_eq_true rfl, Nat.le_of_ble_eq_true rfl, (Nat.le_of_ble_eq_true rfl), (Nat.le_of_ble_eq_true rfl)⟩ mw_857 mw_858 layM_0 rfl rfl rfl (Nat.le_of_ble_eq_true rfl) (c_X12_sets (x_l X) (x_D X) (x_q X) g (x_cy X) (x_z X) _  o6 ho6) rfl rfl ?_
      refine go_icmp_ge (tgt := 48) (pc' := 20) hC dX12_together_17 (by decide) rfl (fun h14 => ?_) (fun h14 => ?_)
      · have hf := ite_t h14 hf
        refine go_lload_n (pc' := 49) hC dX12_together_48 rfl rfl ?_
        obtain rfl := Option.some.inj hf
        exact go_lret hC hQ dX12_together_49 rfl rfl rfl (fun _ => rfl) rfl rfl
      · have hf := ite_f h14 hf
        refine go_lload_n (pc' := 21) hC dX12_together_20 rfl rfl ?_
        refine go_aload_n (pc' := 22) hC dX12_together_21 rfl rfl ?_
        refine go_getq (pc' := 25) hC 0 43 layM_0 rfl rfl inlX12 (Nat.le_of_ble_eq_true rfl) mw_201 rfl dX12_together_22 rfl ?_
        refine go_iload_n (pc' := 26) hC dX12_together_25 rfl rfl ?_
        obtain ⟨h7, hf⟩ := gd_e hf
        refine go_zald (f := o1.2.2.2.2.2.2) (pc' := 27) hC 20 layM_20 rfl rfl dX12_together_26 (okx_in h7) rfl ?_
        obtain ⟨k40_10, hk40_10, hf⟩ := lk_e2 hf
        have jk40_10 : ∀ (x8 : Int64) (x9 : Int64), k40_10 x8 x9 = some o → Go X layM S 40 [(0, .ref (x_q X 0)), (3, .int x4)] [.long x8, .long x9] g [(38, o1.1), (39, o1.2.1), (44, o1.2.2.1)] [] [(17, o1.2.2.2.1), (18, o1.2.2.2.2.1), (19, o1.2.2.2.2.2.1), (20, o1.2.2.2.2.2.2)] [(21, o2)] [] 0 0 := by
          intro x8 x9 hf
          have hf := hk40_10 x8 x9 hf
          clear hk40_10
          refine go_ladd (pc' := 41) hC dX12_together_40 rfl ?_
          refine go_namel (fun x11 hx => ?_)
          have hf := lz_r hx hf
          clear hx
          refine go_lstore_n (lc' := [(0, .ref (x_q X 0)), (1, .long x11), (3, .int x4)]) (pc' := 42) hC dX12_together_41 (Nat.le_of_ble_eq_true rfl) rfl rfl ?_
          refine go_iinc (lc' := [(0, .ref (x_q X 0)), (1, .long x11), (3, .int (x4 + (1 : Int32)))]) (pc' := 45) hC dX12_together_42 rfl ki_1 (Nat.le_of_ble_eq_true rfl) rfl rfl ?_
          refine go_goto (tgt := 12) hC dX12_together_45 (by decide) ?_
          exact ih x11 (x4 + (1 : Int32)) hf
        clear hk40_10
        refine go_if_eq (tgt := 39) (pc' := 30) hC dX12_together_27 (by decide) rfl (fun h13 => ?_) (fun h13 => ?_)
        · have hf := ite_t h13 hf
          refine go_lconst (pc' := 40) hC dX12_together_39 kl_0 rfl ?_
          refine go_sub [0, 3] rfl ?_
          exact jk40_10 (0 : Int64) x3 hf
        · have hf := ite_f h13 hf
          refine go_aload_n (pc' := 31) hC dX12_together_30 rfl rfl ?_
          refine go_getq (pc' := 34) hC 0 45 layM_0 rfl rfl inlX12 (Nat.le_of_ble_eq_true rfl) mw_202 rfl dX12_together_31 rfl ?_
          refine go_iload_n (pc' := 35) hC dX12_together_34 rfl rfl ?_
          obtain ⟨h12, hf⟩ := gd_e hf
          refine go_lald (f := o2) (pc' := 36) hC 21 layM_21 rfl rfl dX12_together_35 (okx_in h12) rfl ?_
          refine go_goto (tgt := 40) hC dX12_together_36 (by decide) ?_
          refine go_sub [0, 3] rfl ?_
          exact jk40_10 (o2 x4.toNatClampNeg) x3 hf
  exact l12_15 fuel (0 : Int64) (0 : Int32) hf
theorem dX12_power_0 : decode cX12_power 0 = .ok (.lconst 1, 1) := by decide +kernel
theorem dX12_power_1 : decode cX12_power 1 = .ok (.iconst 4, 1) := by decide +kernel
theorem dX12_power_2 : decode cX12_power 2 = .ok (.iload_n 1, 1) := by decide +kernel
theorem dX12_power_3 : decode cX12_power 3 = .ok (.imul, 1) := by decide +kernel
theorem dX12_power_4 : decode cX12_power 4 = .ok (.lshl, 1) := by decide +kernel
theorem dX12_power_5 : decode cX12_power 5 = .ok (.lreturn, 1) := by decide +kernel
abbrev o_X12_power : Type := Int64
def f_X12_power (p1 : Int32) : Option o_X12_power :=
some ((1 : Int64) <<< (((4 : Int32) * p1).toInt64 &&& 63))
set_option maxRecDepth 100000 in
set_option maxHeartbeats 4000000 in
theorem c_X12_power (l : Launch) (D : va_G) (q g : Nat → Nat) (cy : Nat → ClassId) (z : (Nat → Nat) × (Nat → Nat) × Nat) (S : wd_W) (p1 : Int32) (o : o_X12_power) (hf : f_X12_power p1 = some o) : MX layM l yX12_power cX12_power 2 (some .long) ({ frames := 0, cells := 0, slots := 0, locals := 0 } : Room) D q g cy z [.ref (q 0), .int p1] S false (some (.long o)) (wd_o S [] [] [] [] []) 0 0 := by
  refine mx_of (own := RX12) (lc := [(0, .ref (q 0)), (1, .int p1)]) (by decide +kernel) rfl layM_ok (Nat.le_of_ble_eq_true rfl) rfl ?_
  intro X hXl hXq hXz hC hQ
  subst hXl; subst hXq; subst hXz
  unfold f_X12_power at hf
  refine go_lconst (pc' := 1) hC dX12_power_0 kl_1 rfl ?_
  refine go_iconst (pc' := 2) hC dX12_power_1 ki_4 rfl ?_
  refine go_iload_n (pc' := 3) hC dX12_power_2 rfl rfl ?_
  refine go_imul (pc' := 4) hC dX12_power_3 rfl ?_
  refine go_lshl (pc' := 5) hC dX12_power_4 rfl ?_
  obtain rfl := Option.some.inj hf
  exact go_lret hC hQ dX12_power_5 rfl rfl rfl (fun _ => rfl) rfl rfl
theorem dX12_isAtLeast_0 : decode cX12_isAtLeast 0 = .ok (.aload_n 0, 1) := by decide +kernel
theorem dX12_isAtLeast_1 : decode cX12_isAtLeast 1 = .ok (.getfield 288, 3) := by decide +kernel
theorem dX12_isAtLeast_4 : decode cX12_isAtLeast 4 = .ok (.ifCond .ne 22, 3) := by decide +kernel
theorem dX12_isAtLeast_7 : decode cX12_isAtLeast 7 = .ok (.ldc2_w 367, 3) := by decide +kernel
theorem dX12_isAtLeast_10 : decode cX12_isAtLeast 10 = .ok (.lload_n 1, 1) := by decide +kernel
theorem dX12_isAtLeast_11 : decode cX12_isAtLeast 11 = .ok (.lmul, 1) := by decide +kernel
theorem dX12_isAtLeast_12 : decode cX12_isAtLeast 12 = .ok (.iload_n 3, 1) := by decide +kernel
theorem dX12_isAtLeast_13 : decode cX12_isAtLeast 13 = .ok (.i2l, 1) := by decide +kernel
theorem dX12_isAtLeast_14 : decode cX12_isAtLeast 14 = .ok (.lcmp, 1) := by decide +kernel
theorem dX12_isAtLeast_15 : decode cX12_isAtLeast 15 = .ok (.ifCond .lt 7, 3) := by decide +kernel
theorem dX12_isAtLeast_18 : decode cX12_isAtLeast 18 = .ok (.iconst 1, 1) := by decide +kernel
theorem dX12_isAtLeast_19 : decode cX12_isAtLeast 19 = .ok (.goto 30, 3) := by decide +kernel
theorem dX12_isAtLeast_22 : decode cX12_isAtLeast 22 = .ok (.iconst 0, 1) := by decide +kernel
theorem dX12_isAtLeast_23 : decode cX12_isAtLeast 23 = .ok (.goto 26, 3) := by decide +kernel
theorem dX12_isAtLeast_26 : decode cX12_isAtLeast 26 = .ok (.lload_n 1, 1) := by decide +kernel
theorem dX12_isAtLeast_27 : decode cX12_isAtLeast 27 = .ok (.iload_n 3, 1) := by decide +kernel
theorem dX12_isAtLeast_28 : decode cX12_isAtLeast 28 = .ok (.i2l, 1) := by decide +kernel
theorem dX12_isAtLeast_29 : decode cX12_isAtLeast 29 = .ok (.aload_n 0, 1) := by decide +kernel
theorem dX12_isAtLeast_30 : decode cX12_isAtLeast 30 = .ok (.aload_n 0, 1) := by decide +kernel
theorem dX12_isAtLeast_31 : decode cX12_isAtLeast 31 = .ok (.getfield 288, 3) := by decide +kernel
theorem dX12_isAtLeast_34 : decode cX12_isAtLeast 34 = .ok (.iconst 1, 1) := by decide +kernel
theorem dX12_isAtLeast_35 : decode cX12_isAtLeast 35 = .ok (.isub, 1) := by decide +kernel
theorem dX12_isAtLeast_36 : decode cX12_isAtLeast 36 = .ok (.invokevirtual 369, 3) := by decide +kernel
theorem dX12_isAtLeast_39 : decode cX12_isAtLeast 39 = .ok (.lmul, 1) := by decide +kernel
theorem dX12_isAtLeast_40 : decode cX12_isAtLeast 40 = .ok (.lcmp, 1) := by decide +kernel
theorem dX12_isAtLeast_41 : decode cX12_isAtLeast 41 = .ok (.ifCond .lt 7, 3) := by decide +kernel
theorem dX12_isAtLeast_44 : decode cX12_isAtLeast 44 = .ok (.iconst 1, 1) := by decide +kernel
theorem dX12_isAtLeast_45 : decode cX12_isAtLeast 45 = .ok (.goto 4, 3) := by decide +kernel
theorem dX12_isAtLeast_48 : decode cX12_isAtLeast 48 = .ok (.iconst 0, 1) := by decide +kernel
theorem dX12_isAtLeast_49 : decode cX12_isAtLeast 49 = .ok (.ireturn, 1) := by decide +kernel
abbrev o_X12_isAtLeast : Type := Int32
def f_X12_isAtLeast (S : wd_W) (p1 : Int64) (p2 : Int32) : Option o_X12_isAtLeast :=
if (S.1 32) = 0 then (
if ((16 : Int64) * p1) < p2.toInt64 then (
some (0 : Int32)) else (
some (1 : Int32))) else (
bd (f_X12_power ((S.1 32) - (1 : Int32))) fun o1 =>
if p1 < (p2.toInt64 * o1) then (
some (0 : Int32)) else (
some (1 : Int32)))
set_option maxRecDepth 100000 in
set_option maxHeartbeats 4000000 in
theorem c_X12_isAtLeast (l : Launch) (D : va_G) (q g : Nat → Nat) (cy : Nat → ClassId) (z : (Nat → Nat) × (Nat → Nat) × Nat) (S : wd_W) (p1 : Int64) (p2 : Int32) (o : o_X12_isAtLeast) (hf : f_X12_isAtLeast S p1 p2 = some o) : MX layM l yX12_isAtLeast cX12_isAtLeast 4 (some .boolean) ({ frames := 1, cells := 0, slots := 0, locals := 21 } : Room) D q g cy z [.ref (q 0), .long p1, .int p2] S false (some (.int o)) (wd_o S [] [] [] [] []) 0 0 := by
  refine mx_of (own := RX12) (lc := [(0, .ref (q 0)), (1, .long p1), (3, .int p2)]) (by decide +kernel) rfl layM_ok (Nat.le_of_ble_eq_true rfl) rfl ?_
  intro X hXl hXq hXz hC hQ
  subst hXl; subst hXq; subst hXz
  unfold f_X12_isAtLeast at hf
  refine go_aload_n (pc' := 1) hC dX12_isAtLeast_0 rfl rfl ?_
  refine go_geti (v := (S.1 32)) (pc' := 4) hC 0 32 layM_0 rfl rfl inlX12 (Nat.le_of_ble_eq_true rfl) mw_250 rfl dX12_isAtLeast_1 rfl rfl ?_
  refine go_if_ne (tgt := 26) (pc' := 7) hC dX12_isAtLeast_4 (by decide) rfl (fun h4 => ?_) (fun h4 => ?_)
  · have hf := ite_f h4 hf
    refine go_lload_n (pc' := 27) hC dX12_isAtLeast_26 rfl rfl ?_
    refine go_iload_n (pc' := 28) hC dX12_isAtLeast_27 rfl rfl ?_
    refine go_i2l (pc' := 29) hC dX12_isAtLeast_28 rfl ?_
    refine go_aload_n (pc' := 30) hC dX12_isAtLeast_29 rfl rfl ?_
    refine go_aload_n (pc' := 31) hC dX12_isAtLeast_30 rfl rfl ?_
    refine go_geti (v := (S.1 32)) (pc' := 34) hC 0 32 layM_0 rfl rfl inlX12 (Nat.le_of_ble_eq_true rfl) mw_250 rfl dX12_isAtLeast_31 rfl rfl ?_
    refine go_iconst (pc' := 35) hC dX12_isAtLeast_34 ki_1 rfl ?_
    refine go_isub (pc' := 36) hC dX12_isAtLeast_35 rfl ?_
    obtain ⟨o1, ho1, hf⟩ := bd_e hf
    refine go_callV0 (pc' := 39) (As := [.int ((S.1 32) - (1 : Int32))]) (st := [.long p2.toInt64, .long p1]) (st' := [.long o1, .long p2.toInt64, .long p1])    (b := 0) hC dX12_isAtLeast_36 ⟨mw_923, mw_926, mw_5, yd_yX12_power, yp_yX12_power, Nat.le_of_ble_eq_true rfl, Nat.le_of_ble_eq_true rfl, (Nat.le_of_ble_eq_true rfl), (Nat.le_of_ble_eq_true rfl)⟩ mw_924 mw_925 layM_0 rfl rfl rfl (Nat.le_of_ble_eq_true rfl) (c_X12_power (x_l X) (x_D X) (x_q X) g (x_cy X) (x_z X) _ ((S.1 32) - (1 : Int32)) o1 ho1) rfl rfl ?_
    refine go_lmul (pc' := 40) hC dX12_isAtLeast_39 rfl ?_
    refine go_lcmp (pc' := 41) hC dX12_isAtLeast_40 rfl ?_
    refine go_if_lt (tgt := 48) (pc' := 44) hC dX12_isAtLeast_41 (by decide) rfl (fun h2 => ?_) (fun h2 => ?_)
    · have hf := ite_t (lg_lt.mp h2) hf
      refine go_iconst (pc' := 49) hC dX12_isAtLeast_48 ki_0 rfl ?_
      obtain rfl := Option.some.inj hf
      exact go_iret hC hQ dX12_isAtLeast_49 rfl rfl rfl rfl (fun _ => rfl) rfl rfl
    · have hf := ite_f (mt lg_lt.mpr h2) hf
      refine go_iconst (pc' := 45) hC dX12_isAtLeast_44 ki_1 rfl ?_
      refine go_goto (tgt := 49) hC dX12_isAtLeast_45 (by decide) ?_
      obtain rfl := Option.some.inj hf
      exact go_iret hC hQ dX12_isAtLeast_49 rfl rfl rfl rfl (fun _ => rfl) rfl rfl
  · have hf := ite_t h4 hf
    refine go_ldc2 (pc' := 10) hC dX12_isAtLeast_7 mw_1038 rfl ?_
    refine go_lload_n (pc' := 11) hC dX12_isAtLeast_10 rfl rfl ?_
    refine go_lmul (pc' := 12) hC dX12_isAtLeast_11 rfl ?_
    refine go_iload_n (pc' := 13) hC dX12_isAtLeast_12 rfl rfl ?_
    refine go_i2l (pc' := 14) hC dX12_isAtLeast_13 rfl ?_
    refine go_lcmp (pc' := 15) hC dX12_isAtLeast_14 rfl ?_
    refine go_if_lt (tgt := 22) (pc' := 18) hC dX12_isAtLeast_15 (by decide) rfl (fun h3 => ?_) (fun h3 => ?_)
    · have hf := ite_t (lg_lt.mp h3) hf
      refine go_iconst (pc' := 23) hC dX12_isAtLeast_22 ki_0 rfl ?_
      refine go_goto (tgt := 49) hC dX12_isAtLeast_23 (by decide) ?_
      obtain rfl := Option.some.inj hf
      exact go_iret hC hQ dX12_isAtLeast_49 rfl rfl rfl rfl (fun _ => rfl) rfl rfl
    · have hf := ite_f (mt lg_lt.mpr h3) hf
      refine go_iconst (pc' := 19) hC dX12_isAtLeast_18 ki_1 rfl ?_
      refine go_goto (tgt := 49) hC dX12_isAtLeast_19 (by decide) ?_
      obtain rfl := Option.some.inj hf
      exact go_iret hC hQ dX12_isAtLeast_49 rfl rfl rfl rfl (fun _ => rfl) rfl rfl
theorem dX12_isThing_0 : decode cX12_isThing 0 = .ok (.iload_n 1, 1) := by decide +kernel
theorem dX12_isThing_1 : decode cX12_isThing 1 = .ok (.ifCond .lt 15, 3) := by decide +kernel
theorem dX12_isThing_4 : decode cX12_isThing 4 = .ok (.iload_n 1, 1) := by decide +kernel
theorem dX12_isThing_5 : decode cX12_isThing 5 = .ok (.aload_n 0, 1) := by decide +kernel
theorem dX12_isThing_6 : decode cX12_isThing 6 = .ok (.getfield 288, 3) := by decide +kernel
theorem dX12_isThing_9 : decode cX12_isThing 9 = .ok (.if_icmp .ge 7, 3) := by decide +kernel
theorem dX12_isThing_12 : decode cX12_isThing 12 = .ok (.iconst 1, 1) := by decide +kernel
theorem dX12_isThing_13 : decode cX12_isThing 13 = .ok (.goto 4, 3) := by decide +kernel
theorem dX12_isThing_16 : decode cX12_isThing 16 = .ok (.iconst 0, 1) := by decide +kernel
theorem dX12_isThing_17 : decode cX12_isThing 17 = .ok (.ireturn, 1) := by decide +kernel
abbrev o_X12_isThing : Type := Int32
def f_X12_isThing (S : wd_W) (p1 : Int32) : Option o_X12_isThing :=
if p1 < 0 then (
some (0 : Int32)) else (
if (S.1 32) ≤ p1 then (
some (0 : Int32)) else (
some (1 : Int32)))
set_option maxRecDepth 100000 in
set_option maxHeartbeats 4000000 in
theorem c_X12_isThing (l : Launch) (D : va_G) (q g : Nat → Nat) (cy : Nat → ClassId) (z : (Nat → Nat) × (Nat → Nat) × Nat) (S : wd_W) (p1 : Int32) (o : o_X12_isThing) (hf : f_X12_isThing S p1 = some o) : MX layM l yX12_isThing cX12_isThing 2 (some .boolean) ({ frames := 0, cells := 0, slots := 0, locals := 0 } : Room) D q g cy z [.ref (q 0), .int p1] S false (some (.int o)) (wd_o S [] [] [] [] []) 0 0 := by
  refine mx_of (own := RX12) (lc := [(0, .ref (q 0)), (1, .int p1)]) (by decide +kernel) rfl layM_ok (Nat.le_of_ble_eq_true rfl) rfl ?_
  intro X hXl hXq hXz hC hQ
  subst hXl; subst hXq; subst hXz
  unfold f_X12_isThing at hf
  refine go_iload_n (pc' := 1) hC dX12_isThing_0 rfl rfl ?_
  refine go_if_lt (tgt := 16) (pc' := 4) hC dX12_isThing_1 (by decide) rfl (fun h2 => ?_) (fun h2 => ?_)
  · have hf := ite_t h2 hf
    refine go_iconst (pc' := 17) hC dX12_isThing_16 ki_0 rfl ?_
    obtain rfl := Option.some.inj hf
    exact go_iret hC hQ dX12_isThing_17 rfl rfl rfl rfl (fun _ => rfl) rfl rfl
  · have hf := ite_f h2 hf
    refine go_iload_n (pc' := 5) hC dX12_isThing_4 rfl rfl ?_
    refine go_aload_n (pc' := 6) hC dX12_isThing_5 rfl rfl ?_
    refine go_geti (v := (S.1 32)) (pc' := 9) hC 0 32 layM_0 rfl rfl inlX12 (Nat.le_of_ble_eq_true rfl) mw_250 rfl dX12_isThing_6 rfl rfl ?_
    refine go_icmp_ge (tgt := 16) (pc' := 12) hC dX12_isThing_9 (by decide) rfl (fun h1 => ?_) (fun h1 => ?_)
    · have hf := ite_t h1 hf
      refine go_iconst (pc' := 17) hC dX12_isThing_16 ki_0 rfl ?_
      obtain rfl := Option.some.inj hf
      exact go_iret hC hQ dX12_isThing_17 rfl rfl rfl rfl (fun _ => rfl) rfl rfl
    · have hf := ite_f h1 hf
      refine go_iconst (pc' := 13) hC dX12_isThing_12 ki_1 rfl ?_
      refine go_goto (tgt := 17) hC dX12_isThing_13 (by decide) ?_
      obtain rfl := Option.some.inj hf
      exact go_iret hC hQ dX12_isThing_17 rfl rfl rfl rfl (fun _ => rfl) rfl rfl
theorem dX12_so_0 : decode cX12_so 0 = .ok (.iload_n 1, 1) := by decide +kernel
theorem dX12_so_1 : decode cX12_so 1 = .ok (.i2l, 1) := by decide +kernel
theorem dX12_so_2 : decode cX12_so 2 = .ok (.lconst 0, 1) := by decide +kernel
theorem dX12_so_3 : decode cX12_so 3 = .ok (.aload_n 0, 1) := by decide +kernel
theorem dX12_so_4 : decode cX12_so 4 = .ok (.invokevirtual 354, 3) := by decide +kernel
theorem dX12_so_7 : decode cX12_so 7 = .ok (.iconst 1, 1) := by decide +kernel
theorem dX12_so_8 : decode cX12_so 8 = .ok (.isub, 1) := by decide +kernel
theorem dX12_so_9 : decode cX12_so 9 = .ok (.i2l, 1) := by decide +kernel
theorem dX12_so_10 : decode cX12_so 10 = .ok (.invokestatic 218, 3) := by decide +kernel
theorem dX12_so_13 : decode cX12_so 13 = .ok (.ifCond .ne 5, 3) := by decide +kernel
theorem dX12_so_16 : decode cX12_so 16 = .ok (.iconst (-1), 1) := by decide +kernel
theorem dX12_so_17 : decode cX12_so 17 = .ok (.ireturn, 1) := by decide +kernel
theorem dX12_so_18 : decode cX12_so 18 = .ok (.aload_n 0, 1) := by decide +kernel
theorem dX12_so_19 : decode cX12_so 19 = .ok (.invokevirtual 361, 3) := by decide +kernel
theorem dX12_so_22 : decode cX12_so 22 = .ok (.aload_n 0, 1) := by decide +kernel
theorem dX12_so_23 : decode cX12_so 23 = .ok (.getfield 70, 3) := by decide +kernel
theorem dX12_so_26 : decode cX12_so 26 = .ok (.iload_n 1, 1) := by decide +kernel
theorem dX12_so_27 : decode cX12_so 27 = .ok (.baload, 1) := by decide +kernel
theorem dX12_so_28 : decode cX12_so 28 = .ok (.ifCond .eq 7, 3) := by decide +kernel
theorem dX12_so_31 : decode cX12_so 31 = .ok (.iconst 1, 1) := by decide +kernel
theorem dX12_so_32 : decode cX12_so 32 = .ok (.goto 4, 3) := by decide +kernel
theorem dX12_so_35 : decode cX12_so 35 = .ok (.iconst 0, 1) := by decide +kernel
theorem dX12_so_36 : decode cX12_so 36 = .ok (.ireturn, 1) := by decide +kernel
abbrev o_X12_so : Type := Int32 × Int32 × Int32 × Int32 × (Nat → Int32) × (Nat → Int32) × (Nat → Int32) × (Nat → Int32)
def f_X12_so (S : wd_W) (p1 : Int32) : Option o_X12_so :=
bd (f_X12_sets (wd_o S [(38, (S.1 38)), (39, (S.1 39)), (44, (S.1 44))] [] [(17, (S.2.2.1 17)), (18, (S.2.2.1 18)), (19, (S.2.2.1 19)), (20, (S.2.2.1 20))] [] [])) fun o1 =>
bd (f_X12_in p1.toInt64 (0 : Int64) ((o1 - (1 : Int32)).toInt64)) fun o2 =>
if o2 = 0 then (
some ((-1 : Int32), (S.1 38), (S.1 39), (S.1 44), (S.2.2.1 17), (S.2.2.1 18), (S.2.2.1 19), (S.2.2.1 20))) else (
bd (f_X12_lays (wd_o S [(38, (S.1 38)), (39, (S.1 39)), (44, (S.1 44))] [] [(17, (S.2.2.1 17)), (18, (S.2.2.1 18)), (19, (S.2.2.1 19)), (20, (S.2.2.1 20))] [] [])) fun o3 =>
gd (okx p1 32768) <|
if (o3.2.2.2.2.2.2 p1.toNatClampNeg) = 0 then (
some ((0 : Int32), o3.1, o3.2.1, o3.2.2.1, o3.2.2.2.1, o3.2.2.2.2.1, o3.2.2.2.2.2.1, o3.2.2.2.2.2.2)) else (
some ((1 : Int32), o3.1, o3.2.1, o3.2.2.1, o3.2.2.2.1, o3.2.2.2.2.1, o3.2.2.2.2.2.1, o3.2.2.2.2.2.2)))
set_option maxRecDepth 100000 in
set_option maxHeartbeats 4000000 in
theorem c_X12_so (l : Launch) (D : va_G) (q g : Nat → Nat) (cy : Nat → ClassId) (z : (Nat → Nat) × (Nat → Nat) × Nat) (S : wd_W) (p1 : Int32) (o : o_X12_so) (hf : f_X12_so S p1 = some o) : MX layM l yX12_so cX12_so 2 (some .int) ({ frames := 5, cells := 0, slots := 0, locals := 115 } : Room) D q g cy z [.ref (q 0), .int p1] S false (some (.int o.1)) (wd_o S [(38, o.2.1), (39, o.2.2.1), (44, o.2.2.2.1)] [] [(17, o.2.2.2.2.1), (18, o.2.2.2.2.2.1), (19, o.2.2.2.2.2.2.1), (20, o.2.2.2.2.2.2.2)] [] []) 0 0 := by
  refine mx_of (own := RX12) (lc := [(0, .ref (q 0)), (1, .int p1)]) (by decide +kernel) rfl layM_ok (Nat.le_of_ble_eq_true rfl) rfl ?_
  intro X hXl hXq hXz hC hQ
  subst hXl; subst hXq; subst hXz
  unfold f_X12_so at hf
  refine go_keys (L1 := [(38, (S.1 38)), (39, (S.1 39)), (44, (S.1 44))]) (L2 := []) (L3 := [(17, (S.2.2.1 17)), (18, (S.2.2.1 18)), (19, (S.2.2.1 19)), (20, (S.2.2.1 20))]) (L4 := []) (L5 := []) [38, 39, 44] [] [17, 18, 19, 20] [] [] rfl rfl rfl rfl rfl ?_
  refine go_iload_n (pc' := 1) hC dX12_so_0 rfl rfl ?_
  refine go_i2l (pc' := 2) hC dX12_so_1 rfl ?_
  refine go_lconst (pc' := 3) hC dX12_so_2 kl_0 rfl ?_
  refine go_aload_n (pc' := 4) hC dX12_so_3 rfl rfl ?_
  obtain ⟨o1, ho1, hf⟩ := bd_e hf
  refine go_callV0 (pc' := 7) (As := []) (st := [.long (0 : Int64), .long p1.toInt64]) (st' := [.int o1, .long (0 : Int64), .long p1.toInt64])    (b := 0) hC dX12_so_4 ⟨mw_856, mw_859, mw_5, yd_yX12_sets, yp_yX12_sets, Nat.le_of_ble_eq_true rfl, Nat.le_of_ble_eq_true rfl, (Nat.le_of_ble_eq_true rfl), (Nat.le_of_ble_eq_true rfl)⟩ mw_857 mw_858 layM_0 rfl rfl rfl (Nat.le_of_ble_eq_true rfl) (c_X12_sets (x_l X) (x_D X) (x_q X) g (x_cy X) (x_z X) _  o1 ho1) rfl rfl ?_
  refine go_iconst (pc' := 8) hC dX12_so_7 ki_1 rfl ?_
  refine go_isub (pc' := 9) hC dX12_so_8 rfl ?_
  refine go_i2l (pc' := 10) hC dX12_so_9 rfl ?_
  obtain ⟨o2, ho2, hf⟩ := bd_e hf
  refine go_callS0 (pc' := 13) (As := [.long p1.toInt64, .long (0 : Int64), .long ((o1 - (1 : Int32)).toInt64)]) (st := []) (st' := [.int o2])    hC dX12_so_10 ⟨mw_525, mw_527, mw_5, yd_yX12_in, yp_yX12_in, Nat.le_of_ble_eq_true rfl, Nat.le_of_ble_eq_true rfl, (Nat.le_of_ble_eq_true rfl), (Nat.le_of_ble_eq_true rfl)⟩ mw_526 rfl rfl (Nat.le_of_ble_eq_true rfl) (c_X12_in (x_l X) (x_D X) (x_q X) g (x_cy X) (x_z X) _ p1.toInt64 (0 : Int64) ((o1 - (1 : Int32)).toInt64) o2 ho2) rfl rfl ?_
  refine go_if_ne (tgt := 18) (pc' := 16) hC dX12_so_13 (by decide) rfl (fun h6 => ?_) (fun h6 => ?_)
  · have hf := ite_f h6 hf
    refine go_aload_n (pc' := 19) hC dX12_so_18 rfl rfl ?_
    obtain ⟨o3, ho3, hf⟩ := bd_e hf
    refine go_callV1 (pc' := 22) (As := []) (st := []) (st' := []) (L1' := [(38, o3.1), (39, o3.2.1), (44, o3.2.2.1)]) (L2' := []) (L3' := [(17, o3.2.2.2.1), (18, o3.2.2.2.2.1), (19, o3.2.2.2.2.2.1), (20, o3.2.2.2.2.2.2)]) (L4' := []) (L5' := []) (cells' := 0) (slots' := 0)  (b := 0) hC dX12_so_19 ⟨mw_860, mw_863, mw_5, yd_yX12_lays, yp_yX12_lays, Nat.le_of_ble_eq_true rfl, Nat.le_of_ble_eq_true rfl, (Nat.le_of_ble_eq_true rfl), (Nat.le_of_ble_eq_true rfl)⟩ mw_861 mw_862 layM_0 rfl rfl rfl (Nat.le_of_ble_eq_true rfl) (c_X12_lays (x_l X) (x_D X) (x_q X) g (x_cy X) (x_z X) _  o3 ho3) rfl rfl rfl rfl rfl rfl rfl rfl rfl rfl rfl rfl rfl rfl ?_
    refine go_aload_n (pc' := 23) hC dX12_so_22 rfl rfl ?_
    refine go_getq (pc' := 26) hC 0 43 layM_0 rfl rfl inlX12 (Nat.le_of_ble_eq_true rfl) mw_201 rfl dX12_so_23 rfl ?_
    refine go_iload_n (pc' := 27) hC dX12_so_26 rfl rfl ?_
    obtain ⟨h4, hf⟩ := gd_e hf
    refine go_zald (f := o3.2.2.2.2.2.2) (pc' := 28) hC 20 layM_20 rfl rfl dX12_so_27 (okx_in h4) rfl ?_
    refine go_if_eq (tgt := 35) (pc' := 31) hC dX12_so_28 (by decide) rfl (fun h5 => ?_) (fun h5 => ?_)
    · have hf := ite_t h5 hf
      refine go_iconst (pc' := 36) hC dX12_so_35 ki_0 rfl ?_
      obtain rfl := Option.some.inj hf
      exact go_iret hC hQ dX12_so_36 rfl rfl rfl rfl (fun _ => rfl) rfl rfl
    · have hf := ite_f h5 hf
      refine go_iconst (pc' := 32) hC dX12_so_31 ki_1 rfl ?_
      refine go_goto (tgt := 36) hC dX12_so_32 (by decide) ?_
      obtain rfl := Option.some.inj hf
      exact go_iret hC hQ dX12_so_36 rfl rfl rfl rfl (fun _ => rfl) rfl rfl
  · have hf := ite_t h6 hf
    refine go_iconst (pc' := 17) hC dX12_so_16 ki_m1 rfl ?_
    obtain rfl := Option.some.inj hf
    exact go_iret hC hQ dX12_so_17 rfl rfl rfl rfl (fun _ => rfl) rfl rfl
theorem dX12_chance_0 : decode cX12_chance 0 = .ok (.iload_n 1, 1) := by decide +kernel
theorem dX12_chance_1 : decode cX12_chance 1 = .ok (.i2l, 1) := by decide +kernel
theorem dX12_chance_2 : decode cX12_chance 2 = .ok (.lconst 0, 1) := by decide +kernel
theorem dX12_chance_3 : decode cX12_chance 3 = .ok (.lconst 1, 1) := by decide +kernel
theorem dX12_chance_4 : decode cX12_chance 4 = .ok (.invokestatic 218, 3) := by decide +kernel
theorem dX12_chance_7 : decode cX12_chance 7 = .ok (.ifCond .ne 7, 3) := by decide +kernel
theorem dX12_chance_10 : decode cX12_chance 10 = .ok (.ldc2_w 373, 3) := by decide +kernel
theorem dX12_chance_13 : decode cX12_chance 13 = .ok (.lreturn, 1) := by decide +kernel
theorem dX12_chance_14 : decode cX12_chance 14 = .ok (.iload_n 1, 1) := by decide +kernel
theorem dX12_chance_15 : decode cX12_chance 15 = .ok (.iconst 1, 1) := by decide +kernel
theorem dX12_chance_16 : decode cX12_chance 16 = .ok (.if_icmp .ne 12, 3) := by decide +kernel
theorem dX12_chance_19 : decode cX12_chance 19 = .ok (.aload_n 0, 1) := by decide +kernel
theorem dX12_chance_20 : decode cX12_chance 20 = .ok (.aload_n 0, 1) := by decide +kernel
theorem dX12_chance_21 : decode cX12_chance 21 = .ok (.getfield 288, 3) := by decide +kernel
theorem dX12_chance_24 : decode cX12_chance 24 = .ok (.invokevirtual 369, 3) := by decide +kernel
theorem dX12_chance_27 : decode cX12_chance 27 = .ok (.lreturn, 1) := by decide +kernel
theorem dX12_chance_28 : decode cX12_chance 28 = .ok (.aload_n 0, 1) := by decide +kernel
theorem dX12_chance_29 : decode cX12_chance 29 = .ok (.invokevirtual 375, 3) := by decide +kernel
theorem dX12_chance_32 : decode cX12_chance 32 = .ok (.aload_n 0, 1) := by decide +kernel
theorem dX12_chance_33 : decode cX12_chance 33 = .ok (.invokevirtual 378, 3) := by decide +kernel
theorem dX12_chance_36 : decode cX12_chance 36 = .ok (.lreturn, 1) := by decide +kernel
abbrev o_X12_chance : Type := Int64 × Int32 × Int32 × Int32 × (Nat → Int32) × (Nat → Int32) × (Nat → Int32) × (Nat → Int32) × (Nat → Int32) × (Nat → Int32) × (Nat → Int64)
def f_X12_chance (S : wd_W) (p1 : Int32) : Option o_X12_chance :=
bd (f_X12_in p1.toInt64 (0 : Int64) (1 : Int64)) fun o1 =>
if o1 = 0 then (
some ((-1 : Int64), (S.1 38), (S.1 39), (S.1 44), (S.2.2.1 17), (S.2.2.1 18), (S.2.2.1 19), (S.2.2.1 20), (S.2.2.1 22), (S.2.2.1 23), (S.2.2.2.1 21))) else (
if p1 = (1 : Int32) then (
bd (f_X12_power (S.1 32)) fun o4 =>
some (o4, (S.1 38), (S.1 39), (S.1 44), (S.2.2.1 17), (S.2.2.1 18), (S.2.2.1 19), (S.2.2.1 20), (S.2.2.1 22), (S.2.2.1 23), (S.2.2.2.1 21))) else (
bd (f_X12_plain (wd_o S [(38, (S.1 38)), (39, (S.1 39)), (44, (S.1 44))] [] [(17, (S.2.2.1 17)), (18, (S.2.2.1 18)), (19, (S.2.2.1 19)), (20, (S.2.2.1 20)), (22, (S.2.2.1 22)), (23, (S.2.2.1 23))] [(21, (S.2.2.2.1 21))] [])) fun o2 =>
bd (f_X12_together (wd_o S [(38, (S.1 38)), (39, (S.1 39)), (44, (S.1 44))] [] [(17, (S.2.2.1 17)), (18, (S.2.2.1 18)), (19, (S.2.2.1 19)), (20, (S.2.2.1 20)), (22, o2.1), (23, o2.2)] [(21, (S.2.2.2.1 21))] [])) fun o3 =>
some (o3.1, o3.2.1, o3.2.2.1, o3.2.2.2.1, o3.2.2.2.2.1, o3.2.2.2.2.2.1, o3.2.2.2.2.2.2.1, o3.2.2.2.2.2.2.2.1, o2.1, o2.2, o3.2.2.2.2.2.2.2.2)))
set_option maxRecDepth 100000 in
set_option maxHeartbeats 4000000 in
theorem c_X12_chance (l : Launch) (D : va_G) (q g : Nat → Nat) (cy : Nat → ClassId) (z : (Nat → Nat) × (Nat → Nat) × Nat) (S : wd_W) (p1 : Int32) (o : o_X12_chance) (hf : f_X12_chance S p1 = some o) : MX layM l yX12_chance cX12_chance 2 (some .long) ({ frames := 6, cells := 0, slots := 0, locals := 138 } : Room) D q g cy z [.ref (q 0), .int p1] S false (some (.long o.1)) (wd_o S [(38, o.2.1), (39, o.2.2.1), (44, o.2.2.2.1)] [] [(17, o.2.2.2.2.1), (18, o.2.2.2.2.2.1), (19, o.2.2.2.2.2.2.1), (20, o.2.2.2.2.2.2.2.1), (22, o.2.2.2.2.2.2.2.2.1), (23, o.2.2.2.2.2.2.2.2.2.1)] [(21, o.2.2.2.2.2.2.2.2.2.2)] []) 0 0 := by
  refine mx_of (own := RX12) (lc := [(0, .ref (q 0)), (1, .int p1)]) (by decide +kernel) rfl layM_ok (Nat.le_of_ble_eq_true rfl) rfl ?_
  intro X hXl hXq hXz hC hQ
  subst hXl; subst hXq; subst hXz
  unfold f_X12_chance at hf
  refine go_keys (L1 := [(38, (S.1 38)), (39, (S.1 39)), (44, (S.1 44))]) (L2 := []) (L3 := [(17, (S.2.2.1 17)), (18, (S.2.2.1 18)), (19, (S.2.2.1 19)), (20, (S.2.2.1 20)), (22, (S.2.2.1 22)), (23, (S.2.2.1 23))]) (L4 := [(21, (S.2.2.2.1 21))]) (L5 := []) [38, 39, 44] [] [17, 18, 19, 20, 22, 23] [21] [] rfl rfl rfl rfl rfl ?_
  refine go_iload_n (pc' := 1) hC dX12_chance_0 rfl rfl ?_
  refine go_i2l (pc' := 2) hC dX12_chance_1 rfl ?_
  refine go_lconst (pc' := 3) hC dX12_chance_2 kl_0 rfl ?_
  refine go_lconst (pc' := 4) hC dX12_chance_3 kl_1 rfl ?_
  obtain ⟨o1, ho1, hf⟩ := bd_e hf
  refine go_callS0 (pc' := 7) (As := [.long p1.toInt64, .long (0 : Int64), .long (1 : Int64)]) (st := []) (st' := [.int o1])    hC dX12_chance_4 ⟨mw_525, mw_527, mw_5, yd_yX12_in, yp_yX12_in, Nat.le_of_ble_eq_true rfl, Nat.le_of_ble_eq_true rfl, (Nat.le_of_ble_eq_true rfl), (Nat.le_of_ble_eq_true rfl)⟩ mw_526 rfl rfl (Nat.le_of_ble_eq_true rfl) (c_X12_in (x_l X) (x_D X) (x_q X) g (x_cy X) (x_z X) _ p1.toInt64 (0 : Int64) (1 : Int64) o1 ho1) rfl rfl ?_
  refine go_if_ne (tgt := 14) (pc' := 10) hC dX12_chance_7 (by decide) rfl (fun h6 => ?_) (fun h6 => ?_)
  · have hf := ite_f h6 hf
    refine go_iload_n (pc' := 15) hC dX12_chance_14 rfl rfl ?_
    refine go_iconst (pc' := 16) hC dX12_chance_15 ki_1 rfl ?_
    refine go_icmp_ne (tgt := 28) (pc' := 19) hC dX12_chance_16 (by decide) rfl (fun h5 => ?_) (fun h5 => ?_)
    · have hf := ite_f h5 hf
      refine go_aload_n (pc' := 29) hC dX12_chance_28 rfl rfl ?_
      obtain ⟨o2, ho2, hf⟩ := bd_e hf
      refine go_callV1 (pc' := 32) (As := []) (st := []) (st' := []) (L1' := [(38, (S.1 38)), (39, (S.1 39)), (44, (S.1 44))]) (L2' := []) (L3' := [(17, (S.2.2.1 17)), (18, (S.2.2.1 18)), (19, (S.2.2.1 19)), (20, (S.2.2.1 20)), (22, o2.1), (23, o2.2)]) (L4' := [(21, (S.2.2.2.1 21))]) (L5' := []) (cells' := 0) (slots' := 0)  (b := 0) hC dX12_chance_29 ⟨mw_927, mw_930, mw_5, yd_yX12_plain, yp_yX12_plain, Nat.le_of_ble_eq_true rfl, Nat.le_of_ble_eq_true rfl, (Nat.le_of_ble_eq_true rfl), (Nat.le_of_ble_eq_true rfl)⟩ mw_928 mw_929 layM_0 rfl rfl rfl (Nat.le_of_ble_eq_true rfl) (c_X12_plain (x_l X) (x_D X) (x_q X) g (x_cy X) (x_z X) _  o2 ho2) rfl rfl rfl rfl rfl rfl rfl rfl rfl rfl rfl rfl rfl rfl ?_
      refine go_aload_n (pc' := 33) hC dX12_chance_32 rfl rfl ?_
      obtain ⟨o3, ho3, hf⟩ := bd_e hf
      refine go_callV1 (pc' := 36) (As := []) (st := []) (st' := [.long o3.1]) (L1' := [(38, o3.2.1), (39, o3.2.2.1), (44, o3.2.2.2.1)]) (L2' := []) (L3' := [(17, o3.2.2.2.2.1), (18, o3.2.2.2.2.2.1), (19, o3.2.2.2.2.2.2.1), (20, o3.2.2.2.2.2.2.2.1), (22, o2.1), (23, o2.2)]) (L4' := [(21, o3.2.2.2.2.2.2.2.2)]) (L5' := []) (cells' := 0) (slots' := 0)  (b := 0) hC dX12_chance_33 ⟨mw_931, mw_934, mw_5, yd_yX12_together, yp_yX12_together, Nat.le_of_ble_eq_true rfl, Nat.le_of_ble_eq_true rfl, (Nat.le_of_ble_eq_true rfl), (Nat.le_of_ble_eq_true rfl)⟩ mw_932 mw_933 layM_0 rfl rfl rfl (Nat.le_of_ble_eq_true rfl) (c_X12_together (x_l X) (x_D X) (x_q X) g (x_cy X) (x_z X) _  o3 ho3) rfl rfl rfl rfl rfl rfl rfl rfl rfl rfl rfl rfl rfl rfl ?_
      obtain rfl := Option.some.inj hf
      exact go_lret hC hQ dX12_chance_36 rfl rfl rfl (fun _ => rfl) rfl rfl
    · have hf := ite_t h5 hf
      refine go_aload_n (pc' := 20) hC dX12_chance_19 rfl rfl ?_
      refine go_aload_n (pc' := 21) hC dX12_chance_20 rfl rfl ?_
      refine go_geti (v := (S.1 32)) (pc' := 24) hC 0 32 layM_0 rfl rfl inlX12 (Nat.le_of_ble_eq_true rfl) mw_250 rfl dX12_chance_21 rfl rfl ?_
      obtain ⟨o4, ho4, hf⟩ := bd_e hf
      refine go_callV0 (pc' := 27) (As := [.int (S.1 32)]) (st := []) (st' := [.long o4])    (b := 0) hC dX12_chance_24 ⟨mw_923, mw_926, mw_5, yd_yX12_power, yp_yX12_power, Nat.le_of_ble_eq_true rfl, Nat.le_of_ble_eq_true rfl, (Nat.le_of_ble_eq_true rfl), (Nat.le_of_ble_eq_true rfl)⟩ mw_924 mw_925 layM_0 rfl rfl rfl (Nat.le_of_ble_eq_true rfl) (c_X12_power (x_l X) (x_D X) (x_q X) g (x_cy X) (x_z X) _ (S.1 32) o4 ho4) rfl rfl ?_
      obtain rfl := Option.some.inj hf
      exact go_lret hC hQ dX12_chance_27 rfl rfl rfl (fun _ => rfl) rfl rfl
  · have hf := ite_t h6 hf
    refine go_ldc2 (pc' := 13) hC dX12_chance_10 mw_922 rfl ?_
    obtain rfl := Option.some.inj hf
    exact go_lret hC hQ dX12_chance_13 rfl rfl rfl (fun _ => rfl) rfl rfl
theorem dX12_sureOf_0 : decode cX12_sureOf 0 = .ok (.aload_n 0, 1) := by decide +kernel
theorem dX12_sureOf_1 : decode cX12_sureOf 1 = .ok (.invokevirtual 375, 3) := by decide +kernel
theorem dX12_sureOf_4 : decode cX12_sureOf 4 = .ok (.aload_n 0, 1) := by decide +kernel
theorem dX12_sureOf_5 : decode cX12_sureOf 5 = .ok (.getfield 77, 3) := by decide +kernel
theorem dX12_sureOf_8 : decode cX12_sureOf 8 = .ok (.iload_n 1, 1) := by decide +kernel
theorem dX12_sureOf_9 : decode cX12_sureOf 9 = .ok (.iload_n 2, 1) := by decide +kernel
theorem dX12_sureOf_10 : decode cX12_sureOf 10 = .ok (.ifCond .eq 7, 3) := by decide +kernel
theorem dX12_sureOf_13 : decode cX12_sureOf 13 = .ok (.iconst 1, 1) := by decide +kernel
theorem dX12_sureOf_14 : decode cX12_sureOf 14 = .ok (.goto 4, 3) := by decide +kernel
theorem dX12_sureOf_17 : decode cX12_sureOf 17 = .ok (.iconst 0, 1) := by decide +kernel
theorem dX12_sureOf_18 : decode cX12_sureOf 18 = .ok (.iastore, 1) := by decide +kernel
theorem dX12_sureOf_19 : decode cX12_sureOf 19 = .ok (.aload_n 0, 1) := by decide +kernel
theorem dX12_sureOf_20 : decode cX12_sureOf 20 = .ok (.getfield 80, 3) := by decide +kernel
theorem dX12_sureOf_23 : decode cX12_sureOf 23 = .ok (.iload_n 1, 1) := by decide +kernel
theorem dX12_sureOf_24 : decode cX12_sureOf 24 = .ok (.iload_n 2, 1) := by decide +kernel
theorem dX12_sureOf_25 : decode cX12_sureOf 25 = .ok (.ifCond .eq 7, 3) := by decide +kernel
theorem dX12_sureOf_28 : decode cX12_sureOf 28 = .ok (.iconst 0, 1) := by decide +kernel
theorem dX12_sureOf_29 : decode cX12_sureOf 29 = .ok (.goto 4, 3) := by decide +kernel
theorem dX12_sureOf_32 : decode cX12_sureOf 32 = .ok (.iconst 1, 1) := by decide +kernel
theorem dX12_sureOf_33 : decode cX12_sureOf 33 = .ok (.iastore, 1) := by decide +kernel
theorem dX12_sureOf_34 : decode cX12_sureOf 34 = .ok (.aload_n 0, 1) := by decide +kernel
theorem dX12_sureOf_35 : decode cX12_sureOf 35 = .ok (.invokevirtual 378, 3) := by decide +kernel
theorem dX12_sureOf_38 : decode cX12_sureOf 38 = .ok (.lreturn, 1) := by decide +kernel
abbrev o_X12_sureOf : Type := Int64 × Int32 × Int32 × Int32 × (Nat → Int32) × (Nat → Int32) × (Nat → Int32) × (Nat → Int32) × (Nat → Int32) × (Nat → Int32) × (Nat → Int64)
def f_X12_sureOf (S : wd_W) (p1 : Int32) (p2 : Int32) : Option o_X12_sureOf :=
bd (f_X12_plain (wd_o S [(38, (S.1 38)), (39, (S.1 39)), (44, (S.1 44))] [] [(17, (S.2.2.1 17)), (18, (S.2.2.1 18)), (19, (S.2.2.1 19)), (20, (S.2.2.1 20)), (22, (S.2.2.1 22)), (23, (S.2.2.1 23))] [(21, (S.2.2.2.1 21))] [])) fun o1 =>
lk (fun x2 x3 =>
gd (okx x3 15) <|
lz (upd o1.1 x3.toNatClampNeg x2) fun a6 =>
lk (fun x7 x8 =>
gd (okx x8 15) <|
lz (upd o1.2 x8.toNatClampNeg x7) fun a11 =>
bd (f_X12_together (wd_o S [(38, (S.1 38)), (39, (S.1 39)), (44, (S.1 44))] [] [(17, (S.2.2.1 17)), (18, (S.2.2.1 18)), (19, (S.2.2.1 19)), (20, (S.2.2.1 20)), (22, a6), (23, a11)] [(21, (S.2.2.2.1 21))] [])) fun o12 =>
some (o12.1, o12.2.1, o12.2.2.1, o12.2.2.2.1, o12.2.2.2.2.1, o12.2.2.2.2.2.1, o12.2.2.2.2.2.2.1, o12.2.2.2.2.2.2.2.1, a6, a11, o12.2.2.2.2.2.2.2.2)) fun k33_9 =>
if p2 = 0 then (
k33_9 (1 : Int32) p1) else (
k33_9 (0 : Int32) p1)) fun k18_4 =>
if p2 = 0 then (
k18_4 (0 : Int32) p1) else (
k18_4 (1 : Int32) p1)
set_option maxRecDepth 100000 in
set_option maxHeartbeats 4000000 in
theorem c_X12_sureOf (l : Launch) (D : va_G) (q g : Nat → Nat) (cy : Nat → ClassId) (z : (Nat → Nat) × (Nat → Nat) × Nat) (S : wd_W) (p1 : Int32) (p2 : Int32) (o : o_X12_sureOf) (hf : f_X12_sureOf S p1 p2 = some o) : MX layM l yX12_sureOf cX12_sureOf 3 (some .long) ({ frames := 6, cells := 0, slots := 0, locals := 138 } : Room) D q g cy z [.ref (q 0), .int p1, .int p2] S false (some (.long o.1)) (wd_o S [(38, o.2.1), (39, o.2.2.1), (44, o.2.2.2.1)] [] [(17, o.2.2.2.2.1), (18, o.2.2.2.2.2.1), (19, o.2.2.2.2.2.2.1), (20, o.2.2.2.2.2.2.2.1), (22, o.2.2.2.2.2.2.2.2.1), (23, o.2.2.2.2.2.2.2.2.2.1)] [(21, o.2.2.2.2.2.2.2.2.2.2)] []) 0 0 := by
  refine mx_of (own := RX12) (lc := [(0, .ref (q 0)), (1, .int p1), (2, .int p2)]) (by decide +kernel) rfl layM_ok (Nat.le_of_ble_eq_true rfl) rfl ?_
  intro X hXl hXq hXz hC hQ
  subst hXl; subst hXq; subst hXz
  unfold f_X12_sureOf at hf
  refine go_keys (L1 := [(38, (S.1 38)), (39, (S.1 39)), (44, (S.1 44))]) (L2 := []) (L3 := [(17, (S.2.2.1 17)), (18, (S.2.2.1 18)), (19, (S.2.2.1 19)), (20, (S.2.2.1 20)), (22, (S.2.2.1 22)), (23, (S.2.2.1 23))]) (L4 := [(21, (S.2.2.2.1 21))]) (L5 := []) [38, 39, 44] [] [17, 18, 19, 20, 22, 23] [21] [] rfl rfl rfl rfl rfl ?_
  refine go_aload_n (pc' := 1) hC dX12_sureOf_0 rfl rfl ?_
  obtain ⟨o1, ho1, hf⟩ := bd_e hf
  refine go_callV1 (pc' := 4) (As := []) (st := []) (st' := []) (L1' := [(38, (S.1 38)), (39, (S.1 39)), (44, (S.1 44))]) (L2' := []) (L3' := [(17, (S.2.2.1 17)), (18, (S.2.2.1 18)), (19, (S.2.2.1 19)), (20, (S.2.2.1 20)), (22, o1.1), (23, o1.2)]) (L4' := [(21, (S.2.2.2.1 21))]) (L5' := []) (cells' := 0) (slots' := 0)  (b := 0) hC dX12_sureOf_1 ⟨mw_927, mw_930, mw_5, yd_yX12_plain, yp_yX12_plain, Nat.le_of_ble_eq_true rfl, Nat.le_of_ble_eq_true rfl, (Nat.le_of_ble_eq_true rfl), (Nat.le_of_ble_eq_true rfl)⟩ mw_928 mw_929 layM_0 rfl rfl rfl (Nat.le_of_ble_eq_true rfl) (c_X12_plain (x_l X) (x_D X) (x_q X) g (x_cy X) (x_z X) _  o1 ho1) rfl rfl rfl rfl rfl rfl rfl rfl rfl rfl rfl rfl rfl rfl ?_
  refine go_aload_n (pc' := 5) hC dX12_sureOf_4 rfl rfl ?_
  refine go_getq (pc' := 8) hC 0 46 layM_0 rfl rfl inlX12 (Nat.le_of_ble_eq_true rfl) mw_203 rfl dX12_sureOf_5 rfl ?_
  refine go_iload_n (pc' := 9) hC dX12_sureOf_8 rfl rfl ?_
  refine go_iload_n (pc' := 10) hC dX12_sureOf_9 rfl rfl ?_
  obtain ⟨k18_4, hk18_4, hf⟩ := lk_e2 hf
  have jk18_4 : ∀ (x2 : Int32) (x3 : Int32), k18_4 x2 x3 = some o → Go X layM S 18 [(0, .ref (x_q X 0)), (1, .int p1), (2, .int p2)] [.int x2, .int x3, .ref (x_q X 22)] g [(38, (S.1 38)), (39, (S.1 39)), (44, (S.1 44))] [] [(17, (S.2.2.1 17)), (18, (S.2.2.1 18)), (19, (S.2.2.1 19)), (20, (S.2.2.1 20)), (22, o1.1), (23, o1.2)] [(21, (S.2.2.2.1 21))] [] 0 0 := by
    intro x2 x3 hf
    have hf := hk18_4 x2 x3 hf
    clear hk18_4
    obtain ⟨h5, hf⟩ := gd_e hf
    refine go_iast (f := o1.1) (pc' := 19) hC 22 layM_22 rfl rfl dX12_sureOf_18 (okx_in h5) rfl rfl (fun a6 ha L3' hL => ?_)
    have hf := lz_r ha hf
    clear ha
    obtain rfl : L3' = [(17, (S.2.2.1 17)), (18, (S.2.2.1 18)), (19, (S.2.2.1 19)), (20, (S.2.2.1 20)), (22, a6), (23, o1.2)] := hL.symm
    refine go_aload_n (pc' := 20) hC dX12_sureOf_19 rfl rfl ?_
    refine go_getq (pc' := 23) hC 0 47 layM_0 rfl rfl inlX12 (Nat.le_of_ble_eq_true rfl) mw_204 rfl dX12_sureOf_20 rfl ?_
    refine go_iload_n (pc' := 24) hC dX12_sureOf_23 rfl rfl ?_
    refine go_iload_n (pc' := 25) hC dX12_sureOf_24 rfl rfl ?_
    obtain ⟨k33_9, hk33_9, hf⟩ := lk_e2 hf
    have jk33_9 : ∀ (x7 : Int32) (x8 : Int32), k33_9 x7 x8 = some o → Go X layM S 33 [(0, .ref (x_q X 0))] [.int x7, .int x8, .ref (x_q X 23)] g [(38, (S.1 38)), (39, (S.1 39)), (44, (S.1 44))] [] [(17, (S.2.2.1 17)), (18, (S.2.2.1 18)), (19, (S.2.2.1 19)), (20, (S.2.2.1 20)), (22, a6), (23, o1.2)] [(21, (S.2.2.2.1 21))] [] 0 0 := by
      intro x7 x8 hf
      have hf := hk33_9 x7 x8 hf
      clear hk33_9
      obtain ⟨h10, hf⟩ := gd_e hf
      refine go_iast (f := o1.2) (pc' := 34) hC 23 layM_23 rfl rfl dX12_sureOf_33 (okx_in h10) rfl rfl (fun a11 ha L3' hL => ?_)
      have hf := lz_r ha hf
      clear ha
      obtain rfl : L3' = [(17, (S.2.2.1 17)), (18, (S.2.2.1 18)), (19, (S.2.2.1 19)), (20, (S.2.2.1 20)), (22, a6), (23, a11)] := hL.symm
      refine go_aload_n (pc' := 35) hC dX12_sureOf_34 rfl rfl ?_
      obtain ⟨o12, ho12, hf⟩ := bd_e hf
      refine go_callV1 (pc' := 38) (As := []) (st := []) (st' := [.long o12.1]) (L1' := [(38, o12.2.1), (39, o12.2.2.1), (44, o12.2.2.2.1)]) (L2' := []) (L3' := [(17, o12.2.2.2.2.1), (18, o12.2.2.2.2.2.1), (19, o12.2.2.2.2.2.2.1), (20, o12.2.2.2.2.2.2.2.1), (22, a6), (23, a11)]) (L4' := [(21, o12.2.2.2.2.2.2.2.2)]) (L5' := []) (cells' := 0) (slots' := 0)  (b := 0) hC dX12_sureOf_35 ⟨mw_931, mw_934, mw_5, yd_yX12_together, yp_yX12_together, Nat.le_of_ble_eq_true rfl, Nat.le_of_ble_eq_true rfl, (Nat.le_of_ble_eq_true rfl), (Nat.le_of_ble_eq_true rfl)⟩ mw_932 mw_933 layM_0 rfl rfl rfl (Nat.le_of_ble_eq_true rfl) (c_X12_together (x_l X) (x_D X) (x_q X) g (x_cy X) (x_z X) _  o12 ho12) rfl rfl rfl rfl rfl rfl rfl rfl rfl rfl rfl rfl rfl rfl ?_
      obtain rfl := Option.some.inj hf
      exact go_lret hC hQ dX12_sureOf_38 rfl rfl rfl (fun _ => rfl) rfl rfl
    clear hk33_9
    refine go_if_eq (tgt := 32) (pc' := 28) hC dX12_sureOf_25 (by decide) rfl (fun h13 => ?_) (fun h13 => ?_)
    · have hf := ite_t h13 hf
      refine go_iconst (pc' := 33) hC dX12_sureOf_32 ki_1 rfl ?_
      refine go_sub [0] rfl ?_
      exact jk33_9 (1 : Int32) p1 hf
    · have hf := ite_f h13 hf
      refine go_iconst (pc' := 29) hC dX12_sureOf_28 ki_0 rfl ?_
      refine go_goto (tgt := 33) hC dX12_sureOf_29 (by decide) ?_
      refine go_sub [0] rfl ?_
      exact jk33_9 (0 : Int32) p1 hf
  clear hk18_4
  refine go_if_eq (tgt := 17) (pc' := 13) hC dX12_sureOf_10 (by decide) rfl (fun h14 => ?_) (fun h14 => ?_)
  · have hf := ite_t h14 hf
    refine go_iconst (pc' := 18) hC dX12_sureOf_17 ki_0 rfl ?_
    exact jk18_4 (0 : Int32) p1 hf
  · have hf := ite_f h14 hf
    refine go_iconst (pc' := 14) hC dX12_sureOf_13 ki_1 rfl ?_
    refine go_goto (tgt := 18) hC dX12_sureOf_14 (by decide) ?_
    exact jk18_4 (1 : Int32) p1 hf
theorem dX12_sure_0 : decode cX12_sure 0 = .ok (.aload_n 0, 1) := by decide +kernel
theorem dX12_sure_1 : decode cX12_sure 1 = .ok (.iload_n 1, 1) := by decide +kernel
theorem dX12_sure_2 : decode cX12_sure 2 = .ok (.invokevirtual 382, 3) := by decide +kernel
theorem dX12_sure_5 : decode cX12_sure 5 = .ok (.ifCond .eq 12, 3) := by decide +kernel
theorem dX12_sure_8 : decode cX12_sure 8 = .ok (.aload_n 0, 1) := by decide +kernel
theorem dX12_sure_9 : decode cX12_sure 9 = .ok (.iload_n 1, 1) := by decide +kernel
theorem dX12_sure_10 : decode cX12_sure 10 = .ok (.iload_n 2, 1) := by decide +kernel
theorem dX12_sure_11 : decode cX12_sure 11 = .ok (.invokevirtual 385, 3) := by decide +kernel
theorem dX12_sure_14 : decode cX12_sure 14 = .ok (.goto 6, 3) := by decide +kernel
theorem dX12_sure_17 : decode cX12_sure 17 = .ok (.ldc2_w 373, 3) := by decide +kernel
theorem dX12_sure_20 : decode cX12_sure 20 = .ok (.lreturn, 1) := by decide +kernel
abbrev o_X12_sure : Type := Int64 × Int32 × Int32 × Int32 × (Nat → Int32) × (Nat → Int32) × (Nat → Int32) × (Nat → Int32) × (Nat → Int32) × (Nat → Int32) × (Nat → Int64)
def f_X12_sure (S : wd_W) (p1 : Int32) (p2 : Int32) : Option o_X12_sure :=
bd (f_X12_isThing (wd_o S [(38, (S.1 38)), (39, (S.1 39)), (44, (S.1 44))] [] [(17, (S.2.2.1 17)), (18, (S.2.2.1 18)), (19, (S.2.2.1 19)), (20, (S.2.2.1 20)), (22, (S.2.2.1 22)), (23, (S.2.2.1 23))] [(21, (S.2.2.2.1 21))] []) p1) fun o1 =>
if o1 = 0 then (
some ((-1 : Int64), (S.1 38), (S.1 39), (S.1 44), (S.2.2.1 17), (S.2.2.1 18), (S.2.2.1 19), (S.2.2.1 20), (S.2.2.1 22), (S.2.2.1 23), (S.2.2.2.1 21))) else (
bd (f_X12_sureOf (wd_o S [(38, (S.1 38)), (39, (S.1 39)), (44, (S.1 44))] [] [(17, (S.2.2.1 17)), (18, (S.2.2.1 18)), (19, (S.2.2.1 19)), (20, (S.2.2.1 20)), (22, (S.2.2.1 22)), (23, (S.2.2.1 23))] [(21, (S.2.2.2.1 21))] []) p1 p2) fun o2 =>
some (o2.1, o2.2.1, o2.2.2.1, o2.2.2.2.1, o2.2.2.2.2.1, o2.2.2.2.2.2.1, o2.2.2.2.2.2.2.1, o2.2.2.2.2.2.2.2.1, o2.2.2.2.2.2.2.2.2.1, o2.2.2.2.2.2.2.2.2.2.1, o2.2.2.2.2.2.2.2.2.2.2))
set_option maxRecDepth 100000 in
set_option maxHeartbeats 4000000 in
theorem c_X12_sure (l : Launch) (D : va_G) (q g : Nat → Nat) (cy : Nat → ClassId) (z : (Nat → Nat) × (Nat → Nat) × Nat) (S : wd_W) (p1 : Int32) (p2 : Int32) (o : o_X12_sure) (hf : f_X12_sure S p1 p2 = some o) : MX layM l yX12_sure cX12_sure 3 (some .long) ({ frames := 7, cells := 0, slots := 0, locals := 160 } : Room) D q g cy z [.ref (q 0), .int p1, .int p2] S false (some (.long o.1)) (wd_o S [(38, o.2.1), (39, o.2.2.1), (44, o.2.2.2.1)] [] [(17, o.2.2.2.2.1), (18, o.2.2.2.2.2.1), (19, o.2.2.2.2.2.2.1), (20, o.2.2.2.2.2.2.2.1), (22, o.2.2.2.2.2.2.2.2.1), (23, o.2.2.2.2.2.2.2.2.2.1)] [(21, o.2.2.2.2.2.2.2.2.2.2)] []) 0 0 := by
  refine mx_of (own := RX12) (lc := [(0, .ref (q 0)), (1, .int p1), (2, .int p2)]) (by decide +kernel) rfl layM_ok (Nat.le_of_ble_eq_true rfl) rfl ?_
  intro X hXl hXq hXz hC hQ
  subst hXl; subst hXq; subst hXz
  unfold f_X12_sure at hf
  refine go_keys (L1 := [(38, (S.1 38)), (39, (S.1 39)), (44, (S.1 44))]) (L2 := []) (L3 := [(17, (S.2.2.1 17)), (18, (S.2.2.1 18)), (19, (S.2.2.1 19)), (20, (S.2.2.1 20)), (22, (S.2.2.1 22)), (23, (S.2.2.1 23))]) (L4 := [(21, (S.2.2.2.1 21))]) (L5 := []) [38, 39, 44] [] [17, 18, 19, 20, 22, 23] [21] [] rfl rfl rfl rfl rfl ?_
  refine go_aload_n (pc' := 1) hC dX12_sure_0 rfl rfl ?_
  refine go_iload_n (pc' := 2) hC dX12_sure_1 rfl rfl ?_
  obtain ⟨o1, ho1, hf⟩ := bd_e hf
  refine go_callV0 (pc' := 5) (As := [.int p1]) (st := []) (st' := [.int o1])    (b := 0) hC dX12_sure_2 ⟨mw_956, mw_959, mw_5, yd_yX12_isThing, yp_yX12_isThing, Nat.le_of_ble_eq_true rfl, Nat.le_of_ble_eq_true rfl, (Nat.le_of_ble_eq_true rfl), (Nat.le_of_ble_eq_true rfl)⟩ mw_957 mw_958 layM_0 rfl rfl rfl (Nat.le_of_ble_eq_true rfl) (c_X12_isThing (x_l X) (x_D X) (x_q X) g (x_cy X) (x_z X) _ p1 o1 ho1) rfl rfl ?_
  refine go_if_eq (tgt := 17) (pc' := 8) hC dX12_sure_5 (by decide) rfl (fun h3 => ?_) (fun h3 => ?_)
  · have hf := ite_t h3 hf
    refine go_ldc2 (pc' := 20) hC dX12_sure_17 mw_922 rfl ?_
    obtain rfl := Option.some.inj hf
    exact go_lret hC hQ dX12_sure_20 rfl rfl rfl (fun _ => rfl) rfl rfl
  · have hf := ite_f h3 hf
    refine go_aload_n (pc' := 9) hC dX12_sure_8 rfl rfl ?_
    refine go_iload_n (pc' := 10) hC dX12_sure_9 rfl rfl ?_
    refine go_iload_n (pc' := 11) hC dX12_sure_10 rfl rfl ?_
    obtain ⟨o2, ho2, hf⟩ := bd_e hf
    refine go_callV1 (pc' := 14) (As := [.int p1, .int p2]) (st := []) (st' := [.long o2.1]) (L1' := [(38, o2.2.1), (39, o2.2.2.1), (44, o2.2.2.2.1)]) (L2' := []) (L3' := [(17, o2.2.2.2.2.1), (18, o2.2.2.2.2.2.1), (19, o2.2.2.2.2.2.2.1), (20, o2.2.2.2.2.2.2.2.1), (22, o2.2.2.2.2.2.2.2.2.1), (23, o2.2.2.2.2.2.2.2.2.2.1)]) (L4' := [(21, o2.2.2.2.2.2.2.2.2.2.2)]) (L5' := []) (cells' := 0) (slots' := 0)  (b := 0) hC dX12_sure_11 ⟨mw_960, mw_963, mw_5, yd_yX12_sureOf, yp_yX12_sureOf, Nat.le_of_ble_eq_true rfl, Nat.le_of_ble_eq_true rfl, (Nat.le_of_ble_eq_true rfl), (Nat.le_of_ble_eq_true rfl)⟩ mw_961 mw_962 layM_0 rfl rfl rfl (Nat.le_of_ble_eq_true rfl) (c_X12_sureOf (x_l X) (x_D X) (x_q X) g (x_cy X) (x_z X) _ p1 p2 o2 ho2) rfl rfl rfl rfl rfl rfl rfl rfl rfl rfl rfl rfl rfl rfl ?_
    refine go_goto (tgt := 20) hC dX12_sure_14 (by decide) ?_
    obtain rfl := Option.some.inj hf
    exact go_lret hC hQ dX12_sure_20 rfl rfl rfl (fun _ => rfl) rfl rfl
theorem dX12_decides_0 : decode cX12_decides 0 = .ok (.aload_n 0, 1) := by decide +kernel
theorem dX12_decides_1 : decode cX12_decides 1 = .ok (.invokevirtual 361, 3) := by decide +kernel
theorem dX12_decides_4 : decode cX12_decides 4 = .ok (.iconst 0, 1) := by decide +kernel
theorem dX12_decides_5 : decode cX12_decides 5 = .ok (.istore_n 2, 1) := by decide +kernel
theorem dX12_decides_6 : decode cX12_decides 6 = .ok (.iconst 0, 1) := by decide +kernel
theorem dX12_decides_7 : decode cX12_decides 7 = .ok (.istore_n 3, 1) := by decide +kernel
theorem dX12_decides_8 : decode cX12_decides 8 = .ok (.iload_n 3, 1) := by decide +kernel
theorem dX12_decides_9 : decode cX12_decides 9 = .ok (.aload_n 0, 1) := by decide +kernel
theorem dX12_decides_10 : decode cX12_decides 10 = .ok (.invokevirtual 354, 3) := by decide +kernel
theorem dX12_decides_13 : decode cX12_decides 13 = .ok (.if_icmp .ge 45, 3) := by decide +kernel
theorem dX12_decides_16 : decode cX12_decides 16 = .ok (.iload_n 3, 1) := by decide +kernel
theorem dX12_decides_17 : decode cX12_decides 17 = .ok (.iload_n 1, 1) := by decide +kernel
theorem dX12_decides_18 : decode cX12_decides 18 = .ok (.ishr, 1) := by decide +kernel
theorem dX12_decides_19 : decode cX12_decides 19 = .ok (.iconst 1, 1) := by decide +kernel
theorem dX12_decides_20 : decode cX12_decides 20 = .ok (.iand, 1) := by decide +kernel
theorem dX12_decides_21 : decode cX12_decides 21 = .ok (.iconst 1, 1) := by decide +kernel
theorem dX12_decides_22 : decode cX12_decides 22 = .ok (.if_icmp .ne 30, 3) := by decide +kernel
theorem dX12_decides_25 : decode cX12_decides 25 = .ok (.aload_n 0, 1) := by decide +kernel
theorem dX12_decides_26 : decode cX12_decides 26 = .ok (.getfield 70, 3) := by decide +kernel
theorem dX12_decides_29 : decode cX12_decides 29 = .ok (.iload_n 3, 1) := by decide +kernel
theorem dX12_decides_30 : decode cX12_decides 30 = .ok (.baload, 1) := by decide +kernel
theorem dX12_decides_31 : decode cX12_decides 31 = .ok (.ifCond .eq 21, 3) := by decide +kernel
theorem dX12_decides_34 : decode cX12_decides 34 = .ok (.aload_n 0, 1) := by decide +kernel
theorem dX12_decides_35 : decode cX12_decides 35 = .ok (.getfield 70, 3) := by decide +kernel
theorem dX12_decides_38 : decode cX12_decides 38 = .ok (.iload_n 3, 1) := by decide +kernel
theorem dX12_decides_39 : decode cX12_decides 39 = .ok (.iconst 1, 1) := by decide +kernel
theorem dX12_decides_40 : decode cX12_decides 40 = .ok (.iload_n 1, 1) := by decide +kernel
theorem dX12_decides_41 : decode cX12_decides 41 = .ok (.ishl, 1) := by decide +kernel
theorem dX12_decides_42 : decode cX12_decides 42 = .ok (.iconst (-1), 1) := by decide +kernel
theorem dX12_decides_43 : decode cX12_decides 43 = .ok (.ixor, 1) := by decide +kernel
theorem dX12_decides_44 : decode cX12_decides 44 = .ok (.iand, 1) := by decide +kernel
theorem dX12_decides_45 : decode cX12_decides 45 = .ok (.baload, 1) := by decide +kernel
theorem dX12_decides_46 : decode cX12_decides 46 = .ok (.ifCond .ne 6, 3) := by decide +kernel
theorem dX12_decides_49 : decode cX12_decides 49 = .ok (.iinc 2 1, 3) := by decide +kernel
theorem dX12_decides_52 : decode cX12_decides 52 = .ok (.iinc 3 1, 3) := by decide +kernel
theorem dX12_decides_55 : decode cX12_decides 55 = .ok (.goto (-47), 3) := by decide +kernel
theorem dX12_decides_58 : decode cX12_decides 58 = .ok (.iload_n 2, 1) := by decide +kernel
theorem dX12_decides_59 : decode cX12_decides 59 = .ok (.ireturn, 1) := by decide +kernel
abbrev o_X12_decides : Type := Int32 × Int32 × Int32 × Int32 × (Nat → Int32) × (Nat → Int32) × (Nat → Int32) × (Nat → Int32)
def f_X12_decides_L8 (S : wd_W) (p1 : Int32) (o1 : o_X12_lays) (r4 : (Int32) → (Int32) → (Option o_X12_decides)) (x2 : Int32) (x3 : Int32) : Option o_X12_decides :=
bd (f_X12_sets (wd_o S [(38, o1.1), (39, o1.2.1), (44, o1.2.2.1)] [] [(17, o1.2.2.2.1), (18, o1.2.2.2.2.1), (19, o1.2.2.2.2.2.1), (20, o1.2.2.2.2.2.2)] [] [])) fun o5 =>
if o5 ≤ x3 then (
some (x2, o1.1, o1.2.1, o1.2.2.1, o1.2.2.2.1, o1.2.2.2.2.1, o1.2.2.2.2.2.1, o1.2.2.2.2.2.2)) else (
lk (fun x6 =>
r4 x6 (x3 + (1 : Int32))) fun k52_7 =>
if ((x3 >>> (p1 &&& 31)) &&& (1 : Int32)) = (1 : Int32) then (
gd (okx x3 32768) <|
if (o1.2.2.2.2.2.2 x3.toNatClampNeg) = 0 then (
k52_7 x2) else (
gd (okx (x3 &&& (((1 : Int32) <<< (p1 &&& 31)) ^^^ (-1 : Int32))) 32768) <|
if (o1.2.2.2.2.2.2 (x3 &&& (((1 : Int32) <<< (p1 &&& 31)) ^^^ (-1 : Int32))).toNatClampNeg) = 0 then (
k52_7 (x2 + (1 : Int32))) else (
k52_7 x2))) else (
k52_7 x2))
def f_X12_decides (S : wd_W) (p1 : Int32) : Option o_X12_decides :=
bd (f_X12_lays (wd_o S [(38, (S.1 38)), (39, (S.1 39)), (44, (S.1 44))] [] [(17, (S.2.2.1 17)), (18, (S.2.2.1 18)), (19, (S.2.2.1 19)), (20, (S.2.2.1 20))] [] [])) fun o1 =>
it2 (f_X12_decides_L8 S p1 o1) fuel (0 : Int32) (0 : Int32)
set_option maxRecDepth 100000 in
set_option maxHeartbeats 4000000 in
theorem c_X12_decides (l : Launch) (D : va_G) (q g : Nat → Nat) (cy : Nat → ClassId) (z : (Nat → Nat) × (Nat → Nat) × Nat) (S : wd_W) (p1 : Int32) (o : o_X12_decides) (hf : f_X12_decides S p1 = some o) : MX layM l yX12_decides cX12_decides 4 (some .int) ({ frames := 5, cells := 0, slots := 0, locals := 115 } : Room) D q g cy z [.ref (q 0), .int p1] S false (some (.int o.1)) (wd_o S [(38, o.2.1), (39, o.2.2.1), (44, o.2.2.2.1)] [] [(17, o.2.2.2.2.1), (18, o.2.2.2.2.2.1), (19, o.2.2.2.2.2.2.1), (20, o.2.2.2.2.2.2.2)] [] []) 0 0 := by
  refine mx_of (own := RX12) (lc := [(0, .ref (q 0)), (1, .int p1)]) (by decide +kernel) rfl layM_ok (Nat.le_of_ble_eq_true rfl) rfl ?_
  intro X hXl hXq hXz hC hQ
  subst hXl; subst hXq; subst hXz
  unfold f_X12_decides at hf
  refine go_keys (L1 := [(38, (S.1 38)), (39, (S.1 39)), (44, (S.1 44))]) (L2 := []) (L3 := [(17, (S.2.2.1 17)), (18, (S.2.2.1 18)), (19, (S.2.2.1 19)), (20, (S.2.2.1 20))]) (L4 := []) (L5 := []) [38, 39, 44] [] [17, 18, 19, 20] [] [] rfl rfl rfl rfl rfl ?_
  refine go_aload_n (pc' := 1) hC dX12_decides_0 rfl rfl ?_
  obtain ⟨o1, ho1, hf⟩ := bd_e hf
  refine go_callV1 (pc' := 4) (As := []) (st := []) (st' := []) (L1' := [(38, o1.1), (39, o1.2.1), (44, o1.2.2.1)]) (L2' := []) (L3' := [(17, o1.2.2.2.1), (18, o1.2.2.2.2.1), (19, o1.2.2.2.2.2.1), (20, o1.2.2.2.2.2.2)]) (L4' := []) (L5' := []) (cells' := 0) (slots' := 0)  (b := 0) hC dX12_decides_1 ⟨mw_860, mw_863, mw_5, yd_yX12_lays, yp_yX12_lays, Nat.le_of_ble_eq_true rfl, Nat.le_of_ble_eq_true rfl, (Nat.le_of_ble_eq_true rfl), (Nat.le_of_ble_eq_true rfl)⟩ mw_861 mw_862 layM_0 rfl rfl rfl (Nat.le_of_ble_eq_true rfl) (c_X12_lays (x_l X) (x_D X) (x_q X) g (x_cy X) (x_z X) _  o1 ho1) rfl rfl rfl rfl rfl rfl rfl rfl rfl rfl rfl rfl rfl rfl ?_
  refine go_iconst (pc' := 5) hC dX12_decides_4 ki_0 rfl ?_
  refine go_istore_n (lc' := [(0, .ref (x_q X 0)), (1, .int p1), (2, .int (0 : Int32))]) (pc' := 6) hC dX12_decides_5 (Nat.le_of_ble_eq_true rfl) rfl rfl ?_
  refine go_iconst (pc' := 7) hC dX12_decides_6 ki_0 rfl ?_
  refine go_istore_n (lc' := [(0, .ref (x_q X 0)), (1, .int p1), (2, .int (0 : Int32)), (3, .int (0 : Int32))]) (pc' := 8) hC dX12_decides_7 (Nat.le_of_ble_eq_true rfl) rfl rfl ?_
  have l8_14 : ∀ (nn : Nat) (x2 : Int32) (x3 : Int32), it2 (f_X12_decides_L8 S p1 o1) nn x2 x3 = some o → Go X layM S 8 [(0, .ref (x_q X 0)), (1, .int p1), (2, .int x2), (3, .int x3)] [] g [(38, o1.1), (39, o1.2.1), (44, o1.2.2.1)] [] [(17, o1.2.2.2.1), (18, o1.2.2.2.2.1), (19, o1.2.2.2.2.2.1), (20, o1.2.2.2.2.2.2)] [] [] 0 0 := by
    intro nn
    induction nn with
    | zero =>
      intro x2 x3 hf
      exact none_no hf
    | succ nn ih =>
      intro x2 x3 hf
      have hf : f_X12_decides_L8 S p1 o1 (it2 (f_X12_decides_L8 S p1 o1) nn) x2 x3 = some o := hf
      generalize it2 (f_X12_decides_L8 S p1 o1) nn = r4 at ih hf
      unfold f_X12_decides_L8 at hf
      refine go_iload_n (pc' := 9) hC dX12_decides_8 rfl rfl ?_
      refine go_aload_n (pc' := 10) hC dX12_decides_9 rfl rfl ?_
      obtain ⟨o5, ho5, hf⟩ := bd_e hf
      refine go_callV0 (pc' := 13) (As := []) (st := [.int x3]) (st' := [.int o5, .int x3])    (b := 0) hC dX12_decides_10 ⟨mw_856, mw_859, mw_5, yd_yX12_sets, yp_yX12_sets, Nat.le_of_ble_eq_true rfl, Nat.le_of_ble_eq_true rfl, (Nat.le_of_ble_eq_true rfl), (Nat.le_of_ble_eq_true rfl)⟩ mw_857 mw_858 layM_0 rfl rfl rfl (Nat.le_of_ble_eq_true rfl) (c_X12_sets (x_l X) (x_D X) (x_q X) g (x_cy X) (x_z X) _  o5 ho5) rfl rfl ?_
      refine go_icmp_ge (tgt := 58) (pc' := 16) hC dX12_decides_13 (by decide) rfl (fun h13 => ?_) (fun h13 => ?_)
      · have hf := ite_t h13 hf
        refine go_iload_n (pc' := 59) hC dX12_decides_58 rfl rfl ?_
        obtain rfl := Option.some.inj hf
        exact go_iret hC hQ dX12_decides_59 rfl rfl rfl rfl (fun _ => rfl) rfl rfl
      · have hf := ite_f h13 hf
        refine go_iload_n (pc' := 17) hC dX12_decides_16 rfl rfl ?_
        refine go_iload_n (pc' := 18) hC dX12_decides_17 rfl rfl ?_
        refine go_ishr (pc' := 19) hC dX12_decides_18 rfl ?_
        refine go_iconst (pc' := 20) hC dX12_decides_19 ki_1 rfl ?_
        refine go_iand (pc' := 21) hC dX12_decides_20 rfl ?_
        refine go_iconst (pc' := 22) hC dX12_decides_21 ki_1 rfl ?_
        obtain ⟨k52_7, hk52_7, hf⟩ := lk_e1 hf
        have jk52_7 : ∀ (x6 : Int32), k52_7 x6 = some o → Go X layM S 52 [(0, .ref (x_q X 0)), (1, .int p1), (2, .int x6), (3, .int x3)] [] g [(38, o1.1), (39, o1.2.1), (44, o1.2.2.1)] [] [(17, o1.2.2.2.1), (18, o1.2.2.2.2.1), (19, o1.2.2.2.2.2.1), (20, o1.2.2.2.2.2.2)] [] [] 0 0 := by
          intro x6 hf
          have hf := hk52_7 x6 hf
          clear hk52_7
          refine go_iinc (lc' := [(0, .ref (x_q X 0)), (1, .int p1), (2, .int x6), (3, .int (x3 + (1 : Int32)))]) (pc' := 55) hC dX12_decides_52 rfl ki_1 (Nat.le_of_ble_eq_true rfl) rfl rfl ?_
          refine go_goto (tgt := 8) hC dX12_decides_55 (by decide) ?_
          exact ih x6 (x3 + (1 : Int32)) hf
        clear hk52_7
        refine go_icmp_ne (tgt := 52) (pc' := 25) hC dX12_decides_22 (by decide) rfl (fun h12 => ?_) (fun h12 => ?_)
        · have hf := ite_f h12 hf
          exact jk52_7 x2 hf
        · have hf := ite_t h12 hf
          refine go_aload_n (pc' := 26) hC dX12_decides_25 rfl rfl ?_
          refine go_getq (pc' := 29) hC 0 43 layM_0 rfl rfl inlX12 (Nat.le_of_ble_eq_true rfl) mw_201 rfl dX12_decides_26 rfl ?_
          refine go_iload_n (pc' := 30) hC dX12_decides_29 rfl rfl ?_
          obtain ⟨h8, hf⟩ := gd_e hf
          refine go_zald (f := o1.2.2.2.2.2.2) (pc' := 31) hC 20 layM_20 rfl rfl dX12_decides_30 (okx_in h8) rfl ?_
          refine go_if_eq (tgt := 52) (pc' := 34) hC dX12_decides_31 (by decide) rfl (fun h11 => ?_) (fun h11 => ?_)
          · have hf := ite_t h11 hf
            exact jk52_7 x2 hf
          · have hf := ite_f h11 hf
            refine go_aload_n (pc' := 35) hC dX12_decides_34 rfl rfl ?_
            refine go_getq (pc' := 38) hC 0 43 layM_0 rfl rfl inlX12 (Nat.le_of_ble_eq_true rfl) mw_201 rfl dX12_decides_35 rfl ?_
            refine go_iload_n (pc' := 39) hC dX12_decides_38 rfl rfl ?_
            refine go_iconst (pc' := 40) hC dX12_decides_39 ki_1 rfl ?_
            refine go_iload_n (pc' := 41) hC dX12_decides_40 rfl rfl ?_
            refine go_ishl (pc' := 42) hC dX12_decides_41 rfl ?_
            refine go_iconst (pc' := 43) hC dX12_decides_42 ki_m1 rfl ?_
            refine go_ixor (pc' := 44) hC dX12_decides_43 rfl ?_
            refine go_iand (pc' := 45) hC dX12_decides_44 rfl ?_
            obtain ⟨h9, hf⟩ := gd_e hf
            refine go_zald (f := o1.2.2.2.2.2.2) (pc' := 46) hC 20 layM_20 rfl rfl dX12_decides_45 (okx_in h9) rfl ?_
            refine go_if_ne (tgt := 52) (pc' := 49) hC dX12_decides_46 (by decide) rfl (fun h10 => ?_) (fun h10 => ?_)
            · have hf := ite_f h10 hf
              exact jk52_7 x2 hf
            · have hf := ite_t h10 hf
              refine go_iinc (lc' := [(0, .ref (x_q X 0)), (1, .int p1), (2, .int (x2 + (1 : Int32))), (3, .int x3)]) (pc' := 52) hC dX12_decides_49 rfl ki_1 (Nat.le_of_ble_eq_true rfl) rfl rfl ?_
              exact jk52_7 (x2 + (1 : Int32)) hf
  exact l8_14 fuel (0 : Int32) (0 : Int32) hf
theorem dX12_mattersOf_0 : decode cX12_mattersOf 0 = .ok (.aload_n 0, 1) := by decide +kernel
theorem dX12_mattersOf_1 : decode cX12_mattersOf 1 = .ok (.iload_n 1, 1) := by decide +kernel
theorem dX12_mattersOf_2 : decode cX12_mattersOf 2 = .ok (.iconst 1, 1) := by decide +kernel
theorem dX12_mattersOf_3 : decode cX12_mattersOf 3 = .ok (.invokevirtual 385, 3) := by decide +kernel
theorem dX12_mattersOf_6 : decode cX12_mattersOf 6 = .ok (.aload_n 0, 1) := by decide +kernel
theorem dX12_mattersOf_7 : decode cX12_mattersOf 7 = .ok (.iload_n 1, 1) := by decide +kernel
theorem dX12_mattersOf_8 : decode cX12_mattersOf 8 = .ok (.iconst 0, 1) := by decide +kernel
theorem dX12_mattersOf_9 : decode cX12_mattersOf 9 = .ok (.invokevirtual 385, 3) := by decide +kernel
theorem dX12_mattersOf_12 : decode cX12_mattersOf 12 = .ok (.lsub, 1) := by decide +kernel
theorem dX12_mattersOf_13 : decode cX12_mattersOf 13 = .ok (.lreturn, 1) := by decide +kernel
abbrev o_X12_mattersOf : Type := Int64 × Int32 × Int32 × Int32 × (Nat → Int32) × (Nat → Int32) × (Nat → Int32) × (Nat → Int32) × (Nat → Int32) × (Nat → Int32) × (Nat → Int64)
def f_X12_mattersOf (S : wd_W) (p1 : Int32) : Option o_X12_mattersOf :=
bd (f_X12_sureOf (wd_o S [(38, (S.1 38)), (39, (S.1 39)), (44, (S.1 44))] [] [(17, (S.2.2.1 17)), (18, (S.2.2.1 18)), (19, (S.2.2.1 19)), (20, (S.2.2.1 20)), (22, (S.2.2.1 22)), (23, (S.2.2.1 23))] [(21, (S.2.2.2.1 21))] []) p1 (1 : Int32)) fun o1 =>
bd (f_X12_sureOf (wd_o S [(38, o1.2.1), (39, o1.2.2.1), (44, o1.2.2.2.1)] [] [(17, o1.2.2.2.2.1), (18, o1.2.2.2.2.2.1), (19, o1.2.2.2.2.2.2.1), (20, o1.2.2.2.2.2.2.2.1), (22, o1.2.2.2.2.2.2.2.2.1), (23, o1.2.2.2.2.2.2.2.2.2.1)] [(21, o1.2.2.2.2.2.2.2.2.2.2)] []) p1 (0 : Int32)) fun o2 =>
some (o1.1 - o2.1, o2.2.1, o2.2.2.1, o2.2.2.2.1, o2.2.2.2.2.1, o2.2.2.2.2.2.1, o2.2.2.2.2.2.2.1, o2.2.2.2.2.2.2.2.1, o2.2.2.2.2.2.2.2.2.1, o2.2.2.2.2.2.2.2.2.2.1, o2.2.2.2.2.2.2.2.2.2.2)
set_option maxRecDepth 100000 in
set_option maxHeartbeats 4000000 in
theorem c_X12_mattersOf (l : Launch) (D : va_G) (q g : Nat → Nat) (cy : Nat → ClassId) (z : (Nat → Nat) × (Nat → Nat) × Nat) (S : wd_W) (p1 : Int32) (o : o_X12_mattersOf) (hf : f_X12_mattersOf S p1 = some o) : MX layM l yX12_mattersOf cX12_mattersOf 2 (some .long) ({ frames := 7, cells := 0, slots := 0, locals := 160 } : Room) D q g cy z [.ref (q 0), .int p1] S false (some (.long o.1)) (wd_o S [(38, o.2.1), (39, o.2.2.1), (44, o.2.2.2.1)] [] [(17, o.2.2.2.2.1), (18, o.2.2.2.2.2.1), (19, o.2.2.2.2.2.2.1), (20, o.2.2.2.2.2.2.2.1), (22, o.2.2.2.2.2.2.2.2.1), (23, o.2.2.2.2.2.2.2.2.2.1)] [(21, o.2.2.2.2.2.2.2.2.2.2)] []) 0 0 := by
  refine mx_of (own := RX12) (lc := [(0, .ref (q 0)), (1, .int p1)]) (by decide +kernel) rfl layM_ok (Nat.le_of_ble_eq_true rfl) rfl ?_
  intro X hXl hXq hXz hC hQ
  subst hXl; subst hXq; subst hXz
  unfold f_X12_mattersOf at hf
  refine go_keys (L1 := [(38, (S.1 38)), (39, (S.1 39)), (44, (S.1 44))]) (L2 := []) (L3 := [(17, (S.2.2.1 17)), (18, (S.2.2.1 18)), (19, (S.2.2.1 19)), (20, (S.2.2.1 20)), (22, (S.2.2.1 22)), (23, (S.2.2.1 23))]) (L4 := [(21, (S.2.2.2.1 21))]) (L5 := []) [38, 39, 44] [] [17, 18, 19, 20, 22, 23] [21] [] rfl rfl rfl rfl rfl ?_
  refine go_aload_n (pc' := 1) hC dX12_mattersOf_0 rfl rfl ?_
  refine go_iload_n (pc' := 2) hC dX12_mattersOf_1 rfl rfl ?_
  refine go_iconst (pc' := 3) hC dX12_mattersOf_2 ki_1 rfl ?_
  obtain ⟨o1, ho1, hf⟩ := bd_e hf
  refine go_callV1 (pc' := 6) (As := [.int p1, .int (1 : Int32)]) (st := []) (st' := [.long o1.1]) (L1' := [(38, o1.2.1), (39, o1.2.2.1), (44, o1.2.2.2.1)]) (L2' := []) (L3' := [(17, o1.2.2.2.2.1), (18, o1.2.2.2.2.2.1), (19, o1.2.2.2.2.2.2.1), (20, o1.2.2.2.2.2.2.2.1), (22, o1.2.2.2.2.2.2.2.2.1), (23, o1.2.2.2.2.2.2.2.2.2.1)]) (L4' := [(21, o1.2.2.2.2.2.2.2.2.2.2)]) (L5' := []) (cells' := 0) (slots' := 0)  (b := 0) hC dX12_mattersOf_3 ⟨mw_960, mw_963, mw_5, yd_yX12_sureOf, yp_yX12_sureOf, Nat.le_of_ble_eq_true rfl, Nat.le_of_ble_eq_true rfl, (Nat.le_of_ble_eq_true rfl), (Nat.le_of_ble_eq_true rfl)⟩ mw_961 mw_962 layM_0 rfl rfl rfl (Nat.le_of_ble_eq_true rfl) (c_X12_sureOf (x_l X) (x_D X) (x_q X) g (x_cy X) (x_z X) _ p1 (1 : Int32) o1 ho1) rfl rfl rfl rfl rfl rfl rfl rfl rfl rfl rfl rfl rfl rfl ?_
  refine go_aload_n (pc' := 7) hC dX12_mattersOf_6 rfl rfl ?_
  refine go_iload_n (pc' := 8) hC dX12_mattersOf_7 rfl rfl ?_
  refine go_iconst (pc' := 9) hC dX12_mattersOf_8 ki_0 rfl ?_
  obtain ⟨o2, ho2, hf⟩ := bd_e hf
  refine go_callV1 (pc' := 12) (As := [.int p1, .int (0 : Int32)]) (st := [.long o1.1]) (st' := [.long o2.1, .long o1.1]) (L1' := [(38, o2.2.1), (39, o2.2.2.1), (44, o2.2.2.2.1)]) (L2' := []) (L3' := [(17, o2.2.2.2.2.1), (18, o2.2.2.2.2.2.1), (19, o2.2.2.2.2.2.2.1), (20, o2.2.2.2.2.2.2.2.1), (22, o2.2.2.2.2.2.2.2.2.1), (23, o2.2.2.2.2.2.2.2.2.2.1)]) (L4' := [(21, o2.2.2.2.2.2.2.2.2.2.2)]) (L5' := []) (cells' := 0) (slots' := 0)  (b := 0) hC dX12_mattersOf_9 ⟨mw_960, mw_963, mw_5, yd_yX12_sureOf, yp_yX12_sureOf, Nat.le_of_ble_eq_true rfl, Nat.le_of_ble_eq_true rfl, (Nat.le_of_ble_eq_true rfl), (Nat.le_of_ble_eq_true rfl)⟩ mw_961 mw_962 layM_0 rfl rfl rfl (Nat.le_of_ble_eq_true rfl) (c_X12_sureOf (x_l X) (x_D X) (x_q X) g (x_cy X) (x_z X) _ p1 (0 : Int32) o2 ho2) rfl rfl rfl rfl rfl rfl rfl rfl rfl rfl rfl rfl rfl rfl ?_
  refine go_lsub (pc' := 13) hC dX12_mattersOf_12 rfl ?_
  obtain rfl := Option.some.inj hf
  exact go_lret hC hQ dX12_mattersOf_13 rfl rfl rfl (fun _ => rfl) rfl rfl
theorem dX12_matters_0 : decode cX12_matters 0 = .ok (.aload_n 0, 1) := by decide +kernel
theorem dX12_matters_1 : decode cX12_matters 1 = .ok (.iload_n 1, 1) := by decide +kernel
theorem dX12_matters_2 : decode cX12_matters 2 = .ok (.invokevirtual 382, 3) := by decide +kernel
theorem dX12_matters_5 : decode cX12_matters 5 = .ok (.ifCond .ne 7, 3) := by decide +kernel
theorem dX12_matters_8 : decode cX12_matters 8 = .ok (.ldc2_w 373, 3) := by decide +kernel
theorem dX12_matters_11 : decode cX12_matters 11 = .ok (.lreturn, 1) := by decide +kernel
theorem dX12_matters_12 : decode cX12_matters 12 = .ok (.iload_n 2, 1) := by decide +kernel
theorem dX12_matters_13 : decode cX12_matters 13 = .ok (.ifCond .ne 11, 3) := by decide +kernel
theorem dX12_matters_16 : decode cX12_matters 16 = .ok (.aload_n 0, 1) := by decide +kernel
theorem dX12_matters_17 : decode cX12_matters 17 = .ok (.iload_n 1, 1) := by decide +kernel
theorem dX12_matters_18 : decode cX12_matters 18 = .ok (.invokevirtual 389, 3) := by decide +kernel
theorem dX12_matters_21 : decode cX12_matters 21 = .ok (.goto 35, 3) := by decide +kernel
theorem dX12_matters_24 : decode cX12_matters 24 = .ok (.iload_n 2, 1) := by decide +kernel
theorem dX12_matters_25 : decode cX12_matters 25 = .ok (.iconst 1, 1) := by decide +kernel
theorem dX12_matters_26 : decode cX12_matters 26 = .ok (.if_icmp .ne 12, 3) := by decide +kernel
theorem dX12_matters_29 : decode cX12_matters 29 = .ok (.aload_n 0, 1) := by decide +kernel
theorem dX12_matters_30 : decode cX12_matters 30 = .ok (.iload_n 1, 1) := by decide +kernel
theorem dX12_matters_31 : decode cX12_matters 31 = .ok (.invokevirtual 392, 3) := by decide +kernel
theorem dX12_matters_34 : decode cX12_matters 34 = .ok (.i2l, 1) := by decide +kernel
theorem dX12_matters_35 : decode cX12_matters 35 = .ok (.goto 21, 3) := by decide +kernel
theorem dX12_matters_38 : decode cX12_matters 38 = .ok (.iload_n 2, 1) := by decide +kernel
theorem dX12_matters_39 : decode cX12_matters 39 = .ok (.iconst 2, 1) := by decide +kernel
theorem dX12_matters_40 : decode cX12_matters 40 = .ok (.if_icmp .ne 13, 3) := by decide +kernel
theorem dX12_matters_43 : decode cX12_matters 43 = .ok (.aload_n 0, 1) := by decide +kernel
theorem dX12_matters_44 : decode cX12_matters 44 = .ok (.getfield 57, 3) := by decide +kernel
theorem dX12_matters_47 : decode cX12_matters 47 = .ok (.iload_n 1, 1) := by decide +kernel
theorem dX12_matters_48 : decode cX12_matters 48 = .ok (.iaload, 1) := by decide +kernel
theorem dX12_matters_49 : decode cX12_matters 49 = .ok (.i2l, 1) := by decide +kernel
theorem dX12_matters_50 : decode cX12_matters 50 = .ok (.goto 6, 3) := by decide +kernel
theorem dX12_matters_53 : decode cX12_matters 53 = .ok (.ldc2_w 373, 3) := by decide +kernel
theorem dX12_matters_56 : decode cX12_matters 56 = .ok (.lreturn, 1) := by decide +kernel
abbrev o_X12_matters : Type := Int64 × Int32 × Int32 × Int32 × (Nat → Int32) × (Nat → Int32) × (Nat → Int32) × (Nat → Int32) × (Nat → Int32) × (Nat → Int32) × (Nat → Int64)
def f_X12_matters (S : wd_W) (p1 : Int32) (p2 : Int32) : Option o_X12_matters :=
bd (f_X12_isThing (wd_o S [(38, (S.1 38)), (39, (S.1 39)), (44, (S.1 44))] [] [(17, (S.2.2.1 17)), (18, (S.2.2.1 18)), (19, (S.2.2.1 19)), (20, (S.2.2.1 20)), (22, (S.2.2.1 22)), (23, (S.2.2.1 23))] [(21, (S.2.2.2.1 21))] []) p1) fun o1 =>
if o1 = 0 then (
some ((-1 : Int64), (S.1 38), (S.1 39), (S.1 44), (S.2.2.1 17), (S.2.2.1 18), (S.2.2.1 19), (S.2.2.1 20), (S.2.2.1 22), (S.2.2.1 23), (S.2.2.2.1 21))) else (
if p2 = 0 then (
bd (f_X12_mattersOf (wd_o S [(38, (S.1 38)), (39, (S.1 39)), (44, (S.1 44))] [] [(17, (S.2.2.1 17)), (18, (S.2.2.1 18)), (19, (S.2.2.1 19)), (20, (S.2.2.1 20)), (22, (S.2.2.1 22)), (23, (S.2.2.1 23))] [(21, (S.2.2.2.1 21))] []) p1) fun o6 =>
some (o6.1, o6.2.1, o6.2.2.1, o6.2.2.2.1, o6.2.2.2.2.1, o6.2.2.2.2.2.1, o6.2.2.2.2.2.2.1, o6.2.2.2.2.2.2.2.1, o6.2.2.2.2.2.2.2.2.1, o6.2.2.2.2.2.2.2.2.2.1, o6.2.2.2.2.2.2.2.2.2.2)) else (
if p2 = (1 : Int32) then (
bd (f_X12_decides (wd_o S [(38, (S.1 38)), (39, (S.1 39)), (44, (S.1 44))] [] [(17, (S.2.2.1 17)), (18, (S.2.2.1 18)), (19, (S.2.2.1 19)), (20, (S.2.2.1 20)), (22, (S.2.2.1 22)), (23, (S.2.2.1 23))] [(21, (S.2.2.2.1 21))] []) p1) fun o4 =>
some (o4.1.toInt64, o4.2.1, o4.2.2.1, o4.2.2.2.1, o4.2.2.2.2.1, o4.2.2.2.2.2.1, o4.2.2.2.2.2.2.1, o4.2.2.2.2.2.2.2, (S.2.2.1 22), (S.2.2.1 23), (S.2.2.2.1 21))) else (
if p2 = (2 : Int32) then (
gd (okx p1 15) <|
some (((S.2.2.1 16) p1.toNatClampNeg).toInt64, (S.1 38), (S.1 39), (S.1 44), (S.2.2.1 17), (S.2.2.1 18), (S.2.2.1 19), (S.2.2.1 20), (S.2.2.1 22), (S.2.2.1 23), (S.2.2.2.1 21))) else (
some ((-1 : Int64), (S.1 38), (S.1 39), (S.1 44), (S.2.2.1 17), (S.2.2.1 18), (S.2.2.1 19), (S.2.2.1 20), (S.2.2.1 22), (S.2.2.1 23), (S.2.2.2.1 21))))))
set_option maxRecDepth 100000 in
set_option maxHeartbeats 4000000 in
theorem c_X12_matters (l : Launch) (D : va_G) (q g : Nat → Nat) (cy : Nat → ClassId) (z : (Nat → Nat) × (Nat → Nat) × Nat) (S : wd_W) (p1 : Int32) (p2 : Int32) (o : o_X12_matters) (hf : f_X12_matters S p1 p2 = some o) : MX layM l yX12_matters cX12_matters 3 (some .long) ({ frames := 8, cells := 0, slots := 0, locals := 181 } : Room) D q g cy z [.ref (q 0), .int p1, .int p2] S false (some (.long o.1)) (wd_o S [(38, o.2.1), (39, o.2.2.1), (44, o.2.2.2.1)] [] [(17, o.2.2.2.2.1), (18, o.2.2.2.2.2.1), (19, o.2.2.2.2.2.2.1), (20, o.2.2.2.2.2.2.2.1), (22, o.2.2.2.2.2.2.2.2.1), (23, o.2.2.2.2.2.2.2.2.2.1)] [(21, o.2.2.2.2.2.2.2.2.2.2)] []) 0 0 := by
  refine mx_of (own := RX12) (lc := [(0, .ref (q 0)), (1, .int p1), (2, .int p2)]) (by decide +kernel) rfl layM_ok (Nat.le_of_ble_eq_true rfl) rfl ?_
  intro X hXl hXq hXz hC hQ
  subst hXl; subst hXq; subst hXz
  unfold f_X12_matters at hf
  refine go_keys (L1 := [(38, (S.1 38)), (39, (S.1 39)), (44, (S.1 44))]) (L2 := []) (L3 := [(17, (S.2.2.1 17)), (18, (S.2.2.1 18)), (19, (S.2.2.1 19)), (20, (S.2.2.1 20)), (22, (S.2.2.1 22)), (23, (S.2.2.1 23))]) (L4 := [(21, (S.2.2.2.1 21))]) (L5 := []) [38, 39, 44] [] [17, 18, 19, 20, 22, 23] [21] [] rfl rfl rfl rfl rfl ?_
  refine go_aload_n (pc' := 1) hC dX12_matters_0 rfl rfl ?_
  refine go_iload_n (pc' := 2) hC dX12_matters_1 rfl rfl ?_
  obtain ⟨o1, ho1, hf⟩ := bd_e hf
  refine go_callV0 (pc' := 5) (As := [.int p1]) (st := []) (st' := [.int o1])    (b := 0) hC dX12_matters_2 ⟨mw_956, mw_959, mw_5, yd_yX12_isThing, yp_yX12_isThing, Nat.le_of_ble_eq_true rfl, Nat.le_of_ble_eq_true rfl, (Nat.le_of_ble_eq_true rfl), (Nat.le_of_ble_eq_true rfl)⟩ mw_957 mw_958 layM_0 rfl rfl rfl (Nat.le_of_ble_eq_true rfl) (c_X12_isThing (x_l X) (x_D X) (x_q X) g (x_cy X) (x_z X) _ p1 o1 ho1) rfl rfl ?_
  refine go_if_ne (tgt := 12) (pc' := 8) hC dX12_matters_5 (by decide) rfl (fun h8 => ?_) (fun h8 => ?_)
  · have hf := ite_f h8 hf
    refine go_iload_n (pc' := 13) hC dX12_matters_12 rfl rfl ?_
    refine go_if_ne (tgt := 24) (pc' := 16) hC dX12_matters_13 (by decide) rfl (fun h7 => ?_) (fun h7 => ?_)
    · have hf := ite_f h7 hf
      refine go_iload_n (pc' := 25) hC dX12_matters_24 rfl rfl ?_
      refine go_iconst (pc' := 26) hC dX12_matters_25 ki_1 rfl ?_
      refine go_icmp_ne (tgt := 38) (pc' := 29) hC dX12_matters_26 (by decide) rfl (fun h5 => ?_) (fun h5 => ?_)
      · have hf := ite_f h5 hf
        refine go_iload_n (pc' := 39) hC dX12_matters_38 rfl rfl ?_
        refine go_iconst (pc' := 40) hC dX12_matters_39 ki_2 rfl ?_
        refine go_icmp_ne (tgt := 53) (pc' := 43) hC dX12_matters_40 (by decide) rfl (fun h3 => ?_) (fun h3 => ?_)
        · have hf := ite_f h3 hf
          refine go_ldc2 (pc' := 56) hC dX12_matters_53 mw_922 rfl ?_
          obtain rfl := Option.some.inj hf
          exact go_lret hC hQ dX12_matters_56 rfl rfl rfl (fun _ => rfl) rfl rfl
        · have hf := ite_t h3 hf
          refine go_aload_n (pc' := 44) hC dX12_matters_43 rfl rfl ?_
          refine go_getq (pc' := 47) hC 0 33 layM_0 rfl rfl inlX12 (Nat.le_of_ble_eq_true rfl) mw_196 rfl dX12_matters_44 rfl ?_
          refine go_iload_n (pc' := 48) hC dX12_matters_47 rfl rfl ?_
          obtain ⟨h2, hf⟩ := gd_e hf
          refine go_iald (f := (S.2.2.1 16)) (pc' := 49) hC 16 layM_16 rfl rfl dX12_matters_48 (okx_in h2) rfl ?_
          refine go_i2l (pc' := 50) hC dX12_matters_49 rfl ?_
          refine go_goto (tgt := 56) hC dX12_matters_50 (by decide) ?_
          obtain rfl := Option.some.inj hf
          exact go_lret hC hQ dX12_matters_56 rfl rfl rfl (fun _ => rfl) rfl rfl
      · have hf := ite_t h5 hf
        refine go_aload_n (pc' := 30) hC dX12_matters_29 rfl rfl ?_
        refine go_iload_n (pc' := 31) hC dX12_matters_30 rfl rfl ?_
        obtain ⟨o4, ho4, hf⟩ := bd_e hf
        refine go_callV1 (pc' := 34) (As := [.int p1]) (st := []) (st' := [.int o4.1]) (L1' := [(38, o4.2.1), (39, o4.2.2.1), (44, o4.2.2.2.1)]) (L2' := []) (L3' := [(17, o4.2.2.2.2.1), (18, o4.2.2.2.2.2.1), (19, o4.2.2.2.2.2.2.1), (20, o4.2.2.2.2.2.2.2), (22, (S.2.2.1 22)), (23, (S.2.2.1 23))]) (L4' := [(21, (S.2.2.2.1 21))]) (L5' := []) (cells' := 0) (slots' := 0)  (b := 0) hC dX12_matters_31 ⟨mw_989, mw_992, mw_5, yd_yX12_decides, yp_yX12_decides, Nat.le_of_ble_eq_true rfl, Nat.le_of_ble_eq_true rfl, (Nat.le_of_ble_eq_true rfl), (Nat.le_of_ble_eq_true rfl)⟩ mw_990 mw_991 layM_0 rfl rfl rfl (Nat.le_of_ble_eq_true rfl) (c_X12_decides (x_l X) (x_D X) (x_q X) g (x_cy X) (x_z X) _ p1 o4 ho4) rfl rfl rfl rfl rfl rfl rfl rfl rfl rfl rfl rfl rfl rfl ?_
        refine go_i2l (pc' := 35) hC dX12_matters_34 rfl ?_
        refine go_goto (tgt := 56) hC dX12_matters_35 (by decide) ?_
        obtain rfl := Option.some.inj hf
        exact go_lret hC hQ dX12_matters_56 rfl rfl rfl (fun _ => rfl) rfl rfl
    · have hf := ite_t h7 hf
      refine go_aload_n (pc' := 17) hC dX12_matters_16 rfl rfl ?_
      refine go_iload_n (pc' := 18) hC dX12_matters_17 rfl rfl ?_
      obtain ⟨o6, ho6, hf⟩ := bd_e hf
      refine go_callV1 (pc' := 21) (As := [.int p1]) (st := []) (st' := [.long o6.1]) (L1' := [(38, o6.2.1), (39, o6.2.2.1), (44, o6.2.2.2.1)]) (L2' := []) (L3' := [(17, o6.2.2.2.2.1), (18, o6.2.2.2.2.2.1), (19, o6.2.2.2.2.2.2.1), (20, o6.2.2.2.2.2.2.2.1), (22, o6.2.2.2.2.2.2.2.2.1), (23, o6.2.2.2.2.2.2.2.2.2.1)]) (L4' := [(21, o6.2.2.2.2.2.2.2.2.2.2)]) (L5' := []) (cells' := 0) (slots' := 0)  (b := 0) hC dX12_matters_18 ⟨mw_985, mw_988, mw_5, yd_yX12_mattersOf, yp_yX12_mattersOf, Nat.le_of_ble_eq_true rfl, Nat.le_of_ble_eq_true rfl, (Nat.le_of_ble_eq_true rfl), (Nat.le_of_ble_eq_true rfl)⟩ mw_986 mw_987 layM_0 rfl rfl rfl (Nat.le_of_ble_eq_true rfl) (c_X12_mattersOf (x_l X) (x_D X) (x_q X) g (x_cy X) (x_z X) _ p1 o6 ho6) rfl rfl rfl rfl rfl rfl rfl rfl rfl rfl rfl rfl rfl rfl ?_
      refine go_goto (tgt := 56) hC dX12_matters_21 (by decide) ?_
      obtain rfl := Option.some.inj hf
      exact go_lret hC hQ dX12_matters_56 rfl rfl rfl (fun _ => rfl) rfl rfl
  · have hf := ite_t h8 hf
    refine go_ldc2 (pc' := 11) hC dX12_matters_8 mw_922 rfl ?_
    obtain rfl := Option.some.inj hf
    exact go_lret hC hQ dX12_matters_11 rfl rfl rfl (fun _ => rfl) rfl rfl
theorem dX12_most_0 : decode cX12_most 0 = .ok (.iconst (-1), 1) := by decide +kernel
theorem dX12_most_1 : decode cX12_most 1 = .ok (.istore_n 1, 1) := by decide +kernel
theorem dX12_most_2 : decode cX12_most 2 = .ok (.lconst 0, 1) := by decide +kernel
theorem dX12_most_3 : decode cX12_most 3 = .ok (.lstore_n 2, 1) := by decide +kernel
theorem dX12_most_4 : decode cX12_most 4 = .ok (.iconst 0, 1) := by decide +kernel
theorem dX12_most_5 : decode cX12_most 5 = .ok (.istore 4, 2) := by decide +kernel
theorem dX12_most_7 : decode cX12_most 7 = .ok (.iload 4, 2) := by decide +kernel
theorem dX12_most_9 : decode cX12_most 9 = .ok (.aload_n 0, 1) := by decide +kernel
theorem dX12_most_10 : decode cX12_most 10 = .ok (.getfield 288, 3) := by decide +kernel
theorem dX12_most_13 : decode cX12_most 13 = .ok (.if_icmp .ge 37, 3) := by decide +kernel
theorem dX12_most_16 : decode cX12_most 16 = .ok (.aload_n 0, 1) := by decide +kernel
theorem dX12_most_17 : decode cX12_most 17 = .ok (.iload 4, 2) := by decide +kernel
theorem dX12_most_19 : decode cX12_most 19 = .ok (.invokevirtual 389, 3) := by decide +kernel
theorem dX12_most_22 : decode cX12_most 22 = .ok (.lstore 5, 2) := by decide +kernel
theorem dX12_most_24 : decode cX12_most 24 = .ok (.iload_n 1, 1) := by decide +kernel
theorem dX12_most_25 : decode cX12_most 25 = .ok (.ifCond .lt 13, 3) := by decide +kernel
theorem dX12_most_28 : decode cX12_most 28 = .ok (.lload 5, 2) := by decide +kernel
theorem dX12_most_30 : decode cX12_most 30 = .ok (.lload_n 2, 1) := by decide +kernel
theorem dX12_most_31 : decode cX12_most 31 = .ok (.lcmp, 1) := by decide +kernel
theorem dX12_most_32 : decode cX12_most 32 = .ok (.ifCond .gt 6, 3) := by decide +kernel
theorem dX12_most_35 : decode cX12_most 35 = .ok (.goto 9, 3) := by decide +kernel
theorem dX12_most_38 : decode cX12_most 38 = .ok (.iload 4, 2) := by decide +kernel
theorem dX12_most_40 : decode cX12_most 40 = .ok (.istore_n 1, 1) := by decide +kernel
theorem dX12_most_41 : decode cX12_most 41 = .ok (.lload 5, 2) := by decide +kernel
theorem dX12_most_43 : decode cX12_most 43 = .ok (.lstore_n 2, 1) := by decide +kernel
theorem dX12_most_44 : decode cX12_most 44 = .ok (.iinc 4 1, 3) := by decide +kernel
theorem dX12_most_47 : decode cX12_most 47 = .ok (.goto (-40), 3) := by decide +kernel
theorem dX12_most_50 : decode cX12_most 50 = .ok (.iload_n 1, 1) := by decide +kernel
theorem dX12_most_51 : decode cX12_most 51 = .ok (.ireturn, 1) := by decide +kernel
abbrev o_X12_most : Type := Int32 × Int32 × Int32 × Int32 × (Nat → Int32) × (Nat → Int32) × (Nat → Int32) × (Nat → Int32) × (Nat → Int32) × (Nat → Int32) × (Nat → Int64)
def f_X12_most_L7 (S : wd_W) (r14 : (Int32) → (Int64) → (Int32) → (Int32) → (Int32) → (Int32) → (Nat → Int32) → (Nat → Int32) → (Nat → Int32) → (Nat → Int32) → (Nat → Int32) → (Nat → Int32) → (Nat → Int64) → (Option o_X12_most)) (x1 : Int32) (x2 : Int64) (x3 : Int32) (x4 : Int32) (x5 : Int32) (x6 : Int32) (a7 : Nat → Int32) (a8 : Nat → Int32) (a9 : Nat → Int32) (a10 : Nat → Int32) (a11 : Nat → Int32) (a12 : Nat → Int32) (a13 : Nat → Int64) : Option o_X12_most :=
if (S.1 32) ≤ x3 then (
some (x1, x4, x5, x6, a7, a8, a9, a10, a11, a12, a13)) else (
bd (f_X12_mattersOf (wd_o S [(38, x4), (39, x5), (44, x6)] [] [(17, a7), (18, a8), (19, a9), (20, a10), (22, a11), (23, a12)] [(21, a13)] []) x3) fun o15 =>
lk (fun x16 x17 =>
r14 x16 x17 (x3 + (1 : Int32)) o15.2.1 o15.2.2.1 o15.2.2.2.1 o15.2.2.2.2.1 o15.2.2.2.2.2.1 o15.2.2.2.2.2.2.1 o15.2.2.2.2.2.2.2.1 o15.2.2.2.2.2.2.2.2.1 o15.2.2.2.2.2.2.2.2.2.1 o15.2.2.2.2.2.2.2.2.2.2) fun k44_18 =>
lk (k44_18 x3 o15.1) fun k38_19 =>
if x1 < 0 then (
k38_19) else (
if x2 < o15.1 then (
k38_19) else (
k44_18 x1 x2)))
def f_X12_most (S : wd_W) : Option o_X12_most :=
it13 (f_X12_most_L7 S) fuel (-1 : Int32) (0 : Int64) (0 : Int32) (S.1 38) (S.1 39) (S.1 44) (S.2.2.1 17) (S.2.2.1 18) (S.2.2.1 19) (S.2.2.1 20) (S.2.2.1 22) (S.2.2.1 23) (S.2.2.2.1 21)
set_option maxRecDepth 100000 in
set_option maxHeartbeats 4000000 in
theorem c_X12_most (l : Launch) (D : va_G) (q g : Nat → Nat) (cy : Nat → ClassId) (z : (Nat → Nat) × (Nat → Nat) × Nat) (S : wd_W) (o : o_X12_most) (hf : f_X12_most S = some o) : MX layM l yX12_most cX12_most 7 (some .int) ({ frames := 8, cells := 0, slots := 0, locals := 181 } : Room) D q g cy z [.ref (q 0)] S false (some (.int o.1)) (wd_o S [(38, o.2.1), (39, o.2.2.1), (44, o.2.2.2.1)] [] [(17, o.2.2.2.2.1), (18, o.2.2.2.2.2.1), (19, o.2.2.2.2.2.2.1), (20, o.2.2.2.2.2.2.2.1), (22, o.2.2.2.2.2.2.2.2.1), (23, o.2.2.2.2.2.2.2.2.2.1)] [(21, o.2.2.2.2.2.2.2.2.2.2)] []) 0 0 := by
  refine mx_of (own := RX12) (lc := [(0, .ref (q 0))]) (by decide +kernel) rfl layM_ok (Nat.le_of_ble_eq_true rfl) rfl ?_
  intro X hXl hXq hXz hC hQ
  subst hXl; subst hXq; subst hXz
  unfold f_X12_most at hf
  refine go_keys (L1 := [(38, (S.1 38)), (39, (S.1 39)), (44, (S.1 44))]) (L2 := []) (L3 := [(17, (S.2.2.1 17)), (18, (S.2.2.1 18)), (19, (S.2.2.1 19)), (20, (S.2.2.1 20)), (22, (S.2.2.1 22)), (23, (S.2.2.1 23))]) (L4 := [(21, (S.2.2.2.1 21))]) (L5 := []) [38, 39, 44] [] [17, 18, 19, 20, 22, 23] [21] [] rfl rfl rfl rfl rfl ?_
  refine go_iconst (pc' := 1) hC dX12_most_0 ki_m1 rfl ?_
  refine go_istore_n (lc' := [(0, .ref (x_q X 0)), (1, .int (-1 : Int32))]) (pc' := 2) hC dX12_most_1 (Nat.le_of_ble_eq_true rfl) rfl rfl ?_
  refine go_lconst (pc' := 3) hC dX12_most_2 kl_0 rfl ?_
  refine go_lstore_n (lc' := [(0, .ref (x_q X 0)), (1, .int (-1 : Int32)), (2, .long (0 : Int64))]) (pc' := 4) hC dX12_most_3 (Nat.le_of_ble_eq_true rfl) rfl rfl ?_
  refine go_iconst (pc' := 5) hC dX12_most_4 ki_0 rfl ?_
  refine go_istore (lc' := [(0, .ref (x_q X 0)), (1, .int (-1 : Int32)), (2, .long (0 : Int64)), (4, .int (0 : Int32))]) (pc' := 7) hC dX12_most_5 (Nat.le_of_ble_eq_true rfl) rfl rfl ?_
  have l7_23 : ∀ (nn : Nat) (x1 : Int32) (x2 : Int64) (x3 : Int32) (x4 : Int32) (x5 : Int32) (x6 : Int32) (a7 : Nat → Int32) (a8 : Nat → Int32) (a9 : Nat → Int32) (a10 : Nat → Int32) (a11 : Nat → Int32) (a12 : Nat → Int32) (a13 : Nat → Int64), it13 (f_X12_most_L7 S) nn x1 x2 x3 x4 x5 x6 a7 a8 a9 a10 a11 a12 a13 = some o → Go X layM S 7 [(0, .ref (x_q X 0)), (1, .int x1), (2, .long x2), (4, .int x3)] [] g [(38, x4), (39, x5), (44, x6)] [] [(17, a7), (18, a8), (19, a9), (20, a10), (22, a11), (23, a12)] [(21, a13)] [] 0 0 := by
    intro nn
    induction nn with
    | zero =>
      intro x1 x2 x3 x4 x5 x6 a7 a8 a9 a10 a11 a12 a13 hf
      exact none_no hf
    | succ nn ih =>
      intro x1 x2 x3 x4 x5 x6 a7 a8 a9 a10 a11 a12 a13 hf
      have hf : f_X12_most_L7 S (it13 (f_X12_most_L7 S) nn) x1 x2 x3 x4 x5 x6 a7 a8 a9 a10 a11 a12 a13 = some o := hf
      generalize it13 (f_X12_most_L7 S) nn = r14 at ih hf
      unfold f_X12_most_L7 at hf
      refine go_iload (pc' := 9) hC dX12_most_7 rfl rfl ?_
      refine go_aload_n (pc' := 10) hC dX12_most_9 rfl rfl ?_
      refine go_geti (v := (S.1 32)) (pc' := 13) hC 0 32 layM_0 rfl rfl inlX12 (Nat.le_of_ble_eq_true rfl) mw_250 rfl dX12_most_10 rfl rfl ?_
      refine go_icmp_ge (tgt := 50) (pc' := 16) hC dX12_most_13 (by decide) rfl (fun h22 => ?_) (fun h22 => ?_)
      · have hf := ite_t h22 hf
        refine go_iload_n (pc' := 51) hC dX12_most_50 rfl rfl ?_
        obtain rfl := Option.some.inj hf
        exact go_iret hC hQ dX12_most_51 rfl rfl rfl rfl (fun _ => rfl) rfl rfl
      · have hf := ite_f h22 hf
        refine go_aload_n (pc' := 17) hC dX12_most_16 rfl rfl ?_
        refine go_iload (pc' := 19) hC dX12_most_17 rfl rfl ?_
        obtain ⟨o15, ho15, hf⟩ := bd_e hf
        refine go_callV1 (pc' := 22) (As := [.int x3]) (st := []) (st' := [.long o15.1]) (L1' := [(38, o15.2.1), (39, o15.2.2.1), (44, o15.2.2.2.1)]) (L2' := []) (L3' := [(17, o15.2.2.2.2.1), (18, o15.2.2.2.2.2.1), (19, o15.2.2.2.2.2.2.1), (20, o15.2.2.2.2.2.2.2.1), (22, o15.2.2.2.2.2.2.2.2.1), (23, o15.2.2.2.2.2.2.2.2.2.1)]) (L4' := [(21, o15.2.2.2.2.2.2.2.2.2.2)]) (L5' := []) (cells' := 0) (slots' := 0)  (b := 0) hC dX12_most_19 ⟨mw_985, mw_988, mw_5, yd_yX12_mattersOf, yp_yX12_mattersOf, Nat.le_of_ble_eq_true rfl, Nat.le_of_ble_eq_true rfl, (Nat.le_of_ble_eq_true rfl), (Nat.le_of_ble_eq_true rfl)⟩ mw_986 mw_987 layM_0 rfl rfl rfl (Nat.le_of_ble_eq_true rfl) (c_X12_mattersOf (x_l X) (x_D X) (x_q X) g (x_cy X) (x_z X) _ x3 o15 ho15) rfl rfl rfl rfl rfl rfl rfl rfl rfl rfl rfl rfl rfl rfl ?_
        refine go_lstore (lc' := [(0, .ref (x_q X 0)), (1, .int x1), (2, .long x2), (4, .int x3), (5, .long o15.1)]) (pc' := 24) hC dX12_most_22 (Nat.le_of_ble_eq_true rfl) rfl rfl ?_
        refine go_iload_n (pc' := 25) hC dX12_most_24 rfl rfl ?_
        obtain ⟨k44_18, hk44_18, hf⟩ := lk_e2 hf
        have jk44_18 : ∀ (x16 : Int32) (x17 : Int64), k44_18 x16 x17 = some o → Go X layM S 44 [(0, .ref (x_q X 0)), (1, .int x16), (2, .long x17), (4, .int x3)] [] g [(38, o15.2.1), (39, o15.2.2.1), (44, o15.2.2.2.1)] [] [(17, o15.2.2.2.2.1), (18, o15.2.2.2.2.2.1), (19, o15.2.2.2.2.2.2.1), (20, o15.2.2.2.2.2.2.2.1), (22, o15.2.2.2.2.2.2.2.2.1), (23, o15.2.2.2.2.2.2.2.2.2.1)] [(21, o15.2.2.2.2.2.2.2.2.2.2)] [] 0 0 := by
          intro x16 x17 hf
          have hf := hk44_18 x16 x17 hf
          clear hk44_18
          refine go_iinc (lc' := [(0, .ref (x_q X 0)), (1, .int x16), (2, .long x17), (4, .int (x3 + (1 : Int32)))]) (pc' := 47) hC dX12_most_44 rfl ki_1 (Nat.le_of_ble_eq_true rfl) rfl rfl ?_
          refine go_goto (tgt := 7) hC dX12_most_47 (by decide) ?_
          exact ih x16 x17 (x3 + (1 : Int32)) o15.2.1 o15.2.2.1 o15.2.2.2.1 o15.2.2.2.2.1 o15.2.2.2.2.2.1 o15.2.2.2.2.2.2.1 o15.2.2.2.2.2.2.2.1 o15.2.2.2.2.2.2.2.2.1 o15.2.2.2.2.2.2.2.2.2.1 o15.2.2.2.2.2.2.2.2.2.2 hf
        clear hk44_18
        obtain ⟨k38_19, hk38_19, hf⟩ := lk_e0 hf
        have jk38_19 : ∀ (_ : Unit), k38_19 = some o → Go X layM S 38 [(0, .ref (x_q X 0)), (4, .int x3), (5, .long o15.1)] [] g [(38, o15.2.1), (39, o15.2.2.1), (44, o15.2.2.2.1)] [] [(17, o15.2.2.2.2.1), (18, o15.2.2.2.2.2.1), (19, o15.2.2.2.2.2.2.1), (20, o15.2.2.2.2.2.2.2.1), (22, o15.2.2.2.2.2.2.2.2.1), (23, o15.2.2.2.2.2.2.2.2.2.1)] [(21, o15.2.2.2.2.2.2.2.2.2.2)] [] 0 0 := by
          intro _ hf
          have hf := hk38_19 hf
          clear hk38_19
          refine go_iload (pc' := 40) hC dX12_most_38 rfl rfl ?_
          refine go_istore_n (lc' := [(0, .ref (x_q X 0)), (1, .int x3), (4, .int x3), (5, .long o15.1)]) (pc' := 41) hC dX12_most_40 (Nat.le_of_ble_eq_true rfl) rfl rfl ?_
          refine go_lload (pc' := 43) hC dX12_most_41 rfl rfl ?_
          refine go_lstore_n (lc' := [(0, .ref (x_q X 0)), (1, .int x3), (2, .long o15.1), (4, .int x3), (5, .long o15.1)]) (pc' := 44) hC dX12_most_43 (Nat.le_of_ble_eq_true rfl) rfl rfl ?_
          refine go_sub [0, 1, 2, 4] rfl ?_
          exact jk44_18 x3 o15.1 hf
        clear hk38_19
        refine go_if_lt (tgt := 38) (pc' := 28) hC dX12_most_25 (by decide) rfl (fun h21 => ?_) (fun h21 => ?_)
        · have hf := ite_t h21 hf
          refine go_sub [0, 4, 5] rfl ?_
          exact jk38_19 () hf
        · have hf := ite_f h21 hf
          refine go_lload (pc' := 30) hC dX12_most_28 rfl rfl ?_
          refine go_lload_n (pc' := 31) hC dX12_most_30 rfl rfl ?_
          refine go_lcmp (pc' := 32) hC dX12_most_31 rfl ?_
          refine go_if_gt (tgt := 38) (pc' := 35) hC dX12_most_32 (by decide) rfl (fun h20 => ?_) (fun h20 => ?_)
          · have hf := ite_t (lg_gt.mp h20) hf
            refine go_sub [0, 4, 5] rfl ?_
            exact jk38_19 () hf
          · have hf := ite_f (mt lg_gt.mpr h20) hf
            refine go_goto (tgt := 44) hC dX12_most_35 (by decide) ?_
            refine go_sub [0, 1, 2, 4] rfl ?_
            exact jk44_18 x1 x2 hf
  exact l7_23 fuel (-1 : Int32) (0 : Int64) (0 : Int32) (S.1 38) (S.1 39) (S.1 44) (S.2.2.1 17) (S.2.2.1 18) (S.2.2.1 19) (S.2.2.1 20) (S.2.2.1 22) (S.2.2.1 23) (S.2.2.2.1 21) hf
theorem dX12_useless_0 : decode cX12_useless 0 = .ok (.iconst 0, 1) := by decide +kernel
theorem dX12_useless_1 : decode cX12_useless 1 = .ok (.istore_n 1, 1) := by decide +kernel
theorem dX12_useless_2 : decode cX12_useless 2 = .ok (.iconst 0, 1) := by decide +kernel
theorem dX12_useless_3 : decode cX12_useless 3 = .ok (.istore_n 2, 1) := by decide +kernel
theorem dX12_useless_4 : decode cX12_useless 4 = .ok (.iload_n 2, 1) := by decide +kernel
theorem dX12_useless_5 : decode cX12_useless 5 = .ok (.aload_n 0, 1) := by decide +kernel
theorem dX12_useless_6 : decode cX12_useless 6 = .ok (.getfield 288, 3) := by decide +kernel
theorem dX12_useless_9 : decode cX12_useless 9 = .ok (.if_icmp .ge 27, 3) := by decide +kernel
theorem dX12_useless_12 : decode cX12_useless 12 = .ok (.iload_n 1, 1) := by decide +kernel
theorem dX12_useless_13 : decode cX12_useless 13 = .ok (.aload_n 0, 1) := by decide +kernel
theorem dX12_useless_14 : decode cX12_useless 14 = .ok (.iload_n 2, 1) := by decide +kernel
theorem dX12_useless_15 : decode cX12_useless 15 = .ok (.invokevirtual 392, 3) := by decide +kernel
theorem dX12_useless_18 : decode cX12_useless 18 = .ok (.ifCond .ne 9, 3) := by decide +kernel
theorem dX12_useless_21 : decode cX12_useless 21 = .ok (.iconst 1, 1) := by decide +kernel
theorem dX12_useless_22 : decode cX12_useless 22 = .ok (.iload_n 2, 1) := by decide +kernel
theorem dX12_useless_23 : decode cX12_useless 23 = .ok (.ishl, 1) := by decide +kernel
theorem dX12_useless_24 : decode cX12_useless 24 = .ok (.goto 4, 3) := by decide +kernel
theorem dX12_useless_27 : decode cX12_useless 27 = .ok (.iconst 0, 1) := by decide +kernel
theorem dX12_useless_28 : decode cX12_useless 28 = .ok (.ior, 1) := by decide +kernel
theorem dX12_useless_29 : decode cX12_useless 29 = .ok (.istore_n 1, 1) := by decide +kernel
theorem dX12_useless_30 : decode cX12_useless 30 = .ok (.iinc 2 1, 3) := by decide +kernel
theorem dX12_useless_33 : decode cX12_useless 33 = .ok (.goto (-29), 3) := by decide +kernel
theorem dX12_useless_36 : decode cX12_useless 36 = .ok (.iload_n 1, 1) := by decide +kernel
theorem dX12_useless_37 : decode cX12_useless 37 = .ok (.ireturn, 1) := by decide +kernel
abbrev o_X12_useless : Type := Int32 × Int32 × Int32 × Int32 × (Nat → Int32) × (Nat → Int32) × (Nat → Int32) × (Nat → Int32)
def f_X12_useless_L4 (S : wd_W) (r10 : (Int32) → (Int32) → (Int32) → (Int32) → (Int32) → (Nat → Int32) → (Nat → Int32) → (Nat → Int32) → (Nat → Int32) → (Option o_X12_useless)) (x1 : Int32) (x2 : Int32) (x3 : Int32) (x4 : Int32) (x5 : Int32) (a6 : Nat → Int32) (a7 : Nat → Int32) (a8 : Nat → Int32) (a9 : Nat → Int32) : Option o_X12_useless :=
if (S.1 32) ≤ x2 then (
some (x1, x3, x4, x5, a6, a7, a8, a9)) else (
bd (f_X12_decides (wd_o S [(38, x3), (39, x4), (44, x5)] [] [(17, a6), (18, a7), (19, a8), (20, a9)] [] []) x2) fun o11 =>
lk (fun x12 x13 =>
lz (x13 ||| x12) fun x15 =>
r10 x15 (x2 + (1 : Int32)) o11.2.1 o11.2.2.1 o11.2.2.2.1 o11.2.2.2.2.1 o11.2.2.2.2.2.1 o11.2.2.2.2.2.2.1 o11.2.2.2.2.2.2.2) fun k28_14 =>
if o11.1 = 0 then (
k28_14 ((1 : Int32) <<< (x2 &&& 31)) x1) else (
k28_14 (0 : Int32) x1))
def f_X12_useless (S : wd_W) : Option o_X12_useless :=
it9 (f_X12_useless_L4 S) fuel (0 : Int32) (0 : Int32) (S.1 38) (S.1 39) (S.1 44) (S.2.2.1 17) (S.2.2.1 18) (S.2.2.1 19) (S.2.2.1 20)
set_option maxRecDepth 100000 in
set_option maxHeartbeats 4000000 in
theorem c_X12_useless (l : Launch) (D : va_G) (q g : Nat → Nat) (cy : Nat → ClassId) (z : (Nat → Nat) × (Nat → Nat) × Nat) (S : wd_W) (o : o_X12_useless) (hf : f_X12_useless S = some o) : MX layM l yX12_useless cX12_useless 3 (some .int) ({ frames := 6, cells := 0, slots := 0, locals := 138 } : Room) D q g cy z [.ref (q 0)] S false (some (.int o.1)) (wd_o S [(38, o.2.1), (39, o.2.2.1), (44, o.2.2.2.1)] [] [(17, o.2.2.2.2.1), (18, o.2.2.2.2.2.1), (19, o.2.2.2.2.2.2.1), (20, o.2.2.2.2.2.2.2)] [] []) 0 0 := by
  refine mx_of (own := RX12) (lc := [(0, .ref (q 0))]) (by decide +kernel) rfl layM_ok (Nat.le_of_ble_eq_true rfl) rfl ?_
  intro X hXl hXq hXz hC hQ
  subst hXl; subst hXq; subst hXz
  unfold f_X12_useless at hf
  refine go_keys (L1 := [(38, (S.1 38)), (39, (S.1 39)), (44, (S.1 44))]) (L2 := []) (L3 := [(17, (S.2.2.1 17)), (18, (S.2.2.1 18)), (19, (S.2.2.1 19)), (20, (S.2.2.1 20))]) (L4 := []) (L5 := []) [38, 39, 44] [] [17, 18, 19, 20] [] [] rfl rfl rfl rfl rfl ?_
  refine go_iconst (pc' := 1) hC dX12_useless_0 ki_0 rfl ?_
  refine go_istore_n (lc' := [(0, .ref (x_q X 0)), (1, .int (0 : Int32))]) (pc' := 2) hC dX12_useless_1 (Nat.le_of_ble_eq_true rfl) rfl rfl ?_
  refine go_iconst (pc' := 3) hC dX12_useless_2 ki_0 rfl ?_
  refine go_istore_n (lc' := [(0, .ref (x_q X 0)), (1, .int (0 : Int32)), (2, .int (0 : Int32))]) (pc' := 4) hC dX12_useless_3 (Nat.le_of_ble_eq_true rfl) rfl rfl ?_
  have l4_18 : ∀ (nn : Nat) (x1 : Int32) (x2 : Int32) (x3 : Int32) (x4 : Int32) (x5 : Int32) (a6 : Nat → Int32) (a7 : Nat → Int32) (a8 : Nat → Int32) (a9 : Nat → Int32), it9 (f_X12_useless_L4 S) nn x1 x2 x3 x4 x5 a6 a7 a8 a9 = some o → Go X layM S 4 [(0, .ref (x_q X 0)), (1, .int x1), (2, .int x2)] [] g [(38, x3), (39, x4), (44, x5)] [] [(17, a6), (18, a7), (19, a8), (20, a9)] [] [] 0 0 := by
    intro nn
    induction nn with
    | zero =>
      intro x1 x2 x3 x4 x5 a6 a7 a8 a9 hf
      exact none_no hf
    | succ nn ih =>
      intro x1 x2 x3 x4 x5 a6 a7 a8 a9 hf
      have hf : f_X12_useless_L4 S (it9 (f_X12_useless_L4 S) nn) x1 x2 x3 x4 x5 a6 a7 a8 a9 = some o := hf
      generalize it9 (f_X12_useless_L4 S) nn = r10 at ih hf
      unfold f_X12_useless_L4 at hf
      refine go_iload_n (pc' := 5) hC dX12_useless_4 rfl rfl ?_
      refine go_aload_n (pc' := 6) hC dX12_useless_5 rfl rfl ?_
      refine go_geti (v := (S.1 32)) (pc' := 9) hC 0 32 layM_0 rfl rfl inlX12 (Nat.le_of_ble_eq_true rfl) mw_250 rfl dX12_useless_6 rfl rfl ?_
      refine go_icmp_ge (tgt := 36) (pc' := 12) hC dX12_useless_9 (by decide) rfl (fun h17 => ?_) (fun h17 => ?_)
      · have hf := ite_t h17 hf
        refine go_iload_n (pc' := 37) hC dX12_useless_36 rfl rfl ?_
        obtain rfl := Option.some.inj hf
        exact go_iret hC hQ dX12_useless_37 rfl rfl rfl rfl (fun _ => rfl) rfl rfl
      · have hf := ite_f h17 hf
        refine go_iload_n (pc' := 13) hC dX12_useless_12 rfl rfl ?_
        refine go_aload_n (pc' := 14) hC dX12_useless_13 rfl rfl ?_
        refine go_iload_n (pc' := 15) hC dX12_useless_14 rfl rfl ?_
        obtain ⟨o11, ho11, hf⟩ := bd_e hf
        refine go_callV1 (pc' := 18) (As := [.int x2]) (st := [.int x1]) (st' := [.int o11.1, .int x1]) (L1' := [(38, o11.2.1), (39, o11.2.2.1), (44, o11.2.2.2.1)]) (L2' := []) (L3' := [(17, o11.2.2.2.2.1), (18, o11.2.2.2.2.2.1), (19, o11.2.2.2.2.2.2.1), (20, o11.2.2.2.2.2.2.2)]) (L4' := []) (L5' := []) (cells' := 0) (slots' := 0)  (b := 0) hC dX12_useless_15 ⟨mw_989, mw_992, mw_5, yd_yX12_decides, yp_yX12_decides, Nat.le_of_ble_eq_true rfl, Nat.le_of_ble_eq_true rfl, (Nat.le_of_ble_eq_true rfl), (Nat.le_of_ble_eq_true rfl)⟩ mw_990 mw_991 layM_0 rfl rfl rfl (Nat.le_of_ble_eq_true rfl) (c_X12_decides (x_l X) (x_D X) (x_q X) g (x_cy X) (x_z X) _ x2 o11 ho11) rfl rfl rfl rfl rfl rfl rfl rfl rfl rfl rfl rfl rfl rfl ?_
        obtain ⟨k28_14, hk28_14, hf⟩ := lk_e2 hf
        have jk28_14 : ∀ (x12 : Int32) (x13 : Int32), k28_14 x12 x13 = some o → Go X layM S 28 [(0, .ref (x_q X 0)), (2, .int x2)] [.int x12, .int x13] g [(38, o11.2.1), (39, o11.2.2.1), (44, o11.2.2.2.1)] [] [(17, o11.2.2.2.2.1), (18, o11.2.2.2.2.2.1), (19, o11.2.2.2.2.2.2.1), (20, o11.2.2.2.2.2.2.2)] [] [] 0 0 := by
          intro x12 x13 hf
          have hf := hk28_14 x12 x13 hf
          clear hk28_14
          refine go_ior (pc' := 29) hC dX12_useless_28 rfl ?_
          refine go_namei (fun x15 hx => ?_)
          have hf := lz_r hx hf
          clear hx
          refine go_istore_n (lc' := [(0, .ref (x_q X 0)), (1, .int x15), (2, .int x2)]) (pc' := 30) hC dX12_useless_29 (Nat.le_of_ble_eq_true rfl) rfl rfl ?_
          refine go_iinc (lc' := [(0, .ref (x_q X 0)), (1, .int x15), (2, .int (x2 + (1 : Int32)))]) (pc' := 33) hC dX12_useless_30 rfl ki_1 (Nat.le_of_ble_eq_true rfl) rfl rfl ?_
          refine go_goto (tgt := 4) hC dX12_useless_33 (by decide) ?_
          exact ih x15 (x2 + (1 : Int32)) o11.2.1 o11.2.2.1 o11.2.2.2.1 o11.2.2.2.2.1 o11.2.2.2.2.2.1 o11.2.2.2.2.2.2.1 o11.2.2.2.2.2.2.2 hf
        clear hk28_14
        refine go_if_ne (tgt := 27) (pc' := 21) hC dX12_useless_18 (by decide) rfl (fun h16 => ?_) (fun h16 => ?_)
        · have hf := ite_f h16 hf
          refine go_iconst (pc' := 28) hC dX12_useless_27 ki_0 rfl ?_
          refine go_sub [0, 2] rfl ?_
          exact jk28_14 (0 : Int32) x1 hf
        · have hf := ite_t h16 hf
          refine go_iconst (pc' := 22) hC dX12_useless_21 ki_1 rfl ?_
          refine go_iload_n (pc' := 23) hC dX12_useless_22 rfl rfl ?_
          refine go_ishl (pc' := 24) hC dX12_useless_23 rfl ?_
          refine go_goto (tgt := 28) hC dX12_useless_24 (by decide) ?_
          refine go_sub [0, 2] rfl ?_
          exact jk28_14 ((1 : Int32) <<< (x2 &&& 31)) x1 hf
  exact l4_18 fuel (0 : Int32) (0 : Int32) (S.1 38) (S.1 39) (S.1 44) (S.2.2.1 17) (S.2.2.1 18) (S.2.2.1 19) (S.2.2.1 20) hf
theorem dX12_isWay_0 : decode cX12_isWay 0 = .ok (.aload_n 0, 1) := by decide +kernel
theorem dX12_isWay_1 : decode cX12_isWay 1 = .ok (.getfield 70, 3) := by decide +kernel
theorem dX12_isWay_4 : decode cX12_isWay 4 = .ok (.iload_n 1, 1) := by decide +kernel
theorem dX12_isWay_5 : decode cX12_isWay 5 = .ok (.baload, 1) := by decide +kernel
theorem dX12_isWay_6 : decode cX12_isWay 6 = .ok (.ifCond .ne 5, 3) := by decide +kernel
theorem dX12_isWay_9 : decode cX12_isWay 9 = .ok (.iconst 0, 1) := by decide +kernel
theorem dX12_isWay_10 : decode cX12_isWay 10 = .ok (.ireturn, 1) := by decide +kernel
theorem dX12_isWay_11 : decode cX12_isWay 11 = .ok (.iconst 0, 1) := by decide +kernel
theorem dX12_isWay_12 : decode cX12_isWay 12 = .ok (.istore_n 2, 1) := by decide +kernel
theorem dX12_isWay_13 : decode cX12_isWay 13 = .ok (.iload_n 2, 1) := by decide +kernel
theorem dX12_isWay_14 : decode cX12_isWay 14 = .ok (.aload_n 0, 1) := by decide +kernel
theorem dX12_isWay_15 : decode cX12_isWay 15 = .ok (.getfield 288, 3) := by decide +kernel
theorem dX12_isWay_18 : decode cX12_isWay 18 = .ok (.if_icmp .ge 35, 3) := by decide +kernel
theorem dX12_isWay_21 : decode cX12_isWay 21 = .ok (.iload_n 1, 1) := by decide +kernel
theorem dX12_isWay_22 : decode cX12_isWay 22 = .ok (.iload_n 2, 1) := by decide +kernel
theorem dX12_isWay_23 : decode cX12_isWay 23 = .ok (.ishr, 1) := by decide +kernel
theorem dX12_isWay_24 : decode cX12_isWay 24 = .ok (.iconst 1, 1) := by decide +kernel
theorem dX12_isWay_25 : decode cX12_isWay 25 = .ok (.iand, 1) := by decide +kernel
theorem dX12_isWay_26 : decode cX12_isWay 26 = .ok (.iconst 1, 1) := by decide +kernel
theorem dX12_isWay_27 : decode cX12_isWay 27 = .ok (.if_icmp .ne 20, 3) := by decide +kernel
theorem dX12_isWay_30 : decode cX12_isWay 30 = .ok (.aload_n 0, 1) := by decide +kernel
theorem dX12_isWay_31 : decode cX12_isWay 31 = .ok (.getfield 70, 3) := by decide +kernel
theorem dX12_isWay_34 : decode cX12_isWay 34 = .ok (.iload_n 1, 1) := by decide +kernel
theorem dX12_isWay_35 : decode cX12_isWay 35 = .ok (.iconst 1, 1) := by decide +kernel
theorem dX12_isWay_36 : decode cX12_isWay 36 = .ok (.iload_n 2, 1) := by decide +kernel
theorem dX12_isWay_37 : decode cX12_isWay 37 = .ok (.ishl, 1) := by decide +kernel
theorem dX12_isWay_38 : decode cX12_isWay 38 = .ok (.iconst (-1), 1) := by decide +kernel
theorem dX12_isWay_39 : decode cX12_isWay 39 = .ok (.ixor, 1) := by decide +kernel
theorem dX12_isWay_40 : decode cX12_isWay 40 = .ok (.iand, 1) := by decide +kernel
theorem dX12_isWay_41 : decode cX12_isWay 41 = .ok (.baload, 1) := by decide +kernel
theorem dX12_isWay_42 : decode cX12_isWay 42 = .ok (.ifCond .eq 5, 3) := by decide +kernel
theorem dX12_isWay_45 : decode cX12_isWay 45 = .ok (.iconst 0, 1) := by decide +kernel
theorem dX12_isWay_46 : decode cX12_isWay 46 = .ok (.ireturn, 1) := by decide +kernel
theorem dX12_isWay_47 : decode cX12_isWay 47 = .ok (.iinc 2 1, 3) := by decide +kernel
theorem dX12_isWay_50 : decode cX12_isWay 50 = .ok (.goto (-37), 3) := by decide +kernel
theorem dX12_isWay_53 : decode cX12_isWay 53 = .ok (.iconst 1, 1) := by decide +kernel
theorem dX12_isWay_54 : decode cX12_isWay 54 = .ok (.ireturn, 1) := by decide +kernel
abbrev o_X12_isWay : Type := Int32
def f_X12_isWay_L13 (S : wd_W) (p1 : Int32) (r3 : (Int32) → (Option o_X12_isWay)) (x2 : Int32) : Option o_X12_isWay :=
if (S.1 32) ≤ x2 then (
some (1 : Int32)) else (
lk (r3 (x2 + (1 : Int32))) fun k47_4 =>
if ((p1 >>> (x2 &&& 31)) &&& (1 : Int32)) = (1 : Int32) then (
gd (okx (p1 &&& (((1 : Int32) <<< (x2 &&& 31)) ^^^ (-1 : Int32))) 32768) <|
if ((S.2.2.1 20) (p1 &&& (((1 : Int32) <<< (x2 &&& 31)) ^^^ (-1 : Int32))).toNatClampNeg) = 0 then (
k47_4) else (
some (0 : Int32))) else (
k47_4))
def f_X12_isWay (S : wd_W) (p1 : Int32) : Option o_X12_isWay :=
gd (okx p1 32768) <|
if ((S.2.2.1 20) p1.toNatClampNeg) = 0 then (
some (0 : Int32)) else (
it1 (f_X12_isWay_L13 S p1) fuel (0 : Int32))
set_option maxRecDepth 100000 in
set_option maxHeartbeats 4000000 in
theorem c_X12_isWay (l : Launch) (D : va_G) (q g : Nat → Nat) (cy : Nat → ClassId) (z : (Nat → Nat) × (Nat → Nat) × Nat) (S : wd_W) (p1 : Int32) (o : o_X12_isWay) (hf : f_X12_isWay S p1 = some o) : MX layM l yX12_isWay cX12_isWay 3 (some .boolean) ({ frames := 0, cells := 0, slots := 0, locals := 0 } : Room) D q g cy z [.ref (q 0), .int p1] S false (some (.int o)) (wd_o S [] [] [] [] []) 0 0 := by
  refine mx_of (own := RX12) (lc := [(0, .ref (q 0)), (1, .int p1)]) (by decide +kernel) rfl layM_ok (Nat.le_of_ble_eq_true rfl) rfl ?_
  intro X hXl hXq hXz hC hQ
  subst hXl; subst hXq; subst hXz
  unfold f_X12_isWay at hf
  refine go_aload_n (pc' := 1) hC dX12_isWay_0 rfl rfl ?_
  refine go_getq (pc' := 4) hC 0 43 layM_0 rfl rfl inlX12 (Nat.le_of_ble_eq_true rfl) mw_201 rfl dX12_isWay_1 rfl ?_
  refine go_iload_n (pc' := 5) hC dX12_isWay_4 rfl rfl ?_
  obtain ⟨h1, hf⟩ := gd_e hf
  refine go_zald (f := (S.2.2.1 20)) (pc' := 6) hC 20 layM_20 rfl rfl dX12_isWay_5 (okx_in h1) rfl ?_
  refine go_if_ne (tgt := 11) (pc' := 9) hC dX12_isWay_6 (by decide) rfl (fun h10 => ?_) (fun h10 => ?_)
  · have hf := ite_f h10 hf
    refine go_iconst (pc' := 12) hC dX12_isWay_11 ki_0 rfl ?_
    refine go_istore_n (lc' := [(0, .ref (x_q X 0)), (1, .int p1), (2, .int (0 : Int32))]) (pc' := 13) hC dX12_isWay_12 (Nat.le_of_ble_eq_true rfl) rfl rfl ?_
    have l13_9 : ∀ (nn : Nat) (x2 : Int32), it1 (f_X12_isWay_L13 S p1) nn x2 = some o → Go X layM S 13 [(0, .ref (x_q X 0)), (1, .int p1), (2, .int x2)] [] g [] [] [] [] [] 0 0 := by
      intro nn
      induction nn with
      | zero =>
        intro x2 hf
        exact none_no hf
      | succ nn ih =>
        intro x2 hf
        have hf : f_X12_isWay_L13 S p1 (it1 (f_X12_isWay_L13 S p1) nn) x2 = some o := hf
        generalize it1 (f_X12_isWay_L13 S p1) nn = r3 at ih hf
        unfold f_X12_isWay_L13 at hf
        refine go_iload_n (pc' := 14) hC dX12_isWay_13 rfl rfl ?_
        refine go_aload_n (pc' := 15) hC dX12_isWay_14 rfl rfl ?_
        refine go_geti (v := (S.1 32)) (pc' := 18) hC 0 32 layM_0 rfl rfl inlX12 (Nat.le_of_ble_eq_true rfl) mw_250 rfl dX12_isWay_15 rfl rfl ?_
        refine go_icmp_ge (tgt := 53) (pc' := 21) hC dX12_isWay_18 (by decide) rfl (fun h8 => ?_) (fun h8 => ?_)
        · have hf := ite_t h8 hf
          refine go_iconst (pc' := 54) hC dX12_isWay_53 ki_1 rfl ?_
          obtain rfl := Option.some.inj hf
          exact go_iret hC hQ dX12_isWay_54 rfl rfl rfl rfl (fun _ => rfl) rfl rfl
        · have hf := ite_f h8 hf
          refine go_iload_n (pc' := 22) hC dX12_isWay_21 rfl rfl ?_
          refine go_iload_n (pc' := 23) hC dX12_isWay_22 rfl rfl ?_
          refine go_ishr (pc' := 24) hC dX12_isWay_23 rfl ?_
          refine go_iconst (pc' := 25) hC dX12_isWay_24 ki_1 rfl ?_
          refine go_iand (pc' := 26) hC dX12_isWay_25 rfl ?_
          refine go_iconst (pc' := 27) hC dX12_isWay_26 ki_1 rfl ?_
          obtain ⟨k47_4, hk47_4, hf⟩ := lk_e0 hf
          have jk47_4 : ∀ (_ : Unit), k47_4 = some o → Go X layM S 47 [(0, .ref (x_q X 0)), (1, .int p1), (2, .int x2)] [] g [] [] [] [] [] 0 0 := by
            intro _ hf
            have hf := hk47_4 hf
            clear hk47_4
            refine go_iinc (lc' := [(0, .ref (x_q X 0)), (1, .int p1), (2, .int (x2 + (1 : Int32)))]) (pc' := 50) hC dX12_isWay_47 rfl ki_1 (Nat.le_of_ble_eq_true rfl) rfl rfl ?_
            refine go_goto (tgt := 13) hC dX12_isWay_50 (by decide) ?_
            exact ih (x2 + (1 : Int32)) hf
          clear hk47_4
          refine go_icmp_ne (tgt := 47) (pc' := 30) hC dX12_isWay_27 (by decide) rfl (fun h7 => ?_) (fun h7 => ?_)
          · have hf := ite_f h7 hf
            exact jk47_4 () hf
          · have hf := ite_t h7 hf
            refine go_aload_n (pc' := 31) hC dX12_isWay_30 rfl rfl ?_
            refine go_getq (pc' := 34) hC 0 43 layM_0 rfl rfl inlX12 (Nat.le_of_ble_eq_true rfl) mw_201 rfl dX12_isWay_31 rfl ?_
            refine go_iload_n (pc' := 35) hC dX12_isWay_34 rfl rfl ?_
            refine go_iconst (pc' := 36) hC dX12_isWay_35 ki_1 rfl ?_
            refine go_iload_n (pc' := 37) hC dX12_isWay_36 rfl rfl ?_
            refine go_ishl (pc' := 38) hC dX12_isWay_37 rfl ?_
            refine go_iconst (pc' := 39) hC dX12_isWay_38 ki_m1 rfl ?_
            refine go_ixor (pc' := 40) hC dX12_isWay_39 rfl ?_
            refine go_iand (pc' := 41) hC dX12_isWay_40 rfl ?_
            obtain ⟨h5, hf⟩ := gd_e hf
            refine go_zald (f := (S.2.2.1 20)) (pc' := 42) hC 20 layM_20 rfl rfl dX12_isWay_41 (okx_in h5) rfl ?_
            refine go_if_eq (tgt := 47) (pc' := 45) hC dX12_isWay_42 (by decide) rfl (fun h6 => ?_) (fun h6 => ?_)
            · have hf := ite_t h6 hf
              exact jk47_4 () hf
            · have hf := ite_f h6 hf
              refine go_iconst (pc' := 46) hC dX12_isWay_45 ki_0 rfl ?_
              obtain rfl := Option.some.inj hf
              exact go_iret hC hQ dX12_isWay_46 rfl rfl rfl rfl (fun _ => rfl) rfl rfl
    exact l13_9 fuel (0 : Int32) hf
  · have hf := ite_t h10 hf
    refine go_iconst (pc' := 10) hC dX12_isWay_9 ki_0 rfl ?_
    obtain rfl := Option.some.inj hf
    exact go_iret hC hQ dX12_isWay_10 rfl rfl rfl rfl (fun _ => rfl) rfl rfl
theorem dX12_isCut_0 : decode cX12_isCut 0 = .ok (.aload_n 0, 1) := by decide +kernel
theorem dX12_isCut_1 : decode cX12_isCut 1 = .ok (.invokevirtual 354, 3) := by decide +kernel
theorem dX12_isCut_4 : decode cX12_isCut 4 = .ok (.iconst 1, 1) := by decide +kernel
theorem dX12_isCut_5 : decode cX12_isCut 5 = .ok (.isub, 1) := by decide +kernel
theorem dX12_isCut_6 : decode cX12_isCut 6 = .ok (.istore_n 2, 1) := by decide +kernel
theorem dX12_isCut_7 : decode cX12_isCut 7 = .ok (.aload_n 0, 1) := by decide +kernel
theorem dX12_isCut_8 : decode cX12_isCut 8 = .ok (.getfield 70, 3) := by decide +kernel
theorem dX12_isCut_11 : decode cX12_isCut 11 = .ok (.iload_n 2, 1) := by decide +kernel
theorem dX12_isCut_12 : decode cX12_isCut 12 = .ok (.iload_n 1, 1) := by decide +kernel
theorem dX12_isCut_13 : decode cX12_isCut 13 = .ok (.iconst (-1), 1) := by decide +kernel
theorem dX12_isCut_14 : decode cX12_isCut 14 = .ok (.ixor, 1) := by decide +kernel
theorem dX12_isCut_15 : decode cX12_isCut 15 = .ok (.iand, 1) := by decide +kernel
theorem dX12_isCut_16 : decode cX12_isCut 16 = .ok (.baload, 1) := by decide +kernel
theorem dX12_isCut_17 : decode cX12_isCut 17 = .ok (.ifCond .eq 5, 3) := by decide +kernel
theorem dX12_isCut_20 : decode cX12_isCut 20 = .ok (.iconst 0, 1) := by decide +kernel
theorem dX12_isCut_21 : decode cX12_isCut 21 = .ok (.ireturn, 1) := by decide +kernel
theorem dX12_isCut_22 : decode cX12_isCut 22 = .ok (.iconst 0, 1) := by decide +kernel
theorem dX12_isCut_23 : decode cX12_isCut 23 = .ok (.istore_n 3, 1) := by decide +kernel
theorem dX12_isCut_24 : decode cX12_isCut 24 = .ok (.iload_n 3, 1) := by decide +kernel
theorem dX12_isCut_25 : decode cX12_isCut 25 = .ok (.aload_n 0, 1) := by decide +kernel
theorem dX12_isCut_26 : decode cX12_isCut 26 = .ok (.getfield 288, 3) := by decide +kernel
theorem dX12_isCut_29 : decode cX12_isCut 29 = .ok (.if_icmp .ge 37, 3) := by decide +kernel
theorem dX12_isCut_32 : decode cX12_isCut 32 = .ok (.iload_n 1, 1) := by decide +kernel
theorem dX12_isCut_33 : decode cX12_isCut 33 = .ok (.iload_n 3, 1) := by decide +kernel
theorem dX12_isCut_34 : decode cX12_isCut 34 = .ok (.ishr, 1) := by decide +kernel
theorem dX12_isCut_35 : decode cX12_isCut 35 = .ok (.iconst 1, 1) := by decide +kernel
theorem dX12_isCut_36 : decode cX12_isCut 36 = .ok (.iand, 1) := by decide +kernel
theorem dX12_isCut_37 : decode cX12_isCut 37 = .ok (.iconst 1, 1) := by decide +kernel
theorem dX12_isCut_38 : decode cX12_isCut 38 = .ok (.if_icmp .ne 22, 3) := by decide +kernel
theorem dX12_isCut_41 : decode cX12_isCut 41 = .ok (.aload_n 0, 1) := by decide +kernel
theorem dX12_isCut_42 : decode cX12_isCut 42 = .ok (.getfield 70, 3) := by decide +kernel
theorem dX12_isCut_45 : decode cX12_isCut 45 = .ok (.iload_n 2, 1) := by decide +kernel
theorem dX12_isCut_46 : decode cX12_isCut 46 = .ok (.iload_n 1, 1) := by decide +kernel
theorem dX12_isCut_47 : decode cX12_isCut 47 = .ok (.iconst (-1), 1) := by decide +kernel
theorem dX12_isCut_48 : decode cX12_isCut 48 = .ok (.ixor, 1) := by decide +kernel
theorem dX12_isCut_49 : decode cX12_isCut 49 = .ok (.iand, 1) := by decide +kernel
theorem dX12_isCut_50 : decode cX12_isCut 50 = .ok (.iconst 1, 1) := by decide +kernel
theorem dX12_isCut_51 : decode cX12_isCut 51 = .ok (.iload_n 3, 1) := by decide +kernel
theorem dX12_isCut_52 : decode cX12_isCut 52 = .ok (.ishl, 1) := by decide +kernel
theorem dX12_isCut_53 : decode cX12_isCut 53 = .ok (.ior, 1) := by decide +kernel
theorem dX12_isCut_54 : decode cX12_isCut 54 = .ok (.baload, 1) := by decide +kernel
theorem dX12_isCut_55 : decode cX12_isCut 55 = .ok (.ifCond .ne 5, 3) := by decide +kernel
theorem dX12_isCut_58 : decode cX12_isCut 58 = .ok (.iconst 0, 1) := by decide +kernel
theorem dX12_isCut_59 : decode cX12_isCut 59 = .ok (.ireturn, 1) := by decide +kernel
theorem dX12_isCut_60 : decode cX12_isCut 60 = .ok (.iinc 3 1, 3) := by decide +kernel
theorem dX12_isCut_63 : decode cX12_isCut 63 = .ok (.goto (-39), 3) := by decide +kernel
theorem dX12_isCut_66 : decode cX12_isCut 66 = .ok (.iconst 1, 1) := by decide +kernel
theorem dX12_isCut_67 : decode cX12_isCut 67 = .ok (.ireturn, 1) := by decide +kernel
abbrev o_X12_isCut : Type := Int32
def f_X12_isCut_L24 (S : wd_W) (p1 : Int32) (x2 : Int32) (r5 : (Int32) → (Option o_X12_isCut)) (x4 : Int32) : Option o_X12_isCut :=
if (S.1 32) ≤ x4 then (
some (1 : Int32)) else (
lk (r5 (x4 + (1 : Int32))) fun k60_6 =>
if ((p1 >>> (x4 &&& 31)) &&& (1 : Int32)) = (1 : Int32) then (
gd (okx ((x2 &&& (p1 ^^^ (-1 : Int32))) ||| ((1 : Int32) <<< (x4 &&& 31))) 32768) <|
if ((S.2.2.1 20) ((x2 &&& (p1 ^^^ (-1 : Int32))) ||| ((1 : Int32) <<< (x4 &&& 31))).toNatClampNeg) = 0 then (
some (0 : Int32)) else (
k60_6)) else (
k60_6))
def f_X12_isCut (S : wd_W) (p1 : Int32) : Option o_X12_isCut :=
bd (f_X12_sets (wd_o S [] [] [] [] [])) fun o1 =>
lz (o1 - (1 : Int32)) fun x2 =>
gd (okx (x2 &&& (p1 ^^^ (-1 : Int32))) 32768) <|
if ((S.2.2.1 20) (x2 &&& (p1 ^^^ (-1 : Int32))).toNatClampNeg) = 0 then (
it1 (f_X12_isCut_L24 S p1 x2) fuel (0 : Int32)) else (
some (0 : Int32))
set_option maxRecDepth 100000 in
set_option maxHeartbeats 4000000 in
theorem c_X12_isCut (l : Launch) (D : va_G) (q g : Nat → Nat) (cy : Nat → ClassId) (z : (Nat → Nat) × (Nat → Nat) × Nat) (S : wd_W) (p1 : Int32) (o : o_X12_isCut) (hf : f_X12_isCut S p1 = some o) : MX layM l yX12_isCut cX12_isCut 4 (some .boolean) ({ frames := 1, cells := 0, slots := 0, locals := 20 } : Room) D q g cy z [.ref (q 0), .int p1] S false (some (.int o)) (wd_o S [] [] [] [] []) 0 0 := by
  refine mx_of (own := RX12) (lc := [(0, .ref (q 0)), (1, .int p1)]) (by decide +kernel) rfl layM_ok (Nat.le_of_ble_eq_true rfl) rfl ?_
  intro X hXl hXq hXz hC hQ
  subst hXl; subst hXq; subst hXz
  unfold f_X12_isCut at hf
  refine go_aload_n (pc' := 1) hC dX12_isCut_0 rfl rfl ?_
  obtain ⟨o1, ho1, hf⟩ := bd_e hf
  refine go_callV0 (pc' := 4) (As := []) (st := []) (st' := [.int o1])    (b := 0) hC dX12_isCut_1 ⟨mw_856, mw_859, mw_5, yd_yX12_sets, yp_yX12_sets, Nat.le_of_ble_eq_true rfl, Nat.le_of_ble_eq_true rfl, (Nat.le_of_ble_eq_true rfl), (Nat.le_of_ble_eq_true rfl)⟩ mw_857 mw_858 layM_0 rfl rfl rfl (Nat.le_of_ble_eq_true rfl) (c_X12_sets (x_l X) (x_D X) (x_q X) g (x_cy X) (x_z X) _  o1 ho1) rfl rfl ?_
  refine go_iconst (pc' := 5) hC dX12_isCut_4 ki_1 rfl ?_
  refine go_isub (pc' := 6) hC dX12_isCut_5 rfl ?_
  refine go_namei (fun x2 hx => ?_)
  have hf := lz_r hx hf
  clear hx
  refine go_istore_n (lc' := [(0, .ref (x_q X 0)), (1, .int p1), (2, .int x2)]) (pc' := 7) hC dX12_isCut_6 (Nat.le_of_ble_eq_true rfl) rfl rfl ?_
  refine go_aload_n (pc' := 8) hC dX12_isCut_7 rfl rfl ?_
  refine go_getq (pc' := 11) hC 0 43 layM_0 rfl rfl inlX12 (Nat.le_of_ble_eq_true rfl) mw_201 rfl dX12_isCut_8 rfl ?_
  refine go_iload_n (pc' := 12) hC dX12_isCut_11 rfl rfl ?_
  refine go_iload_n (pc' := 13) hC dX12_isCut_12 rfl rfl ?_
  refine go_iconst (pc' := 14) hC dX12_isCut_13 ki_m1 rfl ?_
  refine go_ixor (pc' := 15) hC dX12_isCut_14 rfl ?_
  refine go_iand (pc' := 16) hC dX12_isCut_15 rfl ?_
  obtain ⟨h3, hf⟩ := gd_e hf
  refine go_zald (f := (S.2.2.1 20)) (pc' := 17) hC 20 layM_20 rfl rfl dX12_isCut_16 (okx_in h3) rfl ?_
  refine go_if_eq (tgt := 22) (pc' := 20) hC dX12_isCut_17 (by decide) rfl (fun h12 => ?_) (fun h12 => ?_)
  · have hf := ite_t h12 hf
    refine go_iconst (pc' := 23) hC dX12_isCut_22 ki_0 rfl ?_
    refine go_istore_n (lc' := [(0, .ref (x_q X 0)), (1, .int p1), (2, .int x2), (3, .int (0 : Int32))]) (pc' := 24) hC dX12_isCut_23 (Nat.le_of_ble_eq_true rfl) rfl rfl ?_
    have l24_11 : ∀ (nn : Nat) (x4 : Int32), it1 (f_X12_isCut_L24 S p1 x2) nn x4 = some o → Go X layM S 24 [(0, .ref (x_q X 0)), (1, .int p1), (2, .int x2), (3, .int x4)] [] g [] [] [] [] [] 0 0 := by
      intro nn
      induction nn with
      | zero =>
        intro x4 hf
        exact none_no hf
      | succ nn ih =>
        intro x4 hf
        have hf : f_X12_isCut_L24 S p1 x2 (it1 (f_X12_isCut_L24 S p1 x2) nn) x4 = some o := hf
        generalize it1 (f_X12_isCut_L24 S p1 x2) nn = r5 at ih hf
        unfold f_X12_isCut_L24 at hf
        refine go_iload_n (pc' := 25) hC dX12_isCut_24 rfl rfl ?_
        refine go_aload_n (pc' := 26) hC dX12_isCut_25 rfl rfl ?_
        refine go_geti (v := (S.1 32)) (pc' := 29) hC 0 32 layM_0 rfl rfl inlX12 (Nat.le_of_ble_eq_true rfl) mw_250 rfl dX12_isCut_26 rfl rfl ?_
        refine go_icmp_ge (tgt := 66) (pc' := 32) hC dX12_isCut_29 (by decide) rfl (fun h10 => ?_) (fun h10 => ?_)
        · have hf := ite_t h10 hf
          refine go_iconst (pc' := 67) hC dX12_isCut_66 ki_1 rfl ?_
          obtain rfl := Option.some.inj hf
          exact go_iret hC hQ dX12_isCut_67 rfl rfl rfl rfl (fun _ => rfl) rfl rfl
        · have hf := ite_f h10 hf
          refine go_iload_n (pc' := 33) hC dX12_isCut_32 rfl rfl ?_
          refine go_iload_n (pc' := 34) hC dX12_isCut_33 rfl rfl ?_
          refine go_ishr (pc' := 35) hC dX12_isCut_34 rfl ?_
          refine go_iconst (pc' := 36) hC dX12_isCut_35 ki_1 rfl ?_
          refine go_iand (pc' := 37) hC dX12_isCut_36 rfl ?_
          refine go_iconst (pc' := 38) hC dX12_isCut_37 ki_1 rfl ?_
          obtain ⟨k60_6, hk60_6, hf⟩ := lk_e0 hf
          have jk60_6 : ∀ (_ : Unit), k60_6 = some o → Go X layM S 60 [(0, .ref (x_q X 0)), (1, .int p1), (2, .int x2), (3, .int x4)] [] g [] [] [] [] [] 0 0 := by
            intro _ hf
            have hf := hk60_6 hf
            clear hk60_6
            refine go_iinc (lc' := [(0, .ref (x_q X 0)), (1, .int p1), (2, .int x2), (3, .int (x4 + (1 : Int32)))]) (pc' := 63) hC dX12_isCut_60 rfl ki_1 (Nat.le_of_ble_eq_true rfl) rfl rfl ?_
            refine go_goto (tgt := 24) hC dX12_isCut_63 (by decide) ?_
            exact ih (x4 + (1 : Int32)) hf
          clear hk60_6
          refine go_icmp_ne (tgt := 60) (pc' := 41) hC dX12_isCut_38 (by decide) rfl (fun h9 => ?_) (fun h9 => ?_)
          · have hf := ite_f h9 hf
            exact jk60_6 () hf
          · have hf := ite_t h9 hf
            refine go_aload_n (pc' := 42) hC dX12_isCut_41 rfl rfl ?_
            refine go_getq (pc' := 45) hC 0 43 layM_0 rfl rfl inlX12 (Nat.le_of_ble_eq_true rfl) mw_201 rfl dX12_isCut_42 rfl ?_
            refine go_iload_n (pc' := 46) hC dX12_isCut_45 rfl rfl ?_
            refine go_iload_n (pc' := 47) hC dX12_isCut_46 rfl rfl ?_
            refine go_iconst (pc' := 48) hC dX12_isCut_47 ki_m1 rfl ?_
            refine go_ixor (pc' := 49) hC dX12_isCut_48 rfl ?_
            refine go_iand (pc' := 50) hC dX12_isCut_49 rfl ?_
            refine go_iconst (pc' := 51) hC dX12_isCut_50 ki_1 rfl ?_
            refine go_iload_n (pc' := 52) hC dX12_isCut_51 rfl rfl ?_
            refine go_ishl (pc' := 53) hC dX12_isCut_52 rfl ?_
            refine go_ior (pc' := 54) hC dX12_isCut_53 rfl ?_
            obtain ⟨h7, hf⟩ := gd_e hf
            refine go_zald (f := (S.2.2.1 20)) (pc' := 55) hC 20 layM_20 rfl rfl dX12_isCut_54 (okx_in h7) rfl ?_
            refine go_if_ne (tgt := 60) (pc' := 58) hC dX12_isCut_55 (by decide) rfl (fun h8 => ?_) (fun h8 => ?_)
            · have hf := ite_f h8 hf
              exact jk60_6 () hf
            · have hf := ite_t h8 hf
              refine go_iconst (pc' := 59) hC dX12_isCut_58 ki_0 rfl ?_
              obtain rfl := Option.some.inj hf
              exact go_iret hC hQ dX12_isCut_59 rfl rfl rfl rfl (fun _ => rfl) rfl rfl
    exact l24_11 fuel (0 : Int32) hf
  · have hf := ite_f h12 hf
    refine go_iconst (pc' := 21) hC dX12_isCut_20 ki_0 rfl ?_
    obtain rfl := Option.some.inj hf
    exact go_iret hC hQ dX12_isCut_21 rfl rfl rfl rfl (fun _ => rfl) rfl rfl
theorem dX12_chanceOf_0 : decode cX12_chanceOf 0 = .ok (.lconst 1, 1) := by decide +kernel
theorem dX12_chanceOf_1 : decode cX12_chanceOf 1 = .ok (.lstore_n 3, 1) := by decide +kernel
theorem dX12_chanceOf_2 : decode cX12_chanceOf 2 = .ok (.iconst 0, 1) := by decide +kernel
theorem dX12_chanceOf_3 : decode cX12_chanceOf 3 = .ok (.istore 5, 2) := by decide +kernel
theorem dX12_chanceOf_5 : decode cX12_chanceOf 5 = .ok (.iload 5, 2) := by decide +kernel
theorem dX12_chanceOf_7 : decode cX12_chanceOf 7 = .ok (.aload_n 0, 1) := by decide +kernel
theorem dX12_chanceOf_8 : decode cX12_chanceOf 8 = .ok (.getfield 288, 3) := by decide +kernel
theorem dX12_chanceOf_11 : decode cX12_chanceOf 11 = .ok (.if_icmp .ge 53, 3) := by decide +kernel
theorem dX12_chanceOf_14 : decode cX12_chanceOf 14 = .ok (.lload_n 3, 1) := by decide +kernel
theorem dX12_chanceOf_15 : decode cX12_chanceOf 15 = .ok (.iload_n 1, 1) := by decide +kernel
theorem dX12_chanceOf_16 : decode cX12_chanceOf 16 = .ok (.iload 5, 2) := by decide +kernel
theorem dX12_chanceOf_18 : decode cX12_chanceOf 18 = .ok (.ishr, 1) := by decide +kernel
theorem dX12_chanceOf_19 : decode cX12_chanceOf 19 = .ok (.iconst 1, 1) := by decide +kernel
theorem dX12_chanceOf_20 : decode cX12_chanceOf 20 = .ok (.iand, 1) := by decide +kernel
theorem dX12_chanceOf_21 : decode cX12_chanceOf 21 = .ok (.ifCond .ne 9, 3) := by decide +kernel
theorem dX12_chanceOf_24 : decode cX12_chanceOf 24 = .ok (.ldc2_w 367, 3) := by decide +kernel
theorem dX12_chanceOf_27 : decode cX12_chanceOf 27 = .ok (.goto 29, 3) := by decide +kernel
theorem dX12_chanceOf_30 : decode cX12_chanceOf 30 = .ok (.iload_n 2, 1) := by decide +kernel
theorem dX12_chanceOf_31 : decode cX12_chanceOf 31 = .ok (.ifCond .eq 17, 3) := by decide +kernel
theorem dX12_chanceOf_34 : decode cX12_chanceOf 34 = .ok (.bipush 16, 2) := by decide +kernel
theorem dX12_chanceOf_36 : decode cX12_chanceOf 36 = .ok (.aload_n 0, 1) := by decide +kernel
theorem dX12_chanceOf_37 : decode cX12_chanceOf 37 = .ok (.getfield 57, 3) := by decide +kernel
theorem dX12_chanceOf_40 : decode cX12_chanceOf 40 = .ok (.iload 5, 2) := by decide +kernel
theorem dX12_chanceOf_42 : decode cX12_chanceOf 42 = .ok (.iaload, 1) := by decide +kernel
theorem dX12_chanceOf_43 : decode cX12_chanceOf 43 = .ok (.isub, 1) := by decide +kernel
theorem dX12_chanceOf_44 : decode cX12_chanceOf 44 = .ok (.i2l, 1) := by decide +kernel
theorem dX12_chanceOf_45 : decode cX12_chanceOf 45 = .ok (.goto 11, 3) := by decide +kernel
theorem dX12_chanceOf_48 : decode cX12_chanceOf 48 = .ok (.aload_n 0, 1) := by decide +kernel
theorem dX12_chanceOf_49 : decode cX12_chanceOf 49 = .ok (.getfield 57, 3) := by decide +kernel
theorem dX12_chanceOf_52 : decode cX12_chanceOf 52 = .ok (.iload 5, 2) := by decide +kernel
theorem dX12_chanceOf_54 : decode cX12_chanceOf 54 = .ok (.iaload, 1) := by decide +kernel
theorem dX12_chanceOf_55 : decode cX12_chanceOf 55 = .ok (.i2l, 1) := by decide +kernel
theorem dX12_chanceOf_56 : decode cX12_chanceOf 56 = .ok (.lmul, 1) := by decide +kernel
theorem dX12_chanceOf_57 : decode cX12_chanceOf 57 = .ok (.lstore_n 3, 1) := by decide +kernel
theorem dX12_chanceOf_58 : decode cX12_chanceOf 58 = .ok (.iinc 5 1, 3) := by decide +kernel
theorem dX12_chanceOf_61 : decode cX12_chanceOf 61 = .ok (.goto (-56), 3) := by decide +kernel
theorem dX12_chanceOf_64 : decode cX12_chanceOf 64 = .ok (.lload_n 3, 1) := by decide +kernel
theorem dX12_chanceOf_65 : decode cX12_chanceOf 65 = .ok (.lreturn, 1) := by decide +kernel
abbrev o_X12_chanceOf : Type := Int64
def f_X12_chanceOf_L5 (S : wd_W) (p1 : Int32) (p2 : Int32) (r3 : (Int64) → (Int32) → (Option o_X12_chanceOf)) (x1 : Int64) (x2 : Int32) : Option o_X12_chanceOf :=
if (S.1 32) ≤ x2 then (
some x1) else (
lk (fun x4 x5 =>
lz (x5 * x4) fun x7 =>
r3 x7 (x2 + (1 : Int32))) fun k56_6 =>
if ((p1 >>> (x2 &&& 31)) &&& (1 : Int32)) = 0 then (
k56_6 (16 : Int64) x1) else (
if p2 = 0 then (
gd (okx x2 15) <|
k56_6 (((S.2.2.1 16) x2.toNatClampNeg).toInt64) x1) else (
gd (okx x2 15) <|
k56_6 (((16 : Int32) - ((S.2.2.1 16) x2.toNatClampNeg)).toInt64) x1)))
def f_X12_chanceOf (S : wd_W) (p1 : Int32) (p2 : Int32) : Option o_X12_chanceOf :=
it2 (f_X12_chanceOf_L5 S p1 p2) fuel (1 : Int64) (0 : Int32)
set_option maxRecDepth 100000 in
set_option maxHeartbeats 4000000 in
theorem c_X12_chanceOf (l : Launch) (D : va_G) (q g : Nat → Nat) (cy : Nat → ClassId) (z : (Nat → Nat) × (Nat → Nat) × Nat) (S : wd_W) (p1 : Int32) (p2 : Int32) (o : o_X12_chanceOf) (hf : f_X12_chanceOf S p1 p2 = some o) : MX layM l yX12_chanceOf cX12_chanceOf 6 (some .long) ({ frames := 0, cells := 0, slots := 0, locals := 0 } : Room) D q g cy z [.ref (q 0), .int p1, .int p2] S false (some (.long o)) (wd_o S [] [] [] [] []) 0 0 := by
  refine mx_of (own := RX12) (lc := [(0, .ref (q 0)), (1, .int p1), (2, .int p2)]) (by decide +kernel) rfl layM_ok (Nat.le_of_ble_eq_true rfl) rfl ?_
  intro X hXl hXq hXz hC hQ
  subst hXl; subst hXq; subst hXz
  unfold f_X12_chanceOf at hf
  refine go_lconst (pc' := 1) hC dX12_chanceOf_0 kl_1 rfl ?_
  refine go_lstore_n (lc' := [(0, .ref (x_q X 0)), (1, .int p1), (2, .int p2), (3, .long (1 : Int64))]) (pc' := 2) hC dX12_chanceOf_1 (Nat.le_of_ble_eq_true rfl) rfl rfl ?_
  refine go_iconst (pc' := 3) hC dX12_chanceOf_2 ki_0 rfl ?_
  refine go_istore (lc' := [(0, .ref (x_q X 0)), (1, .int p1), (2, .int p2), (3, .long (1 : Int64)), (5, .int (0 : Int32))]) (pc' := 5) hC dX12_chanceOf_3 (Nat.le_of_ble_eq_true rfl) rfl rfl ?_
  have l5_13 : ∀ (nn : Nat) (x1 : Int64) (x2 : Int32), it2 (f_X12_chanceOf_L5 S p1 p2) nn x1 x2 = some o → Go X layM S 5 [(0, .ref (x_q X 0)), (1, .int p1), (2, .int p2), (3, .long x1), (5, .int x2)] [] g [] [] [] [] [] 0 0 := by
    intro nn
    induction nn with
    | zero =>
      intro x1 x2 hf
      exact none_no hf
    | succ nn ih =>
      intro x1 x2 hf
      have hf : f_X12_chanceOf_L5 S p1 p2 (it2 (f_X12_chanceOf_L5 S p1 p2) nn) x1 x2 = some o := hf
      generalize it2 (f_X12_chanceOf_L5 S p1 p2) nn = r3 at ih hf
      unfold f_X12_chanceOf_L5 at hf
      refine go_iload (pc' := 7) hC dX12_chanceOf_5 rfl rfl ?_
      refine go_aload_n (pc' := 8) hC dX12_chanceOf_7 rfl rfl ?_
      refine go_geti (v := (S.1 32)) (pc' := 11) hC 0 32 layM_0 rfl rfl inlX12 (Nat.le_of_ble_eq_true rfl) mw_250 rfl dX12_chanceOf_8 rfl rfl ?_
      refine go_icmp_ge (tgt := 64) (pc' := 14) hC dX12_chanceOf_11 (by decide) rfl (fun h12 => ?_) (fun h12 => ?_)
      · have hf := ite_t h12 hf
        refine go_lload_n (pc' := 65) hC dX12_chanceOf_64 rfl rfl ?_
        obtain rfl := Option.some.inj hf
        exact go_lret hC hQ dX12_chanceOf_65 rfl rfl rfl (fun _ => rfl) rfl rfl
      · have hf := ite_f h12 hf
        refine go_lload_n (pc' := 15) hC dX12_chanceOf_14 rfl rfl ?_
        refine go_iload_n (pc' := 16) hC dX12_chanceOf_15 rfl rfl ?_
        refine go_iload (pc' := 18) hC dX12_chanceOf_16 rfl rfl ?_
        refine go_ishr (pc' := 19) hC dX12_chanceOf_18 rfl ?_
        refine go_iconst (pc' := 20) hC dX12_chanceOf_19 ki_1 rfl ?_
        refine go_iand (pc' := 21) hC dX12_chanceOf_20 rfl ?_
        obtain ⟨k56_6, hk56_6, hf⟩ := lk_e2 hf
        have jk56_6 : ∀ (x4 : Int64) (x5 : Int64), k56_6 x4 x5 = some o → Go X layM S 56 [(0, .ref (x_q X 0)), (1, .int p1), (2, .int p2), (5, .int x2)] [.long x4, .long x5] g [] [] [] [] [] 0 0 := by
          intro x4 x5 hf
          have hf := hk56_6 x4 x5 hf
          clear hk56_6
          refine go_lmul (pc' := 57) hC dX12_chanceOf_56 rfl ?_
          refine go_namel (fun x7 hx => ?_)
          have hf := lz_r hx hf
          clear hx
          refine go_lstore_n (lc' := [(0, .ref (x_q X 0)), (1, .int p1), (2, .int p2), (3, .long x7), (5, .int x2)]) (pc' := 58) hC dX12_chanceOf_57 (Nat.le_of_ble_eq_true rfl) rfl rfl ?_
          refine go_iinc (lc' := [(0, .ref (x_q X 0)), (1, .int p1), (2, .int p2), (3, .long x7), (5, .int (x2 + (1 : Int32)))]) (pc' := 61) hC dX12_chanceOf_58 rfl ki_1 (Nat.le_of_ble_eq_true rfl) rfl rfl ?_
          refine go_goto (tgt := 5) hC dX12_chanceOf_61 (by decide) ?_
          exact ih x7 (x2 + (1 : Int32)) hf
        clear hk56_6
        refine go_if_ne (tgt := 30) (pc' := 24) hC dX12_chanceOf_21 (by decide) rfl (fun h11 => ?_) (fun h11 => ?_)
        · have hf := ite_f h11 hf
          refine go_iload_n (pc' := 31) hC dX12_chanceOf_30 rfl rfl ?_
          refine go_if_eq (tgt := 48) (pc' := 34) hC dX12_chanceOf_31 (by decide) rfl (fun h10 => ?_) (fun h10 => ?_)
          · have hf := ite_t h10 hf
            refine go_aload_n (pc' := 49) hC dX12_chanceOf_48 rfl rfl ?_
            refine go_getq (pc' := 52) hC 0 33 layM_0 rfl rfl inlX12 (Nat.le_of_ble_eq_true rfl) mw_196 rfl dX12_chanceOf_49 rfl ?_
            refine go_iload (pc' := 54) hC dX12_chanceOf_52 rfl rfl ?_
            obtain ⟨h8, hf⟩ := gd_e hf
            refine go_iald (f := (S.2.2.1 16)) (pc' := 55) hC 16 layM_16 rfl rfl dX12_chanceOf_54 (okx_in h8) rfl ?_
            refine go_i2l (pc' := 56) hC dX12_chanceOf_55 rfl ?_
            refine go_sub [0, 1, 2, 5] rfl ?_
            exact jk56_6 (((S.2.2.1 16) x2.toNatClampNeg).toInt64) x1 hf
          · have hf := ite_f h10 hf
            refine go_bipush (pc' := 36) hC dX12_chanceOf_34 kb_16 rfl ?_
            refine go_aload_n (pc' := 37) hC dX12_chanceOf_36 rfl rfl ?_
            refine go_getq (pc' := 40) hC 0 33 layM_0 rfl rfl inlX12 (Nat.le_of_ble_eq_true rfl) mw_196 rfl dX12_chanceOf_37 rfl ?_
            refine go_iload (pc' := 42) hC dX12_chanceOf_40 rfl rfl ?_
            obtain ⟨h9, hf⟩ := gd_e hf
            refine go_iald (f := (S.2.2.1 16)) (pc' := 43) hC 16 layM_16 rfl rfl dX12_chanceOf_42 (okx_in h9) rfl ?_
            refine go_isub (pc' := 44) hC dX12_chanceOf_43 rfl ?_
            refine go_i2l (pc' := 45) hC dX12_chanceOf_44 rfl ?_
            refine go_goto (tgt := 56) hC dX12_chanceOf_45 (by decide) ?_
            refine go_sub [0, 1, 2, 5] rfl ?_
            exact jk56_6 (((16 : Int32) - ((S.2.2.1 16) x2.toNatClampNeg)).toInt64) x1 hf
        · have hf := ite_t h11 hf
          refine go_ldc2 (pc' := 27) hC dX12_chanceOf_24 mw_1038 rfl ?_
          refine go_goto (tgt := 56) hC dX12_chanceOf_27 (by decide) ?_
          refine go_sub [0, 1, 2, 5] rfl ?_
          exact jk56_6 (16 : Int64) x1 hf
  exact l5_13 fuel (1 : Int64) (0 : Int32) hf
theorem dX12_lists_0 : decode cX12_lists 0 = .ok (.aload_n 0, 1) := by decide +kernel
theorem dX12_lists_1 : decode cX12_lists 1 = .ok (.invokevirtual 361, 3) := by decide +kernel
theorem dX12_lists_4 : decode cX12_lists 4 = .ok (.iload_n 1, 1) := by decide +kernel
theorem dX12_lists_5 : decode cX12_lists 5 = .ok (.ifCond .eq 7, 3) := by decide +kernel
theorem dX12_lists_8 : decode cX12_lists 8 = .ok (.iconst 1, 1) := by decide +kernel
theorem dX12_lists_9 : decode cX12_lists 9 = .ok (.goto 4, 3) := by decide +kernel
theorem dX12_lists_12 : decode cX12_lists 12 = .ok (.iconst 0, 1) := by decide +kernel
theorem dX12_lists_13 : decode cX12_lists 13 = .ok (.istore_n 2, 1) := by decide +kernel
theorem dX12_lists_14 : decode cX12_lists 14 = .ok (.bipush 60, 2) := by decide +kernel
theorem dX12_lists_16 : decode cX12_lists 16 = .ok (.iload_n 2, 1) := by decide +kernel
theorem dX12_lists_17 : decode cX12_lists 17 = .ok (.imul, 1) := by decide +kernel
theorem dX12_lists_18 : decode cX12_lists 18 = .ok (.istore_n 3, 1) := by decide +kernel
theorem dX12_lists_19 : decode cX12_lists 19 = .ok (.aload_n 0, 1) := by decide +kernel
theorem dX12_lists_20 : decode cX12_lists 20 = .ok (.getfield 89, 3) := by decide +kernel
theorem dX12_lists_23 : decode cX12_lists 23 = .ok (.iload_n 2, 1) := by decide +kernel
theorem dX12_lists_24 : decode cX12_lists 24 = .ok (.iconst 0, 1) := by decide +kernel
theorem dX12_lists_25 : decode cX12_lists 25 = .ok (.iastore, 1) := by decide +kernel
theorem dX12_lists_26 : decode cX12_lists 26 = .ok (.aload_n 0, 1) := by decide +kernel
theorem dX12_lists_27 : decode cX12_lists 27 = .ok (.getfield 86, 3) := by decide +kernel
theorem dX12_lists_30 : decode cX12_lists 30 = .ok (.iload_n 2, 1) := by decide +kernel
theorem dX12_lists_31 : decode cX12_lists 31 = .ok (.iconst 0, 1) := by decide +kernel
theorem dX12_lists_32 : decode cX12_lists 32 = .ok (.iastore, 1) := by decide +kernel
theorem dX12_lists_33 : decode cX12_lists 33 = .ok (.iconst 0, 1) := by decide +kernel
theorem dX12_lists_34 : decode cX12_lists 34 = .ok (.istore 4, 2) := by decide +kernel
theorem dX12_lists_36 : decode cX12_lists 36 = .ok (.iload 4, 2) := by decide +kernel
theorem dX12_lists_38 : decode cX12_lists 38 = .ok (.aload_n 0, 1) := by decide +kernel
theorem dX12_lists_39 : decode cX12_lists 39 = .ok (.invokevirtual 354, 3) := by decide +kernel
theorem dX12_lists_42 : decode cX12_lists 42 = .ok (.if_icmp .ge 182, 3) := by decide +kernel
theorem dX12_lists_45 : decode cX12_lists 45 = .ok (.iload_n 1, 1) := by decide +kernel
theorem dX12_lists_46 : decode cX12_lists 46 = .ok (.ifCond .eq 15, 3) := by decide +kernel
theorem dX12_lists_49 : decode cX12_lists 49 = .ok (.aload_n 0, 1) := by decide +kernel
theorem dX12_lists_50 : decode cX12_lists 50 = .ok (.iload 4, 2) := by decide +kernel
theorem dX12_lists_52 : decode cX12_lists 52 = .ok (.invokevirtual 395, 3) := by decide +kernel
theorem dX12_lists_55 : decode cX12_lists 55 = .ok (.ifCond .ne 18, 3) := by decide +kernel
theorem dX12_lists_58 : decode cX12_lists 58 = .ok (.goto 160, 3) := by decide +kernel
theorem dX12_lists_61 : decode cX12_lists 61 = .ok (.aload_n 0, 1) := by decide +kernel
theorem dX12_lists_62 : decode cX12_lists 62 = .ok (.iload 4, 2) := by decide +kernel
theorem dX12_lists_64 : decode cX12_lists 64 = .ok (.invokevirtual 398, 3) := by decide +kernel
theorem dX12_lists_67 : decode cX12_lists 67 = .ok (.ifCond .ne 6, 3) := by decide +kernel
theorem dX12_lists_70 : decode cX12_lists 70 = .ok (.goto 148, 3) := by decide +kernel
theorem dX12_lists_73 : decode cX12_lists 73 = .ok (.aload_n 0, 1) := by decide +kernel
theorem dX12_lists_74 : decode cX12_lists 74 = .ok (.getfield 89, 3) := by decide +kernel
theorem dX12_lists_77 : decode cX12_lists 77 = .ok (.iload_n 2, 1) := by decide +kernel
theorem dX12_lists_78 : decode cX12_lists 78 = .ok (.dup2, 1) := by decide +kernel
theorem dX12_lists_79 : decode cX12_lists 79 = .ok (.iaload, 1) := by decide +kernel
theorem dX12_lists_80 : decode cX12_lists 80 = .ok (.iconst 1, 1) := by decide +kernel
theorem dX12_lists_81 : decode cX12_lists 81 = .ok (.iadd, 1) := by decide +kernel
theorem dX12_lists_82 : decode cX12_lists 82 = .ok (.iastore, 1) := by decide +kernel
theorem dX12_lists_83 : decode cX12_lists 83 = .ok (.aload_n 0, 1) := by decide +kernel
theorem dX12_lists_84 : decode cX12_lists 84 = .ok (.iload 4, 2) := by decide +kernel
theorem dX12_lists_86 : decode cX12_lists 86 = .ok (.iload_n 1, 1) := by decide +kernel
theorem dX12_lists_87 : decode cX12_lists 87 = .ok (.invokevirtual 401, 3) := by decide +kernel
theorem dX12_lists_90 : decode cX12_lists 90 = .ok (.lstore 5, 2) := by decide +kernel
theorem dX12_lists_92 : decode cX12_lists 92 = .ok (.aload_n 0, 1) := by decide +kernel
theorem dX12_lists_93 : decode cX12_lists 93 = .ok (.getfield 86, 3) := by decide +kernel
theorem dX12_lists_96 : decode cX12_lists 96 = .ok (.iload_n 2, 1) := by decide +kernel
theorem dX12_lists_97 : decode cX12_lists 97 = .ok (.iaload, 1) := by decide +kernel
theorem dX12_lists_98 : decode cX12_lists 98 = .ok (.istore 7, 2) := by decide +kernel
theorem dX12_lists_100 : decode cX12_lists 100 = .ok (.iload 7, 2) := by decide +kernel
theorem dX12_lists_102 : decode cX12_lists 102 = .ok (.ifCond .le 31, 3) := by decide +kernel
theorem dX12_lists_105 : decode cX12_lists 105 = .ok (.aload_n 0, 1) := by decide +kernel
theorem dX12_lists_106 : decode cX12_lists 106 = .ok (.aload_n 0, 1) := by decide +kernel
theorem dX12_lists_107 : decode cX12_lists 107 = .ok (.getfield 83, 3) := by decide +kernel
theorem dX12_lists_110 : decode cX12_lists 110 = .ok (.iload_n 3, 1) := by decide +kernel
theorem dX12_lists_111 : decode cX12_lists 111 = .ok (.iload 7, 2) := by decide +kernel
theorem dX12_lists_113 : decode cX12_lists 113 = .ok (.iadd, 1) := by decide +kernel
theorem dX12_lists_114 : decode cX12_lists 114 = .ok (.iconst 1, 1) := by decide +kernel
theorem dX12_lists_115 : decode cX12_lists 115 = .ok (.isub, 1) := by decide +kernel
theorem dX12_lists_116 : decode cX12_lists 116 = .ok (.iaload, 1) := by decide +kernel
theorem dX12_lists_117 : decode cX12_lists 117 = .ok (.iload_n 1, 1) := by decide +kernel
theorem dX12_lists_118 : decode cX12_lists 118 = .ok (.invokevirtual 401, 3) := by decide +kernel
theorem dX12_lists_121 : decode cX12_lists 121 = .ok (.lload 5, 2) := by decide +kernel
theorem dX12_lists_123 : decode cX12_lists 123 = .ok (.lcmp, 1) := by decide +kernel
theorem dX12_lists_124 : decode cX12_lists 124 = .ok (.ifCond .ge 9, 3) := by decide +kernel
theorem dX12_lists_127 : decode cX12_lists 127 = .ok (.iinc 7 (-1), 3) := by decide +kernel
theorem dX12_lists_130 : decode cX12_lists 130 = .ok (.goto (-30), 3) := by decide +kernel
theorem dX12_lists_133 : decode cX12_lists 133 = .ok (.iload 7, 2) := by decide +kernel
theorem dX12_lists_135 : decode cX12_lists 135 = .ok (.bipush 60, 2) := by decide +kernel
theorem dX12_lists_137 : decode cX12_lists 137 = .ok (.if_icmp .ne 6, 3) := by decide +kernel
theorem dX12_lists_140 : decode cX12_lists 140 = .ok (.goto 78, 3) := by decide +kernel
theorem dX12_lists_143 : decode cX12_lists 143 = .ok (.aload_n 0, 1) := by decide +kernel
theorem dX12_lists_144 : decode cX12_lists 144 = .ok (.getfield 86, 3) := by decide +kernel
theorem dX12_lists_147 : decode cX12_lists 147 = .ok (.iload_n 2, 1) := by decide +kernel
theorem dX12_lists_148 : decode cX12_lists 148 = .ok (.iaload, 1) := by decide +kernel
theorem dX12_lists_149 : decode cX12_lists 149 = .ok (.bipush 60, 2) := by decide +kernel
theorem dX12_lists_151 : decode cX12_lists 151 = .ok (.if_icmp .ge 13, 3) := by decide +kernel
theorem dX12_lists_154 : decode cX12_lists 154 = .ok (.aload_n 0, 1) := by decide +kernel
theorem dX12_lists_155 : decode cX12_lists 155 = .ok (.getfield 86, 3) := by decide +kernel
theorem dX12_lists_158 : decode cX12_lists 158 = .ok (.iload_n 2, 1) := by decide +kernel
theorem dX12_lists_159 : decode cX12_lists 159 = .ok (.dup2, 1) := by decide +kernel
theorem dX12_lists_160 : decode cX12_lists 160 = .ok (.iaload, 1) := by decide +kernel
theorem dX12_lists_161 : decode cX12_lists 161 = .ok (.iconst 1, 1) := by decide +kernel
theorem dX12_lists_162 : decode cX12_lists 162 = .ok (.iadd, 1) := by decide +kernel
theorem dX12_lists_163 : decode cX12_lists 163 = .ok (.iastore, 1) := by decide +kernel
theorem dX12_lists_164 : decode cX12_lists 164 = .ok (.aload_n 0, 1) := by decide +kernel
theorem dX12_lists_165 : decode cX12_lists 165 = .ok (.getfield 86, 3) := by decide +kernel
theorem dX12_lists_168 : decode cX12_lists 168 = .ok (.iload_n 2, 1) := by decide +kernel
theorem dX12_lists_169 : decode cX12_lists 169 = .ok (.iaload, 1) := by decide +kernel
theorem dX12_lists_170 : decode cX12_lists 170 = .ok (.iconst 1, 1) := by decide +kernel
theorem dX12_lists_171 : decode cX12_lists 171 = .ok (.isub, 1) := by decide +kernel
theorem dX12_lists_172 : decode cX12_lists 172 = .ok (.istore 8, 2) := by decide +kernel
theorem dX12_lists_174 : decode cX12_lists 174 = .ok (.iload 8, 2) := by decide +kernel
theorem dX12_lists_176 : decode cX12_lists 176 = .ok (.iload 7, 2) := by decide +kernel
theorem dX12_lists_178 : decode cX12_lists 178 = .ok (.if_icmp .le 29, 3) := by decide +kernel
theorem dX12_lists_181 : decode cX12_lists 181 = .ok (.aload_n 0, 1) := by decide +kernel
theorem dX12_lists_182 : decode cX12_lists 182 = .ok (.getfield 83, 3) := by decide +kernel
theorem dX12_lists_185 : decode cX12_lists 185 = .ok (.iload_n 3, 1) := by decide +kernel
theorem dX12_lists_186 : decode cX12_lists 186 = .ok (.iload 8, 2) := by decide +kernel
theorem dX12_lists_188 : decode cX12_lists 188 = .ok (.iadd, 1) := by decide +kernel
theorem dX12_lists_189 : decode cX12_lists 189 = .ok (.aload_n 0, 1) := by decide +kernel
theorem dX12_lists_190 : decode cX12_lists 190 = .ok (.getfield 83, 3) := by decide +kernel
theorem dX12_lists_193 : decode cX12_lists 193 = .ok (.iload_n 3, 1) := by decide +kernel
theorem dX12_lists_194 : decode cX12_lists 194 = .ok (.iload 8, 2) := by decide +kernel
theorem dX12_lists_196 : decode cX12_lists 196 = .ok (.iadd, 1) := by decide +kernel
theorem dX12_lists_197 : decode cX12_lists 197 = .ok (.iconst 1, 1) := by decide +kernel
theorem dX12_lists_198 : decode cX12_lists 198 = .ok (.isub, 1) := by decide +kernel
theorem dX12_lists_199 : decode cX12_lists 199 = .ok (.iaload, 1) := by decide +kernel
theorem dX12_lists_200 : decode cX12_lists 200 = .ok (.iastore, 1) := by decide +kernel
theorem dX12_lists_201 : decode cX12_lists 201 = .ok (.iinc 8 (-1), 3) := by decide +kernel
theorem dX12_lists_204 : decode cX12_lists 204 = .ok (.goto (-30), 3) := by decide +kernel
theorem dX12_lists_207 : decode cX12_lists 207 = .ok (.aload_n 0, 1) := by decide +kernel
theorem dX12_lists_208 : decode cX12_lists 208 = .ok (.getfield 83, 3) := by decide +kernel
theorem dX12_lists_211 : decode cX12_lists 211 = .ok (.iload_n 3, 1) := by decide +kernel
theorem dX12_lists_212 : decode cX12_lists 212 = .ok (.iload 7, 2) := by decide +kernel
theorem dX12_lists_214 : decode cX12_lists 214 = .ok (.iadd, 1) := by decide +kernel
theorem dX12_lists_215 : decode cX12_lists 215 = .ok (.iload 4, 2) := by decide +kernel
theorem dX12_lists_217 : decode cX12_lists 217 = .ok (.iastore, 1) := by decide +kernel
theorem dX12_lists_218 : decode cX12_lists 218 = .ok (.iinc 4 1, 3) := by decide +kernel
theorem dX12_lists_221 : decode cX12_lists 221 = .ok (.goto (-185), 3) := by decide +kernel
theorem dX12_lists_224 : decode cX12_lists 224 = .ok (.return_, 1) := by decide +kernel
abbrev o_X12_lists : Type := Int32 × Int32 × Int32 × (Nat → Int32) × (Nat → Int32) × (Nat → Int32) × (Nat → Int32) × (Nat → Int32) × (Nat → Int32) × (Nat → Int32)
def f_X12_lists_L174 (x4 : Int32) (x27 : Int32) (k207_35 : (Nat → Int32) → (Option o_X12_lists)) (r40 : (Int32) → (Nat → Int32) → (Option o_X12_lists)) (x38 : Int32) (a39 : Nat → Int32) : Option o_X12_lists :=
if x38 ≤ x27 then (
k207_35 a39) else (
gd (okx ((x4 + x38) - (1 : Int32)) 120) <|
lz (a39 ((x4 + x38) - (1 : Int32)).toNatClampNeg) fun x42 =>
gd (okx (x4 + x38) 120) <|
lz (upd a39 (x4 + x38).toNatClampNeg x42) fun a44 =>
r40 (x38 + (-1 : Int32)) a44)
def f_X12_lists_L100 (S : wd_W) (p1 : Int32) (o1 : o_X12_lays) (x4 : Int32) (a10 : Nat → Int32) (a11 : Nat → Int32) (a23 : Nat → Int32) (o24 : o_X12_chanceOf) (k133_28 : (Int32) → (Option o_X12_lists)) (r54 : (Int32) → (Option o_X12_lists)) (x53 : Int32) : Option o_X12_lists :=
if x53 ≤ 0 then (
k133_28 x53) else (
gd (okx ((x4 + x53) - (1 : Int32)) 120) <|
bd (f_X12_chanceOf (wd_o S [(38, o1.1), (39, o1.2.1), (44, o1.2.2.1)] [] [(17, o1.2.2.2.1), (18, o1.2.2.2.2.1), (19, o1.2.2.2.2.2.1), (20, o1.2.2.2.2.2.2), (24, a10), (25, a11), (26, a23)] [] []) (a10 ((x4 + x53) - (1 : Int32)).toNatClampNeg) p1) fun o56 =>
if o24 ≤ o56 then (
k133_28 x53) else (
r54 (x53 + (-1 : Int32))))
def f_X12_lists_L36 (S : wd_W) (p1 : Int32) (o1 : o_X12_lays) (x2 : Int32) (x4 : Int32) (r13 : (Int32) → (Nat → Int32) → (Nat → Int32) → (Nat → Int32) → (Option o_X12_lists)) (x9 : Int32) (a10 : Nat → Int32) (a11 : Nat → Int32) (a12 : Nat → Int32) : Option o_X12_lists :=
bd (f_X12_sets (wd_o S [(38, o1.1), (39, o1.2.1), (44, o1.2.2.1)] [] [(17, o1.2.2.2.1), (18, o1.2.2.2.2.1), (19, o1.2.2.2.2.2.1), (20, o1.2.2.2.2.2.2), (24, a10), (25, a11), (26, a12)] [] [])) fun o14 =>
if o14 ≤ x9 then (
some (o1.1, o1.2.1, o1.2.2.1, o1.2.2.2.1, o1.2.2.2.2.1, o1.2.2.2.2.2.1, o1.2.2.2.2.2.2, a10, a11, a12)) else (
lk (fun a15 a16 a17 =>
r13 (x9 + (1 : Int32)) a15 a16 a17) fun k218_18 =>
lk (gd (okx x2 2) <|
lz ((a12 x2.toNatClampNeg) + (1 : Int32)) fun x21 =>
gd (okx x2 2) <|
lz (upd a12 x2.toNatClampNeg x21) fun a23 =>
bd (f_X12_chanceOf (wd_o S [(38, o1.1), (39, o1.2.1), (44, o1.2.2.1)] [] [(17, o1.2.2.2.1), (18, o1.2.2.2.2.1), (19, o1.2.2.2.2.2.1), (20, o1.2.2.2.2.2.2), (24, a10), (25, a11), (26, a23)] [] []) x9 p1) fun o24 =>
gd (okx x2 2) <|
lz (a11 x2.toNatClampNeg) fun x26 =>
lk (fun x27 =>
if x27 = (60 : Int32) then (
k218_18 a10 a11 a23) else (
gd (okx x2 2) <|
lk (fun a30 =>
gd (okx x2 2) <|
lz ((a30 x2.toNatClampNeg) - (1 : Int32)) fun x33 =>
lk (fun a34 =>
gd (okx (x4 + x27) 120) <|
lz (upd a34 (x4 + x27).toNatClampNeg x9) fun a37 =>
k218_18 a37 a30 a23) fun k207_35 =>
it2 (f_X12_lists_L174 x4 x27 k207_35) fuel x33 a10) fun k164_31 =>
if (60 : Int32) ≤ (a11 x2.toNatClampNeg) then (
k164_31 a11) else (
gd (okx x2 2) <|
lz ((a11 x2.toNatClampNeg) + (1 : Int32)) fun x48 =>
gd (okx x2 2) <|
lz (upd a11 x2.toNatClampNeg x48) fun a50 =>
k164_31 a50))) fun k133_28 =>
it1 (f_X12_lists_L100 S p1 o1 x4 a10 a11 a23 o24 k133_28) fuel x26) fun k73_19 =>
if p1 = 0 then (
bd (f_X12_isWay (wd_o S [(38, o1.1), (39, o1.2.1), (44, o1.2.2.1)] [] [(17, o1.2.2.2.1), (18, o1.2.2.2.2.1), (19, o1.2.2.2.2.2.1), (20, o1.2.2.2.2.2.2), (24, a10), (25, a11), (26, a12)] [] []) x9) fun o60 =>
if o60 = 0 then (
k218_18 a10 a11 a12) else (
k73_19)) else (
bd (f_X12_isCut (wd_o S [(38, o1.1), (39, o1.2.1), (44, o1.2.2.1)] [] [(17, o1.2.2.2.1), (18, o1.2.2.2.2.1), (19, o1.2.2.2.2.2.1), (20, o1.2.2.2.2.2.2), (24, a10), (25, a11), (26, a12)] [] []) x9) fun o62 =>
if o62 = 0 then (
k218_18 a10 a11 a12) else (
k73_19)))
def f_X12_lists (S : wd_W) (p1 : Int32) : Option o_X12_lists :=
bd (f_X12_lays (wd_o S [(38, (S.1 38)), (39, (S.1 39)), (44, (S.1 44))] [] [(17, (S.2.2.1 17)), (18, (S.2.2.1 18)), (19, (S.2.2.1 19)), (20, (S.2.2.1 20)), (24, (S.2.2.1 24)), (25, (S.2.2.1 25)), (26, (S.2.2.1 26))] [] [])) fun o1 =>
lk (fun x2 =>
lz ((60 : Int32) * x2) fun x4 =>
gd (okx x2 2) <|
lz (upd (S.2.2.1 26) x2.toNatClampNeg (0 : Int32)) fun a6 =>
gd (okx x2 2) <|
lz (upd (S.2.2.1 25) x2.toNatClampNeg (0 : Int32)) fun a8 =>
it4 (f_X12_lists_L36 S p1 o1 x2 x4) fuel (0 : Int32) (S.2.2.1 24) a8 a6) fun k13_3 =>
if p1 = 0 then (
k13_3 (0 : Int32)) else (
k13_3 (1 : Int32))
set_option maxRecDepth 100000 in
set_option maxHeartbeats 4000000 in
theorem c_X12_lists (l : Launch) (D : va_G) (q g : Nat → Nat) (cy : Nat → ClassId) (z : (Nat → Nat) × (Nat → Nat) × Nat) (S : wd_W) (p1 : Int32) (o : o_X12_lists) (hf : f_X12_lists S p1 = some o) : MX layM l yX12_lists cX12_lists 9 none ({ frames := 5, cells := 0, slots := 0, locals := 115 } : Room) D q g cy z [.ref (q 0), .int p1] S false (none) (wd_o S [(38, o.1), (39, o.2.1), (44, o.2.2.1)] [] [(17, o.2.2.2.1), (18, o.2.2.2.2.1), (19, o.2.2.2.2.2.1), (20, o.2.2.2.2.2.2.1), (24, o.2.2.2.2.2.2.2.1), (25, o.2.2.2.2.2.2.2.2.1), (26, o.2.2.2.2.2.2.2.2.2)] [] []) 0 0 := by
  refine mx_of (own := RX12) (lc := [(0, .ref (q 0)), (1, .int p1)]) (by decide +kernel) rfl layM_ok (Nat.le_of_ble_eq_true rfl) rfl ?_
  intro X hXl hXq hXz hC hQ
  subst hXl; subst hXq; subst hXz
  unfold f_X12_lists at hf
  refine go_keys (L1 := [(38, (S.1 38)), (39, (S.1 39)), (44, (S.1 44))]) (L2 := []) (L3 := [(17, (S.2.2.1 17)), (18, (S.2.2.1 18)), (19, (S.2.2.1 19)), (20, (S.2.2.1 20)), (24, (S.2.2.1 24)), (25, (S.2.2.1 25)), (26, (S.2.2.1 26))]) (L4 := []) (L5 := []) [38, 39, 44] [] [17, 18, 19, 20, 24, 25, 26] [] [] rfl rfl rfl rfl rfl ?_
  refine go_aload_n (pc' := 1) hC dX12_lists_0 rfl rfl ?_
  obtain ⟨o1, ho1, hf⟩ := bd_e hf
  refine go_callV1 (pc' := 4) (As := []) (st := []) (st' := []) (L1' := [(38, o1.1), (39, o1.2.1), (44, o1.2.2.1)]) (L2' := []) (L3' := [(17, o1.2.2.2.1), (18, o1.2.2.2.2.1), (19, o1.2.2.2.2.2.1), (20, o1.2.2.2.2.2.2), (24, (S.2.2.1 24)), (25, (S.2.2.1 25)), (26, (S.2.2.1 26))]) (L4' := []) (L5' := []) (cells' := 0) (slots' := 0)  (b := 0) hC dX12_lists_1 ⟨mw_860, mw_863, mw_5, yd_yX12_lays, yp_yX12_lays, Nat.le_of_ble_eq_true rfl, Nat.le_of_ble_eq_true rfl, (Nat.le_of_ble_eq_true rfl), (Nat.le_of_ble_eq_true rfl)⟩ mw_861 mw_862 layM_0 rfl rfl rfl (Nat.le_of_ble_eq_true rfl) (c_X12_lays (x_l X) (x_D X) (x_q X) g (x_cy X) (x_z X) _  o1 ho1) rfl rfl rfl rfl rfl rfl rfl rfl rfl rfl rfl rfl rfl rfl ?_
  refine go_iload_n (pc' := 5) hC dX12_lists_4 rfl rfl ?_
  obtain ⟨k13_3, hk13_3, hf⟩ := lk_e1 hf
  have jk13_3 : ∀ (x2 : Int32), k13_3 x2 = some o → Go X layM S 13 [(0, .ref (x_q X 0)), (1, .int p1)] [.int x2] g [(38, o1.1), (39, o1.2.1), (44, o1.2.2.1)] [] [(17, o1.2.2.2.1), (18, o1.2.2.2.2.1), (19, o1.2.2.2.2.2.1), (20, o1.2.2.2.2.2.2), (24, (S.2.2.1 24)), (25, (S.2.2.1 25)), (26, (S.2.2.1 26))] [] [] 0 0 := by
    intro x2 hf
    have hf := hk13_3 x2 hf
    clear hk13_3
    refine go_istore_n (lc' := [(0, .ref (x_q X 0)), (1, .int p1), (2, .int x2)]) (pc' := 14) hC dX12_lists_13 (Nat.le_of_ble_eq_true rfl) rfl rfl ?_
    refine go_bipush (pc' := 16) hC dX12_lists_14 kb_60 rfl ?_
    refine go_iload_n (pc' := 17) hC dX12_lists_16 rfl rfl ?_
    refine go_imul (pc' := 18) hC dX12_lists_17 rfl ?_
    refine go_namei (fun x4 hx => ?_)
    have hf := lz_r hx hf
    clear hx
    refine go_istore_n (lc' := [(0, .ref (x_q X 0)), (1, .int p1), (2, .int x2), (3, .int x4)]) (pc' := 19) hC dX12_lists_18 (Nat.le_of_ble_eq_true rfl) rfl rfl ?_
    refine go_aload_n (pc' := 20) hC dX12_lists_19 rfl rfl ?_
    refine go_getq (pc' := 23) hC 0 50 layM_0 rfl rfl inlX12 (Nat.le_of_ble_eq_true rfl) mw_207 rfl dX12_lists_20 rfl ?_
    refine go_iload_n (pc' := 24) hC dX12_lists_23 rfl rfl ?_
    refine go_iconst (pc' := 25) hC dX12_lists_24 ki_0 rfl ?_
    obtain ⟨h5, hf⟩ := gd_e hf
    refine go_iast (f := (S.2.2.1 26)) (pc' := 26) hC 26 layM_26 rfl rfl dX12_lists_25 (okx_in h5) rfl rfl (fun a6 ha L3' hL => ?_)
    have hf := lz_r ha hf
    clear ha
    obtain rfl : L3' = [(17, o1.2.2.2.1), (18, o1.2.2.2.2.1), (19, o1.2.2.2.2.2.1), (20, o1.2.2.2.2.2.2), (24, (S.2.2.1 24)), (25, (S.2.2.1 25)), (26, a6)] := hL.symm
    refine go_aload_n (pc' := 27) hC dX12_lists_26 rfl rfl ?_
    refine go_getq (pc' := 30) hC 0 49 layM_0 rfl rfl inlX12 (Nat.le_of_ble_eq_true rfl) mw_206 rfl dX12_lists_27 rfl ?_
    refine go_iload_n (pc' := 31) hC dX12_lists_30 rfl rfl ?_
    refine go_iconst (pc' := 32) hC dX12_lists_31 ki_0 rfl ?_
    obtain ⟨h7, hf⟩ := gd_e hf
    refine go_iast (f := (S.2.2.1 25)) (pc' := 33) hC 25 layM_25 rfl rfl dX12_lists_32 (okx_in h7) rfl rfl (fun a8 ha L3' hL => ?_)
    have hf := lz_r ha hf
    clear ha
    obtain rfl : L3' = [(17, o1.2.2.2.1), (18, o1.2.2.2.2.1), (19, o1.2.2.2.2.2.1), (20, o1.2.2.2.2.2.2), (24, (S.2.2.1 24)), (25, a8), (26, a6)] := hL.symm
    refine go_iconst (pc' := 34) hC dX12_lists_33 ki_0 rfl ?_
    refine go_istore (lc' := [(0, .ref (x_q X 0)), (1, .int p1), (2, .int x2), (3, .int x4), (4, .int (0 : Int32))]) (pc' := 36) hC dX12_lists_34 (Nat.le_of_ble_eq_true rfl) rfl rfl ?_
    have l36_66 : ∀ (nn : Nat) (x9 : Int32) (a10 : Nat → Int32) (a11 : Nat → Int32) (a12 : Nat → Int32), it4 (f_X12_lists_L36 S p1 o1 x2 x4) nn x9 a10 a11 a12 = some o → Go X layM S 36 [(0, .ref (x_q X 0)), (1, .int p1), (2, .int x2), (3, .int x4), (4, .int x9)] [] g [(38, o1.1), (39, o1.2.1), (44, o1.2.2.1)] [] [(17, o1.2.2.2.1), (18, o1.2.2.2.2.1), (19, o1.2.2.2.2.2.1), (20, o1.2.2.2.2.2.2), (24, a10), (25, a11), (26, a12)] [] [] 0 0 := by
      intro nn
      induction nn with
      | zero =>
        intro x9 a10 a11 a12 hf
        exact none_no hf
      | succ nn ih =>
        intro x9 a10 a11 a12 hf
        have hf : f_X12_lists_L36 S p1 o1 x2 x4 (it4 (f_X12_lists_L36 S p1 o1 x2 x4) nn) x9 a10 a11 a12 = some o := hf
        generalize it4 (f_X12_lists_L36 S p1 o1 x2 x4) nn = r13 at ih hf
        unfold f_X12_lists_L36 at hf
        refine go_iload (pc' := 38) hC dX12_lists_36 rfl rfl ?_
        refine go_aload_n (pc' := 39) hC dX12_lists_38 rfl rfl ?_
        obtain ⟨o14, ho14, hf⟩ := bd_e hf
        refine go_callV0 (pc' := 42) (As := []) (st := [.int x9]) (st' := [.int o14, .int x9])    (b := 0) hC dX12_lists_39 ⟨mw_856, mw_859, mw_5, yd_yX12_sets, yp_yX12_sets, Nat.le_of_ble_eq_true rfl, Nat.le_of_ble_eq_true rfl, (Nat.le_of_ble_eq_true rfl), (Nat.le_of_ble_eq_true rfl)⟩ mw_857 mw_858 layM_0 rfl rfl rfl (Nat.le_of_ble_eq_true rfl) (c_X12_sets (x_l X) (x_D X) (x_q X) g (x_cy X) (x_z X) _  o14 ho14) rfl rfl ?_
        refine go_icmp_ge (tgt := 224) (pc' := 45) hC dX12_lists_42 (by decide) rfl (fun h65 => ?_) (fun h65 => ?_)
        · have hf := ite_t h65 hf
          obtain rfl := Option.some.inj hf
          exact go_vret hC hQ dX12_lists_224 rfl rfl rfl (fun _ => rfl) rfl rfl
        · have hf := ite_f h65 hf
          refine go_iload_n (pc' := 46) hC dX12_lists_45 rfl rfl ?_
          obtain ⟨k218_18, hk218_18, hf⟩ := lk_e3 hf
          have jk218_18 : ∀ (a15 : Nat → Int32) (a16 : Nat → Int32) (a17 : Nat → Int32), k218_18 a15 a16 a17 = some o → Go X layM S 218 [(0, .ref (x_q X 0)), (1, .int p1), (2, .int x2), (3, .int x4), (4, .int x9)] [] g [(38, o1.1), (39, o1.2.1), (44, o1.2.2.1)] [] [(17, o1.2.2.2.1), (18, o1.2.2.2.2.1), (19, o1.2.2.2.2.2.1), (20, o1.2.2.2.2.2.2), (24, a15), (25, a16), (26, a17)] [] [] 0 0 := by
            intro a15 a16 a17 hf
            have hf := hk218_18 a15 a16 a17 hf
            clear hk218_18
            refine go_iinc (lc' := [(0, .ref (x_q X 0)), (1, .int p1), (2, .int x2), (3, .int x4), (4, .int (x9 + (1 : Int32)))]) (pc' := 221) hC dX12_lists_218 rfl ki_1 (Nat.le_of_ble_eq_true rfl) rfl rfl ?_
            refine go_goto (tgt := 36) hC dX12_lists_221 (by decide) ?_
            exact ih (x9 + (1 : Int32)) a15 a16 a17 hf
          clear hk218_18
          obtain ⟨k73_19, hk73_19, hf⟩ := lk_e0 hf
          have jk73_19 : ∀ (_ : Unit), k73_19 = some o → Go X layM S 73 [(0, .ref (x_q X 0)), (1, .int p1), (2, .int x2), (3, .int x4), (4, .int x9)] [] g [(38, o1.1), (39, o1.2.1), (44, o1.2.2.1)] [] [(17, o1.2.2.2.1), (18, o1.2.2.2.2.1), (19, o1.2.2.2.2.2.1), (20, o1.2.2.2.2.2.2), (24, a10), (25, a11), (26, a12)] [] [] 0 0 := by
            intro _ hf
            have hf := hk73_19 hf
            clear hk73_19
            refine go_aload_n (pc' := 74) hC dX12_lists_73 rfl rfl ?_
            refine go_getq (pc' := 77) hC 0 50 layM_0 rfl rfl inlX12 (Nat.le_of_ble_eq_true rfl) mw_207 rfl dX12_lists_74 rfl ?_
            refine go_iload_n (pc' := 78) hC dX12_lists_77 rfl rfl ?_
            refine go_dup2 (pc' := 79) hC dX12_lists_78 rfl rfl rfl ?_
            obtain ⟨h20, hf⟩ := gd_e hf
            refine go_iald (f := a12) (pc' := 80) hC 26 layM_26 rfl rfl dX12_lists_79 (okx_in h20) rfl ?_
            refine go_iconst (pc' := 81) hC dX12_lists_80 ki_1 rfl ?_
            refine go_iadd (pc' := 82) hC dX12_lists_81 rfl ?_
            refine go_namei (fun x21 hx => ?_)
            have hf := lz_r hx hf
            clear hx
            obtain ⟨h22, hf⟩ := gd_e hf
            refine go_iast (f := a12) (pc' := 83) hC 26 layM_26 rfl rfl dX12_lists_82 (okx_in h22) rfl rfl (fun a23 ha L3' hL => ?_)
            have hf := lz_r ha hf
            clear ha
            obtain rfl : L3' = [(17, o1.2.2.2.1), (18, o1.2.2.2.2.1), (19, o1.2.2.2.2.2.1), (20, o1.2.2.2.2.2.2), (24, a10), (25, a11), (26, a23)] := hL.symm
            refine go_aload_n (pc' := 84) hC dX12_lists_83 rfl rfl ?_
            refine go_iload (pc' := 86) hC dX12_lists_84 rfl rfl ?_
            refine go_iload_n (pc' := 87) hC dX12_lists_86 rfl rfl ?_
            obtain ⟨o24, ho24, hf⟩ := bd_e hf
            refine go_callV0 (pc' := 90) (As := [.int x9, .int p1]) (st := []) (st' := [.long o24])    (b := 0) hC dX12_lists_87 ⟨mw_1034, mw_1037, mw_5, yd_yX12_chanceOf, yp_yX12_chanceOf, Nat.le_of_ble_eq_true rfl, Nat.le_of_ble_eq_true rfl, (Nat.le_of_ble_eq_true rfl), (Nat.le_of_ble_eq_true rfl)⟩ mw_1035 mw_1036 layM_0 rfl rfl rfl (Nat.le_of_ble_eq_true rfl) (c_X12_chanceOf (x_l X) (x_D X) (x_q X) g (x_cy X) (x_z X) _ x9 p1 o24 ho24) rfl rfl ?_
            refine go_lstore (lc' := [(0, .ref (x_q X 0)), (1, .int p1), (2, .int x2), (3, .int x4), (4, .int x9), (5, .long o24)]) (pc' := 92) hC dX12_lists_90 (Nat.le_of_ble_eq_true rfl) rfl rfl ?_
            refine go_aload_n (pc' := 93) hC dX12_lists_92 rfl rfl ?_
            refine go_getq (pc' := 96) hC 0 49 layM_0 rfl rfl inlX12 (Nat.le_of_ble_eq_true rfl) mw_206 rfl dX12_lists_93 rfl ?_
            refine go_iload_n (pc' := 97) hC dX12_lists_96 rfl rfl ?_
            obtain ⟨h25, hf⟩ := gd_e hf
            refine go_iald (f := a11) (pc' := 98) hC 25 layM_25 rfl rfl dX12_lists_97 (okx_in h25) rfl ?_
            refine go_namei (fun x26 hx => ?_)
            have hf := lz_r hx hf
            clear hx
            refine go_istore (lc' := [(0, .ref (x_q X 0)), (1, .int p1), (2, .int x2), (3, .int x4), (4, .int x9), (5, .long o24), (7, .int x26)]) (pc' := 100) hC dX12_lists_98 (Nat.le_of_ble_eq_true rfl) rfl rfl ?_
            obtain ⟨k133_28, hk133_28, hf⟩ := lk_e1 hf
            have jk133_28 : ∀ (x27 : Int32), k133_28 x27 = some o → Go X layM S 133 [(0, .ref (x_q X 0)), (1, .int p1), (2, .int x2), (3, .int x4), (4, .int x9), (7, .int x27)] [] g [(38, o1.1), (39, o1.2.1), (44, o1.2.2.1)] [] [(17, o1.2.2.2.1), (18, o1.2.2.2.2.1), (19, o1.2.2.2.2.2.1), (20, o1.2.2.2.2.2.2), (24, a10), (25, a11), (26, a23)] [] [] 0 0 := by
              intro x27 hf
              have hf := hk133_28 x27 hf
              clear hk133_28
              refine go_iload (pc' := 135) hC dX12_lists_133 rfl rfl ?_
              refine go_bipush (pc' := 137) hC dX12_lists_135 kb_60 rfl ?_
              refine go_icmp_ne (tgt := 143) (pc' := 140) hC dX12_lists_137 (by decide) rfl (fun h52 => ?_) (fun h52 => ?_)
              · have hf := ite_f h52 hf
                refine go_aload_n (pc' := 144) hC dX12_lists_143 rfl rfl ?_
                refine go_getq (pc' := 147) hC 0 49 layM_0 rfl rfl inlX12 (Nat.le_of_ble_eq_true rfl) mw_206 rfl dX12_lists_144 rfl ?_
                refine go_iload_n (pc' := 148) hC dX12_lists_147 rfl rfl ?_
                obtain ⟨h29, hf⟩ := gd_e hf
                refine go_iald (f := a11) (pc' := 149) hC 25 layM_25 rfl rfl dX12_lists_148 (okx_in h29) rfl ?_
                refine go_bipush (pc' := 151) hC dX12_lists_149 kb_60 rfl ?_
                obtain ⟨k164_31, hk164_31, hf⟩ := lk_e1 hf
                have jk164_31 : ∀ (a30 : Nat → Int32), k164_31 a30 = some o → Go X layM S 164 [(0, .ref (x_q X 0)), (1, .int p1), (2, .int x2), (3, .int x4), (4, .int x9), (7, .int x27)] [] g [(38, o1.1), (39, o1.2.1), (44, o1.2.2.1)] [] [(17, o1.2.2.2.1), (18, o1.2.2.2.2.1), (19, o1.2.2.2.2.2.1), (20, o1.2.2.2.2.2.2), (24, a10), (25, a30), (26, a23)] [] [] 0 0 := by
                  intro a30 hf
                  have hf := hk164_31 a30 hf
                  clear hk164_31
                  refine go_aload_n (pc' := 165) hC dX12_lists_164 rfl rfl ?_
                  refine go_getq (pc' := 168) hC 0 49 layM_0 rfl rfl inlX12 (Nat.le_of_ble_eq_true rfl) mw_206 rfl dX12_lists_165 rfl ?_
                  refine go_iload_n (pc' := 169) hC dX12_lists_168 rfl rfl ?_
                  obtain ⟨h32, hf⟩ := gd_e hf
                  refine go_iald (f := a30) (pc' := 170) hC 25 layM_25 rfl rfl dX12_lists_169 (okx_in h32) rfl ?_
                  refine go_iconst (pc' := 171) hC dX12_lists_170 ki_1 rfl ?_
                  refine go_isub (pc' := 172) hC dX12_lists_171 rfl ?_
                  refine go_namei (fun x33 hx => ?_)
                  have hf := lz_r hx hf
                  clear hx
                  refine go_istore (lc' := [(0, .ref (x_q X 0)), (1, .int p1), (2, .int x2), (3, .int x4), (4, .int x9), (7, .int x27), (8, .int x33)]) (pc' := 174) hC dX12_lists_172 (Nat.le_of_ble_eq_true rfl) rfl rfl ?_
                  obtain ⟨k207_35, hk207_35, hf⟩ := lk_e1 hf
                  have jk207_35 : ∀ (a34 : Nat → Int32), k207_35 a34 = some o → Go X layM S 207 [(0, .ref (x_q X 0)), (1, .int p1), (2, .int x2), (3, .int x4), (4, .int x9), (7, .int x27)] [] g [(38, o1.1), (39, o1.2.1), (44, o1.2.2.1)] [] [(17, o1.2.2.2.1), (18, o1.2.2.2.2.1), (19, o1.2.2.2.2.2.1), (20, o1.2.2.2.2.2.2), (24, a34), (25, a30), (26, a23)] [] [] 0 0 := by
                    intro a34 hf
                    have hf := hk207_35 a34 hf
                    clear hk207_35
                    refine go_aload_n (pc' := 208) hC dX12_lists_207 rfl rfl ?_
                    refine go_getq (pc' := 211) hC 0 48 layM_0 rfl rfl inlX12 (Nat.le_of_ble_eq_true rfl) mw_205 rfl dX12_lists_208 rfl ?_
                    refine go_iload_n (pc' := 212) hC dX12_lists_211 rfl rfl ?_
                    refine go_iload (pc' := 214) hC dX12_lists_212 rfl rfl ?_
                    refine go_iadd (pc' := 215) hC dX12_lists_214 rfl ?_
                    refine go_iload (pc' := 217) hC dX12_lists_215 rfl rfl ?_
                    obtain ⟨h36, hf⟩ := gd_e hf
                    refine go_iast (f := a34) (pc' := 218) hC 24 layM_24 rfl rfl dX12_lists_217 (okx_in h36) rfl rfl (fun a37 ha L3' hL => ?_)
                    have hf := lz_r ha hf
                    clear ha
                    obtain rfl : L3' = [(17, o1.2.2.2.1), (18, o1.2.2.2.2.1), (19, o1.2.2.2.2.2.1), (20, o1.2.2.2.2.2.2), (24, a37), (25, a30), (26, a23)] := hL.symm
                    refine go_sub [0, 1, 2, 3, 4] rfl ?_
                    exact jk218_18 a37 a30 a23 hf
                  clear hk207_35
                  have l174_46 : ∀ (nn : Nat) (x38 : Int32) (a39 : Nat → Int32), it2 (f_X12_lists_L174 x4 x27 k207_35) nn x38 a39 = some o → Go X layM S 174 [(0, .ref (x_q X 0)), (1, .int p1), (2, .int x2), (3, .int x4), (4, .int x9), (7, .int x27), (8, .int x38)] [] g [(38, o1.1), (39, o1.2.1), (44, o1.2.2.1)] [] [(17, o1.2.2.2.1), (18, o1.2.2.2.2.1), (19, o1.2.2.2.2.2.1), (20, o1.2.2.2.2.2.2), (24, a39), (25, a30), (26, a23)] [] [] 0 0 := by
                    intro nn
                    induction nn with
                    | zero =>
                      intro x38 a39 hf
                      exact none_no hf
                    | succ nn ih =>
                      intro x38 a39 hf
                      have hf : f_X12_lists_L174 x4 x27 k207_35 (it2 (f_X12_lists_L174 x4 x27 k207_35) nn) x38 a39 = some o := hf
                      generalize it2 (f_X12_lists_L174 x4 x27 k207_35) nn = r40 at ih hf
                      unfold f_X12_lists_L174 at hf
                      refine go_iload (pc' := 176) hC dX12_lists_174 rfl rfl ?_
                      refine go_iload (pc' := 178) hC dX12_lists_176 rfl rfl ?_
                      refine go_icmp_le (tgt := 207) (pc' := 181) hC dX12_lists_178 (by decide) rfl (fun h45 => ?_) (fun h45 => ?_)
                      · have hf := ite_t h45 hf
                        refine go_sub [0, 1, 2, 3, 4, 7] rfl ?_
                        exact jk207_35 a39 hf
                      · have hf := ite_f h45 hf
                        refine go_aload_n (pc' := 182) hC dX12_lists_181 rfl rfl ?_
                        refine go_getq (pc' := 185) hC 0 48 layM_0 rfl rfl inlX12 (Nat.le_of_ble_eq_true rfl) mw_205 rfl dX12_lists_182 rfl ?_
                        refine go_iload_n (pc' := 186) hC dX12_lists_185 rfl rfl ?_
                        refine go_iload (pc' := 188) hC dX12_lists_186 rfl rfl ?_
                        refine go_iadd (pc' := 189) hC dX12_lists_188 rfl ?_
                        refine go_aload_n (pc' := 190) hC dX12_lists_189 rfl rfl ?_
                        refine go_getq (pc' := 193) hC 0 48 layM_0 rfl rfl inlX12 (Nat.le_of_ble_eq_true rfl) mw_205 rfl dX12_lists_190 rfl ?_
                        refine go_iload_n (pc' := 194) hC dX12_lists_193 rfl rfl ?_
                        refine go_iload (pc' := 196) hC dX12_lists_194 rfl rfl ?_
                        refine go_iadd (pc' := 197) hC dX12_lists_196 rfl ?_
                        refine go_iconst (pc' := 198) hC dX12_lists_197 ki_1 rfl ?_
                        refine go_isub (pc' := 199) hC dX12_lists_198 rfl ?_
                        obtain ⟨h41, hf⟩ := gd_e hf
                        refine go_iald (f := a39) (pc' := 200) hC 24 layM_24 rfl rfl dX12_lists_199 (okx_in h41) rfl ?_
                        refine go_namei (fun x42 hx => ?_)
                        have hf := lz_r hx hf
                        clear hx
                        obtain ⟨h43, hf⟩ := gd_e hf
                        refine go_iast (f := a39) (pc' := 201) hC 24 layM_24 rfl rfl dX12_lists_200 (okx_in h43) rfl rfl (fun a44 ha L3' hL => ?_)
                        have hf := lz_r ha hf
                        clear ha
                        obtain rfl : L3' = [(17, o1.2.2.2.1), (18, o1.2.2.2.2.1), (19, o1.2.2.2.2.2.1), (20, o1.2.2.2.2.2.2), (24, a44), (25, a30), (26, a23)] := hL.symm
                        refine go_iinc (lc' := [(0, .ref (x_q X 0)), (1, .int p1), (2, .int x2), (3, .int x4), (4, .int x9), (7, .int x27), (8, .int (x38 + (-1 : Int32)))]) (pc' := 204) hC dX12_lists_201 rfl ki_m1 (Nat.le_of_ble_eq_true rfl) rfl rfl ?_
                        refine go_goto (tgt := 174) hC dX12_lists_204 (by decide) ?_
                        exact ih (x38 + (-1 : Int32)) a44 hf
                  exact l174_46 fuel x33 a10 hf
                clear hk164_31
                refine go_icmp_ge (tgt := 164) (pc' := 154) hC dX12_lists_151 (by decide) rfl (fun h51 => ?_) (fun h51 => ?_)
                · have hf := ite_t h51 hf
                  exact jk164_31 a11 hf
                · have hf := ite_f h51 hf
                  refine go_aload_n (pc' := 155) hC dX12_lists_154 rfl rfl ?_
                  refine go_getq (pc' := 158) hC 0 49 layM_0 rfl rfl inlX12 (Nat.le_of_ble_eq_true rfl) mw_206 rfl dX12_lists_155 rfl ?_
                  refine go_iload_n (pc' := 159) hC dX12_lists_158 rfl rfl ?_
                  refine go_dup2 (pc' := 160) hC dX12_lists_159 rfl rfl rfl ?_
                  obtain ⟨h47, hf⟩ := gd_e hf
                  refine go_iald (f := a11) (pc' := 161) hC 25 layM_25 rfl rfl dX12_lists_160 (okx_in h47) rfl ?_
                  refine go_iconst (pc' := 162) hC dX12_lists_161 ki_1 rfl ?_
                  refine go_iadd (pc' := 163) hC dX12_lists_162 rfl ?_
                  refine go_namei (fun x48 hx => ?_)
                  have hf := lz_r hx hf
                  clear hx
                  obtain ⟨h49, hf⟩ := gd_e hf
                  refine go_iast (f := a11) (pc' := 164) hC 25 layM_25 rfl rfl dX12_lists_163 (okx_in h49) rfl rfl (fun a50 ha L3' hL => ?_)
                  have hf := lz_r ha hf
                  clear ha
                  obtain rfl : L3' = [(17, o1.2.2.2.1), (18, o1.2.2.2.2.1), (19, o1.2.2.2.2.2.1), (20, o1.2.2.2.2.2.2), (24, a10), (25, a50), (26, a23)] := hL.symm
                  exact jk164_31 a50 hf
              · have hf := ite_t h52 hf
                refine go_goto (tgt := 218) hC dX12_lists_140 (by decide) ?_
                refine go_sub [0, 1, 2, 3, 4] rfl ?_
                exact jk218_18 a10 a11 a23 hf
            clear hk133_28
            have l100_59 : ∀ (nn : Nat) (x53 : Int32), it1 (f_X12_lists_L100 S p1 o1 x4 a10 a11 a23 o24 k133_28) nn x53 = some o → Go X layM S 100 [(0, .ref (x_q X 0)), (1, .int p1), (2, .int x2), (3, .int x4), (4, .int x9), (5, .long o24), (7, .int x53)] [] g [(38, o1.1), (39, o1.2.1), (44, o1.2.2.1)] [] [(17, o1.2.2.2.1), (18, o1.2.2.2.2.1), (19, o1.2.2.2.2.2.1), (20, o1.2.2.2.2.2.2), (24, a10), (25, a11), (26, a23)] [] [] 0 0 := by
              intro nn
              induction nn with
              | zero =>
                intro x53 hf
                exact none_no hf
              | succ nn ih =>
                intro x53 hf
                have hf : f_X12_lists_L100 S p1 o1 x4 a10 a11 a23 o24 k133_28 (it1 (f_X12_lists_L100 S p1 o1 x4 a10 a11 a23 o24 k133_28) nn) x53 = some o := hf
                generalize it1 (f_X12_lists_L100 S p1 o1 x4 a10 a11 a23 o24 k133_28) nn = r54 at ih hf
                unfold f_X12_lists_L100 at hf
                refine go_iload (pc' := 102) hC dX12_lists_100 rfl rfl ?_
                refine go_if_le (tgt := 133) (pc' := 105) hC dX12_lists_102 (by decide) rfl (fun h58 => ?_) (fun h58 => ?_)
                · have hf := ite_t h58 hf
                  refine go_sub [0, 1, 2, 3, 4, 7] rfl ?_
                  exact jk133_28 x53 hf
                · have hf := ite_f h58 hf
                  refine go_aload_n (pc' := 106) hC dX12_lists_105 rfl rfl ?_
                  refine go_aload_n (pc' := 107) hC dX12_lists_106 rfl rfl ?_
                  refine go_getq (pc' := 110) hC 0 48 layM_0 rfl rfl inlX12 (Nat.le_of_ble_eq_true rfl) mw_205 rfl dX12_lists_107 rfl ?_
                  refine go_iload_n (pc' := 111) hC dX12_lists_110 rfl rfl ?_
                  refine go_iload (pc' := 113) hC dX12_lists_111 rfl rfl ?_
                  refine go_iadd (pc' := 114) hC dX12_lists_113 rfl ?_
                  refine go_iconst (pc' := 115) hC dX12_lists_114 ki_1 rfl ?_
                  refine go_isub (pc' := 116) hC dX12_lists_115 rfl ?_
                  obtain ⟨h55, hf⟩ := gd_e hf
                  refine go_iald (f := a10) (pc' := 117) hC 24 layM_24 rfl rfl dX12_lists_116 (okx_in h55) rfl ?_
                  refine go_iload_n (pc' := 118) hC dX12_lists_117 rfl rfl ?_
                  obtain ⟨o56, ho56, hf⟩ := bd_e hf
                  refine go_callV0 (pc' := 121) (As := [.int (a10 ((x4 + x53) - (1 : Int32)).toNatClampNeg), .int p1]) (st := []) (st' := [.long o56])    (b := 0) hC dX12_lists_118 ⟨mw_1034, mw_1037, mw_5, yd_yX12_chanceOf, yp_yX12_chanceOf, Nat.le_of_ble_eq_true rfl, Nat.le_of_ble_eq_true rfl, (Nat.le_of_ble_eq_true rfl), (Nat.le_of_ble_eq_true rfl)⟩ mw_1035 mw_1036 layM_0 rfl rfl rfl (Nat.le_of_ble_eq_true rfl) (c_X12_chanceOf (x_l X) (x_D X) (x_q X) g (x_cy X) (x_z X) _ (a10 ((x4 + x53) - (1 : Int32)).toNatClampNeg) p1 o56 ho56) rfl rfl ?_
                  refine go_lload (pc' := 123) hC dX12_lists_121 rfl rfl ?_
                  refine go_lcmp (pc' := 124) hC dX12_lists_123 rfl ?_
                  refine go_if_ge (tgt := 133) (pc' := 127) hC dX12_lists_124 (by decide) rfl (fun h57 => ?_) (fun h57 => ?_)
                  · have hf := ite_t (lg_ge.mp h57) hf
                    refine go_sub [0, 1, 2, 3, 4, 7] rfl ?_
                    exact jk133_28 x53 hf
                  · have hf := ite_f (mt lg_ge.mpr h57) hf
                    refine go_iinc (lc' := [(0, .ref (x_q X 0)), (1, .int p1), (2, .int x2), (3, .int x4), (4, .int x9), (5, .long o24), (7, .int (x53 + (-1 : Int32)))]) (pc' := 130) hC dX12_lists_127 rfl ki_m1 (Nat.le_of_ble_eq_true rfl) rfl rfl ?_
                    refine go_goto (tgt := 100) hC dX12_lists_130 (by decide) ?_
                    exact ih (x53 + (-1 : Int32)) hf
            exact l100_59 fuel x26 hf
          clear hk73_19
          refine go_if_eq (tgt := 61) (pc' := 49) hC dX12_lists_46 (by decide) rfl (fun h64 => ?_) (fun h64 => ?_)
          · have hf := ite_t h64 hf
            refine go_aload_n (pc' := 62) hC dX12_lists_61 rfl rfl ?_
            refine go_iload (pc' := 64) hC dX12_lists_62 rfl rfl ?_
            obtain ⟨o60, ho60, hf⟩ := bd_e hf
            refine go_callV0 (pc' := 67) (As := [.int x9]) (st := []) (st' := [.int o60])    (b := 0) hC dX12_lists_64 ⟨mw_1030, mw_1033, mw_5, yd_yX12_isWay, yp_yX12_isWay, Nat.le_of_ble_eq_true rfl, Nat.le_of_ble_eq_true rfl, (Nat.le_of_ble_eq_true rfl), (Nat.le_of_ble_eq_true rfl)⟩ mw_1031 mw_1032 layM_0 rfl rfl rfl (Nat.le_of_ble_eq_true rfl) (c_X12_isWay (x_l X) (x_D X) (x_q X) g (x_cy X) (x_z X) _ x9 o60 ho60) rfl rfl ?_
            refine go_if_ne (tgt := 73) (pc' := 70) hC dX12_lists_67 (by decide) rfl (fun h61 => ?_) (fun h61 => ?_)
            · have hf := ite_f h61 hf
              exact jk73_19 () hf
            · have hf := ite_t h61 hf
              refine go_goto (tgt := 218) hC dX12_lists_70 (by decide) ?_
              exact jk218_18 a10 a11 a12 hf
          · have hf := ite_f h64 hf
            refine go_aload_n (pc' := 50) hC dX12_lists_49 rfl rfl ?_
            refine go_iload (pc' := 52) hC dX12_lists_50 rfl rfl ?_
            obtain ⟨o62, ho62, hf⟩ := bd_e hf
            refine go_callV0 (pc' := 55) (As := [.int x9]) (st := []) (st' := [.int o62])    (b := 0) hC dX12_lists_52 ⟨mw_1026, mw_1029, mw_5, yd_yX12_isCut, yp_yX12_isCut, Nat.le_of_ble_eq_true rfl, Nat.le_of_ble_eq_true rfl, (Nat.le_of_ble_eq_true rfl), (Nat.le_of_ble_eq_true rfl)⟩ mw_1027 mw_1028 layM_0 rfl rfl rfl (Nat.le_of_ble_eq_true rfl) (c_X12_isCut (x_l X) (x_D X) (x_q X) g (x_cy X) (x_z X) _ x9 o62 ho62) rfl rfl ?_
            refine go_if_ne (tgt := 73) (pc' := 58) hC dX12_lists_55 (by decide) rfl (fun h63 => ?_) (fun h63 => ?_)
            · have hf := ite_f h63 hf
              exact jk73_19 () hf
            · have hf := ite_t h63 hf
              refine go_goto (tgt := 218) hC dX12_lists_58 (by decide) ?_
              exact jk218_18 a10 a11 a12 hf
    exact l36_66 fuel (0 : Int32) (S.2.2.1 24) a8 a6 hf
  clear hk13_3
  refine go_if_eq (tgt := 12) (pc' := 8) hC dX12_lists_5 (by decide) rfl (fun h67 => ?_) (fun h67 => ?_)
  · have hf := ite_t h67 hf
    refine go_iconst (pc' := 13) hC dX12_lists_12 ki_0 rfl ?_
    exact jk13_3 (0 : Int32) hf
  · have hf := ite_f h67 hf
    refine go_iconst (pc' := 9) hC dX12_lists_8 ki_1 rfl ?_
    refine go_goto (tgt := 13) hC dX12_lists_9 (by decide) ?_
    exact jk13_3 (1 : Int32) hf
theorem dX12_ways_0 : decode cX12_ways 0 = .ok (.aload_n 0, 1) := by decide +kernel
theorem dX12_ways_1 : decode cX12_ways 1 = .ok (.iload_n 1, 1) := by decide +kernel
theorem dX12_ways_2 : decode cX12_ways 2 = .ok (.invokevirtual 404, 3) := by decide +kernel
theorem dX12_ways_5 : decode cX12_ways 5 = .ok (.aload_n 0, 1) := by decide +kernel
theorem dX12_ways_6 : decode cX12_ways 6 = .ok (.getfield 89, 3) := by decide +kernel
theorem dX12_ways_9 : decode cX12_ways 9 = .ok (.iload_n 1, 1) := by decide +kernel
theorem dX12_ways_10 : decode cX12_ways 10 = .ok (.ifCond .eq 7, 3) := by decide +kernel
theorem dX12_ways_13 : decode cX12_ways 13 = .ok (.iconst 1, 1) := by decide +kernel
theorem dX12_ways_14 : decode cX12_ways 14 = .ok (.goto 4, 3) := by decide +kernel
theorem dX12_ways_17 : decode cX12_ways 17 = .ok (.iconst 0, 1) := by decide +kernel
theorem dX12_ways_18 : decode cX12_ways 18 = .ok (.iaload, 1) := by decide +kernel
theorem dX12_ways_19 : decode cX12_ways 19 = .ok (.ireturn, 1) := by decide +kernel
abbrev o_X12_ways : Type := Int32 × Int32 × Int32 × Int32 × (Nat → Int32) × (Nat → Int32) × (Nat → Int32) × (Nat → Int32) × (Nat → Int32) × (Nat → Int32) × (Nat → Int32)
def f_X12_ways (S : wd_W) (p1 : Int32) : Option o_X12_ways :=
bd (f_X12_lists (wd_o S [(38, (S.1 38)), (39, (S.1 39)), (44, (S.1 44))] [] [(17, (S.2.2.1 17)), (18, (S.2.2.1 18)), (19, (S.2.2.1 19)), (20, (S.2.2.1 20)), (24, (S.2.2.1 24)), (25, (S.2.2.1 25)), (26, (S.2.2.1 26))] [] []) p1) fun o1 =>
lk (fun x2 =>
gd (okx x2 2) <|
some (o1.2.2.2.2.2.2.2.2.2 x2.toNatClampNeg, o1.1, o1.2.1, o1.2.2.1, o1.2.2.2.1, o1.2.2.2.2.1, o1.2.2.2.2.2.1, o1.2.2.2.2.2.2.1, o1.2.2.2.2.2.2.2.1, o1.2.2.2.2.2.2.2.2.1, o1.2.2.2.2.2.2.2.2.2)) fun k18_3 =>
if p1 = 0 then (
k18_3 (0 : Int32)) else (
k18_3 (1 : Int32))
set_option maxRecDepth 100000 in
set_option maxHeartbeats 4000000 in
theorem c_X12_ways (l : Launch) (D : va_G) (q g : Nat → Nat) (cy : Nat → ClassId) (z : (Nat → Nat) × (Nat → Nat) × Nat) (S : wd_W) (p1 : Int32) (o : o_X12_ways) (hf : f_X12_ways S p1 = some o) : MX layM l yX12_ways cX12_ways 2 (some .int) ({ frames := 6, cells := 0, slots := 0, locals := 143 } : Room) D q g cy z [.ref (q 0), .int p1] S false (some (.int o.1)) (wd_o S [(38, o.2.1), (39, o.2.2.1), (44, o.2.2.2.1)] [] [(17, o.2.2.2.2.1), (18, o.2.2.2.2.2.1), (19, o.2.2.2.2.2.2.1), (20, o.2.2.2.2.2.2.2.1), (24, o.2.2.2.2.2.2.2.2.1), (25, o.2.2.2.2.2.2.2.2.2.1), (26, o.2.2.2.2.2.2.2.2.2.2)] [] []) 0 0 := by
  refine mx_of (own := RX12) (lc := [(0, .ref (q 0)), (1, .int p1)]) (by decide +kernel) rfl layM_ok (Nat.le_of_ble_eq_true rfl) rfl ?_
  intro X hXl hXq hXz hC hQ
  subst hXl; subst hXq; subst hXz
  unfold f_X12_ways at hf
  refine go_keys (L1 := [(38, (S.1 38)), (39, (S.1 39)), (44, (S.1 44))]) (L2 := []) (L3 := [(17, (S.2.2.1 17)), (18, (S.2.2.1 18)), (19, (S.2.2.1 19)), (20, (S.2.2.1 20)), (24, (S.2.2.1 24)), (25, (S.2.2.1 25)), (26, (S.2.2.1 26))]) (L4 := []) (L5 := []) [38, 39, 44] [] [17, 18, 19, 20, 24, 25, 26] [] [] rfl rfl rfl rfl rfl ?_
  refine go_aload_n (pc' := 1) hC dX12_ways_0 rfl rfl ?_
  refine go_iload_n (pc' := 2) hC dX12_ways_1 rfl rfl ?_
  obtain ⟨o1, ho1, hf⟩ := bd_e hf
  refine go_callV1 (pc' := 5) (As := [.int p1]) (st := []) (st' := []) (L1' := [(38, o1.1), (39, o1.2.1), (44, o1.2.2.1)]) (L2' := []) (L3' := [(17, o1.2.2.2.1), (18, o1.2.2.2.2.1), (19, o1.2.2.2.2.2.1), (20, o1.2.2.2.2.2.2.1), (24, o1.2.2.2.2.2.2.2.1), (25, o1.2.2.2.2.2.2.2.2.1), (26, o1.2.2.2.2.2.2.2.2.2)]) (L4' := []) (L5' := []) (cells' := 0) (slots' := 0)  (b := 0) hC dX12_ways_2 ⟨mw_1022, mw_1025, mw_5, yd_yX12_lists, yp_yX12_lists, Nat.le_of_ble_eq_true rfl, Nat.le_of_ble_eq_true rfl, (Nat.le_of_ble_eq_true rfl), (Nat.le_of_ble_eq_true rfl)⟩ mw_1023 mw_1024 layM_0 rfl rfl rfl (Nat.le_of_ble_eq_true rfl) (c_X12_lists (x_l X) (x_D X) (x_q X) g (x_cy X) (x_z X) _ p1 o1 ho1) rfl rfl rfl rfl rfl rfl rfl rfl rfl rfl rfl rfl rfl rfl ?_
  refine go_aload_n (pc' := 6) hC dX12_ways_5 rfl rfl ?_
  refine go_getq (pc' := 9) hC 0 50 layM_0 rfl rfl inlX12 (Nat.le_of_ble_eq_true rfl) mw_207 rfl dX12_ways_6 rfl ?_
  refine go_iload_n (pc' := 10) hC dX12_ways_9 rfl rfl ?_
  obtain ⟨k18_3, hk18_3, hf⟩ := lk_e1 hf
  have jk18_3 : ∀ (x2 : Int32), k18_3 x2 = some o → Go X layM S 18 [] [.int x2, .ref (x_q X 26)] g [(38, o1.1), (39, o1.2.1), (44, o1.2.2.1)] [] [(17, o1.2.2.2.1), (18, o1.2.2.2.2.1), (19, o1.2.2.2.2.2.1), (20, o1.2.2.2.2.2.2.1), (24, o1.2.2.2.2.2.2.2.1), (25, o1.2.2.2.2.2.2.2.2.1), (26, o1.2.2.2.2.2.2.2.2.2)] [] [] 0 0 := by
    intro x2 hf
    have hf := hk18_3 x2 hf
    clear hk18_3
    obtain ⟨h4, hf⟩ := gd_e hf
    refine go_iald (f := o1.2.2.2.2.2.2.2.2.2) (pc' := 19) hC 26 layM_26 rfl rfl dX12_ways_18 (okx_in h4) rfl ?_
    obtain rfl := Option.some.inj hf
    exact go_iret hC hQ dX12_ways_19 rfl rfl rfl rfl (fun _ => rfl) rfl rfl
  clear hk18_3
  refine go_if_eq (tgt := 17) (pc' := 13) hC dX12_ways_10 (by decide) rfl (fun h5 => ?_) (fun h5 => ?_)
  · have hf := ite_t h5 hf
    refine go_iconst (pc' := 18) hC dX12_ways_17 ki_0 rfl ?_
    refine go_sub [] rfl ?_
    exact jk18_3 (0 : Int32) hf
  · have hf := ite_f h5 hf
    refine go_iconst (pc' := 14) hC dX12_ways_13 ki_1 rfl ?_
    refine go_goto (tgt := 18) hC dX12_ways_14 (by decide) ?_
    refine go_sub [] rfl ?_
    exact jk18_3 (1 : Int32) hf
theorem dX12_way_0 : decode cX12_way 0 = .ok (.aload_n 0, 1) := by decide +kernel
theorem dX12_way_1 : decode cX12_way 1 = .ok (.iload_n 1, 1) := by decide +kernel
theorem dX12_way_2 : decode cX12_way 2 = .ok (.invokevirtual 404, 3) := by decide +kernel
theorem dX12_way_5 : decode cX12_way 5 = .ok (.iload_n 1, 1) := by decide +kernel
theorem dX12_way_6 : decode cX12_way 6 = .ok (.ifCond .eq 7, 3) := by decide +kernel
theorem dX12_way_9 : decode cX12_way 9 = .ok (.iconst 1, 1) := by decide +kernel
theorem dX12_way_10 : decode cX12_way 10 = .ok (.goto 4, 3) := by decide +kernel
theorem dX12_way_13 : decode cX12_way 13 = .ok (.iconst 0, 1) := by decide +kernel
theorem dX12_way_14 : decode cX12_way 14 = .ok (.istore_n 3, 1) := by decide +kernel
theorem dX12_way_15 : decode cX12_way 15 = .ok (.iload_n 2, 1) := by decide +kernel
theorem dX12_way_16 : decode cX12_way 16 = .ok (.i2l, 1) := by decide +kernel
theorem dX12_way_17 : decode cX12_way 17 = .ok (.lconst 0, 1) := by decide +kernel
theorem dX12_way_18 : decode cX12_way 18 = .ok (.aload_n 0, 1) := by decide +kernel
theorem dX12_way_19 : decode cX12_way 19 = .ok (.getfield 86, 3) := by decide +kernel
theorem dX12_way_22 : decode cX12_way 22 = .ok (.iload_n 3, 1) := by decide +kernel
theorem dX12_way_23 : decode cX12_way 23 = .ok (.iaload, 1) := by decide +kernel
theorem dX12_way_24 : decode cX12_way 24 = .ok (.iconst 1, 1) := by decide +kernel
theorem dX12_way_25 : decode cX12_way 25 = .ok (.isub, 1) := by decide +kernel
theorem dX12_way_26 : decode cX12_way 26 = .ok (.i2l, 1) := by decide +kernel
theorem dX12_way_27 : decode cX12_way 27 = .ok (.invokestatic 218, 3) := by decide +kernel
theorem dX12_way_30 : decode cX12_way 30 = .ok (.ifCond .eq 17, 3) := by decide +kernel
theorem dX12_way_33 : decode cX12_way 33 = .ok (.aload_n 0, 1) := by decide +kernel
theorem dX12_way_34 : decode cX12_way 34 = .ok (.getfield 83, 3) := by decide +kernel
theorem dX12_way_37 : decode cX12_way 37 = .ok (.bipush 60, 2) := by decide +kernel
theorem dX12_way_39 : decode cX12_way 39 = .ok (.iload_n 3, 1) := by decide +kernel
theorem dX12_way_40 : decode cX12_way 40 = .ok (.imul, 1) := by decide +kernel
theorem dX12_way_41 : decode cX12_way 41 = .ok (.iload_n 2, 1) := by decide +kernel
theorem dX12_way_42 : decode cX12_way 42 = .ok (.iadd, 1) := by decide +kernel
theorem dX12_way_43 : decode cX12_way 43 = .ok (.iaload, 1) := by decide +kernel
theorem dX12_way_44 : decode cX12_way 44 = .ok (.goto 4, 3) := by decide +kernel
theorem dX12_way_47 : decode cX12_way 47 = .ok (.iconst (-1), 1) := by decide +kernel
theorem dX12_way_48 : decode cX12_way 48 = .ok (.ireturn, 1) := by decide +kernel
abbrev o_X12_way : Type := Int32 × Int32 × Int32 × Int32 × (Nat → Int32) × (Nat → Int32) × (Nat → Int32) × (Nat → Int32) × (Nat → Int32) × (Nat → Int32) × (Nat → Int32)
def f_X12_way (S : wd_W) (p1 : Int32) (p2 : Int32) : Option o_X12_way :=
bd (f_X12_lists (wd_o S [(38, (S.1 38)), (39, (S.1 39)), (44, (S.1 44))] [] [(17, (S.2.2.1 17)), (18, (S.2.2.1 18)), (19, (S.2.2.1 19)), (20, (S.2.2.1 20)), (24, (S.2.2.1 24)), (25, (S.2.2.1 25)), (26, (S.2.2.1 26))] [] []) p1) fun o1 =>
lk (fun x2 =>
gd (okx x2 2) <|
bd (f_X12_in p2.toInt64 (0 : Int64) (((o1.2.2.2.2.2.2.2.2.1 x2.toNatClampNeg) - (1 : Int32)).toInt64)) fun o5 =>
if o5 = 0 then (
some ((-1 : Int32), o1.1, o1.2.1, o1.2.2.1, o1.2.2.2.1, o1.2.2.2.2.1, o1.2.2.2.2.2.1, o1.2.2.2.2.2.2.1, o1.2.2.2.2.2.2.2.1, o1.2.2.2.2.2.2.2.2.1, o1.2.2.2.2.2.2.2.2.2)) else (
gd (okx (((60 : Int32) * x2) + p2) 120) <|
some (o1.2.2.2.2.2.2.2.1 (((60 : Int32) * x2) + p2).toNatClampNeg, o1.1, o1.2.1, o1.2.2.1, o1.2.2.2.1, o1.2.2.2.2.1, o1.2.2.2.2.2.1, o1.2.2.2.2.2.2.1, o1.2.2.2.2.2.2.2.1, o1.2.2.2.2.2.2.2.2.1, o1.2.2.2.2.2.2.2.2.2))) fun k14_3 =>
if p1 = 0 then (
k14_3 (0 : Int32)) else (
k14_3 (1 : Int32))
set_option maxRecDepth 100000 in
set_option maxHeartbeats 4000000 in
theorem c_X12_way (l : Launch) (D : va_G) (q g : Nat → Nat) (cy : Nat → ClassId) (z : (Nat → Nat) × (Nat → Nat) × Nat) (S : wd_W) (p1 : Int32) (p2 : Int32) (o : o_X12_way) (hf : f_X12_way S p1 p2 = some o) : MX layM l yX12_way cX12_way 4 (some .int) ({ frames := 6, cells := 0, slots := 0, locals := 143 } : Room) D q g cy z [.ref (q 0), .int p1, .int p2] S false (some (.int o.1)) (wd_o S [(38, o.2.1), (39, o.2.2.1), (44, o.2.2.2.1)] [] [(17, o.2.2.2.2.1), (18, o.2.2.2.2.2.1), (19, o.2.2.2.2.2.2.1), (20, o.2.2.2.2.2.2.2.1), (24, o.2.2.2.2.2.2.2.2.1), (25, o.2.2.2.2.2.2.2.2.2.1), (26, o.2.2.2.2.2.2.2.2.2.2)] [] []) 0 0 := by
  refine mx_of (own := RX12) (lc := [(0, .ref (q 0)), (1, .int p1), (2, .int p2)]) (by decide +kernel) rfl layM_ok (Nat.le_of_ble_eq_true rfl) rfl ?_
  intro X hXl hXq hXz hC hQ
  subst hXl; subst hXq; subst hXz
  unfold f_X12_way at hf
  refine go_keys (L1 := [(38, (S.1 38)), (39, (S.1 39)), (44, (S.1 44))]) (L2 := []) (L3 := [(17, (S.2.2.1 17)), (18, (S.2.2.1 18)), (19, (S.2.2.1 19)), (20, (S.2.2.1 20)), (24, (S.2.2.1 24)), (25, (S.2.2.1 25)), (26, (S.2.2.1 26))]) (L4 := []) (L5 := []) [38, 39, 44] [] [17, 18, 19, 20, 24, 25, 26] [] [] rfl rfl rfl rfl rfl ?_
  refine go_aload_n (pc' := 1) hC dX12_way_0 rfl rfl ?_
  refine go_iload_n (pc' := 2) hC dX12_way_1 rfl rfl ?_
  obtain ⟨o1, ho1, hf⟩ := bd_e hf
  refine go_callV1 (pc' := 5) (As := [.int p1]) (st := []) (st' := []) (L1' := [(38, o1.1), (39, o1.2.1), (44, o1.2.2.1)]) (L2' := []) (L3' := [(17, o1.2.2.2.1), (18, o1.2.2.2.2.1), (19, o1.2.2.2.2.2.1), (20, o1.2.2.2.2.2.2.1), (24, o1.2.2.2.2.2.2.2.1), (25, o1.2.2.2.2.2.2.2.2.1), (26, o1.2.2.2.2.2.2.2.2.2)]) (L4' := []) (L5' := []) (cells' := 0) (slots' := 0)  (b := 0) hC dX12_way_2 ⟨mw_1022, mw_1025, mw_5, yd_yX12_lists, yp_yX12_lists, Nat.le_of_ble_eq_true rfl, Nat.le_of_ble_eq_true rfl, (Nat.le_of_ble_eq_true rfl), (Nat.le_of_ble_eq_true rfl)⟩ mw_1023 mw_1024 layM_0 rfl rfl rfl (Nat.le_of_ble_eq_true rfl) (c_X12_lists (x_l X) (x_D X) (x_q X) g (x_cy X) (x_z X) _ p1 o1 ho1) rfl rfl rfl rfl rfl rfl rfl rfl rfl rfl rfl rfl rfl rfl ?_
  refine go_iload_n (pc' := 6) hC dX12_way_5 rfl rfl ?_
  obtain ⟨k14_3, hk14_3, hf⟩ := lk_e1 hf
  have jk14_3 : ∀ (x2 : Int32), k14_3 x2 = some o → Go X layM S 14 [(0, .ref (x_q X 0)), (2, .int p2)] [.int x2] g [(38, o1.1), (39, o1.2.1), (44, o1.2.2.1)] [] [(17, o1.2.2.2.1), (18, o1.2.2.2.2.1), (19, o1.2.2.2.2.2.1), (20, o1.2.2.2.2.2.2.1), (24, o1.2.2.2.2.2.2.2.1), (25, o1.2.2.2.2.2.2.2.2.1), (26, o1.2.2.2.2.2.2.2.2.2)] [] [] 0 0 := by
    intro x2 hf
    have hf := hk14_3 x2 hf
    clear hk14_3
    refine go_istore_n (lc' := [(0, .ref (x_q X 0)), (2, .int p2), (3, .int x2)]) (pc' := 15) hC dX12_way_14 (Nat.le_of_ble_eq_true rfl) rfl rfl ?_
    refine go_iload_n (pc' := 16) hC dX12_way_15 rfl rfl ?_
    refine go_i2l (pc' := 17) hC dX12_way_16 rfl ?_
    refine go_lconst (pc' := 18) hC dX12_way_17 kl_0 rfl ?_
    refine go_aload_n (pc' := 19) hC dX12_way_18 rfl rfl ?_
    refine go_getq (pc' := 22) hC 0 49 layM_0 rfl rfl inlX12 (Nat.le_of_ble_eq_true rfl) mw_206 rfl dX12_way_19 rfl ?_
    refine go_iload_n (pc' := 23) hC dX12_way_22 rfl rfl ?_
    obtain ⟨h4, hf⟩ := gd_e hf
    refine go_iald (f := o1.2.2.2.2.2.2.2.2.1) (pc' := 24) hC 25 layM_25 rfl rfl dX12_way_23 (okx_in h4) rfl ?_
    refine go_iconst (pc' := 25) hC dX12_way_24 ki_1 rfl ?_
    refine go_isub (pc' := 26) hC dX12_way_25 rfl ?_
    refine go_i2l (pc' := 27) hC dX12_way_26 rfl ?_
    obtain ⟨o5, ho5, hf⟩ := bd_e hf
    refine go_callS0 (pc' := 30) (As := [.long p2.toInt64, .long (0 : Int64), .long (((o1.2.2.2.2.2.2.2.2.1 x2.toNatClampNeg) - (1 : Int32)).toInt64)]) (st := []) (st' := [.int o5])    hC dX12_way_27 ⟨mw_525, mw_527, mw_5, yd_yX12_in, yp_yX12_in, Nat.le_of_ble_eq_true rfl, Nat.le_of_ble_eq_true rfl, (Nat.le_of_ble_eq_true rfl), (Nat.le_of_ble_eq_true rfl)⟩ mw_526 rfl rfl (Nat.le_of_ble_eq_true rfl) (c_X12_in (x_l X) (x_D X) (x_q X) g (x_cy X) (x_z X) _ p2.toInt64 (0 : Int64) (((o1.2.2.2.2.2.2.2.2.1 x2.toNatClampNeg) - (1 : Int32)).toInt64) o5 ho5) rfl rfl ?_
    refine go_if_eq (tgt := 47) (pc' := 33) hC dX12_way_30 (by decide) rfl (fun h7 => ?_) (fun h7 => ?_)
    · have hf := ite_t h7 hf
      refine go_iconst (pc' := 48) hC dX12_way_47 ki_m1 rfl ?_
      obtain rfl := Option.some.inj hf
      exact go_iret hC hQ dX12_way_48 rfl rfl rfl rfl (fun _ => rfl) rfl rfl
    · have hf := ite_f h7 hf
      refine go_aload_n (pc' := 34) hC dX12_way_33 rfl rfl ?_
      refine go_getq (pc' := 37) hC 0 48 layM_0 rfl rfl inlX12 (Nat.le_of_ble_eq_true rfl) mw_205 rfl dX12_way_34 rfl ?_
      refine go_bipush (pc' := 39) hC dX12_way_37 kb_60 rfl ?_
      refine go_iload_n (pc' := 40) hC dX12_way_39 rfl rfl ?_
      refine go_imul (pc' := 41) hC dX12_way_40 rfl ?_
      refine go_iload_n (pc' := 42) hC dX12_way_41 rfl rfl ?_
      refine go_iadd (pc' := 43) hC dX12_way_42 rfl ?_
      obtain ⟨h6, hf⟩ := gd_e hf
      refine go_iald (f := o1.2.2.2.2.2.2.2.1) (pc' := 44) hC 24 layM_24 rfl rfl dX12_way_43 (okx_in h6) rfl ?_
      refine go_goto (tgt := 48) hC dX12_way_44 (by decide) ?_
      obtain rfl := Option.some.inj hf
      exact go_iret hC hQ dX12_way_48 rfl rfl rfl rfl (fun _ => rfl) rfl rfl
  clear hk14_3
  refine go_if_eq (tgt := 13) (pc' := 9) hC dX12_way_6 (by decide) rfl (fun h8 => ?_) (fun h8 => ?_)
  · have hf := ite_t h8 hf
    refine go_iconst (pc' := 14) hC dX12_way_13 ki_0 rfl ?_
    refine go_sub [0, 2] rfl ?_
    exact jk14_3 (0 : Int32) hf
  · have hf := ite_f h8 hf
    refine go_iconst (pc' := 10) hC dX12_way_9 ki_1 rfl ?_
    refine go_goto (tgt := 14) hC dX12_way_10 (by decide) ?_
    refine go_sub [0, 2] rfl ?_
    exact jk14_3 (1 : Int32) hf
