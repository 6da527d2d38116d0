theorem dX12_within_0 : decode cX12_within 0 = .ok (.aload_n 0, 1) := by decide +kernel
theorem dX12_within_1 : decode cX12_within 1 = .ok (.iload_n 1, 1) := by decide +kernel
theorem dX12_within_2 : decode cX12_within 2 = .ok (.iload_n 2, 1) := by decide +kernel
theorem dX12_within_3 : decode cX12_within 3 = .ok (.invokevirtual 446, 3) := by decide +kernel
theorem dX12_within_6 : decode cX12_within 6 = .ok (.ifCond .eq 15, 3) := by decide +kernel
theorem dX12_within_9 : decode cX12_within 9 = .ok (.iload_n 3, 1) := by decide +kernel
theorem dX12_within_10 : decode cX12_within 10 = .ok (.i2l, 1) := by decide +kernel
theorem dX12_within_11 : decode cX12_within 11 = .ok (.lconst 0, 1) := by decide +kernel
theorem dX12_within_12 : decode cX12_within 12 = .ok (.ldc2_w 459, 3) := by decide +kernel
theorem dX12_within_15 : decode cX12_within 15 = .ok (.invokestatic 218, 3) := by decide +kernel
theorem dX12_within_18 : decode cX12_within 18 = .ok (.ifCond .ne 7, 3) := by decide +kernel
theorem dX12_within_21 : decode cX12_within 21 = .ok (.ldc2_w 373, 3) := by decide +kernel
theorem dX12_within_24 : decode cX12_within 24 = .ok (.lreturn, 1) := by decide +kernel
theorem dX12_within_25 : decode cX12_within 25 = .ok (.aload_n 0, 1) := by decide +kernel
theorem dX12_within_26 : decode cX12_within 26 = .ok (.iload_n 1, 1) := by decide +kernel
theorem dX12_within_27 : decode cX12_within 27 = .ok (.iload_n 2, 1) := by decide +kernel
theorem dX12_within_28 : decode cX12_within 28 = .ok (.invokevirtual 461, 3) := by decide +kernel
theorem dX12_within_31 : decode cX12_within 31 = .ok (.lconst 0, 1) := by decide +kernel
theorem dX12_within_32 : decode cX12_within 32 = .ok (.lstore 4, 2) := by decide +kernel
theorem dX12_within_34 : decode cX12_within 34 = .ok (.iconst 0, 1) := by decide +kernel
theorem dX12_within_35 : decode cX12_within 35 = .ok (.istore 6, 2) := by decide +kernel
theorem dX12_within_37 : decode cX12_within 37 = .ok (.iload 6, 2) := by decide +kernel
theorem dX12_within_39 : decode cX12_within 39 = .ok (.iload_n 3, 1) := by decide +kernel
theorem dX12_within_40 : decode cX12_within 40 = .ok (.if_icmp .gt 21, 3) := by decide +kernel
theorem dX12_within_43 : decode cX12_within 43 = .ok (.lload 4, 2) := by decide +kernel
theorem dX12_within_45 : decode cX12_within 45 = .ok (.aload_n 0, 1) := by decide +kernel
theorem dX12_within_46 : decode cX12_within 46 = .ok (.getfield 119, 3) := by decide +kernel
theorem dX12_within_49 : decode cX12_within 49 = .ok (.iload 6, 2) := by decide +kernel
theorem dX12_within_51 : decode cX12_within 51 = .ok (.laload, 1) := by decide +kernel
theorem dX12_within_52 : decode cX12_within 52 = .ok (.ladd, 1) := by decide +kernel
theorem dX12_within_53 : decode cX12_within 53 = .ok (.lstore 4, 2) := by decide +kernel
theorem dX12_within_55 : decode cX12_within 55 = .ok (.iinc 6 1, 3) := by decide +kernel
theorem dX12_within_58 : decode cX12_within 58 = .ok (.goto (-21), 3) := by decide +kernel
theorem dX12_within_61 : decode cX12_within 61 = .ok (.lload 4, 2) := by decide +kernel
theorem dX12_within_63 : decode cX12_within 63 = .ok (.lreturn, 1) := by decide +kernel
abbrev o_X12_within : Type := Int64 × Int32 × Int32 × (Nat → Int32) × (Nat → Int32) × (Nat → Int32) × (Nat → Int64) × (Nat → Int64)
def f_X12_within_L37 (p3 : Int32) (o3 : o_X12_daysOf) (r6 : (Int64) → (Int32) → (Option o_X12_within)) (x4 : Int64) (x5 : Int32) : Option o_X12_within :=
if p3 < x5 then (
some (x4, o3.1, o3.2.1, o3.2.2.1, o3.2.2.2.1, o3.2.2.2.2.1, o3.2.2.2.2.2.1, o3.2.2.2.2.2.2)) else (
gd (okx x5 100) <|
lz (x4 + (o3.2.2.2.2.2.2 x5.toNatClampNeg)) fun x8 =>
r6 x8 (x5 + (1 : Int32)))
def f_X12_within (S : wd_W) (p1 : Int32) (p2 : Int32) (p3 : Int32) : Option o_X12_within :=
bd (f_X12_areEnds (wd_o S [(38, (S.1 38)), (39, (S.1 39))] [] [(17, (S.2.2.1 17)), (22, (S.2.2.1 22)), (23, (S.2.2.1 23))] [(21, (S.2.2.2.1 21)), (36, (S.2.2.2.1 36))] []) p1 p2) fun o1 =>
if o1 = 0 then (
some ((-1 : Int64), (S.1 38), (S.1 39), (S.2.2.1 17), (S.2.2.1 22), (S.2.2.1 23), (S.2.2.2.1 21), (S.2.2.2.1 36))) else (
bd (f_X12_in p3.toInt64 (0 : Int64) (99 : Int64)) fun o2 =>
if o2 = 0 then (
some ((-1 : Int64), (S.1 38), (S.1 39), (S.2.2.1 17), (S.2.2.1 22), (S.2.2.1 23), (S.2.2.2.1 21), (S.2.2.2.1 36))) else (
bd (f_X12_daysOf (wd_o S [(38, (S.1 38)), (39, (S.1 39))] [] [(17, (S.2.2.1 17)), (22, (S.2.2.1 22)), (23, (S.2.2.1 23))] [(21, (S.2.2.2.1 21)), (36, (S.2.2.2.1 36))] []) p1 p2) fun o3 =>
it2 (f_X12_within_L37 p3 o3) fuel (0 : Int64) (0 : Int32)))
set_option maxRecDepth 100000 in
set_option maxHeartbeats 4000000 in
theorem c_X12_within (l : Launch) (D : va_G) (q g : Nat → Nat) (cy : Nat → ClassId) (z : (Nat → Nat) × (Nat → Nat) × Nat) (S : wd_W) (p1 : Int32) (p2 : Int32) (p3 : Int32) (o : o_X12_within) (hf : f_X12_within S p1 p2 p3 = some o) : MX layM l yX12_within cX12_within 7 (some .long) ({ frames := 3, cells := 0, slots := 0, locals := 69 } : Room) D q g cy z [.ref (q 0), .int p1, .int p2, .int p3] S false (some (.long o.1)) (wd_o S [(38, o.2.1), (39, o.2.2.1)] [] [(17, o.2.2.2.1), (22, o.2.2.2.2.1), (23, o.2.2.2.2.2.1)] [(21, o.2.2.2.2.2.2.1), (36, o.2.2.2.2.2.2.2)] []) 0 0 := by
  refine mx_of (own := RX12) (lc := [(0, .ref (q 0)), (1, .int p1), (2, .int p2), (3, .int p3)]) (by decide +kernel) rfl layM_ok (Nat.le_of_ble_eq_true rfl) rfl ?_
  intro X hXl hXq hXz hC hQ
  subst hXl; subst hXq; subst hXz
  unfold f_X12_within at hf
  refine go_keys (L1 := [(38, (S.1 38)), (39, (S.1 39))]) (L2 := []) (L3 := [(17, (S.2.2.1 17)), (22, (S.2.2.1 22)), (23, (S.2.2.1 23))]) (L4 := [(21, (S.2.2.2.1 21)), (36, (S.2.2.2.1 36))]) (L5 := []) [38, 39] [] [17, 22, 23] [21, 36] [] rfl rfl rfl rfl rfl ?_
  refine go_aload_n (pc' := 1) hC dX12_within_0 rfl rfl ?_
  refine go_iload_n (pc' := 2) hC dX12_within_1 rfl rfl ?_
  refine go_iload_n (pc' := 3) hC dX12_within_2 rfl rfl ?_
  obtain ⟨o1, ho1, hf⟩ := bd_e hf
  refine go_callV0 (pc' := 6) (As := [.int p1, .int p2]) (st := []) (st' := [.int o1])    (b := 0) hC dX12_within_3 ⟨mw_1249, mw_1252, mw_5, yd_yX12_areEnds, yp_yX12_areEnds, Nat.le_of_ble_eq_true rfl, Nat.le_of_ble_eq_true rfl, (Nat.le_of_ble_eq_true rfl), (Nat.le_of_ble_eq_true rfl)⟩ mw_1250 mw_1251 layM_0 rfl rfl rfl (Nat.le_of_ble_eq_true rfl) (c_X12_areEnds (x_l X) (x_D X) (x_q X) g (x_cy X) (x_z X) _ p1 p2 o1 ho1) rfl rfl ?_
  refine go_if_eq (tgt := 21) (pc' := 9) hC dX12_within_6 (by decide) rfl (fun h12 => ?_) (fun h12 => ?_)
  · have hf := ite_t h12 hf
    refine go_ldc2 (pc' := 24) hC dX12_within_21 mw_922 rfl ?_
    obtain rfl := Option.some.inj hf
    exact go_lret hC hQ dX12_within_24 rfl rfl rfl (fun _ => rfl) rfl rfl
  · have hf := ite_f h12 hf
    refine go_iload_n (pc' := 10) hC dX12_within_9 rfl rfl ?_
    refine go_i2l (pc' := 11) hC dX12_within_10 rfl ?_
    refine go_lconst (pc' := 12) hC dX12_within_11 kl_0 rfl ?_
    refine go_ldc2 (pc' := 15) hC dX12_within_12 mw_1327 rfl ?_
    obtain ⟨o2, ho2, hf⟩ := bd_e hf
    refine go_callS0 (pc' := 18) (As := [.long p3.toInt64, .long (0 : Int64), .long (99 : Int64)]) (st := []) (st' := [.int o2])    hC dX12_within_15 ⟨mw_525, mw_527, mw_5, yd_yX12_in, yp_yX12_in, Nat.le_of_ble_eq_true rfl, Nat.le_of_ble_eq_true rfl, (Nat.le_of_ble_eq_true rfl), (Nat.le_of_ble_eq_true rfl)⟩ mw_526 rfl rfl (Nat.le_of_ble_eq_true rfl) (c_X12_in (x_l X) (x_D X) (x_q X) g (x_cy X) (x_z X) _ p3.toInt64 (0 : Int64) (99 : Int64) o2 ho2) rfl rfl ?_
    refine go_if_ne (tgt := 25) (pc' := 21) hC dX12_within_18 (by decide) rfl (fun h11 => ?_) (fun h11 => ?_)
    · have hf := ite_f h11 hf
      refine go_aload_n (pc' := 26) hC dX12_within_25 rfl rfl ?_
      refine go_iload_n (pc' := 27) hC dX12_within_26 rfl rfl ?_
      refine go_iload_n (pc' := 28) hC dX12_within_27 rfl rfl ?_
      obtain ⟨o3, ho3, hf⟩ := bd_e hf
      refine go_callV1 (pc' := 31) (As := [.int p1, .int p2]) (st := []) (st' := []) (L1' := [(38, o3.1), (39, o3.2.1)]) (L2' := []) (L3' := [(17, o3.2.2.1), (22, o3.2.2.2.1), (23, o3.2.2.2.2.1)]) (L4' := [(21, o3.2.2.2.2.2.1), (36, o3.2.2.2.2.2.2)]) (L5' := []) (cells' := 0) (slots' := 0)  (b := 0) hC dX12_within_28 ⟨mw_1328, mw_1331, mw_5, yd_yX12_daysOf, yp_yX12_daysOf, Nat.le_of_ble_eq_true rfl, Nat.le_of_ble_eq_true rfl, (Nat.le_of_ble_eq_true rfl), (Nat.le_of_ble_eq_true rfl)⟩ mw_1329 mw_1330 layM_0 rfl rfl rfl (Nat.le_of_ble_eq_true rfl) (c_X12_daysOf (x_l X) (x_D X) (x_q X) g (x_cy X) (x_z X) _ p1 p2 o3 ho3) rfl rfl rfl rfl rfl rfl rfl rfl rfl rfl rfl rfl rfl rfl ?_
      refine go_lconst (pc' := 32) hC dX12_within_31 kl_0 rfl ?_
      refine go_lstore (lc' := [(0, .ref (x_q X 0)), (1, .int p1), (2, .int p2), (3, .int p3), (4, .long (0 : Int64))]) (pc' := 34) hC dX12_within_32 (Nat.le_of_ble_eq_true rfl) rfl rfl ?_
      refine go_iconst (pc' := 35) hC dX12_within_34 ki_0 rfl ?_
      refine go_istore (lc' := [(0, .ref (x_q X 0)), (1, .int p1), (2, .int p2), (3, .int p3), (4, .long (0 : Int64)), (6, .int (0 : Int32))]) (pc' := 37) hC dX12_within_35 (Nat.le_of_ble_eq_true rfl) rfl rfl ?_
      have l37_10 : ∀ (nn : Nat) (x4 : Int64) (x5 : Int32), it2 (f_X12_within_L37 p3 o3) nn x4 x5 = some o → Go X layM S 37 [(0, .ref (x_q X 0)), (3, .int p3), (4, .long x4), (6, .int x5)] [] g [(38, o3.1), (39, o3.2.1)] [] [(17, o3.2.2.1), (22, o3.2.2.2.1), (23, o3.2.2.2.2.1)] [(21, o3.2.2.2.2.2.1), (36, o3.2.2.2.2.2.2)] [] 0 0 := by
        intro nn
        induction nn with
        | zero =>
          intro x4 x5 hf
          exact none_no hf
        | succ nn ih =>
          intro x4 x5 hf
          have hf : f_X12_within_L37 p3 o3 (it2 (f_X12_within_L37 p3 o3) nn) x4 x5 = some o := hf
          generalize it2 (f_X12_within_L37 p3 o3) nn = r6 at ih hf
          unfold f_X12_within_L37 at hf
          refine go_iload (pc' := 39) hC dX12_within_37 rfl rfl ?_
          refine go_iload_n (pc' := 40) hC dX12_within_39 rfl rfl ?_
          refine go_icmp_gt (tgt := 61) (pc' := 43) hC dX12_within_40 (by decide) rfl (fun h9 => ?_) (fun h9 => ?_)
          · have hf := ite_t h9 hf
            refine go_lload (pc' := 63) hC dX12_within_61 rfl rfl ?_
            obtain rfl := Option.some.inj hf
            exact go_lret hC hQ dX12_within_63 rfl rfl rfl (fun _ => rfl) rfl rfl
          · have hf := ite_f h9 hf
            refine go_lload (pc' := 45) hC dX12_within_43 rfl rfl ?_
            refine go_aload_n (pc' := 46) hC dX12_within_45 rfl rfl ?_
            refine go_getq (pc' := 49) hC 0 66 layM_0 rfl rfl inlX12 (Nat.le_of_ble_eq_true rfl) mw_217 rfl dX12_within_46 rfl ?_
            refine go_iload (pc' := 51) hC dX12_within_49 rfl rfl ?_
            obtain ⟨h7, hf⟩ := gd_e hf
            refine go_lald (f := o3.2.2.2.2.2.2) (pc' := 52) hC 36 layM_36 rfl rfl dX12_within_51 (okx_in h7) rfl ?_
            refine go_ladd (pc' := 53) hC dX12_within_52 rfl ?_
            refine go_namel (fun x8 hx => ?_)
            have hf := lz_r hx hf
            clear hx
            refine go_lstore (lc' := [(0, .ref (x_q X 0)), (3, .int p3), (4, .long x8), (6, .int x5)]) (pc' := 55) hC dX12_within_53 (Nat.le_of_ble_eq_true rfl) rfl rfl ?_
            refine go_iinc (lc' := [(0, .ref (x_q X 0)), (3, .int p3), (4, .long x8), (6, .int (x5 + (1 : Int32)))]) (pc' := 58) hC dX12_within_55 rfl ki_1 (Nat.le_of_ble_eq_true rfl) rfl rfl ?_
            refine go_goto (tgt := 37) hC dX12_within_58 (by decide) ?_
            exact ih x8 (x5 + (1 : Int32)) hf
      refine go_sub [0, 3, 4, 6] rfl ?_
      exact l37_10 fuel (0 : Int64) (0 : Int32) hf
    · have hf := ite_t h11 hf
      refine go_ldc2 (pc' := 24) hC dX12_within_21 mw_922 rfl ?_
      obtain rfl := Option.some.inj hf
      exact go_lret hC hQ dX12_within_24 rfl rfl rfl (fun _ => rfl) rfl rfl
theorem dX12_soon_0 : decode cX12_soon 0 = .ok (.aload_n 0, 1) := by decide +kernel
theorem dX12_soon_1 : decode cX12_soon 1 = .ok (.iload_n 1, 1) := by decide +kernel
theorem dX12_soon_2 : decode cX12_soon 2 = .ok (.iload_n 2, 1) := by decide +kernel
theorem dX12_soon_3 : decode cX12_soon 3 = .ok (.invokevirtual 446, 3) := by decide +kernel
theorem dX12_soon_6 : decode cX12_soon 6 = .ok (.ifCond .eq 15, 3) := by decide +kernel
theorem dX12_soon_9 : decode cX12_soon 9 = .ok (.iload_n 3, 1) := by decide +kernel
theorem dX12_soon_10 : decode cX12_soon 10 = .ok (.i2l, 1) := by decide +kernel
theorem dX12_soon_11 : decode cX12_soon 11 = .ok (.lconst 0, 1) := by decide +kernel
theorem dX12_soon_12 : decode cX12_soon 12 = .ok (.ldc2_w 367, 3) := by decide +kernel
theorem dX12_soon_15 : decode cX12_soon 15 = .ok (.invokestatic 218, 3) := by decide +kernel
theorem dX12_soon_18 : decode cX12_soon 18 = .ok (.ifCond .ne 5, 3) := by decide +kernel
theorem dX12_soon_21 : decode cX12_soon 21 = .ok (.iconst (-1), 1) := by decide +kernel
theorem dX12_soon_22 : decode cX12_soon 22 = .ok (.ireturn, 1) := by decide +kernel
theorem dX12_soon_23 : decode cX12_soon 23 = .ok (.aload_n 0, 1) := by decide +kernel
theorem dX12_soon_24 : decode cX12_soon 24 = .ok (.iload_n 1, 1) := by decide +kernel
theorem dX12_soon_25 : decode cX12_soon 25 = .ok (.iload_n 2, 1) := by decide +kernel
theorem dX12_soon_26 : decode cX12_soon 26 = .ok (.invokevirtual 461, 3) := by decide +kernel
theorem dX12_soon_29 : decode cX12_soon 29 = .ok (.aload_n 0, 1) := by decide +kernel
theorem dX12_soon_30 : decode cX12_soon 30 = .ok (.getfield 119, 3) := by decide +kernel
theorem dX12_soon_33 : decode cX12_soon 33 = .ok (.iconst 0, 1) := by decide +kernel
theorem dX12_soon_34 : decode cX12_soon 34 = .ok (.laload, 1) := by decide +kernel
theorem dX12_soon_35 : decode cX12_soon 35 = .ok (.lstore 4, 2) := by decide +kernel
theorem dX12_soon_37 : decode cX12_soon 37 = .ok (.iconst 1, 1) := by decide +kernel
theorem dX12_soon_38 : decode cX12_soon 38 = .ok (.istore 6, 2) := by decide +kernel
theorem dX12_soon_40 : decode cX12_soon 40 = .ok (.iload 6, 2) := by decide +kernel
theorem dX12_soon_42 : decode cX12_soon 42 = .ok (.bipush 99, 2) := by decide +kernel
theorem dX12_soon_44 : decode cX12_soon 44 = .ok (.if_icmp .gt 34, 3) := by decide +kernel
theorem dX12_soon_47 : decode cX12_soon 47 = .ok (.lload 4, 2) := by decide +kernel
theorem dX12_soon_49 : decode cX12_soon 49 = .ok (.aload_n 0, 1) := by decide +kernel
theorem dX12_soon_50 : decode cX12_soon 50 = .ok (.getfield 119, 3) := by decide +kernel
theorem dX12_soon_53 : decode cX12_soon 53 = .ok (.iload 6, 2) := by decide +kernel
theorem dX12_soon_55 : decode cX12_soon 55 = .ok (.laload, 1) := by decide +kernel
theorem dX12_soon_56 : decode cX12_soon 56 = .ok (.ladd, 1) := by decide +kernel
theorem dX12_soon_57 : decode cX12_soon 57 = .ok (.lstore 4, 2) := by decide +kernel
theorem dX12_soon_59 : decode cX12_soon 59 = .ok (.aload_n 0, 1) := by decide +kernel
theorem dX12_soon_60 : decode cX12_soon 60 = .ok (.lload 4, 2) := by decide +kernel
theorem dX12_soon_62 : decode cX12_soon 62 = .ok (.iload_n 3, 1) := by decide +kernel
theorem dX12_soon_63 : decode cX12_soon 63 = .ok (.invokevirtual 442, 3) := by decide +kernel
theorem dX12_soon_66 : decode cX12_soon 66 = .ok (.ifCond .eq 6, 3) := by decide +kernel
theorem dX12_soon_69 : decode cX12_soon 69 = .ok (.iload 6, 2) := by decide +kernel
theorem dX12_soon_71 : decode cX12_soon 71 = .ok (.ireturn, 1) := by decide +kernel
theorem dX12_soon_72 : decode cX12_soon 72 = .ok (.iinc 6 1, 3) := by decide +kernel
theorem dX12_soon_75 : decode cX12_soon 75 = .ok (.goto (-35), 3) := by decide +kernel
theorem dX12_soon_78 : decode cX12_soon 78 = .ok (.bipush (-2), 2) := by decide +kernel
theorem dX12_soon_80 : decode cX12_soon 80 = .ok (.ireturn, 1) := by decide +kernel
abbrev o_X12_soon : Type := Int32 × Int32 × Int32 × (Nat → Int32) × (Nat → Int32) × (Nat → Int32) × (Nat → Int64) × (Nat → Int64)
def f_X12_soon_L40 (S : wd_W) (p3 : Int32) (o3 : o_X12_daysOf) (r8 : (Int64) → (Int32) → (Option o_X12_soon)) (x6 : Int64) (x7 : Int32) : Option o_X12_soon :=
if (99 : Int32) < x7 then (
some ((-2 : Int32), o3.1, o3.2.1, o3.2.2.1, o3.2.2.2.1, o3.2.2.2.2.1, o3.2.2.2.2.2.1, o3.2.2.2.2.2.2)) else (
gd (okx x7 100) <|
lz (x6 + (o3.2.2.2.2.2.2 x7.toNatClampNeg)) fun x10 =>
bd (f_X12_isAtLeast (wd_o S [(38, o3.1), (39, o3.2.1)] [] [(17, o3.2.2.1), (22, o3.2.2.2.1), (23, o3.2.2.2.2.1)] [(21, o3.2.2.2.2.2.1), (36, o3.2.2.2.2.2.2)] []) x10 p3) fun o11 =>
if o11 = 0 then (
r8 x10 (x7 + (1 : Int32))) else (
some (x7, o3.1, o3.2.1, o3.2.2.1, o3.2.2.2.1, o3.2.2.2.2.1, o3.2.2.2.2.2.1, o3.2.2.2.2.2.2)))
def f_X12_soon (S : wd_W) (p1 : Int32) (p2 : Int32) (p3 : Int32) : Option o_X12_soon :=
bd (f_X12_areEnds (wd_o S [(38, (S.1 38)), (39, (S.1 39))] [] [(17, (S.2.2.1 17)), (22, (S.2.2.1 22)), (23, (S.2.2.1 23))] [(21, (S.2.2.2.1 21)), (36, (S.2.2.2.1 36))] []) p1 p2) fun o1 =>
if o1 = 0 then (
some ((-1 : Int32), (S.1 38), (S.1 39), (S.2.2.1 17), (S.2.2.1 22), (S.2.2.1 23), (S.2.2.2.1 21), (S.2.2.2.1 36))) else (
bd (f_X12_in p3.toInt64 (0 : Int64) (16 : Int64)) fun o2 =>
if o2 = 0 then (
some ((-1 : Int32), (S.1 38), (S.1 39), (S.2.2.1 17), (S.2.2.1 22), (S.2.2.1 23), (S.2.2.2.1 21), (S.2.2.2.1 36))) else (
bd (f_X12_daysOf (wd_o S [(38, (S.1 38)), (39, (S.1 39))] [] [(17, (S.2.2.1 17)), (22, (S.2.2.1 22)), (23, (S.2.2.1 23))] [(21, (S.2.2.2.1 21)), (36, (S.2.2.2.1 36))] []) p1 p2) fun o3 =>
gd (okx (0 : Int32) 100) <|
lz (o3.2.2.2.2.2.2 (0 : Int32).toNatClampNeg) fun x5 =>
it2 (f_X12_soon_L40 S p3 o3) fuel x5 (1 : Int32)))
set_option maxRecDepth 100000 in
set_option maxHeartbeats 4000000 in
theorem c_X12_soon (l : Launch) (D : va_G) (q g : Nat → Nat) (cy : Nat → ClassId) (z : (Nat → Nat) × (Nat → Nat) × Nat) (S : wd_W) (p1 : Int32) (p2 : Int32) (p3 : Int32) (o : o_X12_soon) (hf : f_X12_soon S p1 p2 p3 = some o) : MX layM l yX12_soon cX12_soon 7 (some .int) ({ frames := 3, cells := 0, slots := 0, locals := 69 } : Room) D q g cy z [.ref (q 0), .int p1, .int p2, .int p3] S false (some (.int o.1)) (wd_o S [(38, o.2.1), (39, o.2.2.1)] [] [(17, o.2.2.2.1), (22, o.2.2.2.2.1), (23, o.2.2.2.2.2.1)] [(21, o.2.2.2.2.2.2.1), (36, o.2.2.2.2.2.2.2)] []) 0 0 := by
  refine mx_of (own := RX12) (lc := [(0, .ref (q 0)), (1, .int p1), (2, .int p2), (3, .int p3)]) (by decide +kernel) rfl layM_ok (Nat.le_of_ble_eq_true rfl) rfl ?_
  intro X hXl hXq hXz hC hQ
  subst hXl; subst hXq; subst hXz
  unfold f_X12_soon at hf
  refine go_keys (L1 := [(38, (S.1 38)), (39, (S.1 39))]) (L2 := []) (L3 := [(17, (S.2.2.1 17)), (22, (S.2.2.1 22)), (23, (S.2.2.1 23))]) (L4 := [(21, (S.2.2.2.1 21)), (36, (S.2.2.2.1 36))]) (L5 := []) [38, 39] [] [17, 22, 23] [21, 36] [] rfl rfl rfl rfl rfl ?_
  refine go_aload_n (pc' := 1) hC dX12_soon_0 rfl rfl ?_
  refine go_iload_n (pc' := 2) hC dX12_soon_1 rfl rfl ?_
  refine go_iload_n (pc' := 3) hC dX12_soon_2 rfl rfl ?_
  obtain ⟨o1, ho1, hf⟩ := bd_e hf
  refine go_callV0 (pc' := 6) (As := [.int p1, .int p2]) (st := []) (st' := [.int o1])    (b := 0) hC dX12_soon_3 ⟨mw_1249, mw_1252, mw_5, yd_yX12_areEnds, yp_yX12_areEnds, Nat.le_of_ble_eq_true rfl, Nat.le_of_ble_eq_true rfl, (Nat.le_of_ble_eq_true rfl), (Nat.le_of_ble_eq_true rfl)⟩ mw_1250 mw_1251 layM_0 rfl rfl rfl (Nat.le_of_ble_eq_true rfl) (c_X12_areEnds (x_l X) (x_D X) (x_q X) g (x_cy X) (x_z X) _ p1 p2 o1 ho1) rfl rfl ?_
  refine go_if_eq (tgt := 21) (pc' := 9) hC dX12_soon_6 (by decide) rfl (fun h16 => ?_) (fun h16 => ?_)
  · have hf := ite_t h16 hf
    refine go_iconst (pc' := 22) hC dX12_soon_21 ki_m1 rfl ?_
    obtain rfl := Option.some.inj hf
    exact go_iret hC hQ dX12_soon_22 rfl rfl rfl rfl (fun _ => rfl) rfl rfl
  · have hf := ite_f h16 hf
    refine go_iload_n (pc' := 10) hC dX12_soon_9 rfl rfl ?_
    refine go_i2l (pc' := 11) hC dX12_soon_10 rfl ?_
    refine go_lconst (pc' := 12) hC dX12_soon_11 kl_0 rfl ?_
    refine go_ldc2 (pc' := 15) hC dX12_soon_12 mw_1038 rfl ?_
    obtain ⟨o2, ho2, hf⟩ := bd_e hf
    refine go_callS0 (pc' := 18) (As := [.long p3.toInt64, .long (0 : Int64), .long (16 : Int64)]) (st := []) (st' := [.int o2])    hC dX12_soon_15 ⟨mw_525, mw_527, mw_5, yd_yX12_in, yp_yX12_in, Nat.le_of_ble_eq_true rfl, Nat.le_of_ble_eq_true rfl, (Nat.le_of_ble_eq_true rfl), (Nat.le_of_ble_eq_true rfl)⟩ mw_526 rfl rfl (Nat.le_of_ble_eq_true rfl) (c_X12_in (x_l X) (x_D X) (x_q X) g (x_cy X) (x_z X) _ p3.toInt64 (0 : Int64) (16 : Int64) o2 ho2) rfl rfl ?_
    refine go_if_ne (tgt := 23) (pc' := 21) hC dX12_soon_18 (by decide) rfl (fun h15 => ?_) (fun h15 => ?_)
    · have hf := ite_f h15 hf
      refine go_aload_n (pc' := 24) hC dX12_soon_23 rfl rfl ?_
      refine go_iload_n (pc' := 25) hC dX12_soon_24 rfl rfl ?_
      refine go_iload_n (pc' := 26) hC dX12_soon_25 rfl rfl ?_
      obtain ⟨o3, ho3, hf⟩ := bd_e hf
      refine go_callV1 (pc' := 29) (As := [.int p1, .int p2]) (st := []) (st' := []) (L1' := [(38, o3.1), (39, o3.2.1)]) (L2' := []) (L3' := [(17, o3.2.2.1), (22, o3.2.2.2.1), (23, o3.2.2.2.2.1)]) (L4' := [(21, o3.2.2.2.2.2.1), (36, o3.2.2.2.2.2.2)]) (L5' := []) (cells' := 0) (slots' := 0)  (b := 0) hC dX12_soon_26 ⟨mw_1328, mw_1331, mw_5, yd_yX12_daysOf, yp_yX12_daysOf, Nat.le_of_ble_eq_true rfl, Nat.le_of_ble_eq_true rfl, (Nat.le_of_ble_eq_true rfl), (Nat.le_of_ble_eq_true rfl)⟩ mw_1329 mw_1330 layM_0 rfl rfl rfl (Nat.le_of_ble_eq_true rfl) (c_X12_daysOf (x_l X) (x_D X) (x_q X) g (x_cy X) (x_z X) _ p1 p2 o3 ho3) rfl rfl rfl rfl rfl rfl rfl rfl rfl rfl rfl rfl rfl rfl ?_
      refine go_aload_n (pc' := 30) hC dX12_soon_29 rfl rfl ?_
      refine go_getq (pc' := 33) hC 0 66 layM_0 rfl rfl inlX12 (Nat.le_of_ble_eq_true rfl) mw_217 rfl dX12_soon_30 rfl ?_
      refine go_iconst (pc' := 34) hC dX12_soon_33 ki_0 rfl ?_
      obtain ⟨h4, hf⟩ := gd_e hf
      refine go_lald (f := o3.2.2.2.2.2.2) (pc' := 35) hC 36 layM_36 rfl rfl dX12_soon_34 (okx_in h4) rfl ?_
      refine go_namel (fun x5 hx => ?_)
      have hf := lz_r hx hf
      clear hx
      refine go_lstore (lc' := [(0, .ref (x_q X 0)), (1, .int p1), (2, .int p2), (3, .int p3), (4, .long x5)]) (pc' := 37) hC dX12_soon_35 (Nat.le_of_ble_eq_true rfl) rfl rfl ?_
      refine go_iconst (pc' := 38) hC dX12_soon_37 ki_1 rfl ?_
      refine go_istore (lc' := [(0, .ref (x_q X 0)), (1, .int p1), (2, .int p2), (3, .int p3), (4, .long x5), (6, .int (1 : Int32))]) (pc' := 40) hC dX12_soon_38 (Nat.le_of_ble_eq_true rfl) rfl rfl ?_
      have l40_14 : ∀ (nn : Nat) (x6 : Int64) (x7 : Int32), it2 (f_X12_soon_L40 S p3 o3) nn x6 x7 = some o → Go X layM S 40 [(0, .ref (x_q X 0)), (3, .int p3), (4, .long x6), (6, .int x7)] [] g [(38, o3.1), (39, o3.2.1)] [] [(17, o3.2.2.1), (22, o3.2.2.2.1), (23, o3.2.2.2.2.1)] [(21, o3.2.2.2.2.2.1), (36, o3.2.2.2.2.2.2)] [] 0 0 := by
        intro nn
        induction nn with
        | zero =>
          intro x6 x7 hf
          exact none_no hf
        | succ nn ih =>
          intro x6 x7 hf
          have hf : f_X12_soon_L40 S p3 o3 (it2 (f_X12_soon_L40 S p3 o3) nn) x6 x7 = some o := hf
          generalize it2 (f_X12_soon_L40 S p3 o3) nn = r8 at ih hf
          unfold f_X12_soon_L40 at hf
          refine go_iload (pc' := 42) hC dX12_soon_40 rfl rfl ?_
          refine go_bipush (pc' := 44) hC dX12_soon_42 kb_99 rfl ?_
          refine go_icmp_gt (tgt := 78) (pc' := 47) hC dX12_soon_44 (by decide) rfl (fun h13 => ?_) (fun h13 => ?_)
          · have hf := ite_t h13 hf
            refine go_bipush (pc' := 80) hC dX12_soon_78 kb_m2 rfl ?_
            obtain rfl := Option.some.inj hf
            exact go_iret hC hQ dX12_soon_80 rfl rfl rfl rfl (fun _ => rfl) rfl rfl
          · have hf := ite_f h13 hf
            refine go_lload (pc' := 49) hC dX12_soon_47 rfl rfl ?_
            refine go_aload_n (pc' := 50) hC dX12_soon_49 rfl rfl ?_
            refine go_getq (pc' := 53) hC 0 66 layM_0 rfl rfl inlX12 (Nat.le_of_ble_eq_true rfl) mw_217 rfl dX12_soon_50 rfl ?_
            refine go_iload (pc' := 55) hC dX12_soon_53 rfl rfl ?_
            obtain ⟨h9, hf⟩ := gd_e hf
            refine go_lald (f := o3.2.2.2.2.2.2) (pc' := 56) hC 36 layM_36 rfl rfl dX12_soon_55 (okx_in h9) rfl ?_
            refine go_ladd (pc' := 57) hC dX12_soon_56 rfl ?_
            refine go_namel (fun x10 hx => ?_)
            have hf := lz_r hx hf
            clear hx
            refine go_lstore (lc' := [(0, .ref (x_q X 0)), (3, .int p3), (4, .long x10), (6, .int x7)]) (pc' := 59) hC dX12_soon_57 (Nat.le_of_ble_eq_true rfl) rfl rfl ?_
            refine go_aload_n (pc' := 60) hC dX12_soon_59 rfl rfl ?_
            refine go_lload (pc' := 62) hC dX12_soon_60 rfl rfl ?_
            refine go_iload_n (pc' := 63) hC dX12_soon_62 rfl rfl ?_
            obtain ⟨o11, ho11, hf⟩ := bd_e hf
            refine go_callV0 (pc' := 66) (As := [.long x10, .int p3]) (st := []) (st' := [.int o11])    (b := 0) hC dX12_soon_63 ⟨mw_1209, mw_1212, mw_5, yd_yX12_isAtLeast, yp_yX12_isAtLeast, Nat.le_of_ble_eq_true rfl, Nat.le_of_ble_eq_true rfl, (Nat.le_of_ble_eq_true rfl), (Nat.le_of_ble_eq_true rfl)⟩ mw_1210 mw_1211 layM_0 rfl rfl rfl (Nat.le_of_ble_eq_true rfl) (c_X12_isAtLeast (x_l X) (x_D X) (x_q X) g (x_cy X) (x_z X) _ x10 p3 o11 ho11) rfl rfl ?_
            refine go_if_eq (tgt := 72) (pc' := 69) hC dX12_soon_66 (by decide) rfl (fun h12 => ?_) (fun h12 => ?_)
            · have hf := ite_t h12 hf
              refine go_iinc (lc' := [(0, .ref (x_q X 0)), (3, .int p3), (4, .long x10), (6, .int (x7 + (1 : Int32)))]) (pc' := 75) hC dX12_soon_72 rfl ki_1 (Nat.le_of_ble_eq_true rfl) rfl rfl ?_
              refine go_goto (tgt := 40) hC dX12_soon_75 (by decide) ?_
              exact ih x10 (x7 + (1 : Int32)) hf
            · have hf := ite_f h12 hf
              refine go_iload (pc' := 71) hC dX12_soon_69 rfl rfl ?_
              obtain rfl := Option.some.inj hf
              exact go_iret hC hQ dX12_soon_71 rfl rfl rfl rfl (fun _ => rfl) rfl rfl
      refine go_sub [0, 3, 4, 6] rfl ?_
      exact l40_14 fuel x5 (1 : Int32) hf
    · have hf := ite_t h15 hf
      refine go_iconst (pc' := 22) hC dX12_soon_21 ki_m1 rfl ?_
      obtain rfl := Option.some.inj hf
      exact go_iret hC hQ dX12_soon_22 rfl rfl rfl rfl (fun _ => rfl) rfl rfl
theorem dX12_draw_0 : decode cX12_draw 0 = .ok (.iload_n 1, 1) := by decide +kernel
theorem dX12_draw_1 : decode cX12_draw 1 = .ok (.ifCond .lt 15, 3) := by decide +kernel
theorem dX12_draw_4 : decode cX12_draw 4 = .ok (.iload_n 2, 1) := by decide +kernel
theorem dX12_draw_5 : decode cX12_draw 5 = .ok (.i2l, 1) := by decide +kernel
theorem dX12_draw_6 : decode cX12_draw 6 = .ok (.lconst 1, 1) := by decide +kernel
theorem dX12_draw_7 : decode cX12_draw 7 = .ok (.ldc2_w 465, 3) := by decide +kernel
theorem dX12_draw_10 : decode cX12_draw 10 = .ok (.invokestatic 218, 3) := by decide +kernel
theorem dX12_draw_13 : decode cX12_draw 13 = .ok (.ifCond .ne 5, 3) := by decide +kernel
theorem dX12_draw_16 : decode cX12_draw 16 = .ok (.iconst (-1), 1) := by decide +kernel
theorem dX12_draw_17 : decode cX12_draw 17 = .ok (.ireturn, 1) := by decide +kernel
theorem dX12_draw_18 : decode cX12_draw 18 = .ok (.aload_n 0, 1) := by decide +kernel
theorem dX12_draw_19 : decode cX12_draw 19 = .ok (.invokevirtual 361, 3) := by decide +kernel
theorem dX12_draw_22 : decode cX12_draw 22 = .ok (.iload_n 1, 1) := by decide +kernel
theorem dX12_draw_23 : decode cX12_draw 23 = .ok (.i2l, 1) := by decide +kernel
theorem dX12_draw_24 : decode cX12_draw 24 = .ok (.lstore_n 3, 1) := by decide +kernel
theorem dX12_draw_25 : decode cX12_draw 25 = .ok (.iconst 0, 1) := by decide +kernel
theorem dX12_draw_26 : decode cX12_draw 26 = .ok (.istore 5, 2) := by decide +kernel
theorem dX12_draw_28 : decode cX12_draw 28 = .ok (.iconst 0, 1) := by decide +kernel
theorem dX12_draw_29 : decode cX12_draw 29 = .ok (.istore 6, 2) := by decide +kernel
theorem dX12_draw_31 : decode cX12_draw 31 = .ok (.iload 6, 2) := by decide +kernel
theorem dX12_draw_33 : decode cX12_draw 33 = .ok (.iload_n 2, 1) := by decide +kernel
theorem dX12_draw_34 : decode cX12_draw 34 = .ok (.if_icmp .ge 94, 3) := by decide +kernel
theorem dX12_draw_37 : decode cX12_draw 37 = .ok (.iconst 0, 1) := by decide +kernel
theorem dX12_draw_38 : decode cX12_draw 38 = .ok (.istore 7, 2) := by decide +kernel
theorem dX12_draw_40 : decode cX12_draw 40 = .ok (.iconst 0, 1) := by decide +kernel
theorem dX12_draw_41 : decode cX12_draw 41 = .ok (.istore 8, 2) := by decide +kernel
theorem dX12_draw_43 : decode cX12_draw 43 = .ok (.iload 8, 2) := by decide +kernel
theorem dX12_draw_45 : decode cX12_draw 45 = .ok (.aload_n 0, 1) := by decide +kernel
theorem dX12_draw_46 : decode cX12_draw 46 = .ok (.getfield 288, 3) := by decide +kernel
theorem dX12_draw_49 : decode cX12_draw 49 = .ok (.if_icmp .ge 53, 3) := by decide +kernel
theorem dX12_draw_52 : decode cX12_draw 52 = .ok (.lload_n 3, 1) := by decide +kernel
theorem dX12_draw_53 : decode cX12_draw 53 = .ok (.ldc2_w 467, 3) := by decide +kernel
theorem dX12_draw_56 : decode cX12_draw 56 = .ok (.lmul, 1) := by decide +kernel
theorem dX12_draw_57 : decode cX12_draw 57 = .ok (.ldc2_w 469, 3) := by decide +kernel
theorem dX12_draw_60 : decode cX12_draw 60 = .ok (.ladd, 1) := by decide +kernel
theorem dX12_draw_61 : decode cX12_draw 61 = .ok (.ldc2_w 471, 3) := by decide +kernel
theorem dX12_draw_64 : decode cX12_draw 64 = .ok (.lrem, 1) := by decide +kernel
theorem dX12_draw_65 : decode cX12_draw 65 = .ok (.lstore_n 3, 1) := by decide +kernel
theorem dX12_draw_66 : decode cX12_draw 66 = .ok (.lload_n 3, 1) := by decide +kernel
theorem dX12_draw_67 : decode cX12_draw 67 = .ok (.ldc2_w 473, 3) := by decide +kernel
theorem dX12_draw_70 : decode cX12_draw 70 = .ok (.ldiv, 1) := by decide +kernel
theorem dX12_draw_71 : decode cX12_draw 71 = .ok (.ldc2_w 367, 3) := by decide +kernel
theorem dX12_draw_74 : decode cX12_draw 74 = .ok (.lrem, 1) := by decide +kernel
theorem dX12_draw_75 : decode cX12_draw 75 = .ok (.aload_n 0, 1) := by decide +kernel
theorem dX12_draw_76 : decode cX12_draw 76 = .ok (.getfield 57, 3) := by decide +kernel
theorem dX12_draw_79 : decode cX12_draw 79 = .ok (.iload 8, 2) := by decide +kernel
theorem dX12_draw_81 : decode cX12_draw 81 = .ok (.iaload, 1) := by decide +kernel
theorem dX12_draw_82 : decode cX12_draw 82 = .ok (.i2l, 1) := by decide +kernel
theorem dX12_draw_83 : decode cX12_draw 83 = .ok (.lcmp, 1) := by decide +kernel
theorem dX12_draw_84 : decode cX12_draw 84 = .ok (.ifCond .ge 12, 3) := by decide +kernel
theorem dX12_draw_87 : decode cX12_draw 87 = .ok (.iload 7, 2) := by decide +kernel
theorem dX12_draw_89 : decode cX12_draw 89 = .ok (.iconst 1, 1) := by decide +kernel
theorem dX12_draw_90 : decode cX12_draw 90 = .ok (.iload 8, 2) := by decide +kernel
theorem dX12_draw_92 : decode cX12_draw 92 = .ok (.ishl, 1) := by decide +kernel
theorem dX12_draw_93 : decode cX12_draw 93 = .ok (.ior, 1) := by decide +kernel
theorem dX12_draw_94 : decode cX12_draw 94 = .ok (.istore 7, 2) := by decide +kernel
theorem dX12_draw_96 : decode cX12_draw 96 = .ok (.iinc 8 1, 3) := by decide +kernel
theorem dX12_draw_99 : decode cX12_draw 99 = .ok (.goto (-56), 3) := by decide +kernel
theorem dX12_draw_102 : decode cX12_draw 102 = .ok (.iload 5, 2) := by decide +kernel
theorem dX12_draw_104 : decode cX12_draw 104 = .ok (.aload_n 0, 1) := by decide +kernel
theorem dX12_draw_105 : decode cX12_draw 105 = .ok (.getfield 70, 3) := by decide +kernel
theorem dX12_draw_108 : decode cX12_draw 108 = .ok (.iload 7, 2) := by decide +kernel
theorem dX12_draw_110 : decode cX12_draw 110 = .ok (.baload, 1) := by decide +kernel
theorem dX12_draw_111 : decode cX12_draw 111 = .ok (.ifCond .eq 7, 3) := by decide +kernel
theorem dX12_draw_114 : decode cX12_draw 114 = .ok (.iconst 1, 1) := by decide +kernel
theorem dX12_draw_115 : decode cX12_draw 115 = .ok (.goto 4, 3) := by decide +kernel
theorem dX12_draw_118 : decode cX12_draw 118 = .ok (.iconst 0, 1) := by decide +kernel
theorem dX12_draw_119 : decode cX12_draw 119 = .ok (.iadd, 1) := by decide +kernel
theorem dX12_draw_120 : decode cX12_draw 120 = .ok (.istore 5, 2) := by decide +kernel
theorem dX12_draw_122 : decode cX12_draw 122 = .ok (.iinc 6 1, 3) := by decide +kernel
theorem dX12_draw_125 : decode cX12_draw 125 = .ok (.goto (-94), 3) := by decide +kernel
theorem dX12_draw_128 : decode cX12_draw 128 = .ok (.iload 5, 2) := by decide +kernel
theorem dX12_draw_130 : decode cX12_draw 130 = .ok (.ireturn, 1) := by decide +kernel
abbrev o_X12_draw : Type := Int32 × Int32 × Int32 × Int32 × (Nat → Int32) × (Nat → Int32) × (Nat → Int32) × (Nat → Int32)
def f_X12_draw_L43 (S : wd_W) (k102_10 : (Int64) → (Int32) → (Option o_X12_draw)) (r20 : (Int64) → (Int32) → (Int32) → (Option o_X12_draw)) (x17 : Int64) (x18 : Int32) (x19 : Int32) : Option o_X12_draw :=
if (S.1 32) ≤ x19 then (
k102_10 x17 x18) else (
lz (((x17 * (1103515245 : Int64)) + (12345 : Int64)) - ((x17 * (1103515245 : Int64)) + (12345 : Int64)) / (2147483648 : Int64) * (2147483648 : Int64)) fun x21 =>
gd (okx x19 15) <|
lk (fun x23 =>
r20 x21 x23 (x19 + (1 : Int32))) fun k96_24 =>
if (((S.2.2.1 16) x19.toNatClampNeg).toInt64) ≤ ((x21 / (65536 : Int64)) - (x21 / (65536 : Int64)) / (16 : Int64) * (16 : Int64)) then (
k96_24 x18) else (
lz (x18 ||| ((1 : Int32) <<< (x19 &&& 31))) fun x25 =>
k96_24 x25))
def f_X12_draw_L31 (S : wd_W) (p2 : Int32) (o2 : o_X12_lays) (r7 : (Int64) → (Int32) → (Int32) → (Option o_X12_draw)) (x4 : Int64) (x5 : Int32) (x6 : Int32) : Option o_X12_draw :=
if p2 ≤ x6 then (
some (x5, o2.1, o2.2.1, o2.2.2.1, o2.2.2.2.1, o2.2.2.2.2.1, o2.2.2.2.2.2.1, o2.2.2.2.2.2.2)) else (
lk (fun x8 x9 =>
gd (okx x9 32768) <|
lk (fun x12 x13 =>
lz (x13 + x12) fun x15 =>
r7 x8 x15 (x6 + (1 : Int32))) fun k119_14 =>
if (o2.2.2.2.2.2.2 x9.toNatClampNeg) = 0 then (
k119_14 (0 : Int32) x5) else (
k119_14 (1 : Int32) x5)) fun k102_10 =>
it3 (f_X12_draw_L43 S k102_10) fuel x4 (0 : Int32) (0 : Int32))
def f_X12_draw (S : wd_W) (p1 : Int32) (p2 : Int32) : Option o_X12_draw :=
if p1 < 0 then (
some ((-1 : Int32), (S.1 38), (S.1 39), (S.1 44), (S.2.2.1 17), (S.2.2.1 18), (S.2.2.1 19), (S.2.2.1 20))) else (
bd (f_X12_in p2.toInt64 (1 : Int64) (1000 : Int64)) fun o1 =>
if o1 = 0 then (
some ((-1 : Int32), (S.1 38), (S.1 39), (S.1 44), (S.2.2.1 17), (S.2.2.1 18), (S.2.2.1 19), (S.2.2.1 20))) else (
bd (f_X12_lays (wd_o S [(38, (S.1 38)), (39, (S.1 39)), (44, (S.1 44))] [] [(17, (S.2.2.1 17)), (18, (S.2.2.1 18)), (19, (S.2.2.1 19)), (20, (S.2.2.1 20))] [] [])) fun o2 =>
lz (p1.toInt64) fun x3 =>
it3 (f_X12_draw_L31 S p2 o2) fuel x3 (0 : Int32) (0 : Int32)))
set_option maxRecDepth 100000 in
set_option maxHeartbeats 4000000 in
theorem c_X12_draw (l : Launch) (D : va_G) (q g : Nat → Nat) (cy : Nat → ClassId) (z : (Nat → Nat) × (Nat → Nat) × Nat) (S : wd_W) (p1 : Int32) (p2 : Int32) (o : o_X12_draw) (hf : f_X12_draw S p1 p2 = some o) : MX layM l yX12_draw cX12_draw 9 (some .int) ({ frames := 5, cells := 0, slots := 0, locals := 115 } : Room) D q g cy z [.ref (q 0), .int p1, .int p2] S false (some (.int o.1)) (wd_o S [(38, o.2.1), (39, o.2.2.1), (44, o.2.2.2.1)] [] [(17, o.2.2.2.2.1), (18, o.2.2.2.2.2.1), (19, o.2.2.2.2.2.2.1), (20, o.2.2.2.2.2.2.2)] [] []) 0 0 := by
  refine mx_of (own := RX12) (lc := [(0, .ref (q 0)), (1, .int p1), (2, .int p2)]) (by decide +kernel) rfl layM_ok (Nat.le_of_ble_eq_true rfl) rfl ?_
  intro X hXl hXq hXz hC hQ
  subst hXl; subst hXq; subst hXz
  unfold f_X12_draw at hf
  refine go_keys (L1 := [(38, (S.1 38)), (39, (S.1 39)), (44, (S.1 44))]) (L2 := []) (L3 := [(17, (S.2.2.1 17)), (18, (S.2.2.1 18)), (19, (S.2.2.1 19)), (20, (S.2.2.1 20))]) (L4 := []) (L5 := []) [38, 39, 44] [] [17, 18, 19, 20] [] [] rfl rfl rfl rfl rfl ?_
  refine go_iload_n (pc' := 1) hC dX12_draw_0 rfl rfl ?_
  refine go_if_lt (tgt := 16) (pc' := 4) hC dX12_draw_1 (by decide) rfl (fun h32 => ?_) (fun h32 => ?_)
  · have hf := ite_t h32 hf
    refine go_iconst (pc' := 17) hC dX12_draw_16 ki_m1 rfl ?_
    obtain rfl := Option.some.inj hf
    exact go_iret hC hQ dX12_draw_17 rfl rfl rfl rfl (fun _ => rfl) rfl rfl
  · have hf := ite_f h32 hf
    refine go_iload_n (pc' := 5) hC dX12_draw_4 rfl rfl ?_
    refine go_i2l (pc' := 6) hC dX12_draw_5 rfl ?_
    refine go_lconst (pc' := 7) hC dX12_draw_6 kl_1 rfl ?_
    refine go_ldc2 (pc' := 10) hC dX12_draw_7 mw_1357 rfl ?_
    obtain ⟨o1, ho1, hf⟩ := bd_e hf
    refine go_callS0 (pc' := 13) (As := [.long p2.toInt64, .long (1 : Int64), .long (1000 : Int64)]) (st := []) (st' := [.int o1])    hC dX12_draw_10 ⟨mw_525, mw_527, mw_5, yd_yX12_in, yp_yX12_in, Nat.le_of_ble_eq_true rfl, Nat.le_of_ble_eq_true rfl, (Nat.le_of_ble_eq_true rfl), (Nat.le_of_ble_eq_true rfl)⟩ mw_526 rfl rfl (Nat.le_of_ble_eq_true rfl) (c_X12_in (x_l X) (x_D X) (x_q X) g (x_cy X) (x_z X) _ p2.toInt64 (1 : Int64) (1000 : Int64) o1 ho1) rfl rfl ?_
    refine go_if_ne (tgt := 18) (pc' := 16) hC dX12_draw_13 (by decide) rfl (fun h31 => ?_) (fun h31 => ?_)
    · have hf := ite_f h31 hf
      refine go_aload_n (pc' := 19) hC dX12_draw_18 rfl rfl ?_
      obtain ⟨o2, ho2, hf⟩ := bd_e hf
      refine go_callV1 (pc' := 22) (As := []) (st := []) (st' := []) (L1' := [(38, o2.1), (39, o2.2.1), (44, o2.2.2.1)]) (L2' := []) (L3' := [(17, o2.2.2.2.1), (18, o2.2.2.2.2.1), (19, o2.2.2.2.2.2.1), (20, o2.2.2.2.2.2.2)]) (L4' := []) (L5' := []) (cells' := 0) (slots' := 0)  (b := 0) hC dX12_draw_19 ⟨mw_860, mw_863, mw_5, yd_yX12_lays, yp_yX12_lays, Nat.le_of_ble_eq_true rfl, Nat.le_of_ble_eq_true rfl, (Nat.le_of_ble_eq_true rfl), (Nat.le_of_ble_eq_true rfl)⟩ mw_861 mw_862 layM_0 rfl rfl rfl (Nat.le_of_ble_eq_true rfl) (c_X12_lays (x_l X) (x_D X) (x_q X) g (x_cy X) (x_z X) _  o2 ho2) rfl rfl rfl rfl rfl rfl rfl rfl rfl rfl rfl rfl rfl rfl ?_
      refine go_iload_n (pc' := 23) hC dX12_draw_22 rfl rfl ?_
      refine go_i2l (pc' := 24) hC dX12_draw_23 rfl ?_
      refine go_namel (fun x3 hx => ?_)
      have hf := lz_r hx hf
      clear hx
      refine go_lstore_n (lc' := [(0, .ref (x_q X 0)), (1, .int p1), (2, .int p2), (3, .long x3)]) (pc' := 25) hC dX12_draw_24 (Nat.le_of_ble_eq_true rfl) rfl rfl ?_
      refine go_iconst (pc' := 26) hC dX12_draw_25 ki_0 rfl ?_
      refine go_istore (lc' := [(0, .ref (x_q X 0)), (1, .int p1), (2, .int p2), (3, .long x3), (5, .int (0 : Int32))]) (pc' := 28) hC dX12_draw_26 (Nat.le_of_ble_eq_true rfl) rfl rfl ?_
      refine go_iconst (pc' := 29) hC dX12_draw_28 ki_0 rfl ?_
      refine go_istore (lc' := [(0, .ref (x_q X 0)), (1, .int p1), (2, .int p2), (3, .long x3), (5, .int (0 : Int32)), (6, .int (0 : Int32))]) (pc' := 31) hC dX12_draw_29 (Nat.le_of_ble_eq_true rfl) rfl rfl ?_
      have l31_30 : ∀ (nn : Nat) (x4 : Int64) (x5 : Int32) (x6 : Int32), it3 (f_X12_draw_L31 S p2 o2) nn x4 x5 x6 = some o → Go X layM S 31 [(0, .ref (x_q X 0)), (2, .int p2), (3, .long x4), (5, .int x5), (6, .int x6)] [] g [(38, o2.1), (39, o2.2.1), (44, o2.2.2.1)] [] [(17, o2.2.2.2.1), (18, o2.2.2.2.2.1), (19, o2.2.2.2.2.2.1), (20, o2.2.2.2.2.2.2)] [] [] 0 0 := by
        intro nn
        induction nn with
        | zero =>
          intro x4 x5 x6 hf
          exact none_no hf
        | succ nn ih =>
          intro x4 x5 x6 hf
          have hf : f_X12_draw_L31 S p2 o2 (it3 (f_X12_draw_L31 S p2 o2) nn) x4 x5 x6 = some o := hf
          generalize it3 (f_X12_draw_L31 S p2 o2) nn = r7 at ih hf
          unfold f_X12_draw_L31 at hf
          refine go_iload (pc' := 33) hC dX12_draw_31 rfl rfl ?_
          refine go_iload_n (pc' := 34) hC dX12_draw_33 rfl rfl ?_
          refine go_icmp_ge (tgt := 128) (pc' := 37) hC dX12_draw_34 (by decide) rfl (fun h29 => ?_) (fun h29 => ?_)
          · have hf := ite_t h29 hf
            refine go_iload (pc' := 130) hC dX12_draw_128 rfl rfl ?_
            obtain rfl := Option.some.inj hf
            exact go_iret hC hQ dX12_draw_130 rfl rfl rfl rfl (fun _ => rfl) rfl rfl
          · have hf := ite_f h29 hf
            refine go_iconst (pc' := 38) hC dX12_draw_37 ki_0 rfl ?_
            refine go_istore (lc' := [(0, .ref (x_q X 0)), (2, .int p2), (3, .long x4), (5, .int x5), (6, .int x6), (7, .int (0 : Int32))]) (pc' := 40) hC dX12_draw_38 (Nat.le_of_ble_eq_true rfl) rfl rfl ?_
            refine go_iconst (pc' := 41) hC dX12_draw_40 ki_0 rfl ?_
            refine go_istore (lc' := [(0, .ref (x_q X 0)), (2, .int p2), (3, .long x4), (5, .int x5), (6, .int x6), (7, .int (0 : Int32)), (8, .int (0 : Int32))]) (pc' := 43) hC dX12_draw_41 (Nat.le_of_ble_eq_true rfl) rfl rfl ?_
            obtain ⟨k102_10, hk102_10, hf⟩ := lk_e2 hf
            have jk102_10 : ∀ (x8 : Int64) (x9 : Int32), k102_10 x8 x9 = some o → Go X layM S 102 [(0, .ref (x_q X 0)), (2, .int p2), (3, .long x8), (5, .int x5), (6, .int x6), (7, .int x9)] [] g [(38, o2.1), (39, o2.2.1), (44, o2.2.2.1)] [] [(17, o2.2.2.2.1), (18, o2.2.2.2.2.1), (19, o2.2.2.2.2.2.1), (20, o2.2.2.2.2.2.2)] [] [] 0 0 := by
              intro x8 x9 hf
              have hf := hk102_10 x8 x9 hf
              clear hk102_10
              refine go_iload (pc' := 104) hC dX12_draw_102 rfl rfl ?_
              refine go_aload_n (pc' := 105) hC dX12_draw_104 rfl rfl ?_
              refine go_getq (pc' := 108) hC 0 43 layM_0 rfl rfl inlX12 (Nat.le_of_ble_eq_true rfl) mw_201 rfl dX12_draw_105 rfl ?_
              refine go_iload (pc' := 110) hC dX12_draw_108 rfl rfl ?_
              obtain ⟨h11, hf⟩ := gd_e hf
              refine go_zald (f := o2.2.2.2.2.2.2) (pc' := 111) hC 20 layM_20 rfl rfl dX12_draw_110 (okx_in h11) rfl ?_
              obtain ⟨k119_14, hk119_14, hf⟩ := lk_e2 hf
              have jk119_14 : ∀ (x12 : Int32) (x13 : Int32), k119_14 x12 x13 = some o → Go X layM S 119 [(0, .ref (x_q X 0)), (2, .int p2), (3, .long x8), (6, .int x6)] [.int x12, .int x13] g [(38, o2.1), (39, o2.2.1), (44, o2.2.2.1)] [] [(17, o2.2.2.2.1), (18, o2.2.2.2.2.1), (19, o2.2.2.2.2.2.1), (20, o2.2.2.2.2.2.2)] [] [] 0 0 := by
                intro x12 x13 hf
                have hf := hk119_14 x12 x13 hf
                clear hk119_14
                refine go_iadd (pc' := 120) hC dX12_draw_119 rfl ?_
                refine go_namei (fun x15 hx => ?_)
                have hf := lz_r hx hf
                clear hx
                refine go_istore (lc' := [(0, .ref (x_q X 0)), (2, .int p2), (3, .long x8), (5, .int x15), (6, .int x6)]) (pc' := 122) hC dX12_draw_120 (Nat.le_of_ble_eq_true rfl) rfl rfl ?_
                refine go_iinc (lc' := [(0, .ref (x_q X 0)), (2, .int p2), (3, .long x8), (5, .int x15), (6, .int (x6 + (1 : Int32)))]) (pc' := 125) hC dX12_draw_122 rfl ki_1 (Nat.le_of_ble_eq_true rfl) rfl rfl ?_
                refine go_goto (tgt := 31) hC dX12_draw_125 (by decide) ?_
                exact ih x8 x15 (x6 + (1 : Int32)) hf
              clear hk119_14
              refine go_if_eq (tgt := 118) (pc' := 114) hC dX12_draw_111 (by decide) rfl (fun h16 => ?_) (fun h16 => ?_)
              · have hf := ite_t h16 hf
                refine go_iconst (pc' := 119) hC dX12_draw_118 ki_0 rfl ?_
                refine go_sub [0, 2, 3, 6] rfl ?_
                exact jk119_14 (0 : Int32) x5 hf
              · have hf := ite_f h16 hf
                refine go_iconst (pc' := 115) hC dX12_draw_114 ki_1 rfl ?_
                refine go_goto (tgt := 119) hC dX12_draw_115 (by decide) ?_
                refine go_sub [0, 2, 3, 6] rfl ?_
                exact jk119_14 (1 : Int32) x5 hf
            clear hk102_10
            have l43_28 : ∀ (nn : Nat) (x17 : Int64) (x18 : Int32) (x19 : Int32), it3 (f_X12_draw_L43 S k102_10) nn x17 x18 x19 = some o → Go X layM S 43 [(0, .ref (x_q X 0)), (2, .int p2), (3, .long x17), (5, .int x5), (6, .int x6), (7, .int x18), (8, .int x19)] [] g [(38, o2.1), (39, o2.2.1), (44, o2.2.2.1)] [] [(17, o2.2.2.2.1), (18, o2.2.2.2.2.1), (19, o2.2.2.2.2.2.1), (20, o2.2.2.2.2.2.2)] [] [] 0 0 := by
              intro nn
              induction nn with
              | zero =>
                intro x17 x18 x19 hf
                exact none_no hf
              | succ nn ih =>
                intro x17 x18 x19 hf
                have hf : f_X12_draw_L43 S k102_10 (it3 (f_X12_draw_L43 S k102_10) nn) x17 x18 x19 = some o := hf
                generalize it3 (f_X12_draw_L43 S k102_10) nn = r20 at ih hf
                unfold f_X12_draw_L43 at hf
                refine go_iload (pc' := 45) hC dX12_draw_43 rfl rfl ?_
                refine go_aload_n (pc' := 46) hC dX12_draw_45 rfl rfl ?_
                refine go_geti (v := (S.1 32)) (pc' := 49) hC 0 32 layM_0 rfl rfl inlX12 (Nat.le_of_ble_eq_true rfl) mw_250 rfl dX12_draw_46 rfl rfl ?_
                refine go_icmp_ge (tgt := 102) (pc' := 52) hC dX12_draw_49 (by decide) rfl (fun h27 => ?_) (fun h27 => ?_)
                · have hf := ite_t h27 hf
                  refine go_sub [0, 2, 3, 5, 6, 7] rfl ?_
                  exact jk102_10 x17 x18 hf
                · have hf := ite_f h27 hf
                  refine go_lload_n (pc' := 53) hC dX12_draw_52 rfl rfl ?_
                  refine go_ldc2 (pc' := 56) hC dX12_draw_53 mw_1358 rfl ?_
                  refine go_lmul (pc' := 57) hC dX12_draw_56 rfl ?_
                  refine go_ldc2 (pc' := 60) hC dX12_draw_57 mw_1359 rfl ?_
                  refine go_ladd (pc' := 61) hC dX12_draw_60 rfl ?_
                  refine go_ldc2 (pc' := 64) hC dX12_draw_61 mw_1360 rfl ?_
                  refine go_lrem (pc' := 65) hC dX12_draw_64 (by decide) rfl ?_
                  refine go_namel (fun x21 hx => ?_)
                  have hf := lz_r hx hf
                  clear hx
                  refine go_lstore_n (lc' := [(0, .ref (x_q X 0)), (2, .int p2), (3, .long x21), (5, .int x5), (6, .int x6), (7, .int x18), (8, .int x19)]) (pc' := 66) hC dX12_draw_65 (Nat.le_of_ble_eq_true rfl) rfl rfl ?_
                  refine go_lload_n (pc' := 67) hC dX12_draw_66 rfl rfl ?_
                  refine go_ldc2 (pc' := 70) hC dX12_draw_67 mw_1361 rfl ?_
                  refine go_ldiv (pc' := 71) hC dX12_draw_70 (by decide) rfl ?_
                  refine go_ldc2 (pc' := 74) hC dX12_draw_71 mw_1038 rfl ?_
                  refine go_lrem (pc' := 75) hC dX12_draw_74 (by decide) rfl ?_
                  refine go_aload_n (pc' := 76) hC dX12_draw_75 rfl rfl ?_
                  refine go_getq (pc' := 79) hC 0 33 layM_0 rfl rfl inlX12 (Nat.le_of_ble_eq_true rfl) mw_196 rfl dX12_draw_76 rfl ?_
                  refine go_iload (pc' := 81) hC dX12_draw_79 rfl rfl ?_
                  obtain ⟨h22, hf⟩ := gd_e hf
                  refine go_iald (f := (S.2.2.1 16)) (pc' := 82) hC 16 layM_16 rfl rfl dX12_draw_81 (okx_in h22) rfl ?_
                  refine go_i2l (pc' := 83) hC dX12_draw_82 rfl ?_
                  refine go_lcmp (pc' := 84) hC dX12_draw_83 rfl ?_
                  obtain ⟨k96_24, hk96_24, hf⟩ := lk_e1 hf
                  have jk96_24 : ∀ (x23 : Int32), k96_24 x23 = some o → Go X layM S 96 [(0, .ref (x_q X 0)), (2, .int p2), (3, .long x21), (5, .int x5), (6, .int x6), (7, .int x23), (8, .int x19)] [] g [(38, o2.1), (39, o2.2.1), (44, o2.2.2.1)] [] [(17, o2.2.2.2.1), (18, o2.2.2.2.2.1), (19, o2.2.2.2.2.2.1), (20, o2.2.2.2.2.2.2)] [] [] 0 0 := by
                    intro x23 hf
                    have hf := hk96_24 x23 hf
                    clear hk96_24
                    refine go_iinc (lc' := [(0, .ref (x_q X 0)), (2, .int p2), (3, .long x21), (5, .int x5), (6, .int x6), (7, .int x23), (8, .int (x19 + (1 : Int32)))]) (pc' := 99) hC dX12_draw_96 rfl ki_1 (Nat.le_of_ble_eq_true rfl) rfl rfl ?_
                    refine go_goto (tgt := 43) hC dX12_draw_99 (by decide) ?_
                    exact ih x21 x23 (x19 + (1 : Int32)) hf
                  clear hk96_24
                  refine go_if_ge (tgt := 96) (pc' := 87) hC dX12_draw_84 (by decide) rfl (fun h26 => ?_) (fun h26 => ?_)
                  · have hf := ite_t (lg_ge.mp h26) hf
                    exact jk96_24 x18 hf
                  · have hf := ite_f (mt lg_ge.mpr h26) hf
                    refine go_iload (pc' := 89) hC dX12_draw_87 rfl rfl ?_
                    refine go_iconst (pc' := 90) hC dX12_draw_89 ki_1 rfl ?_
                    refine go_iload (pc' := 92) hC dX12_draw_90 rfl rfl ?_
                    refine go_ishl (pc' := 93) hC dX12_draw_92 rfl ?_
                    refine go_ior (pc' := 94) hC dX12_draw_93 rfl ?_
                    refine go_namei (fun x25 hx => ?_)
                    have hf := lz_r hx hf
                    clear hx
                    refine go_istore (lc' := [(0, .ref (x_q X 0)), (2, .int p2), (3, .long x21), (5, .int x5), (6, .int x6), (7, .int x25), (8, .int x19)]) (pc' := 96) hC dX12_draw_94 (Nat.le_of_ble_eq_true rfl) rfl rfl ?_
                    exact jk96_24 x25 hf
            exact l43_28 fuel x4 (0 : Int32) (0 : Int32) hf
      refine go_sub [0, 2, 3, 5, 6] rfl ?_
      exact l31_30 fuel x3 (0 : Int32) (0 : Int32) hf
    · have hf := ite_t h31 hf
      refine go_iconst (pc' := 17) hC dX12_draw_16 ki_m1 rfl ?_
      obtain rfl := Option.some.inj hf
      exact go_iret hC hQ dX12_draw_17 rfl rfl rfl rfl (fun _ => rfl) rfl rfl
theorem dX12_drops_0 : decode cX12_drops 0 = .ok (.aload_n 0, 1) := by decide +kernel
theorem dX12_drops_1 : decode cX12_drops 1 = .ok (.dup, 1) := by decide +kernel
theorem dX12_drops_2 : decode cX12_drops 2 = .ok (.getfield 475, 3) := by decide +kernel
theorem dX12_drops_5 : decode cX12_drops 5 = .ok (.iconst 1, 1) := by decide +kernel
theorem dX12_drops_6 : decode cX12_drops 6 = .ok (.isub, 1) := by decide +kernel
theorem dX12_drops_7 : decode cX12_drops 7 = .ok (.putfield 475, 3) := by decide +kernel
theorem dX12_drops_10 : decode cX12_drops 10 = .ok (.aload_n 0, 1) := by decide +kernel
theorem dX12_drops_11 : decode cX12_drops 11 = .ok (.getfield 122, 3) := by decide +kernel
theorem dX12_drops_14 : decode cX12_drops 14 = .ok (.iload_n 1, 1) := by decide +kernel
theorem dX12_drops_15 : decode cX12_drops 15 = .ok (.aload_n 0, 1) := by decide +kernel
theorem dX12_drops_16 : decode cX12_drops 16 = .ok (.getfield 122, 3) := by decide +kernel
theorem dX12_drops_19 : decode cX12_drops 19 = .ok (.aload_n 0, 1) := by decide +kernel
theorem dX12_drops_20 : decode cX12_drops 20 = .ok (.getfield 475, 3) := by decide +kernel
theorem dX12_drops_23 : decode cX12_drops 23 = .ok (.iaload, 1) := by decide +kernel
theorem dX12_drops_24 : decode cX12_drops 24 = .ok (.iastore, 1) := by decide +kernel
theorem dX12_drops_25 : decode cX12_drops 25 = .ok (.aload_n 0, 1) := by decide +kernel
theorem dX12_drops_26 : decode cX12_drops 26 = .ok (.getfield 125, 3) := by decide +kernel
theorem dX12_drops_29 : decode cX12_drops 29 = .ok (.iload_n 1, 1) := by decide +kernel
theorem dX12_drops_30 : decode cX12_drops 30 = .ok (.aload_n 0, 1) := by decide +kernel
theorem dX12_drops_31 : decode cX12_drops 31 = .ok (.getfield 125, 3) := by decide +kernel
theorem dX12_drops_34 : decode cX12_drops 34 = .ok (.aload_n 0, 1) := by decide +kernel
theorem dX12_drops_35 : decode cX12_drops 35 = .ok (.getfield 475, 3) := by decide +kernel
theorem dX12_drops_38 : decode cX12_drops 38 = .ok (.iaload, 1) := by decide +kernel
theorem dX12_drops_39 : decode cX12_drops 39 = .ok (.iastore, 1) := by decide +kernel
theorem dX12_drops_40 : decode cX12_drops 40 = .ok (.return_, 1) := by decide +kernel
abbrev o_X12_drops : Type := Int32 × (Nat → Int32) × (Nat → Int32)
def f_X12_drops (S : wd_W) (p1 : Int32) : Option o_X12_drops :=
lz ((S.1 67) - (1 : Int32)) fun x1 =>
gd (okx x1 12) <|
lz ((S.2.2.1 37) x1.toNatClampNeg) fun x3 =>
gd (okx p1 12) <|
lz (upd (S.2.2.1 37) p1.toNatClampNeg x3) fun a5 =>
gd (okx x1 12) <|
lz ((S.2.2.1 38) x1.toNatClampNeg) fun x7 =>
gd (okx p1 12) <|
lz (upd (S.2.2.1 38) p1.toNatClampNeg x7) fun a9 =>
some (x1, a5, a9)
set_option maxRecDepth 100000 in
set_option maxHeartbeats 4000000 in
theorem c_X12_drops (l : Launch) (D : va_G) (q g : Nat → Nat) (cy : Nat → ClassId) (z : (Nat → Nat) × (Nat → Nat) × Nat) (S : wd_W) (p1 : Int32) (o : o_X12_drops) (hf : f_X12_drops S p1 = some o) : MX layM l yX12_drops cX12_drops 2 none ({ frames := 0, cells := 0, slots := 0, locals := 0 } : Room) D q g cy z [.ref (q 0), .int p1] S false (none) (wd_o S [(67, o.1)] [] [(37, o.2.1), (38, o.2.2)] [] []) 0 0 := by
  refine mx_of (own := RX12) (lc := [(0, .ref (q 0)), (1, .int p1)]) (by decide +kernel) rfl layM_ok (Nat.le_of_ble_eq_true rfl) rfl ?_
  intro X hXl hXq hXz hC hQ
  subst hXl; subst hXq; subst hXz
  unfold f_X12_drops at hf
  refine go_keys (L1 := [(67, (S.1 67))]) (L2 := []) (L3 := [(37, (S.2.2.1 37)), (38, (S.2.2.1 38))]) (L4 := []) (L5 := []) [67] [] [37, 38] [] [] rfl rfl rfl rfl rfl ?_
  refine go_aload_n (pc' := 1) hC dX12_drops_0 rfl rfl ?_
  refine go_dup (pc' := 2) hC dX12_drops_1 rfl rfl ?_
  refine go_geti (v := (S.1 67)) (pc' := 5) hC 0 67 layM_0 rfl rfl inlX12 (Nat.le_of_ble_eq_true rfl) mw_1379 rfl dX12_drops_2 rfl rfl ?_
  refine go_iconst (pc' := 6) hC dX12_drops_5 ki_1 rfl ?_
  refine go_isub (pc' := 7) hC dX12_drops_6 rfl ?_
  refine go_namei (fun x1 hx => ?_)
  have hf := lz_r hx hf
  clear hx
  refine go_puti (L1' := [(67, x1)]) (pc' := 10) hC 0 67 layM_0 rfl rfl inlX12 tyX12_ok nmX12 (Nat.le_of_ble_eq_true rfl) mw_1379 rfl rfl rfl rfl dX12_drops_7 rfl rfl rfl ?_
  refine go_aload_n (pc' := 11) hC dX12_drops_10 rfl rfl ?_
  refine go_getq (pc' := 14) hC 0 68 layM_0 rfl rfl inlX12 (Nat.le_of_ble_eq_true rfl) mw_218 rfl dX12_drops_11 rfl ?_
  refine go_iload_n (pc' := 15) hC dX12_drops_14 rfl rfl ?_
  refine go_aload_n (pc' := 16) hC dX12_drops_15 rfl rfl ?_
  refine go_getq (pc' := 19) hC 0 68 layM_0 rfl rfl inlX12 (Nat.le_of_ble_eq_true rfl) mw_218 rfl dX12_drops_16 rfl ?_
  refine go_aload_n (pc' := 20) hC dX12_drops_19 rfl rfl ?_
  refine go_geti (v := x1) (pc' := 23) hC 0 67 layM_0 rfl rfl inlX12 (Nat.le_of_ble_eq_true rfl) mw_1379 rfl dX12_drops_20 rfl rfl ?_
  obtain ⟨h2, hf⟩ := gd_e hf
  refine go_iald (f := (S.2.2.1 37)) (pc' := 24) hC 37 layM_37 rfl rfl dX12_drops_23 (okx_in h2) rfl ?_
  refine go_namei (fun x3 hx => ?_)
  have hf := lz_r hx hf
  clear hx
  obtain ⟨h4, hf⟩ := gd_e hf
  refine go_iast (f := (S.2.2.1 37)) (pc' := 25) hC 37 layM_37 rfl rfl dX12_drops_24 (okx_in h4) rfl rfl (fun a5 ha L3' hL => ?_)
  have hf := lz_r ha hf
  clear ha
  obtain rfl : L3' = [(37, a5), (38, (S.2.2.1 38))] := hL.symm
  refine go_aload_n (pc' := 26) hC dX12_drops_25 rfl rfl ?_
  refine go_getq (pc' := 29) hC 0 69 layM_0 rfl rfl inlX12 (Nat.le_of_ble_eq_true rfl) mw_219 rfl dX12_drops_26 rfl ?_
  refine go_iload_n (pc' := 30) hC dX12_drops_29 rfl rfl ?_
  refine go_aload_n (pc' := 31) hC dX12_drops_30 rfl rfl ?_
  refine go_getq (pc' := 34) hC 0 69 layM_0 rfl rfl inlX12 (Nat.le_of_ble_eq_true rfl) mw_219 rfl dX12_drops_31 rfl ?_
  refine go_aload_n (pc' := 35) hC dX12_drops_34 rfl rfl ?_
  refine go_geti (v := x1) (pc' := 38) hC 0 67 layM_0 rfl rfl inlX12 (Nat.le_of_ble_eq_true rfl) mw_1379 rfl dX12_drops_35 rfl rfl ?_
  obtain ⟨h6, hf⟩ := gd_e hf
  refine go_iald (f := (S.2.2.1 38)) (pc' := 39) hC 38 layM_38 rfl rfl dX12_drops_38 (okx_in h6) rfl ?_
  refine go_namei (fun x7 hx => ?_)
  have hf := lz_r hx hf
  clear hx
  obtain ⟨h8, hf⟩ := gd_e hf
  refine go_iast (f := (S.2.2.1 38)) (pc' := 40) hC 38 layM_38 rfl rfl dX12_drops_39 (okx_in h8) rfl rfl (fun a9 ha L3' hL => ?_)
  have hf := lz_r ha hf
  clear ha
  obtain rfl : L3' = [(37, a5), (38, a9)] := hL.symm
  obtain rfl := Option.some.inj hf
  exact go_vret hC hQ dX12_drops_40 rfl rfl rfl (fun _ => rfl) rfl rfl
theorem dX12_isAt_0 : decode cX12_isAt 0 = .ok (.aload_n 0, 1) := by decide +kernel
theorem dX12_isAt_1 : decode cX12_isAt 1 = .ok (.getfield 122, 3) := by decide +kernel
theorem dX12_isAt_4 : decode cX12_isAt 4 = .ok (.iload_n 1, 1) := by decide +kernel
theorem dX12_isAt_5 : decode cX12_isAt 5 = .ok (.iaload, 1) := by decide +kernel
theorem dX12_isAt_6 : decode cX12_isAt 6 = .ok (.iload_n 2, 1) := by decide +kernel
theorem dX12_isAt_7 : decode cX12_isAt 7 = .ok (.if_icmp .eq 13, 3) := by decide +kernel
theorem dX12_isAt_10 : decode cX12_isAt 10 = .ok (.aload_n 0, 1) := by decide +kernel
theorem dX12_isAt_11 : decode cX12_isAt 11 = .ok (.getfield 125, 3) := by decide +kernel
theorem dX12_isAt_14 : decode cX12_isAt 14 = .ok (.iload_n 1, 1) := by decide +kernel
theorem dX12_isAt_15 : decode cX12_isAt 15 = .ok (.iaload, 1) := by decide +kernel
theorem dX12_isAt_16 : decode cX12_isAt 16 = .ok (.iload_n 2, 1) := by decide +kernel
theorem dX12_isAt_17 : decode cX12_isAt 17 = .ok (.if_icmp .ne 7, 3) := by decide +kernel
theorem dX12_isAt_20 : decode cX12_isAt 20 = .ok (.iconst 1, 1) := by decide +kernel
theorem dX12_isAt_21 : decode cX12_isAt 21 = .ok (.goto 4, 3) := by decide +kernel
theorem dX12_isAt_24 : decode cX12_isAt 24 = .ok (.iconst 0, 1) := by decide +kernel
theorem dX12_isAt_25 : decode cX12_isAt 25 = .ok (.ireturn, 1) := by decide +kernel
abbrev o_X12_isAt : Type := Int32
def f_X12_isAt (S : wd_W) (p1 : Int32) (p2 : Int32) : Option o_X12_isAt :=
gd (okx p1 12) <|
if ((S.2.2.1 37) p1.toNatClampNeg) = p2 then (
some (1 : Int32)) else (
gd (okx p1 12) <|
if ((S.2.2.1 38) p1.toNatClampNeg) = p2 then (
some (1 : Int32)) else (
some (0 : Int32)))
set_option maxRecDepth 100000 in
set_option maxHeartbeats 4000000 in
theorem c_X12_isAt (l : Launch) (D : va_G) (q g : Nat → Nat) (cy : Nat → ClassId) (z : (Nat → Nat) × (Nat → Nat) × Nat) (S : wd_W) (p1 : Int32) (p2 : Int32) (o : o_X12_isAt) (hf : f_X12_isAt S p1 p2 = some o) : MX layM l yX12_isAt cX12_isAt 3 (some .boolean) ({ frames := 0, cells := 0, slots := 0, locals := 0 } : Room) D q g cy z [.ref (q 0), .int p1, .int p2] S false (some (.int o)) (wd_o S [] [] [] [] []) 0 0 := by
  refine mx_of (own := RX12) (lc := [(0, .ref (q 0)), (1, .int p1), (2, .int p2)]) (by decide +kernel) rfl layM_ok (Nat.le_of_ble_eq_true rfl) rfl ?_
  intro X hXl hXq hXz hC hQ
  subst hXl; subst hXq; subst hXz
  unfold f_X12_isAt at hf
  refine go_aload_n (pc' := 1) hC dX12_isAt_0 rfl rfl ?_
  refine go_getq (pc' := 4) hC 0 68 layM_0 rfl rfl inlX12 (Nat.le_of_ble_eq_true rfl) mw_218 rfl dX12_isAt_1 rfl ?_
  refine go_iload_n (pc' := 5) hC dX12_isAt_4 rfl rfl ?_
  obtain ⟨h1, hf⟩ := gd_e hf
  refine go_iald (f := (S.2.2.1 37)) (pc' := 6) hC 37 layM_37 rfl rfl dX12_isAt_5 (okx_in h1) rfl ?_
  refine go_iload_n (pc' := 7) hC dX12_isAt_6 rfl rfl ?_
  refine go_icmp_eq (tgt := 20) (pc' := 10) hC dX12_isAt_7 (by decide) rfl (fun h4 => ?_) (fun h4 => ?_)
  · have hf := ite_t h4 hf
    refine go_iconst (pc' := 21) hC dX12_isAt_20 ki_1 rfl ?_
    refine go_goto (tgt := 25) hC dX12_isAt_21 (by decide) ?_
    obtain rfl := Option.some.inj hf
    exact go_iret hC hQ dX12_isAt_25 rfl rfl rfl rfl (fun _ => rfl) rfl rfl
  · have hf := ite_f h4 hf
    refine go_aload_n (pc' := 11) hC dX12_isAt_10 rfl rfl ?_
    refine go_getq (pc' := 14) hC 0 69 layM_0 rfl rfl inlX12 (Nat.le_of_ble_eq_true rfl) mw_219 rfl dX12_isAt_11 rfl ?_
    refine go_iload_n (pc' := 15) hC dX12_isAt_14 rfl rfl ?_
    obtain ⟨h2, hf⟩ := gd_e hf
    refine go_iald (f := (S.2.2.1 38)) (pc' := 16) hC 38 layM_38 rfl rfl dX12_isAt_15 (okx_in h2) rfl ?_
    refine go_iload_n (pc' := 17) hC dX12_isAt_16 rfl rfl ?_
    refine go_icmp_ne (tgt := 24) (pc' := 20) hC dX12_isAt_17 (by decide) rfl (fun h3 => ?_) (fun h3 => ?_)
    · have hf := ite_f h3 hf
      refine go_iconst (pc' := 25) hC dX12_isAt_24 ki_0 rfl ?_
      obtain rfl := Option.some.inj hf
      exact go_iret hC hQ dX12_isAt_25 rfl rfl rfl rfl (fun _ => rfl) rfl rfl
    · have hf := ite_t h3 hf
      refine go_iconst (pc' := 21) hC dX12_isAt_20 ki_1 rfl ?_
      refine go_goto (tgt := 25) hC dX12_isAt_21 (by decide) ?_
      obtain rfl := Option.some.inj hf
      exact go_iret hC hQ dX12_isAt_25 rfl rfl rfl rfl (fun _ => rfl) rfl rfl
theorem dX12_dropsOne_0 : decode cX12_dropsOne 0 = .ok (.iconst 0, 1) := by decide +kernel
theorem dX12_dropsOne_1 : decode cX12_dropsOne 1 = .ok (.istore_n 1, 1) := by decide +kernel
theorem dX12_dropsOne_2 : decode cX12_dropsOne 2 = .ok (.iload_n 1, 1) := by decide +kernel
theorem dX12_dropsOne_3 : decode cX12_dropsOne 3 = .ok (.aload_n 0, 1) := by decide +kernel
theorem dX12_dropsOne_4 : decode cX12_dropsOne 4 = .ok (.getfield 475, 3) := by decide +kernel
theorem dX12_dropsOne_7 : decode cX12_dropsOne 7 = .ok (.if_icmp .ge 110, 3) := by decide +kernel
theorem dX12_dropsOne_10 : decode cX12_dropsOne 10 = .ok (.aload_n 0, 1) := by decide +kernel
theorem dX12_dropsOne_11 : decode cX12_dropsOne 11 = .ok (.getfield 122, 3) := by decide +kernel
theorem dX12_dropsOne_14 : decode cX12_dropsOne 14 = .ok (.iload_n 1, 1) := by decide +kernel
theorem dX12_dropsOne_15 : decode cX12_dropsOne 15 = .ok (.iaload, 1) := by decide +kernel
theorem dX12_dropsOne_16 : decode cX12_dropsOne 16 = .ok (.aload_n 0, 1) := by decide +kernel
theorem dX12_dropsOne_17 : decode cX12_dropsOne 17 = .ok (.getfield 125, 3) := by decide +kernel
theorem dX12_dropsOne_20 : decode cX12_dropsOne 20 = .ok (.iload_n 1, 1) := by decide +kernel
theorem dX12_dropsOne_21 : decode cX12_dropsOne 21 = .ok (.iaload, 1) := by decide +kernel
theorem dX12_dropsOne_22 : decode cX12_dropsOne 22 = .ok (.if_icmp .ne 7, 3) := by decide +kernel
theorem dX12_dropsOne_25 : decode cX12_dropsOne 25 = .ok (.iconst 1, 1) := by decide +kernel
theorem dX12_dropsOne_26 : decode cX12_dropsOne 26 = .ok (.goto 4, 3) := by decide +kernel
theorem dX12_dropsOne_29 : decode cX12_dropsOne 29 = .ok (.iconst 0, 1) := by decide +kernel
theorem dX12_dropsOne_30 : decode cX12_dropsOne 30 = .ok (.istore_n 2, 1) := by decide +kernel
theorem dX12_dropsOne_31 : decode cX12_dropsOne 31 = .ok (.iconst 0, 1) := by decide +kernel
theorem dX12_dropsOne_32 : decode cX12_dropsOne 32 = .ok (.istore_n 3, 1) := by decide +kernel
theorem dX12_dropsOne_33 : decode cX12_dropsOne 33 = .ok (.iload_n 3, 1) := by decide +kernel
theorem dX12_dropsOne_34 : decode cX12_dropsOne 34 = .ok (.iload_n 1, 1) := by decide +kernel
theorem dX12_dropsOne_35 : decode cX12_dropsOne 35 = .ok (.if_icmp .ge 62, 3) := by decide +kernel
theorem dX12_dropsOne_38 : decode cX12_dropsOne 38 = .ok (.iload_n 2, 1) := by decide +kernel
theorem dX12_dropsOne_39 : decode cX12_dropsOne 39 = .ok (.ifCond .ne 46, 3) := by decide +kernel
theorem dX12_dropsOne_42 : decode cX12_dropsOne 42 = .ok (.aload_n 0, 1) := by decide +kernel
theorem dX12_dropsOne_43 : decode cX12_dropsOne 43 = .ok (.iload_n 3, 1) := by decide +kernel
theorem dX12_dropsOne_44 : decode cX12_dropsOne 44 = .ok (.aload_n 0, 1) := by decide +kernel
theorem dX12_dropsOne_45 : decode cX12_dropsOne 45 = .ok (.getfield 122, 3) := by decide +kernel
theorem dX12_dropsOne_48 : decode cX12_dropsOne 48 = .ok (.iload_n 1, 1) := by decide +kernel
theorem dX12_dropsOne_49 : decode cX12_dropsOne 49 = .ok (.iaload, 1) := by decide +kernel
theorem dX12_dropsOne_50 : decode cX12_dropsOne 50 = .ok (.invokevirtual 478, 3) := by decide +kernel
theorem dX12_dropsOne_53 : decode cX12_dropsOne 53 = .ok (.ifCond .eq 36, 3) := by decide +kernel
theorem dX12_dropsOne_56 : decode cX12_dropsOne 56 = .ok (.aload_n 0, 1) := by decide +kernel
theorem dX12_dropsOne_57 : decode cX12_dropsOne 57 = .ok (.iload_n 3, 1) := by decide +kernel
theorem dX12_dropsOne_58 : decode cX12_dropsOne 58 = .ok (.aload_n 0, 1) := by decide +kernel
theorem dX12_dropsOne_59 : decode cX12_dropsOne 59 = .ok (.getfield 125, 3) := by decide +kernel
theorem dX12_dropsOne_62 : decode cX12_dropsOne 62 = .ok (.iload_n 1, 1) := by decide +kernel
theorem dX12_dropsOne_63 : decode cX12_dropsOne 63 = .ok (.iaload, 1) := by decide +kernel
theorem dX12_dropsOne_64 : decode cX12_dropsOne 64 = .ok (.invokevirtual 478, 3) := by decide +kernel
theorem dX12_dropsOne_67 : decode cX12_dropsOne 67 = .ok (.ifCond .eq 22, 3) := by decide +kernel
theorem dX12_dropsOne_70 : decode cX12_dropsOne 70 = .ok (.aload_n 0, 1) := by decide +kernel
theorem dX12_dropsOne_71 : decode cX12_dropsOne 71 = .ok (.getfield 122, 3) := by decide +kernel
theorem dX12_dropsOne_74 : decode cX12_dropsOne 74 = .ok (.iload_n 3, 1) := by decide +kernel
theorem dX12_dropsOne_75 : decode cX12_dropsOne 75 = .ok (.iaload, 1) := by decide +kernel
theorem dX12_dropsOne_76 : decode cX12_dropsOne 76 = .ok (.aload_n 0, 1) := by decide +kernel
theorem dX12_dropsOne_77 : decode cX12_dropsOne 77 = .ok (.getfield 125, 3) := by decide +kernel
theorem dX12_dropsOne_80 : decode cX12_dropsOne 80 = .ok (.iload_n 3, 1) := by decide +kernel
theorem dX12_dropsOne_81 : decode cX12_dropsOne 81 = .ok (.iaload, 1) := by decide +kernel
theorem dX12_dropsOne_82 : decode cX12_dropsOne 82 = .ok (.if_icmp .eq 7, 3) := by decide +kernel
theorem dX12_dropsOne_85 : decode cX12_dropsOne 85 = .ok (.iconst 1, 1) := by decide +kernel
theorem dX12_dropsOne_86 : decode cX12_dropsOne 86 = .ok (.goto 4, 3) := by decide +kernel
theorem dX12_dropsOne_89 : decode cX12_dropsOne 89 = .ok (.iconst 0, 1) := by decide +kernel
theorem dX12_dropsOne_90 : decode cX12_dropsOne 90 = .ok (.istore_n 2, 1) := by decide +kernel
theorem dX12_dropsOne_91 : decode cX12_dropsOne 91 = .ok (.iinc 3 1, 3) := by decide +kernel
theorem dX12_dropsOne_94 : decode cX12_dropsOne 94 = .ok (.goto (-61), 3) := by decide +kernel
theorem dX12_dropsOne_97 : decode cX12_dropsOne 97 = .ok (.iload_n 2, 1) := by decide +kernel
theorem dX12_dropsOne_98 : decode cX12_dropsOne 98 = .ok (.ifCond .ne 6, 3) := by decide +kernel
theorem dX12_dropsOne_101 : decode cX12_dropsOne 101 = .ok (.goto 10, 3) := by decide +kernel
theorem dX12_dropsOne_104 : decode cX12_dropsOne 104 = .ok (.aload_n 0, 1) := by decide +kernel
theorem dX12_dropsOne_105 : decode cX12_dropsOne 105 = .ok (.iload_n 1, 1) := by decide +kernel
theorem dX12_dropsOne_106 : decode cX12_dropsOne 106 = .ok (.invokevirtual 481, 3) := by decide +kernel
theorem dX12_dropsOne_109 : decode cX12_dropsOne 109 = .ok (.iconst 1, 1) := by decide +kernel
theorem dX12_dropsOne_110 : decode cX12_dropsOne 110 = .ok (.ireturn, 1) := by decide +kernel
theorem dX12_dropsOne_111 : decode cX12_dropsOne 111 = .ok (.iinc 1 1, 3) := by decide +kernel
theorem dX12_dropsOne_114 : decode cX12_dropsOne 114 = .ok (.goto (-112), 3) := by decide +kernel
theorem dX12_dropsOne_117 : decode cX12_dropsOne 117 = .ok (.iconst 0, 1) := by decide +kernel
theorem dX12_dropsOne_118 : decode cX12_dropsOne 118 = .ok (.ireturn, 1) := by decide +kernel
abbrev o_X12_dropsOne : Type := Int32 × Int32 × (Nat → Int32) × (Nat → Int32)
def f_X12_dropsOne_L33 (S : wd_W) (x4 : Int32) (k97_11 : (Int32) → (Option o_X12_dropsOne)) (r15 : (Int32) → (Int32) → (Option o_X12_dropsOne)) (x13 : Int32) (x14 : Int32) : Option o_X12_dropsOne :=
if x4 ≤ x14 then (
k97_11 x13) else (
lk (fun x16 =>
r15 x16 (x14 + (1 : Int32))) fun k90_17 =>
lk (k90_17 (1 : Int32)) fun k85_18 =>
if x13 = 0 then (
gd (okx x4 12) <|
bd (f_X12_isAt (wd_o S [(67, (S.1 67))] [] [(37, (S.2.2.1 37)), (38, (S.2.2.1 38))] [] []) x14 ((S.2.2.1 37) x4.toNatClampNeg)) fun o20 =>
lk (k90_17 (0 : Int32)) fun k89_21 =>
if o20 = 0 then (
k89_21) else (
gd (okx x4 12) <|
bd (f_X12_isAt (wd_o S [(67, (S.1 67))] [] [(37, (S.2.2.1 37)), (38, (S.2.2.1 38))] [] []) x14 ((S.2.2.1 38) x4.toNatClampNeg)) fun o23 =>
if o23 = 0 then (
k89_21) else (
gd (okx x14 12) <|
gd (okx x14 12) <|
if ((S.2.2.1 37) x14.toNatClampNeg) = ((S.2.2.1 38) x14.toNatClampNeg) then (
k89_21) else (
k85_18)))) else (
k85_18))
def f_X12_dropsOne_L2 (S : wd_W) (k104_2 : (Int32) → (Option o_X12_dropsOne)) (r5 : (Int32) → (Option o_X12_dropsOne)) (x4 : Int32) : Option o_X12_dropsOne :=
if (S.1 67) ≤ x4 then (
some ((0 : Int32), (S.1 67), (S.2.2.1 37), (S.2.2.1 38))) else (
gd (okx x4 12) <|
gd (okx x4 12) <|
lk (fun x8 =>
lk (fun x10 =>
if x10 = 0 then (
r5 (x4 + (1 : Int32))) else (
k104_2 x4)) fun k97_11 =>
it2 (f_X12_dropsOne_L33 S x4 k97_11) fuel x8 (0 : Int32)) fun k30_9 =>
if ((S.2.2.1 37) x4.toNatClampNeg) = ((S.2.2.1 38) x4.toNatClampNeg) then (
k30_9 (1 : Int32)) else (
k30_9 (0 : Int32)))
def f_X12_dropsOne (S : wd_W) : Option o_X12_dropsOne :=
lk (fun x1 =>
bd (f_X12_drops (wd_o S [(67, (S.1 67))] [] [(37, (S.2.2.1 37)), (38, (S.2.2.1 38))] [] []) x1) fun o3 =>
some ((1 : Int32), o3.1, o3.2.1, o3.2.2)) fun k104_2 =>
it1 (f_X12_dropsOne_L2 S k104_2) fuel (0 : Int32)
set_option maxRecDepth 100000 in
set_option maxHeartbeats 4000000 in
theorem c_X12_dropsOne (l : Launch) (D : va_G) (q g : Nat → Nat) (cy : Nat → ClassId) (z : (Nat → Nat) × (Nat → Nat) × Nat) (S : wd_W) (o : o_X12_dropsOne) (hf : f_X12_dropsOne S = some o) : MX layM l yX12_dropsOne cX12_dropsOne 4 (some .boolean) ({ frames := 1, cells := 0, slots := 0, locals := 22 } : Room) D q g cy z [.ref (q 0)] S false (some (.int o.1)) (wd_o S [(67, o.2.1)] [] [(37, o.2.2.1), (38, o.2.2.2)] [] []) 0 0 := by
  refine mx_of (own := RX12) (lc := [(0, .ref (q 0))]) (by decide +kernel) rfl layM_ok (Nat.le_of_ble_eq_true rfl) rfl ?_
  intro X hXl hXq hXz hC hQ
  subst hXl; subst hXq; subst hXz
  unfold f_X12_dropsOne at hf
  refine go_keys (L1 := [(67, (S.1 67))]) (L2 := []) (L3 := [(37, (S.2.2.1 37)), (38, (S.2.2.1 38))]) (L4 := []) (L5 := []) [67] [] [37, 38] [] [] rfl rfl rfl rfl rfl ?_
  refine go_iconst (pc' := 1) hC dX12_dropsOne_0 ki_0 rfl ?_
  refine go_istore_n (lc' := [(0, .ref (x_q X 0)), (1, .int (0 : Int32))]) (pc' := 2) hC dX12_dropsOne_1 (Nat.le_of_ble_eq_true rfl) rfl rfl ?_
  obtain ⟨k104_2, hk104_2, hf⟩ := lk_e1 hf
  have jk104_2 : ∀ (x1 : Int32), k104_2 x1 = some o → Go X layM S 104 [(0, .ref (x_q X 0)), (1, .int x1)] [] g [(67, (S.1 67))] [] [(37, (S.2.2.1 37)), (38, (S.2.2.1 38))] [] [] 0 0 := by
    intro x1 hf
    have hf := hk104_2 x1 hf
    clear hk104_2
    refine go_aload_n (pc' := 105) hC dX12_dropsOne_104 rfl rfl ?_
    refine go_iload_n (pc' := 106) hC dX12_dropsOne_105 rfl rfl ?_
    obtain ⟨o3, ho3, hf⟩ := bd_e hf
    refine go_callV1 (pc' := 109) (As := [.int x1]) (st := []) (st' := []) (L1' := [(67, o3.1)]) (L2' := []) (L3' := [(37, o3.2.1), (38, o3.2.2)]) (L4' := []) (L5' := []) (cells' := 0) (slots' := 0)  (b := 0) hC dX12_dropsOne_106 ⟨mw_1388, mw_1391, mw_5, yd_yX12_drops, yp_yX12_drops, Nat.le_of_ble_eq_true rfl, Nat.le_of_ble_eq_true rfl, (Nat.le_of_ble_eq_true rfl), (Nat.le_of_ble_eq_true rfl)⟩ mw_1389 mw_1390 layM_0 rfl rfl rfl (Nat.le_of_ble_eq_true rfl) (c_X12_drops (x_l X) (x_D X) (x_q X) g (x_cy X) (x_z X) _ x1 o3 ho3) rfl rfl rfl rfl rfl rfl rfl rfl rfl rfl rfl rfl rfl rfl ?_
    refine go_iconst (pc' := 110) hC dX12_dropsOne_109 ki_1 rfl ?_
    obtain rfl := Option.some.inj hf
    exact go_iret hC hQ dX12_dropsOne_110 rfl rfl rfl rfl (fun _ => rfl) rfl rfl
  clear hk104_2
  have l2_34 : ∀ (nn : Nat) (x4 : Int32), it1 (f_X12_dropsOne_L2 S k104_2) nn x4 = some o → Go X layM S 2 [(0, .ref (x_q X 0)), (1, .int x4)] [] g [(67, (S.1 67))] [] [(37, (S.2.2.1 37)), (38, (S.2.2.1 38))] [] [] 0 0 := by
    intro nn
    induction nn with
    | zero =>
      intro x4 hf
      exact none_no hf
    | succ nn ih =>
      intro x4 hf
      have hf : f_X12_dropsOne_L2 S k104_2 (it1 (f_X12_dropsOne_L2 S k104_2) nn) x4 = some o := hf
      generalize it1 (f_X12_dropsOne_L2 S k104_2) nn = r5 at ih hf
      unfold f_X12_dropsOne_L2 at hf
      refine go_iload_n (pc' := 3) hC dX12_dropsOne_2 rfl rfl ?_
      refine go_aload_n (pc' := 4) hC dX12_dropsOne_3 rfl rfl ?_
      refine go_geti (v := (S.1 67)) (pc' := 7) hC 0 67 layM_0 rfl rfl inlX12 (Nat.le_of_ble_eq_true rfl) mw_1379 rfl dX12_dropsOne_4 rfl rfl ?_
      refine go_icmp_ge (tgt := 117) (pc' := 10) hC dX12_dropsOne_7 (by decide) rfl (fun h33 => ?_) (fun h33 => ?_)
      · have hf := ite_t h33 hf
        refine go_iconst (pc' := 118) hC dX12_dropsOne_117 ki_0 rfl ?_
        obtain rfl := Option.some.inj hf
        exact go_iret hC hQ dX12_dropsOne_118 rfl rfl rfl rfl (fun _ => rfl) rfl rfl
      · have hf := ite_f h33 hf
        refine go_aload_n (pc' := 11) hC dX12_dropsOne_10 rfl rfl ?_
        refine go_getq (pc' := 14) hC 0 68 layM_0 rfl rfl inlX12 (Nat.le_of_ble_eq_true rfl) mw_218 rfl dX12_dropsOne_11 rfl ?_
        refine go_iload_n (pc' := 15) hC dX12_dropsOne_14 rfl rfl ?_
        obtain ⟨h6, hf⟩ := gd_e hf
        refine go_iald (f := (S.2.2.1 37)) (pc' := 16) hC 37 layM_37 rfl rfl dX12_dropsOne_15 (okx_in h6) rfl ?_
        refine go_aload_n (pc' := 17) hC dX12_dropsOne_16 rfl rfl ?_
        refine go_getq (pc' := 20) hC 0 69 layM_0 rfl rfl inlX12 (Nat.le_of_ble_eq_true rfl) mw_219 rfl dX12_dropsOne_17 rfl ?_
        refine go_iload_n (pc' := 21) hC dX12_dropsOne_20 rfl rfl ?_
        obtain ⟨h7, hf⟩ := gd_e hf
        refine go_iald (f := (S.2.2.1 38)) (pc' := 22) hC 38 layM_38 rfl rfl dX12_dropsOne_21 (okx_in h7) rfl ?_
        obtain ⟨k30_9, hk30_9, hf⟩ := lk_e1 hf
        have jk30_9 : ∀ (x8 : Int32), k30_9 x8 = some o → Go X layM S 30 [(0, .ref (x_q X 0)), (1, .int x4)] [.int x8] g [(67, (S.1 67))] [] [(37, (S.2.2.1 37)), (38, (S.2.2.1 38))] [] [] 0 0 := by
          intro x8 hf
          have hf := hk30_9 x8 hf
          clear hk30_9
          refine go_istore_n (lc' := [(0, .ref (x_q X 0)), (1, .int x4), (2, .int x8)]) (pc' := 31) hC dX12_dropsOne_30 (Nat.le_of_ble_eq_true rfl) rfl rfl ?_
          refine go_iconst (pc' := 32) hC dX12_dropsOne_31 ki_0 rfl ?_
          refine go_istore_n (lc' := [(0, .ref (x_q X 0)), (1, .int x4), (2, .int x8), (3, .int (0 : Int32))]) (pc' := 33) hC dX12_dropsOne_32 (Nat.le_of_ble_eq_true rfl) rfl rfl ?_
          obtain ⟨k97_11, hk97_11, hf⟩ := lk_e1 hf
          have jk97_11 : ∀ (x10 : Int32), k97_11 x10 = some o → Go X layM S 97 [(0, .ref (x_q X 0)), (1, .int x4), (2, .int x10)] [] g [(67, (S.1 67))] [] [(37, (S.2.2.1 37)), (38, (S.2.2.1 38))] [] [] 0 0 := by
            intro x10 hf
            have hf := hk97_11 x10 hf
            clear hk97_11
            refine go_iload_n (pc' := 98) hC dX12_dropsOne_97 rfl rfl ?_
            refine go_if_ne (tgt := 104) (pc' := 101) hC dX12_dropsOne_98 (by decide) rfl (fun h12 => ?_) (fun h12 => ?_)
            · have hf := ite_f h12 hf
              refine go_sub [0, 1] rfl ?_
              exact jk104_2 x4 hf
            · have hf := ite_t h12 hf
              refine go_goto (tgt := 111) hC dX12_dropsOne_101 (by decide) ?_
              refine go_iinc (lc' := [(0, .ref (x_q X 0)), (1, .int (x4 + (1 : Int32))), (2, .int x10)]) (pc' := 114) hC dX12_dropsOne_111 rfl ki_1 (Nat.le_of_ble_eq_true rfl) rfl rfl ?_
              refine go_goto (tgt := 2) hC dX12_dropsOne_114 (by decide) ?_
              refine go_sub [0, 1] rfl ?_
              exact ih (x4 + (1 : Int32)) hf
          clear hk97_11
          have l33_31 : ∀ (nn : Nat) (x13 : Int32) (x14 : Int32), it2 (f_X12_dropsOne_L33 S x4 k97_11) nn x13 x14 = some o → Go X layM S 33 [(0, .ref (x_q X 0)), (1, .int x4), (2, .int x13), (3, .int x14)] [] g [(67, (S.1 67))] [] [(37, (S.2.2.1 37)), (38, (S.2.2.1 38))] [] [] 0 0 := by
            intro nn
            induction nn with
            | zero =>
              intro x13 x14 hf
              exact none_no hf
            | succ nn ih =>
              intro x13 x14 hf
              have hf : f_X12_dropsOne_L33 S x4 k97_11 (it2 (f_X12_dropsOne_L33 S x4 k97_11) nn) x13 x14 = some o := hf
              generalize it2 (f_X12_dropsOne_L33 S x4 k97_11) nn = r15 at ih hf
              unfold f_X12_dropsOne_L33 at hf
              refine go_iload_n (pc' := 34) hC dX12_dropsOne_33 rfl rfl ?_
              refine go_iload_n (pc' := 35) hC dX12_dropsOne_34 rfl rfl ?_
              refine go_icmp_ge (tgt := 97) (pc' := 38) hC dX12_dropsOne_35 (by decide) rfl (fun h30 => ?_) (fun h30 => ?_)
              · have hf := ite_t h30 hf
                refine go_sub [0, 1, 2] rfl ?_
                exact jk97_11 x13 hf
              · have hf := ite_f h30 hf
                refine go_iload_n (pc' := 39) hC dX12_dropsOne_38 rfl rfl ?_
                obtain ⟨k90_17, hk90_17, hf⟩ := lk_e1 hf
                have jk90_17 : ∀ (x16 : Int32), k90_17 x16 = some o → Go X layM S 90 [(0, .ref (x_q X 0)), (1, .int x4), (3, .int x14)] [.int x16] g [(67, (S.1 67))] [] [(37, (S.2.2.1 37)), (38, (S.2.2.1 38))] [] [] 0 0 := by
                  intro x16 hf
                  have hf := hk90_17 x16 hf
                  clear hk90_17
                  refine go_istore_n (lc' := [(0, .ref (x_q X 0)), (1, .int x4), (2, .int x16), (3, .int x14)]) (pc' := 91) hC dX12_dropsOne_90 (Nat.le_of_ble_eq_true rfl) rfl rfl ?_
                  refine go_iinc (lc' := [(0, .ref (x_q X 0)), (1, .int x4), (2, .int x16), (3, .int (x14 + (1 : Int32)))]) (pc' := 94) hC dX12_dropsOne_91 rfl ki_1 (Nat.le_of_ble_eq_true rfl) rfl rfl ?_
                  refine go_goto (tgt := 33) hC dX12_dropsOne_94 (by decide) ?_
                  exact ih x16 (x14 + (1 : Int32)) hf
                clear hk90_17
                obtain ⟨k85_18, hk85_18, hf⟩ := lk_e0 hf
                have jk85_18 : ∀ (_ : Unit), k85_18 = some o → Go X layM S 85 [(0, .ref (x_q X 0)), (1, .int x4), (3, .int x14)] [] g [(67, (S.1 67))] [] [(37, (S.2.2.1 37)), (38, (S.2.2.1 38))] [] [] 0 0 := by
                  intro _ hf
                  have hf := hk85_18 hf
                  clear hk85_18
                  refine go_iconst (pc' := 86) hC dX12_dropsOne_85 ki_1 rfl ?_
                  refine go_goto (tgt := 90) hC dX12_dropsOne_86 (by decide) ?_
                  exact jk90_17 (1 : Int32) hf
                clear hk85_18
                refine go_if_ne (tgt := 85) (pc' := 42) hC dX12_dropsOne_39 (by decide) rfl (fun h29 => ?_) (fun h29 => ?_)
                · have hf := ite_f h29 hf
                  refine go_sub [0, 1, 3] rfl ?_
                  exact jk85_18 () hf
                · have hf := ite_t h29 hf
                  refine go_aload_n (pc' := 43) hC dX12_dropsOne_42 rfl rfl ?_
                  refine go_iload_n (pc' := 44) hC dX12_dropsOne_43 rfl rfl ?_
                  refine go_aload_n (pc' := 45) hC dX12_dropsOne_44 rfl rfl ?_
                  refine go_getq (pc' := 48) hC 0 68 layM_0 rfl rfl inlX12 (Nat.le_of_ble_eq_true rfl) mw_218 rfl dX12_dropsOne_45 rfl ?_
                  refine go_iload_n (pc' := 49) hC dX12_dropsOne_48 rfl rfl ?_
                  obtain ⟨h19, hf⟩ := gd_e hf
                  refine go_iald (f := (S.2.2.1 37)) (pc' := 50) hC 37 layM_37 rfl rfl dX12_dropsOne_49 (okx_in h19) rfl ?_
                  obtain ⟨o20, ho20, hf⟩ := bd_e hf
                  refine go_callV0 (pc' := 53) (As := [.int x14, .int ((S.2.2.1 37) x4.toNatClampNeg)]) (st := []) (st' := [.int o20])    (b := 0) hC dX12_dropsOne_50 ⟨mw_1384, mw_1387, mw_5, yd_yX12_isAt, yp_yX12_isAt, Nat.le_of_ble_eq_true rfl, Nat.le_of_ble_eq_true rfl, (Nat.le_of_ble_eq_true rfl), (Nat.le_of_ble_eq_true rfl)⟩ mw_1385 mw_1386 layM_0 rfl rfl rfl (Nat.le_of_ble_eq_true rfl) (c_X12_isAt (x_l X) (x_D X) (x_q X) g (x_cy X) (x_z X) _ x14 ((S.2.2.1 37) x4.toNatClampNeg) o20 ho20) rfl rfl ?_
                  obtain ⟨k89_21, hk89_21, hf⟩ := lk_e0 hf
                  have jk89_21 : ∀ (_ : Unit), k89_21 = some o → Go X layM S 89 [(0, .ref (x_q X 0)), (1, .int x4), (3, .int x14)] [] g [(67, (S.1 67))] [] [(37, (S.2.2.1 37)), (38, (S.2.2.1 38))] [] [] 0 0 := by
                    intro _ hf
                    have hf := hk89_21 hf
                    clear hk89_21
                    refine go_iconst (pc' := 90) hC dX12_dropsOne_89 ki_0 rfl ?_
                    exact jk90_17 (0 : Int32) hf
                  clear hk89_21
                  refine go_if_eq (tgt := 89) (pc' := 56) hC dX12_dropsOne_53 (by decide) rfl (fun h28 => ?_) (fun h28 => ?_)
                  · have hf := ite_t h28 hf
                    refine go_sub [0, 1, 3] rfl ?_
                    exact jk89_21 () hf
                  · have hf := ite_f h28 hf
                    refine go_aload_n (pc' := 57) hC dX12_dropsOne_56 rfl rfl ?_
                    refine go_iload_n (pc' := 58) hC dX12_dropsOne_57 rfl rfl ?_
                    refine go_aload_n (pc' := 59) hC dX12_dropsOne_58 rfl rfl ?_
                    refine go_getq (pc' := 62) hC 0 69 layM_0 rfl rfl inlX12 (Nat.le_of_ble_eq_true rfl) mw_219 rfl dX12_dropsOne_59 rfl ?_
                    refine go_iload_n (pc' := 63) hC dX12_dropsOne_62 rfl rfl ?_
                    obtain ⟨h22, hf⟩ := gd_e hf
                    refine go_iald (f := (S.2.2.1 38)) (pc' := 64) hC 38 layM_38 rfl rfl dX12_dropsOne_63 (okx_in h22) rfl ?_
                    obtain ⟨o23, ho23, hf⟩ := bd_e hf
                    refine go_callV0 (pc' := 67) (As := [.int x14, .int ((S.2.2.1 38) x4.toNatClampNeg)]) (st := []) (st' := [.int o23])    (b := 0) hC dX12_dropsOne_64 ⟨mw_1384, mw_1387, mw_5, yd_yX12_isAt, yp_yX12_isAt, Nat.le_of_ble_eq_true rfl, Nat.le_of_ble_eq_true rfl, (Nat.le_of_ble_eq_true rfl), (Nat.le_of_ble_eq_true rfl)⟩ mw_1385 mw_1386 layM_0 rfl rfl rfl (Nat.le_of_ble_eq_true rfl) (c_X12_isAt (x_l X) (x_D X) (x_q X) g (x_cy X) (x_z X) _ x14 ((S.2.2.1 38) x4.toNatClampNeg) o23 ho23) rfl rfl ?_
                    refine go_if_eq (tgt := 89) (pc' := 70) hC dX12_dropsOne_67 (by decide) rfl (fun h27 => ?_) (fun h27 => ?_)
                    · have hf := ite_t h27 hf
                      refine go_sub [0, 1, 3] rfl ?_
                      exact jk89_21 () hf
                    · have hf := ite_f h27 hf
                      refine go_aload_n (pc' := 71) hC dX12_dropsOne_70 rfl rfl ?_
                      refine go_getq (pc' := 74) hC 0 68 layM_0 rfl rfl inlX12 (Nat.le_of_ble_eq_true rfl) mw_218 rfl dX12_dropsOne_71 rfl ?_
                      refine go_iload_n (pc' := 75) hC dX12_dropsOne_74 rfl rfl ?_
                      obtain ⟨h24, hf⟩ := gd_e hf
                      refine go_iald (f := (S.2.2.1 37)) (pc' := 76) hC 37 layM_37 rfl rfl dX12_dropsOne_75 (okx_in h24) rfl ?_
                      refine go_aload_n (pc' := 77) hC dX12_dropsOne_76 rfl rfl ?_
                      refine go_getq (pc' := 80) hC 0 69 layM_0 rfl rfl inlX12 (Nat.le_of_ble_eq_true rfl) mw_219 rfl dX12_dropsOne_77 rfl ?_
                      refine go_iload_n (pc' := 81) hC dX12_dropsOne_80 rfl rfl ?_
                      obtain ⟨h25, hf⟩ := gd_e hf
                      refine go_iald (f := (S.2.2.1 38)) (pc' := 82) hC 38 layM_38 rfl rfl dX12_dropsOne_81 (okx_in h25) rfl ?_
                      refine go_icmp_eq (tgt := 89) (pc' := 85) hC dX12_dropsOne_82 (by decide) rfl (fun h26 => ?_) (fun h26 => ?_)
                      · have hf := ite_t h26 hf
                        refine go_sub [0, 1, 3] rfl ?_
                        exact jk89_21 () hf
                      · have hf := ite_f h26 hf
                        refine go_sub [0, 1, 3] rfl ?_
                        exact jk85_18 () hf
          exact l33_31 fuel x8 (0 : Int32) hf
        clear hk30_9
        refine go_icmp_ne (tgt := 29) (pc' := 25) hC dX12_dropsOne_22 (by decide) rfl (fun h32 => ?_) (fun h32 => ?_)
        · have hf := ite_f h32 hf
          refine go_iconst (pc' := 30) hC dX12_dropsOne_29 ki_0 rfl ?_
          exact jk30_9 (0 : Int32) hf
        · have hf := ite_t h32 hf
          refine go_iconst (pc' := 26) hC dX12_dropsOne_25 ki_1 rfl ?_
          refine go_goto (tgt := 30) hC dX12_dropsOne_26 (by decide) ?_
          exact jk30_9 (1 : Int32) hf
  exact l2_34 fuel (0 : Int32) hf
theorem dX12_joinsAt_0 : decode cX12_joinsAt 0 = .ok (.iconst 0, 1) := by decide +kernel
theorem dX12_joinsAt_1 : decode cX12_joinsAt 1 = .ok (.istore_n 2, 1) := by decide +kernel
theorem dX12_joinsAt_2 : decode cX12_joinsAt 2 = .ok (.iconst (-1), 1) := by decide +kernel
theorem dX12_joinsAt_3 : decode cX12_joinsAt 3 = .ok (.istore_n 3, 1) := by decide +kernel
theorem dX12_joinsAt_4 : decode cX12_joinsAt 4 = .ok (.iconst (-1), 1) := by decide +kernel
theorem dX12_joinsAt_5 : decode cX12_joinsAt 5 = .ok (.istore 4, 2) := by decide +kernel
theorem dX12_joinsAt_7 : decode cX12_joinsAt 7 = .ok (.iconst 0, 1) := by decide +kernel
theorem dX12_joinsAt_8 : decode cX12_joinsAt 8 = .ok (.istore 5, 2) := by decide +kernel
theorem dX12_joinsAt_10 : decode cX12_joinsAt 10 = .ok (.iload 5, 2) := by decide +kernel
theorem dX12_joinsAt_12 : decode cX12_joinsAt 12 = .ok (.aload_n 0, 1) := by decide +kernel
theorem dX12_joinsAt_13 : decode cX12_joinsAt 13 = .ok (.getfield 475, 3) := by decide +kernel
theorem dX12_joinsAt_16 : decode cX12_joinsAt 16 = .ok (.if_icmp .ge 51, 3) := by decide +kernel
theorem dX12_joinsAt_19 : decode cX12_joinsAt 19 = .ok (.aload_n 0, 1) := by decide +kernel
theorem dX12_joinsAt_20 : decode cX12_joinsAt 20 = .ok (.iload 5, 2) := by decide +kernel
theorem dX12_joinsAt_22 : decode cX12_joinsAt 22 = .ok (.iload_n 1, 1) := by decide +kernel
theorem dX12_joinsAt_23 : decode cX12_joinsAt 23 = .ok (.invokevirtual 478, 3) := by decide +kernel
theorem dX12_joinsAt_26 : decode cX12_joinsAt 26 = .ok (.ifCond .ne 6, 3) := by decide +kernel
theorem dX12_joinsAt_29 : decode cX12_joinsAt 29 = .ok (.goto 32, 3) := by decide +kernel
theorem dX12_joinsAt_32 : decode cX12_joinsAt 32 = .ok (.iinc 2 1, 3) := by decide +kernel
theorem dX12_joinsAt_35 : decode cX12_joinsAt 35 = .ok (.iload_n 2, 1) := by decide +kernel
theorem dX12_joinsAt_36 : decode cX12_joinsAt 36 = .ok (.iconst 1, 1) := by decide +kernel
theorem dX12_joinsAt_37 : decode cX12_joinsAt 37 = .ok (.if_icmp .ne 8, 3) := by decide +kernel
theorem dX12_joinsAt_40 : decode cX12_joinsAt 40 = .ok (.iload 5, 2) := by decide +kernel
theorem dX12_joinsAt_42 : decode cX12_joinsAt 42 = .ok (.goto 4, 3) := by decide +kernel
theorem dX12_joinsAt_45 : decode cX12_joinsAt 45 = .ok (.iload_n 3, 1) := by decide +kernel
theorem dX12_joinsAt_46 : decode cX12_joinsAt 46 = .ok (.istore_n 3, 1) := by decide +kernel
theorem dX12_joinsAt_47 : decode cX12_joinsAt 47 = .ok (.iload_n 2, 1) := by decide +kernel
theorem dX12_joinsAt_48 : decode cX12_joinsAt 48 = .ok (.iconst 2, 1) := by decide +kernel
theorem dX12_joinsAt_49 : decode cX12_joinsAt 49 = .ok (.if_icmp .ne 8, 3) := by decide +kernel
theorem dX12_joinsAt_52 : decode cX12_joinsAt 52 = .ok (.iload 5, 2) := by decide +kernel
theorem dX12_joinsAt_54 : decode cX12_joinsAt 54 = .ok (.goto 5, 3) := by decide +kernel
theorem dX12_joinsAt_57 : decode cX12_joinsAt 57 = .ok (.iload 4, 2) := by decide +kernel
theorem dX12_joinsAt_59 : decode cX12_joinsAt 59 = .ok (.istore 4, 2) := by decide +kernel
theorem dX12_joinsAt_61 : decode cX12_joinsAt 61 = .ok (.iinc 5 1, 3) := by decide +kernel
theorem dX12_joinsAt_64 : decode cX12_joinsAt 64 = .ok (.goto (-54), 3) := by decide +kernel
theorem dX12_joinsAt_67 : decode cX12_joinsAt 67 = .ok (.iload_n 2, 1) := by decide +kernel
theorem dX12_joinsAt_68 : decode cX12_joinsAt 68 = .ok (.iconst 1, 1) := by decide +kernel
theorem dX12_joinsAt_69 : decode cX12_joinsAt 69 = .ok (.if_icmp .eq 10, 3) := by decide +kernel
theorem dX12_joinsAt_72 : decode cX12_joinsAt 72 = .ok (.iload_n 2, 1) := by decide +kernel
theorem dX12_joinsAt_73 : decode cX12_joinsAt 73 = .ok (.iconst 2, 1) := by decide +kernel
theorem dX12_joinsAt_74 : decode cX12_joinsAt 74 = .ok (.if_icmp .eq 5, 3) := by decide +kernel
theorem dX12_joinsAt_77 : decode cX12_joinsAt 77 = .ok (.iconst 0, 1) := by decide +kernel
theorem dX12_joinsAt_78 : decode cX12_joinsAt 78 = .ok (.ireturn, 1) := by decide +kernel
theorem dX12_joinsAt_79 : decode cX12_joinsAt 79 = .ok (.iload_n 2, 1) := by decide +kernel
theorem dX12_joinsAt_80 : decode cX12_joinsAt 80 = .ok (.iconst 2, 1) := by decide +kernel
theorem dX12_joinsAt_81 : decode cX12_joinsAt 81 = .ok (.if_icmp .ne 71, 3) := by decide +kernel
theorem dX12_joinsAt_84 : decode cX12_joinsAt 84 = .ok (.aload_n 0, 1) := by decide +kernel
theorem dX12_joinsAt_85 : decode cX12_joinsAt 85 = .ok (.getfield 122, 3) := by decide +kernel
theorem dX12_joinsAt_88 : decode cX12_joinsAt 88 = .ok (.iload 4, 2) := by decide +kernel
theorem dX12_joinsAt_90 : decode cX12_joinsAt 90 = .ok (.iaload, 1) := by decide +kernel
theorem dX12_joinsAt_91 : decode cX12_joinsAt 91 = .ok (.iload_n 1, 1) := by decide +kernel
theorem dX12_joinsAt_92 : decode cX12_joinsAt 92 = .ok (.if_icmp .ne 13, 3) := by decide +kernel
theorem dX12_joinsAt_95 : decode cX12_joinsAt 95 = .ok (.aload_n 0, 1) := by decide +kernel
theorem dX12_joinsAt_96 : decode cX12_joinsAt 96 = .ok (.getfield 125, 3) := by decide +kernel
theorem dX12_joinsAt_99 : decode cX12_joinsAt 99 = .ok (.iload 4, 2) := by decide +kernel
theorem dX12_joinsAt_101 : decode cX12_joinsAt 101 = .ok (.iaload, 1) := by decide +kernel
theorem dX12_joinsAt_102 : decode cX12_joinsAt 102 = .ok (.goto 10, 3) := by decide +kernel
theorem dX12_joinsAt_105 : decode cX12_joinsAt 105 = .ok (.aload_n 0, 1) := by decide +kernel
theorem dX12_joinsAt_106 : decode cX12_joinsAt 106 = .ok (.getfield 122, 3) := by decide +kernel
theorem dX12_joinsAt_109 : decode cX12_joinsAt 109 = .ok (.iload 4, 2) := by decide +kernel
theorem dX12_joinsAt_111 : decode cX12_joinsAt 111 = .ok (.iaload, 1) := by decide +kernel
theorem dX12_joinsAt_112 : decode cX12_joinsAt 112 = .ok (.istore 5, 2) := by decide +kernel
theorem dX12_joinsAt_114 : decode cX12_joinsAt 114 = .ok (.aload_n 0, 1) := by decide +kernel
theorem dX12_joinsAt_115 : decode cX12_joinsAt 115 = .ok (.getfield 122, 3) := by decide +kernel
theorem dX12_joinsAt_118 : decode cX12_joinsAt 118 = .ok (.iload_n 3, 1) := by decide +kernel
theorem dX12_joinsAt_119 : decode cX12_joinsAt 119 = .ok (.iaload, 1) := by decide +kernel
theorem dX12_joinsAt_120 : decode cX12_joinsAt 120 = .ok (.iload_n 1, 1) := by decide +kernel
theorem dX12_joinsAt_121 : decode cX12_joinsAt 121 = .ok (.if_icmp .ne 14, 3) := by decide +kernel
theorem dX12_joinsAt_124 : decode cX12_joinsAt 124 = .ok (.aload_n 0, 1) := by decide +kernel
theorem dX12_joinsAt_125 : decode cX12_joinsAt 125 = .ok (.getfield 122, 3) := by decide +kernel
theorem dX12_joinsAt_128 : decode cX12_joinsAt 128 = .ok (.iload_n 3, 1) := by decide +kernel
theorem dX12_joinsAt_129 : decode cX12_joinsAt 129 = .ok (.iload 5, 2) := by decide +kernel
theorem dX12_joinsAt_131 : decode cX12_joinsAt 131 = .ok (.iastore, 1) := by decide +kernel
theorem dX12_joinsAt_132 : decode cX12_joinsAt 132 = .ok (.goto 11, 3) := by decide +kernel
theorem dX12_joinsAt_135 : decode cX12_joinsAt 135 = .ok (.aload_n 0, 1) := by decide +kernel
theorem dX12_joinsAt_136 : decode cX12_joinsAt 136 = .ok (.getfield 125, 3) := by decide +kernel
theorem dX12_joinsAt_139 : decode cX12_joinsAt 139 = .ok (.iload_n 3, 1) := by decide +kernel
theorem dX12_joinsAt_140 : decode cX12_joinsAt 140 = .ok (.iload 5, 2) := by decide +kernel
theorem dX12_joinsAt_142 : decode cX12_joinsAt 142 = .ok (.iastore, 1) := by decide +kernel
theorem dX12_joinsAt_143 : decode cX12_joinsAt 143 = .ok (.aload_n 0, 1) := by decide +kernel
theorem dX12_joinsAt_144 : decode cX12_joinsAt 144 = .ok (.iload 4, 2) := by decide +kernel
theorem dX12_joinsAt_146 : decode cX12_joinsAt 146 = .ok (.invokevirtual 481, 3) := by decide +kernel
theorem dX12_joinsAt_149 : decode cX12_joinsAt 149 = .ok (.goto 8, 3) := by decide +kernel
theorem dX12_joinsAt_152 : decode cX12_joinsAt 152 = .ok (.aload_n 0, 1) := by decide +kernel
theorem dX12_joinsAt_153 : decode cX12_joinsAt 153 = .ok (.iload_n 3, 1) := by decide +kernel
theorem dX12_joinsAt_154 : decode cX12_joinsAt 154 = .ok (.invokevirtual 481, 3) := by decide +kernel
theorem dX12_joinsAt_157 : decode cX12_joinsAt 157 = .ok (.iconst 1, 1) := by decide +kernel
theorem dX12_joinsAt_158 : decode cX12_joinsAt 158 = .ok (.ireturn, 1) := by decide +kernel
abbrev o_X12_joinsAt : Type := Int32 × Int32 × (Nat → Int32) × (Nat → Int32)
def f_X12_joinsAt_L10 (S : wd_W) (p1 : Int32) (k67_4 : (Int32) → (Int32) → (Int32) → (Option o_X12_joinsAt)) (r30 : (Int32) → (Int32) → (Int32) → (Int32) → (Option o_X12_joinsAt)) (x26 : Int32) (x27 : Int32) (x28 : Int32) (x29 : Int32) : Option o_X12_joinsAt :=
if (S.1 67) ≤ x29 then (
k67_4 x26 x27 x28) else (
bd (f_X12_isAt (wd_o S [(67, (S.1 67))] [] [(37, (S.2.2.1 37)), (38, (S.2.2.1 38))] [] []) x29 p1) fun o31 =>
lk (fun x32 x33 x34 =>
r30 x32 x33 x34 (x29 + (1 : Int32))) fun k61_35 =>
if o31 = 0 then (
k61_35 x26 x27 x28) else (
lk (fun x36 =>
lk (fun x38 =>
k61_35 (x26 + (1 : Int32)) x36 x38) fun k59_39 =>
if (x26 + (1 : Int32)) = (2 : Int32) then (
k59_39 x29) else (
k59_39 x28)) fun k46_37 =>
if (x26 + (1 : Int32)) = (1 : Int32) then (
k46_37 x29) else (
k46_37 x27)))
def f_X12_joinsAt (S : wd_W) (p1 : Int32) : Option o_X12_joinsAt :=
lk (fun x1 x2 x3 =>
lk (if x1 = (2 : Int32) then (
gd (okx x3 12) <|
lk (fun x8 =>
gd (okx x2 12) <|
lk (fun a11 a12 =>
bd (f_X12_drops (wd_o S [(67, (S.1 67))] [] [(37, a11), (38, a12)] [] []) x3) fun o14 =>
some ((1 : Int32), o14.1, o14.2.1, o14.2.2)) fun k143_13 =>
if ((S.2.2.1 37) x2.toNatClampNeg) = p1 then (
gd (okx x2 12) <|
lz (upd (S.2.2.1 37) x2.toNatClampNeg x8) fun a18 =>
k143_13 a18 (S.2.2.1 38)) else (
gd (okx x2 12) <|
lz (upd (S.2.2.1 38) x2.toNatClampNeg x8) fun a16 =>
k143_13 (S.2.2.1 37) a16)) fun k112_9 =>
if ((S.2.2.1 37) x3.toNatClampNeg) = p1 then (
gd (okx x3 12) <|
k112_9 ((S.2.2.1 38) x3.toNatClampNeg)) else (
gd (okx x3 12) <|
k112_9 ((S.2.2.1 37) x3.toNatClampNeg))) else (
bd (f_X12_drops (wd_o S [(67, (S.1 67))] [] [(37, (S.2.2.1 37)), (38, (S.2.2.1 38))] [] []) x2) fun o6 =>
some ((1 : Int32), o6.1, o6.2.1, o6.2.2))) fun k79_5 =>
if x1 = (1 : Int32) then (
k79_5) else (
if x1 = (2 : Int32) then (
k79_5) else (
some ((0 : Int32), (S.1 67), (S.2.2.1 37), (S.2.2.1 38))))) fun k67_4 =>
it4 (f_X12_joinsAt_L10 S p1 k67_4) fuel (0 : Int32) (-1 : Int32) (-1 : Int32) (0 : Int32)
set_option maxRecDepth 100000 in
set_option maxHeartbeats 4000000 in
theorem c_X12_joinsAt (l : Launch) (D : va_G) (q g : Nat → Nat) (cy : Nat → ClassId) (z : (Nat → Nat) × (Nat → Nat) × Nat) (S : wd_W) (p1 : Int32) (o : o_X12_joinsAt) (hf : f_X12_joinsAt S p1 = some o) : MX layM l yX12_joinsAt cX12_joinsAt 6 (some .boolean) ({ frames := 1, cells := 0, slots := 0, locals := 22 } : Room) D q g cy z [.ref (q 0), .int p1] S false (some (.int o.1)) (wd_o S [(67, o.2.1)] [] [(37, o.2.2.1), (38, o.2.2.2)] [] []) 0 0 := by
  refine mx_of (own := RX12) (lc := [(0, .ref (q 0)), (1, .int p1)]) (by decide +kernel) rfl layM_ok (Nat.le_of_ble_eq_true rfl) rfl ?_
  intro X hXl hXq hXz hC hQ
  subst hXl; subst hXq; subst hXz
  unfold f_X12_joinsAt at hf
  refine go_keys (L1 := [(67, (S.1 67))]) (L2 := []) (L3 := [(37, (S.2.2.1 37)), (38, (S.2.2.1 38))]) (L4 := []) (L5 := []) [67] [] [37, 38] [] [] rfl rfl rfl rfl rfl ?_
  refine go_iconst (pc' := 1) hC dX12_joinsAt_0 ki_0 rfl ?_
  refine go_istore_n (lc' := [(0, .ref (x_q X 0)), (1, .int p1), (2, .int (0 : Int32))]) (pc' := 2) hC dX12_joinsAt_1 (Nat.le_of_ble_eq_true rfl) rfl rfl ?_
  refine go_iconst (pc' := 3) hC dX12_joinsAt_2 ki_m1 rfl ?_
  refine go_istore_n (lc' := [(0, .ref (x_q X 0)), (1, .int p1), (2, .int (0 : Int32)), (3, .int (-1 : Int32))]) (pc' := 4) hC dX12_joinsAt_3 (Nat.le_of_ble_eq_true rfl) rfl rfl ?_
  refine go_iconst (pc' := 5) hC dX12_joinsAt_4 ki_m1 rfl ?_
  refine go_istore (lc' := [(0, .ref (x_q X 0)), (1, .int p1), (2, .int (0 : Int32)), (3, .int (-1 : Int32)), (4, .int (-1 : Int32))]) (pc' := 7) hC dX12_joinsAt_5 (Nat.le_of_ble_eq_true rfl) rfl rfl ?_
  refine go_iconst (pc' := 8) hC dX12_joinsAt_7 ki_0 rfl ?_
  refine go_istore (lc' := [(0, .ref (x_q X 0)), (1, .int p1), (2, .int (0 : Int32)), (3, .int (-1 : Int32)), (4, .int (-1 : Int32)), (5, .int (0 : Int32))]) (pc' := 10) hC dX12_joinsAt_8 (Nat.le_of_ble_eq_true rfl) rfl rfl ?_
  obtain ⟨k67_4, hk67_4, hf⟩ := lk_e3 hf
  have jk67_4 : ∀ (x1 : Int32) (x2 : Int32) (x3 : Int32), k67_4 x1 x2 x3 = some o → Go X layM S 67 [(0, .ref (x_q X 0)), (1, .int p1), (2, .int x1), (3, .int x2), (4, .int x3)] [] g [(67, (S.1 67))] [] [(37, (S.2.2.1 37)), (38, (S.2.2.1 38))] [] [] 0 0 := by
    intro x1 x2 x3 hf
    have hf := hk67_4 x1 x2 x3 hf
    clear hk67_4
    refine go_iload_n (pc' := 68) hC dX12_joinsAt_67 rfl rfl ?_
    refine go_iconst (pc' := 69) hC dX12_joinsAt_68 ki_1 rfl ?_
    obtain ⟨k79_5, hk79_5, hf⟩ := lk_e0 hf
    have jk79_5 : ∀ (_ : Unit), k79_5 = some o → Go X layM S 79 [(0, .ref (x_q X 0)), (1, .int p1), (2, .int x1), (3, .int x2), (4, .int x3)] [] g [(67, (S.1 67))] [] [(37, (S.2.2.1 37)), (38, (S.2.2.1 38))] [] [] 0 0 := by
      intro _ hf
      have hf := hk79_5 hf
      clear hk79_5
      refine go_iload_n (pc' := 80) hC dX12_joinsAt_79 rfl rfl ?_
      refine go_iconst (pc' := 81) hC dX12_joinsAt_80 ki_2 rfl ?_
      refine go_icmp_ne (tgt := 152) (pc' := 84) hC dX12_joinsAt_81 (by decide) rfl (fun h23 => ?_) (fun h23 => ?_)
      · have hf := ite_f h23 hf
        refine go_aload_n (pc' := 153) hC dX12_joinsAt_152 rfl rfl ?_
        refine go_iload_n (pc' := 154) hC dX12_joinsAt_153 rfl rfl ?_
        obtain ⟨o6, ho6, hf⟩ := bd_e hf
        refine go_callV1 (pc' := 157) (As := [.int x2]) (st := []) (st' := []) (L1' := [(67, o6.1)]) (L2' := []) (L3' := [(37, o6.2.1), (38, o6.2.2)]) (L4' := []) (L5' := []) (cells' := 0) (slots' := 0)  (b := 0) hC dX12_joinsAt_154 ⟨mw_1388, mw_1391, mw_5, yd_yX12_drops, yp_yX12_drops, Nat.le_of_ble_eq_true rfl, Nat.le_of_ble_eq_true rfl, (Nat.le_of_ble_eq_true rfl), (Nat.le_of_ble_eq_true rfl)⟩ mw_1389 mw_1390 layM_0 rfl rfl rfl (Nat.le_of_ble_eq_true rfl) (c_X12_drops (x_l X) (x_D X) (x_q X) g (x_cy X) (x_z X) _ x2 o6 ho6) rfl rfl rfl rfl rfl rfl rfl rfl rfl rfl rfl rfl rfl rfl ?_
        refine go_iconst (pc' := 158) hC dX12_joinsAt_157 ki_1 rfl ?_
        obtain rfl := Option.some.inj hf
        exact go_iret hC hQ dX12_joinsAt_158 rfl rfl rfl rfl (fun _ => rfl) rfl rfl
      · have hf := ite_t h23 hf
        refine go_aload_n (pc' := 85) hC dX12_joinsAt_84 rfl rfl ?_
        refine go_getq (pc' := 88) hC 0 68 layM_0 rfl rfl inlX12 (Nat.le_of_ble_eq_true rfl) mw_218 rfl dX12_joinsAt_85 rfl ?_
        refine go_iload (pc' := 90) hC dX12_joinsAt_88 rfl rfl ?_
        obtain ⟨h7, hf⟩ := gd_e hf
        refine go_iald (f := (S.2.2.1 37)) (pc' := 91) hC 37 layM_37 rfl rfl dX12_joinsAt_90 (okx_in h7) rfl ?_
        refine go_iload_n (pc' := 92) hC dX12_joinsAt_91 rfl rfl ?_
        obtain ⟨k112_9, hk112_9, hf⟩ := lk_e1 hf
        have jk112_9 : ∀ (x8 : Int32), k112_9 x8 = some o → Go X layM S 112 [(0, .ref (x_q X 0)), (1, .int p1), (3, .int x2), (4, .int x3)] [.int x8] g [(67, (S.1 67))] [] [(37, (S.2.2.1 37)), (38, (S.2.2.1 38))] [] [] 0 0 := by
          intro x8 hf
          have hf := hk112_9 x8 hf
          clear hk112_9
          refine go_istore (lc' := [(0, .ref (x_q X 0)), (1, .int p1), (3, .int x2), (4, .int x3), (5, .int x8)]) (pc' := 114) hC dX12_joinsAt_112 (Nat.le_of_ble_eq_true rfl) rfl rfl ?_
          refine go_aload_n (pc' := 115) hC dX12_joinsAt_114 rfl rfl ?_
          refine go_getq (pc' := 118) hC 0 68 layM_0 rfl rfl inlX12 (Nat.le_of_ble_eq_true rfl) mw_218 rfl dX12_joinsAt_115 rfl ?_
          refine go_iload_n (pc' := 119) hC dX12_joinsAt_118 rfl rfl ?_
          obtain ⟨h10, hf⟩ := gd_e hf
          refine go_iald (f := (S.2.2.1 37)) (pc' := 120) hC 37 layM_37 rfl rfl dX12_joinsAt_119 (okx_in h10) rfl ?_
          refine go_iload_n (pc' := 121) hC dX12_joinsAt_120 rfl rfl ?_
          obtain ⟨k143_13, hk143_13, hf⟩ := lk_e2 hf
          have jk143_13 : ∀ (a11 : Nat → Int32) (a12 : Nat → Int32), k143_13 a11 a12 = some o → Go X layM S 143 [(0, .ref (x_q X 0)), (4, .int x3)] [] g [(67, (S.1 67))] [] [(37, a11), (38, a12)] [] [] 0 0 := by
            intro a11 a12 hf
            have hf := hk143_13 a11 a12 hf
            clear hk143_13
            refine go_aload_n (pc' := 144) hC dX12_joinsAt_143 rfl rfl ?_
            refine go_iload (pc' := 146) hC dX12_joinsAt_144 rfl rfl ?_
            obtain ⟨o14, ho14, hf⟩ := bd_e hf
            refine go_callV1 (pc' := 149) (As := [.int x3]) (st := []) (st' := []) (L1' := [(67, o14.1)]) (L2' := []) (L3' := [(37, o14.2.1), (38, o14.2.2)]) (L4' := []) (L5' := []) (cells' := 0) (slots' := 0)  (b := 0) hC dX12_joinsAt_146 ⟨mw_1388, mw_1391, mw_5, yd_yX12_drops, yp_yX12_drops, Nat.le_of_ble_eq_true rfl, Nat.le_of_ble_eq_true rfl, (Nat.le_of_ble_eq_true rfl), (Nat.le_of_ble_eq_true rfl)⟩ mw_1389 mw_1390 layM_0 rfl rfl rfl (Nat.le_of_ble_eq_true rfl) (c_X12_drops (x_l X) (x_D X) (x_q X) g (x_cy X) (x_z X) _ x3 o14 ho14) rfl rfl rfl rfl rfl rfl rfl rfl rfl rfl rfl rfl rfl rfl ?_
            refine go_goto (tgt := 157) hC dX12_joinsAt_149 (by decide) ?_
            refine go_iconst (pc' := 158) hC dX12_joinsAt_157 ki_1 rfl ?_
            obtain rfl := Option.some.inj hf
            exact go_iret hC hQ dX12_joinsAt_158 rfl rfl rfl rfl (fun _ => rfl) rfl rfl
          clear hk143_13
          refine go_icmp_ne (tgt := 135) (pc' := 124) hC dX12_joinsAt_121 (by decide) rfl (fun h19 => ?_) (fun h19 => ?_)
          · have hf := ite_f h19 hf
            refine go_aload_n (pc' := 136) hC dX12_joinsAt_135 rfl rfl ?_
            refine go_getq (pc' := 139) hC 0 69 layM_0 rfl rfl inlX12 (Nat.le_of_ble_eq_true rfl) mw_219 rfl dX12_joinsAt_136 rfl ?_
            refine go_iload_n (pc' := 140) hC dX12_joinsAt_139 rfl rfl ?_
            refine go_iload (pc' := 142) hC dX12_joinsAt_140 rfl rfl ?_
            obtain ⟨h15, hf⟩ := gd_e hf
            refine go_iast (f := (S.2.2.1 38)) (pc' := 143) hC 38 layM_38 rfl rfl dX12_joinsAt_142 (okx_in h15) rfl rfl (fun a16 ha L3' hL => ?_)
            have hf := lz_r ha hf
            clear ha
            obtain rfl : L3' = [(37, (S.2.2.1 37)), (38, a16)] := hL.symm
            refine go_sub [0, 4] rfl ?_
            exact jk143_13 (S.2.2.1 37) a16 hf
          · have hf := ite_t h19 hf
            refine go_aload_n (pc' := 125) hC dX12_joinsAt_124 rfl rfl ?_
            refine go_getq (pc' := 128) hC 0 68 layM_0 rfl rfl inlX12 (Nat.le_of_ble_eq_true rfl) mw_218 rfl dX12_joinsAt_125 rfl ?_
            refine go_iload_n (pc' := 129) hC dX12_joinsAt_128 rfl rfl ?_
            refine go_iload (pc' := 131) hC dX12_joinsAt_129 rfl rfl ?_
            obtain ⟨h17, hf⟩ := gd_e hf
            refine go_iast (f := (S.2.2.1 37)) (pc' := 132) hC 37 layM_37 rfl rfl dX12_joinsAt_131 (okx_in h17) rfl rfl (fun a18 ha L3' hL => ?_)
            have hf := lz_r ha hf
            clear ha
            obtain rfl : L3' = [(37, a18), (38, (S.2.2.1 38))] := hL.symm
            refine go_goto (tgt := 143) hC dX12_joinsAt_132 (by decide) ?_
            refine go_sub [0, 4] rfl ?_
            exact jk143_13 a18 (S.2.2.1 38) hf
        clear hk112_9
        refine go_icmp_ne (tgt := 105) (pc' := 95) hC dX12_joinsAt_92 (by decide) rfl (fun h22 => ?_) (fun h22 => ?_)
        · have hf := ite_f h22 hf
          refine go_aload_n (pc' := 106) hC dX12_joinsAt_105 rfl rfl ?_
          refine go_getq (pc' := 109) hC 0 68 layM_0 rfl rfl inlX12 (Nat.le_of_ble_eq_true rfl) mw_218 rfl dX12_joinsAt_106 rfl ?_
          refine go_iload (pc' := 111) hC dX12_joinsAt_109 rfl rfl ?_
          obtain ⟨h20, hf⟩ := gd_e hf
          refine go_iald (f := (S.2.2.1 37)) (pc' := 112) hC 37 layM_37 rfl rfl dX12_joinsAt_111 (okx_in h20) rfl ?_
          refine go_sub [0, 1, 3, 4] rfl ?_
          exact jk112_9 ((S.2.2.1 37) x3.toNatClampNeg) hf
        · have hf := ite_t h22 hf
          refine go_aload_n (pc' := 96) hC dX12_joinsAt_95 rfl rfl ?_
          refine go_getq (pc' := 99) hC 0 69 layM_0 rfl rfl inlX12 (Nat.le_of_ble_eq_true rfl) mw_219 rfl dX12_joinsAt_96 rfl ?_
          refine go_iload (pc' := 101) hC dX12_joinsAt_99 rfl rfl ?_
          obtain ⟨h21, hf⟩ := gd_e hf
          refine go_iald (f := (S.2.2.1 38)) (pc' := 102) hC 38 layM_38 rfl rfl dX12_joinsAt_101 (okx_in h21) rfl ?_
          refine go_goto (tgt := 112) hC dX12_joinsAt_102 (by decide) ?_
          refine go_sub [0, 1, 3, 4] rfl ?_
          exact jk112_9 ((S.2.2.1 38) x3.toNatClampNeg) hf
    clear hk79_5
    refine go_icmp_eq (tgt := 79) (pc' := 72) hC dX12_joinsAt_69 (by decide) rfl (fun h25 => ?_) (fun h25 => ?_)
    · have hf := ite_t h25 hf
      exact jk79_5 () hf
    · have hf := ite_f h25 hf
      refine go_iload_n (pc' := 73) hC dX12_joinsAt_72 rfl rfl ?_
      refine go_iconst (pc' := 74) hC dX12_joinsAt_73 ki_2 rfl ?_
      refine go_icmp_eq (tgt := 79) (pc' := 77) hC dX12_joinsAt_74 (by decide) rfl (fun h24 => ?_) (fun h24 => ?_)
      · have hf := ite_t h24 hf
        exact jk79_5 () hf
      · have hf := ite_f h24 hf
        refine go_iconst (pc' := 78) hC dX12_joinsAt_77 ki_0 rfl ?_
        obtain rfl := Option.some.inj hf
        exact go_iret hC hQ dX12_joinsAt_78 rfl rfl rfl rfl (fun _ => rfl) rfl rfl
  clear hk67_4
  have l10_44 : ∀ (nn : Nat) (x26 : Int32) (x27 : Int32) (x28 : Int32) (x29 : Int32), it4 (f_X12_joinsAt_L10 S p1 k67_4) nn x26 x27 x28 x29 = some o → Go X layM S 10 [(0, .ref (x_q X 0)), (1, .int p1), (2, .int x26), (3, .int x27), (4, .int x28), (5, .int x29)] [] g [(67, (S.1 67))] [] [(37, (S.2.2.1 37)), (38, (S.2.2.1 38))] [] [] 0 0 := by
    intro nn
    induction nn with
    | zero =>
      intro x26 x27 x28 x29 hf
      exact none_no hf
    | succ nn ih =>
      intro x26 x27 x28 x29 hf
      have hf : f_X12_joinsAt_L10 S p1 k67_4 (it4 (f_X12_joinsAt_L10 S p1 k67_4) nn) x26 x27 x28 x29 = some o := hf
      generalize it4 (f_X12_joinsAt_L10 S p1 k67_4) nn = r30 at ih hf
      unfold f_X12_joinsAt_L10 at hf
      refine go_iload (pc' := 12) hC dX12_joinsAt_10 rfl rfl ?_
      refine go_aload_n (pc' := 13) hC dX12_joinsAt_12 rfl rfl ?_
      refine go_geti (v := (S.1 67)) (pc' := 16) hC 0 67 layM_0 rfl rfl inlX12 (Nat.le_of_ble_eq_true rfl) mw_1379 rfl dX12_joinsAt_13 rfl rfl ?_
      refine go_icmp_ge (tgt := 67) (pc' := 19) hC dX12_joinsAt_16 (by decide) rfl (fun h43 => ?_) (fun h43 => ?_)
      · have hf := ite_t h43 hf
        refine go_sub [0, 1, 2, 3, 4] rfl ?_
        exact jk67_4 x26 x27 x28 hf
      · have hf := ite_f h43 hf
        refine go_aload_n (pc' := 20) hC dX12_joinsAt_19 rfl rfl ?_
        refine go_iload (pc' := 22) hC dX12_joinsAt_20 rfl rfl ?_
        refine go_iload_n (pc' := 23) hC dX12_joinsAt_22 rfl rfl ?_
        obtain ⟨o31, ho31, hf⟩ := bd_e hf
        refine go_callV0 (pc' := 26) (As := [.int x29, .int p1]) (st := []) (st' := [.int o31])    (b := 0) hC dX12_joinsAt_23 ⟨mw_1384, mw_1387, mw_5, yd_yX12_isAt, yp_yX12_isAt, Nat.le_of_ble_eq_true rfl, Nat.le_of_ble_eq_true rfl, (Nat.le_of_ble_eq_true rfl), (Nat.le_of_ble_eq_true rfl)⟩ mw_1385 mw_1386 layM_0 rfl rfl rfl (Nat.le_of_ble_eq_true rfl) (c_X12_isAt (x_l X) (x_D X) (x_q X) g (x_cy X) (x_z X) _ x29 p1 o31 ho31) rfl rfl ?_
        obtain ⟨k61_35, hk61_35, hf⟩ := lk_e3 hf
        have jk61_35 : ∀ (x32 : Int32) (x33 : Int32) (x34 : Int32), k61_35 x32 x33 x34 = some o → Go X layM S 61 [(0, .ref (x_q X 0)), (1, .int p1), (2, .int x32), (3, .int x33), (4, .int x34), (5, .int x29)] [] g [(67, (S.1 67))] [] [(37, (S.2.2.1 37)), (38, (S.2.2.1 38))] [] [] 0 0 := by
          intro x32 x33 x34 hf
          have hf := hk61_35 x32 x33 x34 hf
          clear hk61_35
          refine go_iinc (lc' := [(0, .ref (x_q X 0)), (1, .int p1), (2, .int x32), (3, .int x33), (4, .int x34), (5, .int (x29 + (1 : Int32)))]) (pc' := 64) hC dX12_joinsAt_61 rfl ki_1 (Nat.le_of_ble_eq_true rfl) rfl rfl ?_
          refine go_goto (tgt := 10) hC dX12_joinsAt_64 (by decide) ?_
          exact ih x32 x33 x34 (x29 + (1 : Int32)) hf
        clear hk61_35
        refine go_if_ne (tgt := 32) (pc' := 29) hC dX12_joinsAt_26 (by decide) rfl (fun h42 => ?_) (fun h42 => ?_)
        · have hf := ite_f h42 hf
          refine go_iinc (lc' := [(0, .ref (x_q X 0)), (1, .int p1), (2, .int (x26 + (1 : Int32))), (3, .int x27), (4, .int x28), (5, .int x29)]) (pc' := 35) hC dX12_joinsAt_32 rfl ki_1 (Nat.le_of_ble_eq_true rfl) rfl rfl ?_
          refine go_iload_n (pc' := 36) hC dX12_joinsAt_35 rfl rfl ?_
          refine go_iconst (pc' := 37) hC dX12_joinsAt_36 ki_1 rfl ?_
          obtain ⟨k46_37, hk46_37, hf⟩ := lk_e1 hf
          have jk46_37 : ∀ (x36 : Int32), k46_37 x36 = some o → Go X layM S 46 [(0, .ref (x_q X 0)), (1, .int p1), (2, .int (x26 + (1 : Int32))), (4, .int x28), (5, .int x29)] [.int x36] g [(67, (S.1 67))] [] [(37, (S.2.2.1 37)), (38, (S.2.2.1 38))] [] [] 0 0 := by
            intro x36 hf
            have hf := hk46_37 x36 hf
            clear hk46_37
            refine go_istore_n (lc' := [(0, .ref (x_q X 0)), (1, .int p1), (2, .int (x26 + (1 : Int32))), (3, .int x36), (4, .int x28), (5, .int x29)]) (pc' := 47) hC dX12_joinsAt_46 (Nat.le_of_ble_eq_true rfl) rfl rfl ?_
            refine go_iload_n (pc' := 48) hC dX12_joinsAt_47 rfl rfl ?_
            refine go_iconst (pc' := 49) hC dX12_joinsAt_48 ki_2 rfl ?_
            obtain ⟨k59_39, hk59_39, hf⟩ := lk_e1 hf
            have jk59_39 : ∀ (x38 : Int32), k59_39 x38 = some o → Go X layM S 59 [(0, .ref (x_q X 0)), (1, .int p1), (2, .int (x26 + (1 : Int32))), (3, .int x36), (5, .int x29)] [.int x38] g [(67, (S.1 67))] [] [(37, (S.2.2.1 37)), (38, (S.2.2.1 38))] [] [] 0 0 := by
              intro x38 hf
              have hf := hk59_39 x38 hf
              clear hk59_39
              refine go_istore (lc' := [(0, .ref (x_q X 0)), (1, .int p1), (2, .int (x26 + (1 : Int32))), (3, .int x36), (4, .int x38), (5, .int x29)]) (pc' := 61) hC dX12_joinsAt_59 (Nat.le_of_ble_eq_true rfl) rfl rfl ?_
              exact jk61_35 (x26 + (1 : Int32)) x36 x38 hf
            clear hk59_39
            refine go_icmp_ne (tgt := 57) (pc' := 52) hC dX12_joinsAt_49 (by decide) rfl (fun h40 => ?_) (fun h40 => ?_)
            · have hf := ite_f h40 hf
              refine go_iload (pc' := 59) hC dX12_joinsAt_57 rfl rfl ?_
              refine go_sub [0, 1, 2, 3, 5] rfl ?_
              exact jk59_39 x28 hf
            · have hf := ite_t h40 hf
              refine go_iload (pc' := 54) hC dX12_joinsAt_52 rfl rfl ?_
              refine go_goto (tgt := 59) hC dX12_joinsAt_54 (by decide) ?_
              refine go_sub [0, 1, 2, 3, 5] rfl ?_
              exact jk59_39 x29 hf
          clear hk46_37
          refine go_icmp_ne (tgt := 45) (pc' := 40) hC dX12_joinsAt_37 (by decide) rfl (fun h41 => ?_) (fun h41 => ?_)
          · have hf := ite_f h41 hf
            refine go_iload_n (pc' := 46) hC dX12_joinsAt_45 rfl rfl ?_
            refine go_sub [0, 1, 2, 4, 5] rfl ?_
            exact jk46_37 x27 hf
          · have hf := ite_t h41 hf
            refine go_iload (pc' := 42) hC dX12_joinsAt_40 rfl rfl ?_
            refine go_goto (tgt := 46) hC dX12_joinsAt_42 (by decide) ?_
            refine go_sub [0, 1, 2, 4, 5] rfl ?_
            exact jk46_37 x29 hf
        · have hf := ite_t h42 hf
          refine go_goto (tgt := 61) hC dX12_joinsAt_29 (by decide) ?_
          exact jk61_35 x26 x27 x28 hf
  exact l10_44 fuel (0 : Int32) (-1 : Int32) (-1 : Int32) (0 : Int32) hf
theorem dX12_joined_0 : decode cX12_joined 0 = .ok (.aload_n 0, 1) := by decide +kernel
theorem dX12_joined_1 : decode cX12_joined 1 = .ok (.iload_n 1, 1) := by decide +kernel
theorem dX12_joined_2 : decode cX12_joined 2 = .ok (.iload_n 2, 1) := by decide +kernel
theorem dX12_joined_3 : decode cX12_joined 3 = .ok (.invokevirtual 446, 3) := by decide +kernel
theorem dX12_joined_6 : decode cX12_joined 6 = .ok (.ifCond .ne 5, 3) := by decide +kernel
theorem dX12_joined_9 : decode cX12_joined 9 = .ok (.iconst (-1), 1) := by decide +kernel
theorem dX12_joined_10 : decode cX12_joined 10 = .ok (.ireturn, 1) := by decide +kernel
theorem dX12_joined_11 : decode cX12_joined 11 = .ok (.aload_n 0, 1) := by decide +kernel
theorem dX12_joined_12 : decode cX12_joined 12 = .ok (.aload_n 0, 1) := by decide +kernel
theorem dX12_joined_13 : decode cX12_joined 13 = .ok (.getfield 279, 3) := by decide +kernel
theorem dX12_joined_16 : decode cX12_joined 16 = .ok (.putfield 475, 3) := by decide +kernel
theorem dX12_joined_19 : decode cX12_joined 19 = .ok (.iconst 0, 1) := by decide +kernel
theorem dX12_joined_20 : decode cX12_joined 20 = .ok (.istore_n 3, 1) := by decide +kernel
theorem dX12_joined_21 : decode cX12_joined 21 = .ok (.iload_n 3, 1) := by decide +kernel
theorem dX12_joined_22 : decode cX12_joined 22 = .ok (.aload_n 0, 1) := by decide +kernel
theorem dX12_joined_23 : decode cX12_joined 23 = .ok (.getfield 279, 3) := by decide +kernel
theorem dX12_joined_26 : decode cX12_joined 26 = .ok (.if_icmp .ge 33, 3) := by decide +kernel
theorem dX12_joined_29 : decode cX12_joined 29 = .ok (.aload_n 0, 1) := by decide +kernel
theorem dX12_joined_30 : decode cX12_joined 30 = .ok (.getfield 122, 3) := by decide +kernel
theorem dX12_joined_33 : decode cX12_joined 33 = .ok (.iload_n 3, 1) := by decide +kernel
theorem dX12_joined_34 : decode cX12_joined 34 = .ok (.aload_n 0, 1) := by decide +kernel
theorem dX12_joined_35 : decode cX12_joined 35 = .ok (.getfield 32, 3) := by decide +kernel
theorem dX12_joined_38 : decode cX12_joined 38 = .ok (.iload_n 3, 1) := by decide +kernel
theorem dX12_joined_39 : decode cX12_joined 39 = .ok (.iaload, 1) := by decide +kernel
theorem dX12_joined_40 : decode cX12_joined 40 = .ok (.iastore, 1) := by decide +kernel
theorem dX12_joined_41 : decode cX12_joined 41 = .ok (.aload_n 0, 1) := by decide +kernel
theorem dX12_joined_42 : decode cX12_joined 42 = .ok (.getfield 125, 3) := by decide +kernel
theorem dX12_joined_45 : decode cX12_joined 45 = .ok (.iload_n 3, 1) := by decide +kernel
theorem dX12_joined_46 : decode cX12_joined 46 = .ok (.aload_n 0, 1) := by decide +kernel
theorem dX12_joined_47 : decode cX12_joined 47 = .ok (.getfield 35, 3) := by decide +kernel
theorem dX12_joined_50 : decode cX12_joined 50 = .ok (.iload_n 3, 1) := by decide +kernel
theorem dX12_joined_51 : decode cX12_joined 51 = .ok (.iaload, 1) := by decide +kernel
theorem dX12_joined_52 : decode cX12_joined 52 = .ok (.iastore, 1) := by decide +kernel
theorem dX12_joined_53 : decode cX12_joined 53 = .ok (.iinc 3 1, 3) := by decide +kernel
theorem dX12_joined_56 : decode cX12_joined 56 = .ok (.goto (-35), 3) := by decide +kernel
theorem dX12_joined_59 : decode cX12_joined 59 = .ok (.iconst 1, 1) := by decide +kernel
theorem dX12_joined_60 : decode cX12_joined 60 = .ok (.istore_n 3, 1) := by decide +kernel
theorem dX12_joined_61 : decode cX12_joined 61 = .ok (.iload_n 3, 1) := by decide +kernel
theorem dX12_joined_62 : decode cX12_joined 62 = .ok (.ifCond .eq 60, 3) := by decide +kernel
theorem dX12_joined_65 : decode cX12_joined 65 = .ok (.aload_n 0, 1) := by decide +kernel
theorem dX12_joined_66 : decode cX12_joined 66 = .ok (.invokevirtual 484, 3) := by decide +kernel
theorem dX12_joined_69 : decode cX12_joined 69 = .ok (.istore_n 3, 1) := by decide +kernel
theorem dX12_joined_70 : decode cX12_joined 70 = .ok (.iconst 0, 1) := by decide +kernel
theorem dX12_joined_71 : decode cX12_joined 71 = .ok (.istore 4, 2) := by decide +kernel
theorem dX12_joined_73 : decode cX12_joined 73 = .ok (.iload 4, 2) := by decide +kernel
theorem dX12_joined_75 : decode cX12_joined 75 = .ok (.aload_n 0, 1) := by decide +kernel
theorem dX12_joined_76 : decode cX12_joined 76 = .ok (.getfield 276, 3) := by decide +kernel
theorem dX12_joined_79 : decode cX12_joined 79 = .ok (.if_icmp .ge 40, 3) := by decide +kernel
theorem dX12_joined_82 : decode cX12_joined 82 = .ok (.iload_n 3, 1) := by decide +kernel
theorem dX12_joined_83 : decode cX12_joined 83 = .ok (.ifCond .ne 36, 3) := by decide +kernel
theorem dX12_joined_86 : decode cX12_joined 86 = .ok (.iload 4, 2) := by decide +kernel
theorem dX12_joined_88 : decode cX12_joined 88 = .ok (.iload_n 1, 1) := by decide +kernel
theorem dX12_joined_89 : decode cX12_joined 89 = .ok (.if_icmp .eq 22, 3) := by decide +kernel
theorem dX12_joined_92 : decode cX12_joined 92 = .ok (.iload 4, 2) := by decide +kernel
theorem dX12_joined_94 : decode cX12_joined 94 = .ok (.iload_n 2, 1) := by decide +kernel
theorem dX12_joined_95 : decode cX12_joined 95 = .ok (.if_icmp .eq 16, 3) := by decide +kernel
theorem dX12_joined_98 : decode cX12_joined 98 = .ok (.aload_n 0, 1) := by decide +kernel
theorem dX12_joined_99 : decode cX12_joined 99 = .ok (.iload 4, 2) := by decide +kernel
theorem dX12_joined_101 : decode cX12_joined 101 = .ok (.invokevirtual 487, 3) := by decide +kernel
theorem dX12_joined_104 : decode cX12_joined 104 = .ok (.ifCond .eq 7, 3) := by decide +kernel
theorem dX12_joined_107 : decode cX12_joined 107 = .ok (.iconst 1, 1) := by decide +kernel
theorem dX12_joined_108 : decode cX12_joined 108 = .ok (.goto 4, 3) := by decide +kernel
theorem dX12_joined_111 : decode cX12_joined 111 = .ok (.iconst 0, 1) := by decide +kernel
theorem dX12_joined_112 : decode cX12_joined 112 = .ok (.istore_n 3, 1) := by decide +kernel
theorem dX12_joined_113 : decode cX12_joined 113 = .ok (.iinc 4 1, 3) := by decide +kernel
theorem dX12_joined_116 : decode cX12_joined 116 = .ok (.goto (-43), 3) := by decide +kernel
theorem dX12_joined_119 : decode cX12_joined 119 = .ok (.goto (-58), 3) := by decide +kernel
theorem dX12_joined_122 : decode cX12_joined 122 = .ok (.aload_n 0, 1) := by decide +kernel
theorem dX12_joined_123 : decode cX12_joined 123 = .ok (.getfield 475, 3) := by decide +kernel
theorem dX12_joined_126 : decode cX12_joined 126 = .ok (.ireturn, 1) := by decide +kernel
abbrev o_X12_joined : Type := Int32 × Int32 × (Nat → Int32) × (Nat → Int32)
def f_X12_joined_L73 (S : wd_W) (p1 : Int32) (p2 : Int32) (k119_20 : (Int32) → (Int32) → (Nat → Int32) → (Nat → Int32) → (Option o_X12_joined)) (r26 : (Int32) → (Int32) → (Int32) → (Nat → Int32) → (Nat → Int32) → (Option o_X12_joined)) (x21 : Int32) (x22 : Int32) (x23 : Int32) (a24 : Nat → Int32) (a25 : Nat → Int32) : Option o_X12_joined :=
if (S.1 20) ≤ x22 then (
k119_20 x21 x23 a24 a25) else (
if x21 = 0 then (
lk (fun x27 x28 a29 a30 =>
r26 x27 (x22 + (1 : Int32)) x28 a29 a30) fun k112_31 =>
lk (fun x32 a33 a34 =>
k112_31 (0 : Int32) x32 a33 a34) fun k111_35 =>
if x22 = p1 then (
k111_35 x23 a24 a25) else (
if x22 = p2 then (
k111_35 x23 a24 a25) else (
bd (f_X12_joinsAt (wd_o S [(67, x23)] [] [(37, a24), (38, a25)] [] []) x22) fun o36 =>
if o36.1 = 0 then (
k111_35 o36.2.1 o36.2.2.1 o36.2.2.2) else (
k112_31 (1 : Int32) o36.2.1 o36.2.2.1 o36.2.2.2)))) else (
k119_20 x21 x23 a24 a25))
def f_X12_joined_L61 (S : wd_W) (p1 : Int32) (p2 : Int32) (k122_9 : (Int32) → (Nat → Int32) → (Nat → Int32) → (Option o_X12_joined)) (r14 : (Int32) → (Int32) → (Nat → Int32) → (Nat → Int32) → (Option o_X12_joined)) (x10 : Int32) (x11 : Int32) (a12 : Nat → Int32) (a13 : Nat → Int32) : Option o_X12_joined :=
if x10 = 0 then (
k122_9 x11 a12 a13) else (
bd (f_X12_dropsOne (wd_o S [(67, x11)] [] [(37, a12), (38, a13)] [] [])) fun o15 =>
lk (fun x16 x17 a18 a19 =>
r14 x16 x17 a18 a19) fun k119_20 =>
it5 (f_X12_joined_L73 S p1 p2 k119_20) fuel o15.1 (0 : Int32) o15.2.1 o15.2.2.1 o15.2.2.2)
def f_X12_joined_L21 (S : wd_W) (k59_5 : (Nat → Int32) → (Nat → Int32) → (Option o_X12_joined)) (r48 : (Int32) → (Nat → Int32) → (Nat → Int32) → (Option o_X12_joined)) (x45 : Int32) (a46 : Nat → Int32) (a47 : Nat → Int32) : Option o_X12_joined :=
if (S.1 21) ≤ x45 then (
k59_5 a46 a47) else (
gd (okx x45 13) <|
lz ((S.2.2.1 8) x45.toNatClampNeg) fun x50 =>
gd (okx x45 12) <|
lz (upd a46 x45.toNatClampNeg x50) fun a52 =>
gd (okx x45 13) <|
lz ((S.2.2.1 9) x45.toNatClampNeg) fun x54 =>
gd (okx x45 12) <|
lz (upd a47 x45.toNatClampNeg x54) fun a56 =>
r48 (x45 + (1 : Int32)) a52 a56)
def f_X12_joined (S : wd_W) (p1 : Int32) (p2 : Int32) : Option o_X12_joined :=
bd (f_X12_areEnds (wd_o S [(67, (S.1 67))] [] [(37, (S.2.2.1 37)), (38, (S.2.2.1 38))] [] []) p1 p2) fun o1 =>
if o1 = 0 then (
some ((-1 : Int32), (S.1 67), (S.2.2.1 37), (S.2.2.1 38))) else (
lz ((S.1 21)) fun x2 =>
lk (fun a3 a4 =>
lk (fun x6 a7 a8 =>
some (x6, x6, a7, a8)) fun k122_9 =>
it4 (f_X12_joined_L61 S p1 p2 k122_9) fuel (1 : Int32) x2 a3 a4) fun k59_5 =>
it3 (f_X12_joined_L21 S k59_5) fuel (0 : Int32) (S.2.2.1 37) (S.2.2.1 38))
set_option maxRecDepth 100000 in
set_option maxHeartbeats 4000000 in
theorem c_X12_joined (l : Launch) (D : va_G) (q g : Nat → Nat) (cy : Nat → ClassId) (z : (Nat → Nat) × (Nat → Nat) × Nat) (S : wd_W) (p1 : Int32) (p2 : Int32) (o : o_X12_joined) (hf : f_X12_joined S p1 p2 = some o) : MX layM l yX12_joined cX12_joined 5 (some .int) ({ frames := 2, cells := 0, slots := 0, locals := 47 } : Room) D q g cy z [.ref (q 0), .int p1, .int p2] S false (some (.int o.1)) (wd_o S [(67, o.2.1)] [] [(37, o.2.2.1), (38, o.2.2.2)] [] []) 0 0 := by
  refine mx_of (own := RX12) (lc := [(0, .ref (q 0)), (1, .int p1), (2, .int p2)]) (by decide +kernel) rfl layM_ok (Nat.le_of_ble_eq_true rfl) rfl ?_
  intro X hXl hXq hXz hC hQ
  subst hXl; subst hXq; subst hXz
  unfold f_X12_joined at hf
  refine go_keys (L1 := [(67, (S.1 67))]) (L2 := []) (L3 := [(37, (S.2.2.1 37)), (38, (S.2.2.1 38))]) (L4 := []) (L5 := []) [67] [] [37, 38] [] [] rfl rfl rfl rfl rfl ?_
  refine go_aload_n (pc' := 1) hC dX12_joined_0 rfl rfl ?_
  refine go_iload_n (pc' := 2) hC dX12_joined_1 rfl rfl ?_
  refine go_iload_n (pc' := 3) hC dX12_joined_2 rfl rfl ?_
  obtain ⟨o1, ho1, hf⟩ := bd_e hf
  refine go_callV0 (pc' := 6) (As := [.int p1, .int p2]) (st := []) (st' := [.int o1])    (b := 0) hC dX12_joined_3 ⟨mw_1249, mw_1252, mw_5, yd_yX12_areEnds, yp_yX12_areEnds, Nat.le_of_ble_eq_true rfl, Nat.le_of_ble_eq_true rfl, (Nat.le_of_ble_eq_true rfl), (Nat.le_of_ble_eq_true rfl)⟩ mw_1250 mw_1251 layM_0 rfl rfl rfl (Nat.le_of_ble_eq_true rfl) (c_X12_areEnds (x_l X) (x_D X) (x_q X) g (x_cy X) (x_z X) _ p1 p2 o1 ho1) rfl rfl ?_
  refine go_if_ne (tgt := 11) (pc' := 9) hC dX12_joined_6 (by decide) rfl (fun h59 => ?_) (fun h59 => ?_)
  · have hf := ite_f h59 hf
    refine go_aload_n (pc' := 12) hC dX12_joined_11 rfl rfl ?_
    refine go_aload_n (pc' := 13) hC dX12_joined_12 rfl rfl ?_
    refine go_geti (v := (S.1 21)) (pc' := 16) hC 0 21 layM_0 rfl rfl inlX12 (Nat.le_of_ble_eq_true rfl) mw_247 rfl dX12_joined_13 rfl rfl ?_
    refine go_namei (fun x2 hx => ?_)
    have hf := lz_r hx hf
    clear hx
    refine go_puti (L1' := [(67, x2)]) (pc' := 19) hC 0 67 layM_0 rfl rfl inlX12 tyX12_ok nmX12 (Nat.le_of_ble_eq_true rfl) mw_1379 rfl rfl rfl rfl dX12_joined_16 rfl rfl rfl ?_
    refine go_iconst (pc' := 20) hC dX12_joined_19 ki_0 rfl ?_
    refine go_istore_n (lc' := [(0, .ref (x_q X 0)), (1, .int p1), (2, .int p2), (3, .int (0 : Int32))]) (pc' := 21) hC dX12_joined_20 (Nat.le_of_ble_eq_true rfl) rfl rfl ?_
    obtain ⟨k59_5, hk59_5, hf⟩ := lk_e2 hf
    have jk59_5 : ∀ (a3 : Nat → Int32) (a4 : Nat → Int32), k59_5 a3 a4 = some o → Go X layM S 59 [(0, .ref (x_q X 0)), (1, .int p1), (2, .int p2)] [] g [(67, x2)] [] [(37, a3), (38, a4)] [] [] 0 0 := by
      intro a3 a4 hf
      have hf := hk59_5 a3 a4 hf
      clear hk59_5
      refine go_iconst (pc' := 60) hC dX12_joined_59 ki_1 rfl ?_
      refine go_istore_n (lc' := [(0, .ref (x_q X 0)), (1, .int p1), (2, .int p2), (3, .int (1 : Int32))]) (pc' := 61) hC dX12_joined_60 (Nat.le_of_ble_eq_true rfl) rfl rfl ?_
      obtain ⟨k122_9, hk122_9, hf⟩ := lk_e3 hf
      have jk122_9 : ∀ (x6 : Int32) (a7 : Nat → Int32) (a8 : Nat → Int32), k122_9 x6 a7 a8 = some o → Go X layM S 122 [(0, .ref (x_q X 0))] [] g [(67, x6)] [] [(37, a7), (38, a8)] [] [] 0 0 := by
        intro x6 a7 a8 hf
        have hf := hk122_9 x6 a7 a8 hf
        clear hk122_9
        refine go_aload_n (pc' := 123) hC dX12_joined_122 rfl rfl ?_
        refine go_geti (v := x6) (pc' := 126) hC 0 67 layM_0 rfl rfl inlX12 (Nat.le_of_ble_eq_true rfl) mw_1379 rfl dX12_joined_123 rfl rfl ?_
        obtain rfl := Option.some.inj hf
        exact go_iret hC hQ dX12_joined_126 rfl rfl rfl rfl (fun _ => rfl) rfl rfl
      clear hk122_9
      have l61_44 : ∀ (nn : Nat) (x10 : Int32) (x11 : Int32) (a12 : Nat → Int32) (a13 : Nat → Int32), it4 (f_X12_joined_L61 S p1 p2 k122_9) nn x10 x11 a12 a13 = some o → Go X layM S 61 [(0, .ref (x_q X 0)), (1, .int p1), (2, .int p2), (3, .int x10)] [] g [(67, x11)] [] [(37, a12), (38, a13)] [] [] 0 0 := by
        intro nn
        induction nn with
        | zero =>
          intro x10 x11 a12 a13 hf
          exact none_no hf
        | succ nn ih =>
          intro x10 x11 a12 a13 hf
          have hf : f_X12_joined_L61 S p1 p2 k122_9 (it4 (f_X12_joined_L61 S p1 p2 k122_9) nn) x10 x11 a12 a13 = some o := hf
          generalize it4 (f_X12_joined_L61 S p1 p2 k122_9) nn = r14 at ih hf
          unfold f_X12_joined_L61 at hf
          refine go_iload_n (pc' := 62) hC dX12_joined_61 rfl rfl ?_
          refine go_if_eq (tgt := 122) (pc' := 65) hC dX12_joined_62 (by decide) rfl (fun h43 => ?_) (fun h43 => ?_)
          · have hf := ite_t h43 hf
            refine go_sub [0] rfl ?_
            exact jk122_9 x11 a12 a13 hf
          · have hf := ite_f h43 hf
            refine go_aload_n (pc' := 66) hC dX12_joined_65 rfl rfl ?_
            obtain ⟨o15, ho15, hf⟩ := bd_e hf
            refine go_callV1 (pc' := 69) (As := []) (st := []) (st' := [.int o15.1]) (L1' := [(67, o15.2.1)]) (L2' := []) (L3' := [(37, o15.2.2.1), (38, o15.2.2.2)]) (L4' := []) (L5' := []) (cells' := 0) (slots' := 0)  (b := 0) hC dX12_joined_66 ⟨mw_1380, mw_1383, mw_5, yd_yX12_dropsOne, yp_yX12_dropsOne, Nat.le_of_ble_eq_true rfl, Nat.le_of_ble_eq_true rfl, (Nat.le_of_ble_eq_true rfl), (Nat.le_of_ble_eq_true rfl)⟩ mw_1381 mw_1382 layM_0 rfl rfl rfl (Nat.le_of_ble_eq_true rfl) (c_X12_dropsOne (x_l X) (x_D X) (x_q X) g (x_cy X) (x_z X) _  o15 ho15) rfl rfl rfl rfl rfl rfl rfl rfl rfl rfl rfl rfl rfl rfl ?_
            refine go_istore_n (lc' := [(0, .ref (x_q X 0)), (1, .int p1), (2, .int p2), (3, .int o15.1)]) (pc' := 70) hC dX12_joined_69 (Nat.le_of_ble_eq_true rfl) rfl rfl ?_
            refine go_iconst (pc' := 71) hC dX12_joined_70 ki_0 rfl ?_
            refine go_istore (lc' := [(0, .ref (x_q X 0)), (1, .int p1), (2, .int p2), (3, .int o15.1), (4, .int (0 : Int32))]) (pc' := 73) hC dX12_joined_71 (Nat.le_of_ble_eq_true rfl) rfl rfl ?_
            obtain ⟨k119_20, hk119_20, hf⟩ := lk_e4 hf
            have jk119_20 : ∀ (x16 : Int32) (x17 : Int32) (a18 : Nat → Int32) (a19 : Nat → Int32), k119_20 x16 x17 a18 a19 = some o → Go X layM S 119 [(0, .ref (x_q X 0)), (1, .int p1), (2, .int p2), (3, .int x16)] [] g [(67, x17)] [] [(37, a18), (38, a19)] [] [] 0 0 := by
              intro x16 x17 a18 a19 hf
              have hf := hk119_20 x16 x17 a18 a19 hf
              clear hk119_20
              refine go_goto (tgt := 61) hC dX12_joined_119 (by decide) ?_
              exact ih x16 x17 a18 a19 hf
            clear hk119_20
            have l73_42 : ∀ (nn : Nat) (x21 : Int32) (x22 : Int32) (x23 : Int32) (a24 : Nat → Int32) (a25 : Nat → Int32), it5 (f_X12_joined_L73 S p1 p2 k119_20) nn x21 x22 x23 a24 a25 = some o → Go X layM S 73 [(0, .ref (x_q X 0)), (1, .int p1), (2, .int p2), (3, .int x21), (4, .int x22)] [] g [(67, x23)] [] [(37, a24), (38, a25)] [] [] 0 0 := by
              intro nn
              induction nn with
              | zero =>
                intro x21 x22 x23 a24 a25 hf
                exact none_no hf
              | succ nn ih =>
                intro x21 x22 x23 a24 a25 hf
                have hf : f_X12_joined_L73 S p1 p2 k119_20 (it5 (f_X12_joined_L73 S p1 p2 k119_20) nn) x21 x22 x23 a24 a25 = some o := hf
                generalize it5 (f_X12_joined_L73 S p1 p2 k119_20) nn = r26 at ih hf
                unfold f_X12_joined_L73 at hf
                refine go_iload (pc' := 75) hC dX12_joined_73 rfl rfl ?_
                refine go_aload_n (pc' := 76) hC dX12_joined_75 rfl rfl ?_
                refine go_geti (v := (S.1 20)) (pc' := 79) hC 0 20 layM_0 rfl rfl inlX12 (Nat.le_of_ble_eq_true rfl) mw_246 rfl dX12_joined_76 rfl rfl ?_
                refine go_icmp_ge (tgt := 119) (pc' := 82) hC dX12_joined_79 (by decide) rfl (fun h41 => ?_) (fun h41 => ?_)
                · have hf := ite_t h41 hf
                  refine go_sub [0, 1, 2, 3] rfl ?_
                  exact jk119_20 x21 x23 a24 a25 hf
                · have hf := ite_f h41 hf
                  refine go_iload_n (pc' := 83) hC dX12_joined_82 rfl rfl ?_
                  refine go_if_ne (tgt := 119) (pc' := 86) hC dX12_joined_83 (by decide) rfl (fun h40 => ?_) (fun h40 => ?_)
                  · have hf := ite_f h40 hf
                    refine go_sub [0, 1, 2, 3] rfl ?_
                    exact jk119_20 x21 x23 a24 a25 hf
                  · have hf := ite_t h40 hf
                    refine go_iload (pc' := 88) hC dX12_joined_86 rfl rfl ?_
                    refine go_iload_n (pc' := 89) hC dX12_joined_88 rfl rfl ?_
                    obtain ⟨k112_31, hk112_31, hf⟩ := lk_e4 hf
                    have jk112_31 : ∀ (x27 : Int32) (x28 : Int32) (a29 : Nat → Int32) (a30 : Nat → Int32), k112_31 x27 x28 a29 a30 = some o → Go X layM S 112 [(0, .ref (x_q X 0)), (1, .int p1), (2, .int p2), (4, .int x22)] [.int x27] g [(67, x28)] [] [(37, a29), (38, a30)] [] [] 0 0 := by
                      intro x27 x28 a29 a30 hf
                      have hf := hk112_31 x27 x28 a29 a30 hf
                      clear hk112_31
                      refine go_istore_n (lc' := [(0, .ref (x_q X 0)), (1, .int p1), (2, .int p2), (3, .int x27), (4, .int x22)]) (pc' := 113) hC dX12_joined_112 (Nat.le_of_ble_eq_true rfl) rfl rfl ?_
                      refine go_iinc (lc' := [(0, .ref (x_q X 0)), (1, .int p1), (2, .int p2), (3, .int x27), (4, .int (x22 + (1 : Int32)))]) (pc' := 116) hC dX12_joined_113 rfl ki_1 (Nat.le_of_ble_eq_true rfl) rfl rfl ?_
                      refine go_goto (tgt := 73) hC dX12_joined_116 (by decide) ?_
                      exact ih x27 (x22 + (1 : Int32)) x28 a29 a30 hf
                    clear hk112_31
                    obtain ⟨k111_35, hk111_35, hf⟩ := lk_e3 hf
                    have jk111_35 : ∀ (x32 : Int32) (a33 : Nat → Int32) (a34 : Nat → Int32), k111_35 x32 a33 a34 = some o → Go X layM S 111 [(0, .ref (x_q X 0)), (1, .int p1), (2, .int p2), (4, .int x22)] [] g [(67, x32)] [] [(37, a33), (38, a34)] [] [] 0 0 := by
                      intro x32 a33 a34 hf
                      have hf := hk111_35 x32 a33 a34 hf
                      clear hk111_35
                      refine go_iconst (pc' := 112) hC dX12_joined_111 ki_0 rfl ?_
                      exact jk112_31 (0 : Int32) x32 a33 a34 hf
                    clear hk111_35
                    refine go_icmp_eq (tgt := 111) (pc' := 92) hC dX12_joined_89 (by decide) rfl (fun h39 => ?_) (fun h39 => ?_)
                    · have hf := ite_t h39 hf
                      refine go_sub [0, 1, 2, 4] rfl ?_
                      exact jk111_35 x23 a24 a25 hf
                    · have hf := ite_f h39 hf
                      refine go_iload (pc' := 94) hC dX12_joined_92 rfl rfl ?_
                      refine go_iload_n (pc' := 95) hC dX12_joined_94 rfl rfl ?_
                      refine go_icmp_eq (tgt := 111) (pc' := 98) hC dX12_joined_95 (by decide) rfl (fun h38 => ?_) (fun h38 => ?_)
                      · have hf := ite_t h38 hf
                        refine go_sub [0, 1, 2, 4] rfl ?_
                        exact jk111_35 x23 a24 a25 hf
                      · have hf := ite_f h38 hf
                        refine go_aload_n (pc' := 99) hC dX12_joined_98 rfl rfl ?_
                        refine go_iload (pc' := 101) hC dX12_joined_99 rfl rfl ?_
                        obtain ⟨o36, ho36, hf⟩ := bd_e hf
                        refine go_callV1 (pc' := 104) (As := [.int x22]) (st := []) (st' := [.int o36.1]) (L1' := [(67, o36.2.1)]) (L2' := []) (L3' := [(37, o36.2.2.1), (38, o36.2.2.2)]) (L4' := []) (L5' := []) (cells' := 0) (slots' := 0)  (b := 0) hC dX12_joined_101 ⟨mw_1392, mw_1395, mw_5, yd_yX12_joinsAt, yp_yX12_joinsAt, Nat.le_of_ble_eq_true rfl, Nat.le_of_ble_eq_true rfl, (Nat.le_of_ble_eq_true rfl), (Nat.le_of_ble_eq_true rfl)⟩ mw_1393 mw_1394 layM_0 rfl rfl rfl (Nat.le_of_ble_eq_true rfl) (c_X12_joinsAt (x_l X) (x_D X) (x_q X) g (x_cy X) (x_z X) _ x22 o36 ho36) rfl rfl rfl rfl rfl rfl rfl rfl rfl rfl rfl rfl rfl rfl ?_
                        refine go_if_eq (tgt := 111) (pc' := 107) hC dX12_joined_104 (by decide) rfl (fun h37 => ?_) (fun h37 => ?_)
                        · have hf := ite_t h37 hf
                          refine go_sub [0, 1, 2, 4] rfl ?_
                          exact jk111_35 o36.2.1 o36.2.2.1 o36.2.2.2 hf
                        · have hf := ite_f h37 hf
                          refine go_iconst (pc' := 108) hC dX12_joined_107 ki_1 rfl ?_
                          refine go_goto (tgt := 112) hC dX12_joined_108 (by decide) ?_
                          refine go_sub [0, 1, 2, 4] rfl ?_
                          exact jk112_31 (1 : Int32) o36.2.1 o36.2.2.1 o36.2.2.2 hf
            exact l73_42 fuel o15.1 (0 : Int32) o15.2.1 o15.2.2.1 o15.2.2.2 hf
      exact l61_44 fuel (1 : Int32) x2 a3 a4 hf
    clear hk59_5
    have l21_58 : ∀ (nn : Nat) (x45 : Int32) (a46 : Nat → Int32) (a47 : Nat → Int32), it3 (f_X12_joined_L21 S k59_5) nn x45 a46 a47 = some o → Go X layM S 21 [(0, .ref (x_q X 0)), (1, .int p1), (2, .int p2), (3, .int x45)] [] g [(67, x2)] [] [(37, a46), (38, a47)] [] [] 0 0 := by
      intro nn
      induction nn with
      | zero =>
        intro x45 a46 a47 hf
        exact none_no hf
      | succ nn ih =>
        intro x45 a46 a47 hf
        have hf : f_X12_joined_L21 S k59_5 (it3 (f_X12_joined_L21 S k59_5) nn) x45 a46 a47 = some o := hf
        generalize it3 (f_X12_joined_L21 S k59_5) nn = r48 at ih hf
        unfold f_X12_joined_L21 at hf
        refine go_iload_n (pc' := 22) hC dX12_joined_21 rfl rfl ?_
        refine go_aload_n (pc' := 23) hC dX12_joined_22 rfl rfl ?_
        refine go_geti (v := (S.1 21)) (pc' := 26) hC 0 21 layM_0 rfl rfl inlX12 (Nat.le_of_ble_eq_true rfl) mw_247 rfl dX12_joined_23 rfl rfl ?_
        refine go_icmp_ge (tgt := 59) (pc' := 29) hC dX12_joined_26 (by decide) rfl (fun h57 => ?_) (fun h57 => ?_)
        · have hf := ite_t h57 hf
          refine go_sub [0, 1, 2] rfl ?_
          exact jk59_5 a46 a47 hf
        · have hf := ite_f h57 hf
          refine go_aload_n (pc' := 30) hC dX12_joined_29 rfl rfl ?_
          refine go_getq (pc' := 33) hC 0 68 layM_0 rfl rfl inlX12 (Nat.le_of_ble_eq_true rfl) mw_218 rfl dX12_joined_30 rfl ?_
          refine go_iload_n (pc' := 34) hC dX12_joined_33 rfl rfl ?_
          refine go_aload_n (pc' := 35) hC dX12_joined_34 rfl rfl ?_
          refine go_getq (pc' := 38) hC 0 22 layM_0 rfl rfl inlX12 (Nat.le_of_ble_eq_true rfl) mw_187 rfl dX12_joined_35 rfl ?_
          refine go_iload_n (pc' := 39) hC dX12_joined_38 rfl rfl ?_
          obtain ⟨h49, hf⟩ := gd_e hf
          refine go_iald (f := (S.2.2.1 8)) (pc' := 40) hC 8 layM_8 rfl rfl dX12_joined_39 (okx_in h49) rfl ?_
          refine go_namei (fun x50 hx => ?_)
          have hf := lz_r hx hf
          clear hx
          obtain ⟨h51, hf⟩ := gd_e hf
          refine go_iast (f := a46) (pc' := 41) hC 37 layM_37 rfl rfl dX12_joined_40 (okx_in h51) rfl rfl (fun a52 ha L3' hL => ?_)
          have hf := lz_r ha hf
          clear ha
          obtain rfl : L3' = [(37, a52), (38, a47)] := hL.symm
          refine go_aload_n (pc' := 42) hC dX12_joined_41 rfl rfl ?_
          refine go_getq (pc' := 45) hC 0 69 layM_0 rfl rfl inlX12 (Nat.le_of_ble_eq_true rfl) mw_219 rfl dX12_joined_42 rfl ?_
          refine go_iload_n (pc' := 46) hC dX12_joined_45 rfl rfl ?_
          refine go_aload_n (pc' := 47) hC dX12_joined_46 rfl rfl ?_
          refine go_getq (pc' := 50) hC 0 23 layM_0 rfl rfl inlX12 (Nat.le_of_ble_eq_true rfl) mw_188 rfl dX12_joined_47 rfl ?_
          refine go_iload_n (pc' := 51) hC dX12_joined_50 rfl rfl ?_
          obtain ⟨h53, hf⟩ := gd_e hf
          refine go_iald (f := (S.2.2.1 9)) (pc' := 52) hC 9 layM_9 rfl rfl dX12_joined_51 (okx_in h53) rfl ?_
          refine go_namei (fun x54 hx => ?_)
          have hf := lz_r hx hf
          clear hx
          obtain ⟨h55, hf⟩ := gd_e hf
          refine go_iast (f := a47) (pc' := 53) hC 38 layM_38 rfl rfl dX12_joined_52 (okx_in h55) rfl rfl (fun a56 ha L3' hL => ?_)
          have hf := lz_r ha hf
          clear ha
          obtain rfl : L3' = [(37, a52), (38, a56)] := hL.symm
          refine go_iinc (lc' := [(0, .ref (x_q X 0)), (1, .int p1), (2, .int p2), (3, .int (x45 + (1 : Int32)))]) (pc' := 56) hC dX12_joined_53 rfl ki_1 (Nat.le_of_ble_eq_true rfl) rfl rfl ?_
          refine go_goto (tgt := 21) hC dX12_joined_56 (by decide) ?_
          exact ih (x45 + (1 : Int32)) a52 a56 hf
    exact l21_58 fuel (0 : Int32) (S.2.2.1 37) (S.2.2.1 38) hf
  · have hf := ite_t h59 hf
    refine go_iconst (pc' := 10) hC dX12_joined_9 ki_m1 rfl ?_
    obtain rfl := Option.some.inj hf
    exact go_iret hC hQ dX12_joined_10 rfl rfl rfl rfl (fun _ => rfl) rfl rfl
theorem dX12_own_0 : decode cX12_own 0 = .ok (.aload_n 0, 1) := by decide +kernel
theorem dX12_own_1 : decode cX12_own 1 = .ok (.getfield 490, 3) := by decide +kernel
theorem dX12_own_4 : decode cX12_own 4 = .ok (.bipush 15, 2) := by decide +kernel
theorem dX12_own_6 : decode cX12_own 6 = .ok (.if_icmp .ge 18, 3) := by decide +kernel
theorem dX12_own_9 : decode cX12_own 9 = .ok (.aload_n 0, 1) := by decide +kernel
theorem dX12_own_10 : decode cX12_own 10 = .ok (.getfield 57, 3) := by decide +kernel
theorem dX12_own_13 : decode cX12_own 13 = .ok (.aload_n 0, 1) := by decide +kernel
theorem dX12_own_14 : decode cX12_own 14 = .ok (.getfield 490, 3) := by decide +kernel
theorem dX12_own_17 : decode cX12_own 17 = .ok (.aload_n 0, 1) := by decide +kernel
theorem dX12_own_18 : decode cX12_own 18 = .ok (.getfield 134, 3) := by decide +kernel
theorem dX12_own_21 : decode cX12_own 21 = .ok (.iload_n 1, 1) := by decide +kernel
theorem dX12_own_22 : decode cX12_own 22 = .ok (.iaload, 1) := by decide +kernel
theorem dX12_own_23 : decode cX12_own 23 = .ok (.iastore, 1) := by decide +kernel
theorem dX12_own_24 : decode cX12_own 24 = .ok (.aload_n 0, 1) := by decide +kernel
theorem dX12_own_25 : decode cX12_own 25 = .ok (.dup, 1) := by decide +kernel
theorem dX12_own_26 : decode cX12_own 26 = .ok (.getfield 490, 3) := by decide +kernel
theorem dX12_own_29 : decode cX12_own 29 = .ok (.iconst 1, 1) := by decide +kernel
theorem dX12_own_30 : decode cX12_own 30 = .ok (.iadd, 1) := by decide +kernel
theorem dX12_own_31 : decode cX12_own 31 = .ok (.putfield 490, 3) := by decide +kernel
theorem dX12_own_34 : decode cX12_own 34 = .ok (.aload_n 0, 1) := by decide +kernel
theorem dX12_own_35 : decode cX12_own 35 = .ok (.getfield 490, 3) := by decide +kernel
theorem dX12_own_38 : decode cX12_own 38 = .ok (.bipush 15, 2) := by decide +kernel
theorem dX12_own_40 : decode cX12_own 40 = .ok (.if_icmp .gt 14, 3) := by decide +kernel
theorem dX12_own_43 : decode cX12_own 43 = .ok (.iconst 1, 1) := by decide +kernel
theorem dX12_own_44 : decode cX12_own 44 = .ok (.aload_n 0, 1) := by decide +kernel
theorem dX12_own_45 : decode cX12_own 45 = .ok (.getfield 490, 3) := by decide +kernel
theorem dX12_own_48 : decode cX12_own 48 = .ok (.iconst 1, 1) := by decide +kernel
theorem dX12_own_49 : decode cX12_own 49 = .ok (.isub, 1) := by decide +kernel
theorem dX12_own_50 : decode cX12_own 50 = .ok (.ishl, 1) := by decide +kernel
theorem dX12_own_51 : decode cX12_own 51 = .ok (.goto 4, 3) := by decide +kernel
theorem dX12_own_54 : decode cX12_own 54 = .ok (.iconst 0, 1) := by decide +kernel
theorem dX12_own_55 : decode cX12_own 55 = .ok (.ireturn, 1) := by decide +kernel
abbrev o_X12_own : Type := Int32 × Int32 × (Nat → Int32)
def f_X12_own (S : wd_W) (p1 : Int32) : Option o_X12_own :=
lk (fun a1 =>
lz ((S.1 72) + (1 : Int32)) fun x3 =>
if (15 : Int32) < x3 then (
some ((0 : Int32), x3, a1)) else (
some ((1 : Int32) <<< ((x3 - (1 : Int32)) &&& 31), x3, a1))) fun k24_2 =>
if (15 : Int32) ≤ (S.1 72) then (
k24_2 (S.2.2.1 16)) else (
gd (okx p1 15) <|
lz ((S.2.2.1 41) p1.toNatClampNeg) fun x6 =>
gd (okx (S.1 72) 15) <|
lz (upd (S.2.2.1 16) (S.1 72).toNatClampNeg x6) fun a8 =>
k24_2 a8)
set_option maxRecDepth 100000 in
set_option maxHeartbeats 4000000 in
theorem c_X12_own (l : Launch) (D : va_G) (q g : Nat → Nat) (cy : Nat → ClassId) (z : (Nat → Nat) × (Nat → Nat) × Nat) (S : wd_W) (p1 : Int32) (o : o_X12_own) (hf : f_X12_own S p1 = some o) : MX layM l yX12_own cX12_own 2 (some .int) ({ frames := 0, cells := 0, slots := 0, locals := 0 } : Room) D q g cy z [.ref (q 0), .int p1] S false (some (.int o.1)) (wd_o S [(72, o.2.1)] [] [(16, o.2.2)] [] []) 0 0 := by
  refine mx_of (own := RX12) (lc := [(0, .ref (q 0)), (1, .int p1)]) (by decide +kernel) rfl layM_ok (Nat.le_of_ble_eq_true rfl) rfl ?_
  intro X hXl hXq hXz hC hQ
  subst hXl; subst hXq; subst hXz
  unfold f_X12_own at hf
  refine go_keys (L1 := [(72, (S.1 72))]) (L2 := []) (L3 := [(16, (S.2.2.1 16))]) (L4 := []) (L5 := []) [72] [] [16] [] [] rfl rfl rfl rfl rfl ?_
  refine go_aload_n (pc' := 1) hC dX12_own_0 rfl rfl ?_
  refine go_geti (v := (S.1 72)) (pc' := 4) hC 0 72 layM_0 rfl rfl inlX12 (Nat.le_of_ble_eq_true rfl) mw_1422 rfl dX12_own_1 rfl rfl ?_
  refine go_bipush (pc' := 6) hC dX12_own_4 kb_15 rfl ?_
  obtain ⟨k24_2, hk24_2, hf⟩ := lk_e1 hf
  have jk24_2 : ∀ (a1 : Nat → Int32), k24_2 a1 = some o → Go X layM S 24 [(0, .ref (x_q X 0))] [] g [(72, (S.1 72))] [] [(16, a1)] [] [] 0 0 := by
    intro a1 hf
    have hf := hk24_2 a1 hf
    clear hk24_2
    refine go_aload_n (pc' := 25) hC dX12_own_24 rfl rfl ?_
    refine go_dup (pc' := 26) hC dX12_own_25 rfl rfl ?_
    refine go_geti (v := (S.1 72)) (pc' := 29) hC 0 72 layM_0 rfl rfl inlX12 (Nat.le_of_ble_eq_true rfl) mw_1422 rfl dX12_own_26 rfl rfl ?_
    refine go_iconst (pc' := 30) hC dX12_own_29 ki_1 rfl ?_
    refine go_iadd (pc' := 31) hC dX12_own_30 rfl ?_
    refine go_namei (fun x3 hx => ?_)
    have hf := lz_r hx hf
    clear hx
    refine go_puti (L1' := [(72, x3)]) (pc' := 34) hC 0 72 layM_0 rfl rfl inlX12 tyX12_ok nmX12 (Nat.le_of_ble_eq_true rfl) mw_1422 rfl rfl rfl rfl dX12_own_31 rfl rfl rfl ?_
    refine go_aload_n (pc' := 35) hC dX12_own_34 rfl rfl ?_
    refine go_geti (v := x3) (pc' := 38) hC 0 72 layM_0 rfl rfl inlX12 (Nat.le_of_ble_eq_true rfl) mw_1422 rfl dX12_own_35 rfl rfl ?_
    refine go_bipush (pc' := 40) hC dX12_own_38 kb_15 rfl ?_
    refine go_icmp_gt (tgt := 54) (pc' := 43) hC dX12_own_40 (by decide) rfl (fun h4 => ?_) (fun h4 => ?_)
    · have hf := ite_t h4 hf
      refine go_iconst (pc' := 55) hC dX12_own_54 ki_0 rfl ?_
      obtain rfl := Option.some.inj hf
      exact go_iret hC hQ dX12_own_55 rfl rfl rfl rfl (fun _ => rfl) rfl rfl
    · have hf := ite_f h4 hf
      refine go_iconst (pc' := 44) hC dX12_own_43 ki_1 rfl ?_
      refine go_aload_n (pc' := 45) hC dX12_own_44 rfl rfl ?_
      refine go_geti (v := x3) (pc' := 48) hC 0 72 layM_0 rfl rfl inlX12 (Nat.le_of_ble_eq_true rfl) mw_1422 rfl dX12_own_45 rfl rfl ?_
      refine go_iconst (pc' := 49) hC dX12_own_48 ki_1 rfl ?_
      refine go_isub (pc' := 50) hC dX12_own_49 rfl ?_
      refine go_ishl (pc' := 51) hC dX12_own_50 rfl ?_
      refine go_goto (tgt := 55) hC dX12_own_51 (by decide) ?_
      obtain rfl := Option.some.inj hf
      exact go_iret hC hQ dX12_own_55 rfl rfl rfl rfl (fun _ => rfl) rfl rfl
  clear hk24_2
  refine go_icmp_ge (tgt := 24) (pc' := 9) hC dX12_own_6 (by decide) rfl (fun h9 => ?_) (fun h9 => ?_)
  · have hf := ite_t h9 hf
    refine go_sub [0] rfl ?_
    exact jk24_2 (S.2.2.1 16) hf
  · have hf := ite_f h9 hf
    refine go_aload_n (pc' := 10) hC dX12_own_9 rfl rfl ?_
    refine go_getq (pc' := 13) hC 0 33 layM_0 rfl rfl inlX12 (Nat.le_of_ble_eq_true rfl) mw_196 rfl dX12_own_10 rfl ?_
    refine go_aload_n (pc' := 14) hC dX12_own_13 rfl rfl ?_
    refine go_geti (v := (S.1 72)) (pc' := 17) hC 0 72 layM_0 rfl rfl inlX12 (Nat.le_of_ble_eq_true rfl) mw_1422 rfl dX12_own_14 rfl rfl ?_
    refine go_aload_n (pc' := 18) hC dX12_own_17 rfl rfl ?_
    refine go_getq (pc' := 21) hC 0 73 layM_0 rfl rfl inlX12 (Nat.le_of_ble_eq_true rfl) mw_222 rfl dX12_own_18 rfl ?_
    refine go_iload_n (pc' := 22) hC dX12_own_21 rfl rfl ?_
    obtain ⟨h5, hf⟩ := gd_e hf
    refine go_iald (f := (S.2.2.1 41)) (pc' := 23) hC 41 layM_41 rfl rfl dX12_own_22 (okx_in h5) rfl ?_
    refine go_namei (fun x6 hx => ?_)
    have hf := lz_r hx hf
    clear hx
    obtain ⟨h7, hf⟩ := gd_e hf
    refine go_iast (f := (S.2.2.1 16)) (pc' := 24) hC 16 layM_16 rfl rfl dX12_own_23 (okx_in h7) rfl rfl (fun a8 ha L3' hL => ?_)
    have hf := lz_r ha hf
    clear ha
    obtain rfl : L3' = [(16, a8)] := hL.symm
    refine go_sub [0] rfl ?_
    exact jk24_2 a8 hf
theorem dX12_parts_0 : decode cX12_parts 0 = .ok (.iconst 0, 1) := by decide +kernel
theorem dX12_parts_1 : decode cX12_parts 1 = .ok (.istore_n 1, 1) := by decide +kernel
theorem dX12_parts_2 : decode cX12_parts 2 = .ok (.iload_n 1, 1) := by decide +kernel
theorem dX12_parts_3 : decode cX12_parts 3 = .ok (.aload_n 0, 1) := by decide +kernel
theorem dX12_parts_4 : decode cX12_parts 4 = .ok (.getfield 288, 3) := by decide +kernel
theorem dX12_parts_7 : decode cX12_parts 7 = .ok (.if_icmp .ge 21, 3) := by decide +kernel
theorem dX12_parts_10 : decode cX12_parts 10 = .ok (.aload_n 0, 1) := by decide +kernel
theorem dX12_parts_11 : decode cX12_parts 11 = .ok (.getfield 134, 3) := by decide +kernel
theorem dX12_parts_14 : decode cX12_parts 14 = .ok (.iload_n 1, 1) := by decide +kernel
theorem dX12_parts_15 : decode cX12_parts 15 = .ok (.aload_n 0, 1) := by decide +kernel
theorem dX12_parts_16 : decode cX12_parts 16 = .ok (.getfield 57, 3) := by decide +kernel
theorem dX12_parts_19 : decode cX12_parts 19 = .ok (.iload_n 1, 1) := by decide +kernel
theorem dX12_parts_20 : decode cX12_parts 20 = .ok (.iaload, 1) := by decide +kernel
theorem dX12_parts_21 : decode cX12_parts 21 = .ok (.iastore, 1) := by decide +kernel
theorem dX12_parts_22 : decode cX12_parts 22 = .ok (.iinc 1 1, 3) := by decide +kernel
theorem dX12_parts_25 : decode cX12_parts 25 = .ok (.goto (-23), 3) := by decide +kernel
theorem dX12_parts_28 : decode cX12_parts 28 = .ok (.aload_n 0, 1) := by decide +kernel
theorem dX12_parts_29 : decode cX12_parts 29 = .ok (.aload_n 0, 1) := by decide +kernel
theorem dX12_parts_30 : decode cX12_parts 30 = .ok (.getfield 279, 3) := by decide +kernel
theorem dX12_parts_33 : decode cX12_parts 33 = .ok (.aload_n 0, 1) := by decide +kernel
theorem dX12_parts_34 : decode cX12_parts 34 = .ok (.getfield 282, 3) := by decide +kernel
theorem dX12_parts_37 : decode cX12_parts 37 = .ok (.iadd, 1) := by decide +kernel
theorem dX12_parts_38 : decode cX12_parts 38 = .ok (.putfield 490, 3) := by decide +kernel
theorem dX12_parts_41 : decode cX12_parts 41 = .ok (.iconst 0, 1) := by decide +kernel
theorem dX12_parts_42 : decode cX12_parts 42 = .ok (.istore_n 1, 1) := by decide +kernel
theorem dX12_parts_43 : decode cX12_parts 43 = .ok (.iload_n 1, 1) := by decide +kernel
theorem dX12_parts_44 : decode cX12_parts 44 = .ok (.aload_n 0, 1) := by decide +kernel
theorem dX12_parts_45 : decode cX12_parts 45 = .ok (.getfield 279, 3) := by decide +kernel
theorem dX12_parts_48 : decode cX12_parts 48 = .ok (.if_icmp .ge 28, 3) := by decide +kernel
theorem dX12_parts_51 : decode cX12_parts 51 = .ok (.aload_n 0, 1) := by decide +kernel
theorem dX12_parts_52 : decode cX12_parts 52 = .ok (.getfield 128, 3) := by decide +kernel
theorem dX12_parts_55 : decode cX12_parts 55 = .ok (.iload_n 1, 1) := by decide +kernel
theorem dX12_parts_56 : decode cX12_parts 56 = .ok (.aload_n 0, 1) := by decide +kernel
theorem dX12_parts_57 : decode cX12_parts 57 = .ok (.getfield 48, 3) := by decide +kernel
theorem dX12_parts_60 : decode cX12_parts 60 = .ok (.iload_n 1, 1) := by decide +kernel
theorem dX12_parts_61 : decode cX12_parts 61 = .ok (.iaload, 1) := by decide +kernel
theorem dX12_parts_62 : decode cX12_parts 62 = .ok (.iastore, 1) := by decide +kernel
theorem dX12_parts_63 : decode cX12_parts 63 = .ok (.aload_n 0, 1) := by decide +kernel
theorem dX12_parts_64 : decode cX12_parts 64 = .ok (.getfield 48, 3) := by decide +kernel
theorem dX12_parts_67 : decode cX12_parts 67 = .ok (.iload_n 1, 1) := by decide +kernel
theorem dX12_parts_68 : decode cX12_parts 68 = .ok (.iconst 0, 1) := by decide +kernel
theorem dX12_parts_69 : decode cX12_parts 69 = .ok (.iastore, 1) := by decide +kernel
theorem dX12_parts_70 : decode cX12_parts 70 = .ok (.iinc 1 1, 3) := by decide +kernel
theorem dX12_parts_73 : decode cX12_parts 73 = .ok (.goto (-30), 3) := by decide +kernel
theorem dX12_parts_76 : decode cX12_parts 76 = .ok (.iconst 0, 1) := by decide +kernel
theorem dX12_parts_77 : decode cX12_parts 77 = .ok (.istore_n 1, 1) := by decide +kernel
theorem dX12_parts_78 : decode cX12_parts 78 = .ok (.iload_n 1, 1) := by decide +kernel
theorem dX12_parts_79 : decode cX12_parts 79 = .ok (.aload_n 0, 1) := by decide +kernel
theorem dX12_parts_80 : decode cX12_parts 80 = .ok (.getfield 276, 3) := by decide +kernel
theorem dX12_parts_83 : decode cX12_parts 83 = .ok (.if_icmp .ge 28, 3) := by decide +kernel
theorem dX12_parts_86 : decode cX12_parts 86 = .ok (.aload_n 0, 1) := by decide +kernel
theorem dX12_parts_87 : decode cX12_parts 87 = .ok (.getfield 131, 3) := by decide +kernel
theorem dX12_parts_90 : decode cX12_parts 90 = .ok (.iload_n 1, 1) := by decide +kernel
theorem dX12_parts_91 : decode cX12_parts 91 = .ok (.aload_n 0, 1) := by decide +kernel
theorem dX12_parts_92 : decode cX12_parts 92 = .ok (.getfield 51, 3) := by decide +kernel
theorem dX12_parts_95 : decode cX12_parts 95 = .ok (.iload_n 1, 1) := by decide +kernel
theorem dX12_parts_96 : decode cX12_parts 96 = .ok (.iaload, 1) := by decide +kernel
theorem dX12_parts_97 : decode cX12_parts 97 = .ok (.iastore, 1) := by decide +kernel
theorem dX12_parts_98 : decode cX12_parts 98 = .ok (.aload_n 0, 1) := by decide +kernel
theorem dX12_parts_99 : decode cX12_parts 99 = .ok (.getfield 51, 3) := by decide +kernel
theorem dX12_parts_102 : decode cX12_parts 102 = .ok (.iload_n 1, 1) := by decide +kernel
theorem dX12_parts_103 : decode cX12_parts 103 = .ok (.iconst 0, 1) := by decide +kernel
theorem dX12_parts_104 : decode cX12_parts 104 = .ok (.iastore, 1) := by decide +kernel
theorem dX12_parts_105 : decode cX12_parts 105 = .ok (.iinc 1 1, 3) := by decide +kernel
theorem dX12_parts_108 : decode cX12_parts 108 = .ok (.goto (-30), 3) := by decide +kernel
theorem dX12_parts_111 : decode cX12_parts 111 = .ok (.iconst 0, 1) := by decide +kernel
theorem dX12_parts_112 : decode cX12_parts 112 = .ok (.istore_n 1, 1) := by decide +kernel
theorem dX12_parts_113 : decode cX12_parts 113 = .ok (.iload_n 1, 1) := by decide +kernel
theorem dX12_parts_114 : decode cX12_parts 114 = .ok (.aload_n 0, 1) := by decide +kernel
theorem dX12_parts_115 : decode cX12_parts 115 = .ok (.getfield 285, 3) := by decide +kernel
theorem dX12_parts_118 : decode cX12_parts 118 = .ok (.if_icmp .ge 109, 3) := by decide +kernel
theorem dX12_parts_121 : decode cX12_parts 121 = .ok (.aload_n 0, 1) := by decide +kernel
theorem dX12_parts_122 : decode cX12_parts 122 = .ok (.getfield 279, 3) := by decide +kernel
theorem dX12_parts_125 : decode cX12_parts 125 = .ok (.aload_n 0, 1) := by decide +kernel
theorem dX12_parts_126 : decode cX12_parts 126 = .ok (.getfield 282, 3) := by decide +kernel
theorem dX12_parts_129 : decode cX12_parts 129 = .ok (.iadd, 1) := by decide +kernel
theorem dX12_parts_130 : decode cX12_parts 130 = .ok (.iload_n 1, 1) := by decide +kernel
theorem dX12_parts_131 : decode cX12_parts 131 = .ok (.iadd, 1) := by decide +kernel
theorem dX12_parts_132 : decode cX12_parts 132 = .ok (.istore_n 2, 1) := by decide +kernel
theorem dX12_parts_133 : decode cX12_parts 133 = .ok (.iconst 0, 1) := by decide +kernel
theorem dX12_parts_134 : decode cX12_parts 134 = .ok (.istore_n 3, 1) := by decide +kernel
theorem dX12_parts_135 : decode cX12_parts 135 = .ok (.iload_n 3, 1) := by decide +kernel
theorem dX12_parts_136 : decode cX12_parts 136 = .ok (.aload_n 0, 1) := by decide +kernel
theorem dX12_parts_137 : decode cX12_parts 137 = .ok (.getfield 279, 3) := by decide +kernel
theorem dX12_parts_140 : decode cX12_parts 140 = .ok (.if_icmp .ge 37, 3) := by decide +kernel
theorem dX12_parts_143 : decode cX12_parts 143 = .ok (.aload_n 0, 1) := by decide +kernel
theorem dX12_parts_144 : decode cX12_parts 144 = .ok (.getfield 128, 3) := by decide +kernel
theorem dX12_parts_147 : decode cX12_parts 147 = .ok (.iload_n 3, 1) := by decide +kernel
theorem dX12_parts_148 : decode cX12_parts 148 = .ok (.iaload, 1) := by decide +kernel
theorem dX12_parts_149 : decode cX12_parts 149 = .ok (.iload_n 2, 1) := by decide +kernel
theorem dX12_parts_150 : decode cX12_parts 150 = .ok (.ishr, 1) := by decide +kernel
theorem dX12_parts_151 : decode cX12_parts 151 = .ok (.iconst 1, 1) := by decide +kernel
theorem dX12_parts_152 : decode cX12_parts 152 = .ok (.iand, 1) := by decide +kernel
theorem dX12_parts_153 : decode cX12_parts 153 = .ok (.iconst 1, 1) := by decide +kernel
theorem dX12_parts_154 : decode cX12_parts 154 = .ok (.if_icmp .ne 17, 3) := by decide +kernel
theorem dX12_parts_157 : decode cX12_parts 157 = .ok (.aload_n 0, 1) := by decide +kernel
theorem dX12_parts_158 : decode cX12_parts 158 = .ok (.getfield 48, 3) := by decide +kernel
theorem dX12_parts_161 : decode cX12_parts 161 = .ok (.iload_n 3, 1) := by decide +kernel
theorem dX12_parts_162 : decode cX12_parts 162 = .ok (.dup2, 1) := by decide +kernel
theorem dX12_parts_163 : decode cX12_parts 163 = .ok (.iaload, 1) := by decide +kernel
theorem dX12_parts_164 : decode cX12_parts 164 = .ok (.aload_n 0, 1) := by decide +kernel
theorem dX12_parts_165 : decode cX12_parts 165 = .ok (.iload_n 2, 1) := by decide +kernel
theorem dX12_parts_166 : decode cX12_parts 166 = .ok (.invokevirtual 493, 3) := by decide +kernel
theorem dX12_parts_169 : decode cX12_parts 169 = .ok (.ior, 1) := by decide +kernel
theorem dX12_parts_170 : decode cX12_parts 170 = .ok (.iastore, 1) := by decide +kernel
theorem dX12_parts_171 : decode cX12_parts 171 = .ok (.iinc 3 1, 3) := by decide +kernel
theorem dX12_parts_174 : decode cX12_parts 174 = .ok (.goto (-39), 3) := by decide +kernel
theorem dX12_parts_177 : decode cX12_parts 177 = .ok (.iconst 0, 1) := by decide +kernel
theorem dX12_parts_178 : decode cX12_parts 178 = .ok (.istore_n 3, 1) := by decide +kernel
theorem dX12_parts_179 : decode cX12_parts 179 = .ok (.iload_n 3, 1) := by decide +kernel
theorem dX12_parts_180 : decode cX12_parts 180 = .ok (.aload_n 0, 1) := by decide +kernel
theorem dX12_parts_181 : decode cX12_parts 181 = .ok (.getfield 276, 3) := by decide +kernel
theorem dX12_parts_184 : decode cX12_parts 184 = .ok (.if_icmp .ge 37, 3) := by decide +kernel
theorem dX12_parts_187 : decode cX12_parts 187 = .ok (.aload_n 0, 1) := by decide +kernel
theorem dX12_parts_188 : decode cX12_parts 188 = .ok (.getfield 131, 3) := by decide +kernel
theorem dX12_parts_191 : decode cX12_parts 191 = .ok (.iload_n 3, 1) := by decide +kernel
theorem dX12_parts_192 : decode cX12_parts 192 = .ok (.iaload, 1) := by decide +kernel
theorem dX12_parts_193 : decode cX12_parts 193 = .ok (.iload_n 2, 1) := by decide +kernel
theorem dX12_parts_194 : decode cX12_parts 194 = .ok (.ishr, 1) := by decide +kernel
theorem dX12_parts_195 : decode cX12_parts 195 = .ok (.iconst 1, 1) := by decide +kernel
theorem dX12_parts_196 : decode cX12_parts 196 = .ok (.iand, 1) := by decide +kernel
theorem dX12_parts_197 : decode cX12_parts 197 = .ok (.iconst 1, 1) := by decide +kernel
theorem dX12_parts_198 : decode cX12_parts 198 = .ok (.if_icmp .ne 17, 3) := by decide +kernel
theorem dX12_parts_201 : decode cX12_parts 201 = .ok (.aload_n 0, 1) := by decide +kernel
theorem dX12_parts_202 : decode cX12_parts 202 = .ok (.getfield 51, 3) := by decide +kernel
theorem dX12_parts_205 : decode cX12_parts 205 = .ok (.iload_n 3, 1) := by decide +kernel
theorem dX12_parts_206 : decode cX12_parts 206 = .ok (.dup2, 1) := by decide +kernel
theorem dX12_parts_207 : decode cX12_parts 207 = .ok (.iaload, 1) := by decide +kernel
theorem dX12_parts_208 : decode cX12_parts 208 = .ok (.aload_n 0, 1) := by decide +kernel
theorem dX12_parts_209 : decode cX12_parts 209 = .ok (.iload_n 2, 1) := by decide +kernel
theorem dX12_parts_210 : decode cX12_parts 210 = .ok (.invokevirtual 493, 3) := by decide +kernel
theorem dX12_parts_213 : decode cX12_parts 213 = .ok (.ior, 1) := by decide +kernel
theorem dX12_parts_214 : decode cX12_parts 214 = .ok (.iastore, 1) := by decide +kernel
theorem dX12_parts_215 : decode cX12_parts 215 = .ok (.iinc 3 1, 3) := by decide +kernel
theorem dX12_parts_218 : decode cX12_parts 218 = .ok (.goto (-39), 3) := by decide +kernel
theorem dX12_parts_221 : decode cX12_parts 221 = .ok (.iinc 1 1, 3) := by decide +kernel
theorem dX12_parts_224 : decode cX12_parts 224 = .ok (.goto (-111), 3) := by decide +kernel
theorem dX12_parts_227 : decode cX12_parts 227 = .ok (.aload_n 0, 1) := by decide +kernel
theorem dX12_parts_228 : decode cX12_parts 228 = .ok (.getfield 490, 3) := by decide +kernel
theorem dX12_parts_231 : decode cX12_parts 231 = .ok (.ireturn, 1) := by decide +kernel
abbrev o_X12_parts : Type := Int32 × Int32 × (Nat → Int32) × (Nat → Int32) × (Nat → Int32) × (Nat → Int32) × (Nat → Int32) × (Nat → Int32)
def f_X12_parts_L179 (S : wd_W) (a1 : Nat → Int32) (a5 : Nat → Int32) (a8 : Nat → Int32) (x21 : Int32) (a23 : Nat → Int32) (k221_29 : (Int32) → (Nat → Int32) → (Nat → Int32) → (Option o_X12_parts)) (r34 : (Int32) → (Int32) → (Nat → Int32) → (Nat → Int32) → (Option o_X12_parts)) (x30 : Int32) (x31 : Int32) (a32 : Nat → Int32) (a33 : Nat → Int32) : Option o_X12_parts :=
if (S.1 20) ≤ x30 then (
k221_29 x31 a32 a33) else (
gd (okx x30 10) <|
lk (fun x36 a37 a38 =>
r34 (x30 + (1 : Int32)) x36 a37 a38) fun k215_39 =>
if (((a8 x30.toNatClampNeg) >>> (x21 &&& 31)) &&& (1 : Int32)) = (1 : Int32) then (
gd (okx x30 10) <|
bd (f_X12_own (wd_o S [(72, x31)] [] [(13, a23), (14, a32), (16, a33), (39, a5), (40, a8), (41, a1)] [] []) x21) fun o41 =>
lz ((a32 x30.toNatClampNeg) ||| o41.1) fun x42 =>
gd (okx x30 10) <|
lz (upd a32 x30.toNatClampNeg x42) fun a44 =>
k215_39 o41.2.1 a44 o41.2.2) else (
k215_39 x31 a32 a33))
def f_X12_parts_L135 (S : wd_W) (a1 : Nat → Int32) (a5 : Nat → Int32) (a8 : Nat → Int32) (a18 : Nat → Int32) (x21 : Int32) (k177_25 : (Int32) → (Nat → Int32) → (Nat → Int32) → (Option o_X12_parts)) (r52 : (Int32) → (Int32) → (Nat → Int32) → (Nat → Int32) → (Option o_X12_parts)) (x48 : Int32) (x49 : Int32) (a50 : Nat → Int32) (a51 : Nat → Int32) : Option o_X12_parts :=
if (S.1 21) ≤ x48 then (
k177_25 x49 a50 a51) else (
gd (okx x48 12) <|
lk (fun x54 a55 a56 =>
r52 (x48 + (1 : Int32)) x54 a55 a56) fun k171_57 =>
if (((a5 x48.toNatClampNeg) >>> (x21 &&& 31)) &&& (1 : Int32)) = (1 : Int32) then (
gd (okx x48 13) <|
bd (f_X12_own (wd_o S [(72, x49)] [] [(13, a50), (14, a18), (16, a51), (39, a5), (40, a8), (41, a1)] [] []) x21) fun o59 =>
lz ((a50 x48.toNatClampNeg) ||| o59.1) fun x60 =>
gd (okx x48 13) <|
lz (upd a50 x48.toNatClampNeg x60) fun a62 =>
k171_57 o59.2.1 a62 o59.2.2) else (
k171_57 x49 a50 a51))
def f_X12_parts_L113 (S : wd_W) (a1 : Nat → Int32) (a5 : Nat → Int32) (a8 : Nat → Int32) (k227_14 : (Int32) → (Nat → Int32) → (Nat → Int32) → (Nat → Int32) → (Option o_X12_parts)) (r20 : (Int32) → (Int32) → (Nat → Int32) → (Nat → Int32) → (Nat → Int32) → (Option o_X12_parts)) (x15 : Int32) (x16 : Int32) (a17 : Nat → Int32) (a18 : Nat → Int32) (a19 : Nat → Int32) : Option o_X12_parts :=
if (S.1 31) ≤ x15 then (
k227_14 x16 a17 a18 a19) else (
lz (((S.1 21) + (S.1 30)) + x15) fun x21 =>
lk (fun x22 a23 a24 =>
lk (fun x26 a27 a28 =>
r20 (x15 + (1 : Int32)) x26 a23 a27 a28) fun k221_29 =>
it4 (f_X12_parts_L179 S a1 a5 a8 x21 a23 k221_29) fuel (0 : Int32) x22 a18 a24) fun k177_25 =>
it4 (f_X12_parts_L135 S a1 a5 a8 a18 x21 k177_25) fuel (0 : Int32) x16 a17 a19)
def f_X12_parts_L78 (S : wd_W) (k111_9 : (Nat → Int32) → (Nat → Int32) → (Option o_X12_parts)) (r71 : (Int32) → (Nat → Int32) → (Nat → Int32) → (Option o_X12_parts)) (x68 : Int32) (a69 : Nat → Int32) (a70 : Nat → Int32) : Option o_X12_parts :=
if (S.1 20) ≤ x68 then (
k111_9 a69 a70) else (
gd (okx x68 10) <|
lz (a69 x68.toNatClampNeg) fun x73 =>
gd (okx x68 10) <|
lz (upd a70 x68.toNatClampNeg x73) fun a75 =>
gd (okx x68 10) <|
lz (upd a69 x68.toNatClampNeg (0 : Int32)) fun a77 =>
r71 (x68 + (1 : Int32)) a77 a75)
def f_X12_parts_L43 (S : wd_W) (k76_6 : (Nat → Int32) → (Nat → Int32) → (Option o_X12_parts)) (r83 : (Int32) → (Nat → Int32) → (Nat → Int32) → (Option o_X12_parts)) (x80 : Int32) (a81 : Nat → Int32) (a82 : Nat → Int32) : Option o_X12_parts :=
if (S.1 21) ≤ x80 then (
k76_6 a81 a82) else (
gd (okx x80 13) <|
lz (a81 x80.toNatClampNeg) fun x85 =>
gd (okx x80 12) <|
lz (upd a82 x80.toNatClampNeg x85) fun a87 =>
gd (okx x80 13) <|
lz (upd a81 x80.toNatClampNeg (0 : Int32)) fun a89 =>
r83 (x80 + (1 : Int32)) a89 a87)
def f_X12_parts_L2 (S : wd_W) (k28_2 : (Nat → Int32) → (Option o_X12_parts)) (r94 : (Int32) → (Nat → Int32) → (Option o_X12_parts)) (x92 : Int32) (a93 : Nat → Int32) : Option o_X12_parts :=
if (S.1 32) ≤ x92 then (
k28_2 a93) else (
gd (okx x92 15) <|
lz ((S.2.2.1 16) x92.toNatClampNeg) fun x96 =>
gd (okx x92 15) <|
lz (upd a93 x92.toNatClampNeg x96) fun a98 =>
r94 (x92 + (1 : Int32)) a98)
def f_X12_parts (S : wd_W) : Option o_X12_parts :=
lk (fun a1 =>
lz ((S.1 21) + (S.1 30)) fun x3 =>
lk (fun a4 a5 =>
lk (fun a7 a8 =>
lk (fun x10 a11 a12 a13 =>
some (x10, x10, a11, a12, a13, a5, a8, a1)) fun k227_14 =>
it5 (f_X12_parts_L113 S a1 a5 a8 k227_14) fuel (0 : Int32) x3 a4 a7 (S.2.2.1 16)) fun k111_9 =>
it3 (f_X12_parts_L78 S k111_9) fuel (0 : Int32) (S.2.2.1 14) (S.2.2.1 40)) fun k76_6 =>
it3 (f_X12_parts_L43 S k76_6) fuel (0 : Int32) (S.2.2.1 13) (S.2.2.1 39)) fun k28_2 =>
it2 (f_X12_parts_L2 S k28_2) fuel (0 : Int32) (S.2.2.1 41)
set_option maxRecDepth 100000 in
set_option maxHeartbeats 4000000 in
theorem c_X12_parts (l : Launch) (D : va_G) (q g : Nat → Nat) (cy : Nat → ClassId) (z : (Nat → Nat) × (Nat → Nat) × Nat) (S : wd_W) (o : o_X12_parts) (hf : f_X12_parts S = some o) : MX layM l yX12_parts cX12_parts 4 (some .int) ({ frames := 1, cells := 0, slots := 0, locals := 21 } : Room) D q g cy z [.ref (q 0)] S false (some (.int o.1)) (wd_o S [(72, o.2.1)] [] [(13, o.2.2.1), (14, o.2.2.2.1), (16, o.2.2.2.2.1), (39, o.2.2.2.2.2.1), (40, o.2.2.2.2.2.2.1), (41, o.2.2.2.2.2.2.2)] [] []) 0 0 := by
  refine mx_of (own := RX12) (lc := [(0, .ref (q 0))]) (by decide +kernel) rfl layM_ok (Nat.le_of_ble_eq_true rfl) rfl ?_
  intro X hXl hXq hXz hC hQ
  subst hXl; subst hXq; subst hXz
  unfold f_X12_parts at hf
  refine go_keys (L1 := [(72, (S.1 72))]) (L2 := []) (L3 := [(13, (S.2.2.1 13)), (14, (S.2.2.1 14)), (16, (S.2.2.1 16)), (39, (S.2.2.1 39)), (40, (S.2.2.1 40)), (41, (S.2.2.1 41))]) (L4 := []) (L5 := []) [72] [] [13, 14, 16, 39, 40, 41] [] [] rfl rfl rfl rfl rfl ?_
  refine go_iconst (pc' := 1) hC dX12_parts_0 ki_0 rfl ?_
  refine go_istore_n (lc' := [(0, .ref (x_q X 0)), (1, .int (0 : Int32))]) (pc' := 2) hC dX12_parts_1 (Nat.le_of_ble_eq_true rfl) rfl rfl ?_
  obtain ⟨k28_2, hk28_2, hf⟩ := lk_e1 hf
  have jk28_2 : ∀ (a1 : Nat → Int32), k28_2 a1 = some o → Go X layM S 28 [(0, .ref (x_q X 0))] [] g [(72, (S.1 72))] [] [(13, (S.2.2.1 13)), (14, (S.2.2.1 14)), (16, (S.2.2.1 16)), (39, (S.2.2.1 39)), (40, (S.2.2.1 40)), (41, a1)] [] [] 0 0 := by
    intro a1 hf
    have hf := hk28_2 a1 hf
    clear hk28_2
    refine go_aload_n (pc' := 29) hC dX12_parts_28 rfl rfl ?_
    refine go_aload_n (pc' := 30) hC dX12_parts_29 rfl rfl ?_
    refine go_geti (v := (S.1 21)) (pc' := 33) hC 0 21 layM_0 rfl rfl inlX12 (Nat.le_of_ble_eq_true rfl) mw_247 rfl dX12_parts_30 rfl rfl ?_
    refine go_aload_n (pc' := 34) hC dX12_parts_33 rfl rfl ?_
    refine go_geti (v := (S.1 30)) (pc' := 37) hC 0 30 layM_0 rfl rfl inlX12 (Nat.le_of_ble_eq_true rfl) mw_248 rfl dX12_parts_34 rfl rfl ?_
    refine go_iadd (pc' := 38) hC dX12_parts_37 rfl ?_
    refine go_namei (fun x3 hx => ?_)
    have hf := lz_r hx hf
    clear hx
    refine go_puti (L1' := [(72, x3)]) (pc' := 41) hC 0 72 layM_0 rfl rfl inlX12 tyX12_ok nmX12 (Nat.le_of_ble_eq_true rfl) mw_1422 rfl rfl rfl rfl dX12_parts_38 rfl rfl rfl ?_
    refine go_iconst (pc' := 42) hC dX12_parts_41 ki_0 rfl ?_
    refine go_istore_n (lc' := [(0, .ref (x_q X 0)), (1, .int (0 : Int32))]) (pc' := 43) hC dX12_parts_42 (Nat.le_of_ble_eq_true rfl) rfl rfl ?_
    obtain ⟨k76_6, hk76_6, hf⟩ := lk_e2 hf
    have jk76_6 : ∀ (a4 : Nat → Int32) (a5 : Nat → Int32), k76_6 a4 a5 = some o → Go X layM S 76 [(0, .ref (x_q X 0))] [] g [(72, x3)] [] [(13, a4), (14, (S.2.2.1 14)), (16, (S.2.2.1 16)), (39, a5), (40, (S.2.2.1 40)), (41, a1)] [] [] 0 0 := by
      intro a4 a5 hf
      have hf := hk76_6 a4 a5 hf
      clear hk76_6
      refine go_iconst (pc' := 77) hC dX12_parts_76 ki_0 rfl ?_
      refine go_istore_n (lc' := [(0, .ref (x_q X 0)), (1, .int (0 : Int32))]) (pc' := 78) hC dX12_parts_77 (Nat.le_of_ble_eq_true rfl) rfl rfl ?_
      obtain ⟨k111_9, hk111_9, hf⟩ := lk_e2 hf
      have jk111_9 : ∀ (a7 : Nat → Int32) (a8 : Nat → Int32), k111_9 a7 a8 = some o → Go X layM S 111 [(0, .ref (x_q X 0))] [] g [(72, x3)] [] [(13, a4), (14, a7), (16, (S.2.2.1 16)), (39, a5), (40, a8), (41, a1)] [] [] 0 0 := by
        intro a7 a8 hf
        have hf := hk111_9 a7 a8 hf
        clear hk111_9
        refine go_iconst (pc' := 112) hC dX12_parts_111 ki_0 rfl ?_
        refine go_istore_n (lc' := [(0, .ref (x_q X 0)), (1, .int (0 : Int32))]) (pc' := 113) hC dX12_parts_112 (Nat.le_of_ble_eq_true rfl) rfl rfl ?_
        obtain ⟨k227_14, hk227_14, hf⟩ := lk_e4 hf
        have jk227_14 : ∀ (x10 : Int32) (a11 : Nat → Int32) (a12 : Nat → Int32) (a13 : Nat → Int32), k227_14 x10 a11 a12 a13 = some o → Go X layM S 227 [(0, .ref (x_q X 0))] [] g [(72, x10)] [] [(13, a11), (14, a12), (16, a13), (39, a5), (40, a8), (41, a1)] [] [] 0 0 := by
          intro x10 a11 a12 a13 hf
          have hf := hk227_14 x10 a11 a12 a13 hf
          clear hk227_14
          refine go_aload_n (pc' := 228) hC dX12_parts_227 rfl rfl ?_
          refine go_geti (v := x10) (pc' := 231) hC 0 72 layM_0 rfl rfl inlX12 (Nat.le_of_ble_eq_true rfl) mw_1422 rfl dX12_parts_228 rfl rfl ?_
          obtain rfl := Option.some.inj hf
          exact go_iret hC hQ dX12_parts_231 rfl rfl rfl rfl (fun _ => rfl) rfl rfl
        clear hk227_14
        have l113_67 : ∀ (nn : Nat) (x15 : Int32) (x16 : Int32) (a17 : Nat → Int32) (a18 : Nat → Int32) (a19 : Nat → Int32), it5 (f_X12_parts_L113 S a1 a5 a8 k227_14) nn x15 x16 a17 a18 a19 = some o → Go X layM S 113 [(0, .ref (x_q X 0)), (1, .int x15)] [] g [(72, x16)] [] [(13, a17), (14, a18), (16, a19), (39, a5), (40, a8), (41, a1)] [] [] 0 0 := by
          intro nn
          induction nn with
          | zero =>
            intro x15 x16 a17 a18 a19 hf
            exact none_no hf
          | succ nn ih =>
            intro x15 x16 a17 a18 a19 hf
            have hf : f_X12_parts_L113 S a1 a5 a8 k227_14 (it5 (f_X12_parts_L113 S a1 a5 a8 k227_14) nn) x15 x16 a17 a18 a19 = some o := hf
            generalize it5 (f_X12_parts_L113 S a1 a5 a8 k227_14) nn = r20 at ih hf
            unfold f_X12_parts_L113 at hf
            refine go_iload_n (pc' := 114) hC dX12_parts_113 rfl rfl ?_
            refine go_aload_n (pc' := 115) hC dX12_parts_114 rfl rfl ?_
            refine go_geti (v := (S.1 31)) (pc' := 118) hC 0 31 layM_0 rfl rfl inlX12 (Nat.le_of_ble_eq_true rfl) mw_249 rfl dX12_parts_115 rfl rfl ?_
            refine go_icmp_ge (tgt := 227) (pc' := 121) hC dX12_parts_118 (by decide) rfl (fun h66 => ?_) (fun h66 => ?_)
            · have hf := ite_t h66 hf
              refine go_sub [0] rfl ?_
              exact jk227_14 x16 a17 a18 a19 hf
            · have hf := ite_f h66 hf
              refine go_aload_n (pc' := 122) hC dX12_parts_121 rfl rfl ?_
              refine go_geti (v := (S.1 21)) (pc' := 125) hC 0 21 layM_0 rfl rfl inlX12 (Nat.le_of_ble_eq_true rfl) mw_247 rfl dX12_parts_122 rfl rfl ?_
              refine go_aload_n (pc' := 126) hC dX12_parts_125 rfl rfl ?_
              refine go_geti (v := (S.1 30)) (pc' := 129) hC 0 30 layM_0 rfl rfl inlX12 (Nat.le_of_ble_eq_true rfl) mw_248 rfl dX12_parts_126 rfl rfl ?_
              refine go_iadd (pc' := 130) hC dX12_parts_129 rfl ?_
              refine go_iload_n (pc' := 131) hC dX12_parts_130 rfl rfl ?_
              refine go_iadd (pc' := 132) hC dX12_parts_131 rfl ?_
              refine go_namei (fun x21 hx => ?_)
              have hf := lz_r hx hf
              clear hx
              refine go_istore_n (lc' := [(0, .ref (x_q X 0)), (1, .int x15), (2, .int x21)]) (pc' := 133) hC dX12_parts_132 (Nat.le_of_ble_eq_true rfl) rfl rfl ?_
              refine go_iconst (pc' := 134) hC dX12_parts_133 ki_0 rfl ?_
              refine go_istore_n (lc' := [(0, .ref (x_q X 0)), (1, .int x15), (2, .int x21), (3, .int (0 : Int32))]) (pc' := 135) hC dX12_parts_134 (Nat.le_of_ble_eq_true rfl) rfl rfl ?_
              obtain ⟨k177_25, hk177_25, hf⟩ := lk_e3 hf
              have jk177_25 : ∀ (x22 : Int32) (a23 : Nat → Int32) (a24 : Nat → Int32), k177_25 x22 a23 a24 = some o → Go X layM S 177 [(0, .ref (x_q X 0)), (1, .int x15), (2, .int x21)] [] g [(72, x22)] [] [(13, a23), (14, a18), (16, a24), (39, a5), (40, a8), (41, a1)] [] [] 0 0 := by
                intro x22 a23 a24 hf
                have hf := hk177_25 x22 a23 a24 hf
                clear hk177_25
                refine go_iconst (pc' := 178) hC dX12_parts_177 ki_0 rfl ?_
                refine go_istore_n (lc' := [(0, .ref (x_q X 0)), (1, .int x15), (2, .int x21), (3, .int (0 : Int32))]) (pc' := 179) hC dX12_parts_178 (Nat.le_of_ble_eq_true rfl) rfl rfl ?_
                obtain ⟨k221_29, hk221_29, hf⟩ := lk_e3 hf
                have jk221_29 : ∀ (x26 : Int32) (a27 : Nat → Int32) (a28 : Nat → Int32), k221_29 x26 a27 a28 = some o → Go X layM S 221 [(0, .ref (x_q X 0)), (1, .int x15)] [] g [(72, x26)] [] [(13, a23), (14, a27), (16, a28), (39, a5), (40, a8), (41, a1)] [] [] 0 0 := by
                  intro x26 a27 a28 hf
                  have hf := hk221_29 x26 a27 a28 hf
                  clear hk221_29
                  refine go_iinc (lc' := [(0, .ref (x_q X 0)), (1, .int (x15 + (1 : Int32)))]) (pc' := 224) hC dX12_parts_221 rfl ki_1 (Nat.le_of_ble_eq_true rfl) rfl rfl ?_
                  refine go_goto (tgt := 113) hC dX12_parts_224 (by decide) ?_
                  exact ih (x15 + (1 : Int32)) x26 a23 a27 a28 hf
                clear hk221_29
                have l179_47 : ∀ (nn : Nat) (x30 : Int32) (x31 : Int32) (a32 : Nat → Int32) (a33 : Nat → Int32), it4 (f_X12_parts_L179 S a1 a5 a8 x21 a23 k221_29) nn x30 x31 a32 a33 = some o → Go X layM S 179 [(0, .ref (x_q X 0)), (1, .int x15), (2, .int x21), (3, .int x30)] [] g [(72, x31)] [] [(13, a23), (14, a32), (16, a33), (39, a5), (40, a8), (41, a1)] [] [] 0 0 := by
                  intro nn
                  induction nn with
                  | zero =>
                    intro x30 x31 a32 a33 hf
                    exact none_no hf
                  | succ nn ih =>
                    intro x30 x31 a32 a33 hf
                    have hf : f_X12_parts_L179 S a1 a5 a8 x21 a23 k221_29 (it4 (f_X12_parts_L179 S a1 a5 a8 x21 a23 k221_29) nn) x30 x31 a32 a33 = some o := hf
                    generalize it4 (f_X12_parts_L179 S a1 a5 a8 x21 a23 k221_29) nn = r34 at ih hf
                    unfold f_X12_parts_L179 at hf
                    refine go_iload_n (pc' := 180) hC dX12_parts_179 rfl rfl ?_
                    refine go_aload_n (pc' := 181) hC dX12_parts_180 rfl rfl ?_
                    refine go_geti (v := (S.1 20)) (pc' := 184) hC 0 20 layM_0 rfl rfl inlX12 (Nat.le_of_ble_eq_true rfl) mw_246 rfl dX12_parts_181 rfl rfl ?_
                    refine go_icmp_ge (tgt := 221) (pc' := 187) hC dX12_parts_184 (by decide) rfl (fun h46 => ?_) (fun h46 => ?_)
                    · have hf := ite_t h46 hf
                      refine go_sub [0, 1] rfl ?_
                      exact jk221_29 x31 a32 a33 hf
                    · have hf := ite_f h46 hf
                      refine go_aload_n (pc' := 188) hC dX12_parts_187 rfl rfl ?_
                      refine go_getq (pc' := 191) hC 0 71 layM_0 rfl rfl inlX12 (Nat.le_of_ble_eq_true rfl) mw_221 rfl dX12_parts_188 rfl ?_
                      refine go_iload_n (pc' := 192) hC dX12_parts_191 rfl rfl ?_
                      obtain ⟨h35, hf⟩ := gd_e hf
                      refine go_iald (f := a8) (pc' := 193) hC 40 layM_40 rfl rfl dX12_parts_192 (okx_in h35) rfl ?_
                      refine go_iload_n (pc' := 194) hC dX12_parts_193 rfl rfl ?_
                      refine go_ishr (pc' := 195) hC dX12_parts_194 rfl ?_
                      refine go_iconst (pc' := 196) hC dX12_parts_195 ki_1 rfl ?_
                      refine go_iand (pc' := 197) hC dX12_parts_196 rfl ?_
                      refine go_iconst (pc' := 198) hC dX12_parts_197 ki_1 rfl ?_
                      obtain ⟨k215_39, hk215_39, hf⟩ := lk_e3 hf
                      have jk215_39 : ∀ (x36 : Int32) (a37 : Nat → Int32) (a38 : Nat → Int32), k215_39 x36 a37 a38 = some o → Go X layM S 215 [(0, .ref (x_q X 0)), (1, .int x15), (2, .int x21), (3, .int x30)] [] g [(72, x36)] [] [(13, a23), (14, a37), (16, a38), (39, a5), (40, a8), (41, a1)] [] [] 0 0 := by
                        intro x36 a37 a38 hf
                        have hf := hk215_39 x36 a37 a38 hf
                        clear hk215_39
                        refine go_iinc (lc' := [(0, .ref (x_q X 0)), (1, .int x15), (2, .int x21), (3, .int (x30 + (1 : Int32)))]) (pc' := 218) hC dX12_parts_215 rfl ki_1 (Nat.le_of_ble_eq_true rfl) rfl rfl ?_
                        refine go_goto (tgt := 179) hC dX12_parts_218 (by decide) ?_
                        exact ih (x30 + (1 : Int32)) x36 a37 a38 hf
                      clear hk215_39
                      refine go_icmp_ne (tgt := 215) (pc' := 201) hC dX12_parts_198 (by decide) rfl (fun h45 => ?_) (fun h45 => ?_)
                      · have hf := ite_f h45 hf
                        exact jk215_39 x31 a32 a33 hf
                      · have hf := ite_t h45 hf
                        refine go_aload_n (pc' := 202) hC dX12_parts_201 rfl rfl ?_
                        refine go_getq (pc' := 205) hC 0 28 layM_0 rfl rfl inlX12 (Nat.le_of_ble_eq_true rfl) mw_194 rfl dX12_parts_202 rfl ?_
                        refine go_iload_n (pc' := 206) hC dX12_parts_205 rfl rfl ?_
                        refine go_dup2 (pc' := 207) hC dX12_parts_206 rfl rfl rfl ?_
                        obtain ⟨h40, hf⟩ := gd_e hf
                        refine go_iald (f := a32) (pc' := 208) hC 14 layM_14 rfl rfl dX12_parts_207 (okx_in h40) rfl ?_
                        refine go_aload_n (pc' := 209) hC dX12_parts_208 rfl rfl ?_
                        refine go_iload_n (pc' := 210) hC dX12_parts_209 rfl rfl ?_
                        obtain ⟨o41, ho41, hf⟩ := bd_e hf
                        refine go_callV1 (pc' := 213) (As := [.int x21]) (st := [.int (a32 x30.toNatClampNeg), .int x30, .ref (x_q X 14)]) (st' := [.int o41.1, .int (a32 x30.toNatClampNeg), .int x30, .ref (x_q X 14)]) (L1' := [(72, o41.2.1)]) (L2' := []) (L3' := [(13, a23), (14, a32), (16, o41.2.2), (39, a5), (40, a8), (41, a1)]) (L4' := []) (L5' := []) (cells' := 0) (slots' := 0)  (b := 0) hC dX12_parts_210 ⟨mw_1423, mw_1426, mw_5, yd_yX12_own, yp_yX12_own, Nat.le_of_ble_eq_true rfl, Nat.le_of_ble_eq_true rfl, (Nat.le_of_ble_eq_true rfl), (Nat.le_of_ble_eq_true rfl)⟩ mw_1424 mw_1425 layM_0 rfl rfl rfl (Nat.le_of_ble_eq_true rfl) (c_X12_own (x_l X) (x_D X) (x_q X) g (x_cy X) (x_z X) _ x21 o41 ho41) rfl rfl rfl rfl rfl rfl rfl rfl rfl rfl rfl rfl rfl rfl ?_
                        refine go_ior (pc' := 214) hC dX12_parts_213 rfl ?_
                        refine go_namei (fun x42 hx => ?_)
                        have hf := lz_r hx hf
                        clear hx
                        obtain ⟨h43, hf⟩ := gd_e hf
                        refine go_iast (f := a32) (pc' := 215) hC 14 layM_14 rfl rfl dX12_parts_214 (okx_in h43) rfl rfl (fun a44 ha L3' hL => ?_)
                        have hf := lz_r ha hf
                        clear ha
                        obtain rfl : L3' = [(13, a23), (14, a44), (16, o41.2.2), (39, a5), (40, a8), (41, a1)] := hL.symm
                        exact jk215_39 o41.2.1 a44 o41.2.2 hf
                exact l179_47 fuel (0 : Int32) x22 a18 a24 hf
              clear hk177_25
              have l135_65 : ∀ (nn : Nat) (x48 : Int32) (x49 : Int32) (a50 : Nat → Int32) (a51 : Nat → Int32), it4 (f_X12_parts_L135 S a1 a5 a8 a18 x21 k177_25) nn x48 x49 a50 a51 = some o → Go X layM S 135 [(0, .ref (x_q X 0)), (1, .int x15), (2, .int x21), (3, .int x48)] [] g [(72, x49)] [] [(13, a50), (14, a18), (16, a51), (39, a5), (40, a8), (41, a1)] [] [] 0 0 := by
                intro nn
                induction nn with
                | zero =>
                  intro x48 x49 a50 a51 hf
                  exact none_no hf
                | succ nn ih =>
                  intro x48 x49 a50 a51 hf
                  have hf : f_X12_parts_L135 S a1 a5 a8 a18 x21 k177_25 (it4 (f_X12_parts_L135 S a1 a5 a8 a18 x21 k177_25) nn) x48 x49 a50 a51 = some o := hf
                  generalize it4 (f_X12_parts_L135 S a1 a5 a8 a18 x21 k177_25) nn = r52 at ih hf
                  unfold f_X12_parts_L135 at hf
                  refine go_iload_n (pc' := 136) hC dX12_parts_135 rfl rfl ?_
                  refine go_aload_n (pc' := 137) hC dX12_parts_136 rfl rfl ?_
                  refine go_geti (v := (S.1 21)) (pc' := 140) hC 0 21 layM_0 rfl rfl inlX12 (Nat.le_of_ble_eq_true rfl) mw_247 rfl dX12_parts_137 rfl rfl ?_
                  refine go_icmp_ge (tgt := 177) (pc' := 143) hC dX12_parts_140 (by decide) rfl (fun h64 => ?_) (fun h64 => ?_)
                  · have hf := ite_t h64 hf
                    refine go_sub [0, 1, 2] rfl ?_
                    exact jk177_25 x49 a50 a51 hf
                  · have hf := ite_f h64 hf
                    refine go_aload_n (pc' := 144) hC dX12_parts_143 rfl rfl ?_
                    refine go_getq (pc' := 147) hC 0 70 layM_0 rfl rfl inlX12 (Nat.le_of_ble_eq_true rfl) mw_220 rfl dX12_parts_144 rfl ?_
                    refine go_iload_n (pc' := 148) hC dX12_parts_147 rfl rfl ?_
                    obtain ⟨h53, hf⟩ := gd_e hf
                    refine go_iald (f := a5) (pc' := 149) hC 39 layM_39 rfl rfl dX12_parts_148 (okx_in h53) rfl ?_
                    refine go_iload_n (pc' := 150) hC dX12_parts_149 rfl rfl ?_
                    refine go_ishr (pc' := 151) hC dX12_parts_150 rfl ?_
                    refine go_iconst (pc' := 152) hC dX12_parts_151 ki_1 rfl ?_
                    refine go_iand (pc' := 153) hC dX12_parts_152 rfl ?_
                    refine go_iconst (pc' := 154) hC dX12_parts_153 ki_1 rfl ?_
                    obtain ⟨k171_57, hk171_57, hf⟩ := lk_e3 hf
                    have jk171_57 : ∀ (x54 : Int32) (a55 : Nat → Int32) (a56 : Nat → Int32), k171_57 x54 a55 a56 = some o → Go X layM S 171 [(0, .ref (x_q X 0)), (1, .int x15), (2, .int x21), (3, .int x48)] [] g [(72, x54)] [] [(13, a55), (14, a18), (16, a56), (39, a5), (40, a8), (41, a1)] [] [] 0 0 := by
                      intro x54 a55 a56 hf
                      have hf := hk171_57 x54 a55 a56 hf
                      clear hk171_57
                      refine go_iinc (lc' := [(0, .ref (x_q X 0)), (1, .int x15), (2, .int x21), (3, .int (x48 + (1 : Int32)))]) (pc' := 174) hC dX12_parts_171 rfl ki_1 (Nat.le_of_ble_eq_true rfl) rfl rfl ?_
                      refine go_goto (tgt := 135) hC dX12_parts_174 (by decide) ?_
                      exact ih (x48 + (1 : Int32)) x54 a55 a56 hf
                    clear hk171_57
                    refine go_icmp_ne (tgt := 171) (pc' := 157) hC dX12_parts_154 (by decide) rfl (fun h63 => ?_) (fun h63 => ?_)
                    · have hf := ite_f h63 hf
                      exact jk171_57 x49 a50 a51 hf
                    · have hf := ite_t h63 hf
                      refine go_aload_n (pc' := 158) hC dX12_parts_157 rfl rfl ?_
                      refine go_getq (pc' := 161) hC 0 27 layM_0 rfl rfl inlX12 (Nat.le_of_ble_eq_true rfl) mw_193 rfl dX12_parts_158 rfl ?_
                      refine go_iload_n (pc' := 162) hC dX12_parts_161 rfl rfl ?_
                      refine go_dup2 (pc' := 163) hC dX12_parts_162 rfl rfl rfl ?_
                      obtain ⟨h58, hf⟩ := gd_e hf
                      refine go_iald (f := a50) (pc' := 164) hC 13 layM_13 rfl rfl dX12_parts_163 (okx_in h58) rfl ?_
                      refine go_aload_n (pc' := 165) hC dX12_parts_164 rfl rfl ?_
                      refine go_iload_n (pc' := 166) hC dX12_parts_165 rfl rfl ?_
                      obtain ⟨o59, ho59, hf⟩ := bd_e hf
                      refine go_callV1 (pc' := 169) (As := [.int x21]) (st := [.int (a50 x48.toNatClampNeg), .int x48, .ref (x_q X 13)]) (st' := [.int o59.1, .int (a50 x48.toNatClampNeg), .int x48, .ref (x_q X 13)]) (L1' := [(72, o59.2.1)]) (L2' := []) (L3' := [(13, a50), (14, a18), (16, o59.2.2), (39, a5), (40, a8), (41, a1)]) (L4' := []) (L5' := []) (cells' := 0) (slots' := 0)  (b := 0) hC dX12_parts_166 ⟨mw_1423, mw_1426, mw_5, yd_yX12_own, yp_yX12_own, Nat.le_of_ble_eq_true rfl, Nat.le_of_ble_eq_true rfl, (Nat.le_of_ble_eq_true rfl), (Nat.le_of_ble_eq_true rfl)⟩ mw_1424 mw_1425 layM_0 rfl rfl rfl (Nat.le_of_ble_eq_true rfl) (c_X12_own (x_l X) (x_D X) (x_q X) g (x_cy X) (x_z X) _ x21 o59 ho59) rfl rfl rfl rfl rfl rfl rfl rfl rfl rfl rfl rfl rfl rfl ?_
                      refine go_ior (pc' := 170) hC dX12_parts_169 rfl ?_
                      refine go_namei (fun x60 hx => ?_)
                      have hf := lz_r hx hf
                      clear hx
                      obtain ⟨h61, hf⟩ := gd_e hf
                      refine go_iast (f := a50) (pc' := 171) hC 13 layM_13 rfl rfl dX12_parts_170 (okx_in h61) rfl rfl (fun a62 ha L3' hL => ?_)
                      have hf := lz_r ha hf
                      clear ha
                      obtain rfl : L3' = [(13, a62), (14, a18), (16, o59.2.2), (39, a5), (40, a8), (41, a1)] := hL.symm
                      exact jk171_57 o59.2.1 a62 o59.2.2 hf
              exact l135_65 fuel (0 : Int32) x16 a17 a19 hf
        exact l113_67 fuel (0 : Int32) x3 a4 a7 (S.2.2.1 16) hf
      clear hk111_9
      have l78_79 : ∀ (nn : Nat) (x68 : Int32) (a69 : Nat → Int32) (a70 : Nat → Int32), it3 (f_X12_parts_L78 S k111_9) nn x68 a69 a70 = some o → Go X layM S 78 [(0, .ref (x_q X 0)), (1, .int x68)] [] g [(72, x3)] [] [(13, a4), (14, a69), (16, (S.2.2.1 16)), (39, a5), (40, a70), (41, a1)] [] [] 0 0 := by
        intro nn
        induction nn with
        | zero =>
          intro x68 a69 a70 hf
          exact none_no hf
        | succ nn ih =>
          intro x68 a69 a70 hf
          have hf : f_X12_parts_L78 S k111_9 (it3 (f_X12_parts_L78 S k111_9) nn) x68 a69 a70 = some o := hf
          generalize it3 (f_X12_parts_L78 S k111_9) nn = r71 at ih hf
          unfold f_X12_parts_L78 at hf
          refine go_iload_n (pc' := 79) hC dX12_parts_78 rfl rfl ?_
          refine go_aload_n (pc' := 80) hC dX12_parts_79 rfl rfl ?_
          refine go_geti (v := (S.1 20)) (pc' := 83) hC 0 20 layM_0 rfl rfl inlX12 (Nat.le_of_ble_eq_true rfl) mw_246 rfl dX12_parts_80 rfl rfl ?_
          refine go_icmp_ge (tgt := 111) (pc' := 86) hC dX12_parts_83 (by decide) rfl (fun h78 => ?_) (fun h78 => ?_)
          · have hf := ite_t h78 hf
            refine go_sub [0] rfl ?_
            exact jk111_9 a69 a70 hf
          · have hf := ite_f h78 hf
            refine go_aload_n (pc' := 87) hC dX12_parts_86 rfl rfl ?_
            refine go_getq (pc' := 90) hC 0 71 layM_0 rfl rfl inlX12 (Nat.le_of_ble_eq_true rfl) mw_221 rfl dX12_parts_87 rfl ?_
            refine go_iload_n (pc' := 91) hC dX12_parts_90 rfl rfl ?_
            refine go_aload_n (pc' := 92) hC dX12_parts_91 rfl rfl ?_
            refine go_getq (pc' := 95) hC 0 28 layM_0 rfl rfl inlX12 (Nat.le_of_ble_eq_true rfl) mw_194 rfl dX12_parts_92 rfl ?_
            refine go_iload_n (pc' := 96) hC dX12_parts_95 rfl rfl ?_
            obtain ⟨h72, hf⟩ := gd_e hf
            refine go_iald (f := a69) (pc' := 97) hC 14 layM_14 rfl rfl dX12_parts_96 (okx_in h72) rfl ?_
            refine go_namei (fun x73 hx => ?_)
            have hf := lz_r hx hf
            clear hx
            obtain ⟨h74, hf⟩ := gd_e hf
            refine go_iast (f := a70) (pc' := 98) hC 40 layM_40 rfl rfl dX12_parts_97 (okx_in h74) rfl rfl (fun a75 ha L3' hL => ?_)
            have hf := lz_r ha hf
            clear ha
            obtain rfl : L3' = [(13, a4), (14, a69), (16, (S.2.2.1 16)), (39, a5), (40, a75), (41, a1)] := hL.symm
            refine go_aload_n (pc' := 99) hC dX12_parts_98 rfl rfl ?_
            refine go_getq (pc' := 102) hC 0 28 layM_0 rfl rfl inlX12 (Nat.le_of_ble_eq_true rfl) mw_194 rfl dX12_parts_99 rfl ?_
            refine go_iload_n (pc' := 103) hC dX12_parts_102 rfl rfl ?_
            refine go_iconst (pc' := 104) hC dX12_parts_103 ki_0 rfl ?_
            obtain ⟨h76, hf⟩ := gd_e hf
            refine go_iast (f := a69) (pc' := 105) hC 14 layM_14 rfl rfl dX12_parts_104 (okx_in h76) rfl rfl (fun a77 ha L3' hL => ?_)
            have hf := lz_r ha hf
            clear ha
            obtain rfl : L3' = [(13, a4), (14, a77), (16, (S.2.2.1 16)), (39, a5), (40, a75), (41, a1)] := hL.symm
            refine go_iinc (lc' := [(0, .ref (x_q X 0)), (1, .int (x68 + (1 : Int32)))]) (pc' := 108) hC dX12_parts_105 rfl ki_1 (Nat.le_of_ble_eq_true rfl) rfl rfl ?_
            refine go_goto (tgt := 78) hC dX12_parts_108 (by decide) ?_
            exact ih (x68 + (1 : Int32)) a77 a75 hf
      exact l78_79 fuel (0 : Int32) (S.2.2.1 14) (S.2.2.1 40) hf
    clear hk76_6
    have l43_91 : ∀ (nn : Nat) (x80 : Int32) (a81 : Nat → Int32) (a82 : Nat → Int32), it3 (f_X12_parts_L43 S k76_6) nn x80 a81 a82 = some o → Go X layM S 43 [(0, .ref (x_q X 0)), (1, .int x80)] [] g [(72, x3)] [] [(13, a81), (14, (S.2.2.1 14)), (16, (S.2.2.1 16)), (39, a82), (40, (S.2.2.1 40)), (41, a1)] [] [] 0 0 := by
      intro nn
      induction nn with
      | zero =>
        intro x80 a81 a82 hf
        exact none_no hf
      | succ nn ih =>
        intro x80 a81 a82 hf
        have hf : f_X12_parts_L43 S k76_6 (it3 (f_X12_parts_L43 S k76_6) nn) x80 a81 a82 = some o := hf
        generalize it3 (f_X12_parts_L43 S k76_6) nn = r83 at ih hf
        unfold f_X12_parts_L43 at hf
        refine go_iload_n (pc' := 44) hC dX12_parts_43 rfl rfl ?_
        refine go_aload_n (pc' := 45) hC dX12_parts_44 rfl rfl ?_
        refine go_geti (v := (S.1 21)) (pc' := 48) hC 0 21 layM_0 rfl rfl inlX12 (Nat.le_of_ble_eq_true rfl) mw_247 rfl dX12_parts_45 rfl rfl ?_
        refine go_icmp_ge (tgt := 76) (pc' := 51) hC dX12_parts_48 (by decide) rfl (fun h90 => ?_) (fun h90 => ?_)
        · have hf := ite_t h90 hf
          refine go_sub [0] rfl ?_
          exact jk76_6 a81 a82 hf
        · have hf := ite_f h90 hf
          refine go_aload_n (pc' := 52) hC dX12_parts_51 rfl rfl ?_
          refine go_getq (pc' := 55) hC 0 70 layM_0 rfl rfl inlX12 (Nat.le_of_ble_eq_true rfl) mw_220 rfl dX12_parts_52 rfl ?_
          refine go_iload_n (pc' := 56) hC dX12_parts_55 rfl rfl ?_
          refine go_aload_n (pc' := 57) hC dX12_parts_56 rfl rfl ?_
          refine go_getq (pc' := 60) hC 0 27 layM_0 rfl rfl inlX12 (Nat.le_of_ble_eq_true rfl) mw_193 rfl dX12_parts_57 rfl ?_
          refine go_iload_n (pc' := 61) hC dX12_parts_60 rfl rfl ?_
          obtain ⟨h84, hf⟩ := gd_e hf
          refine go_iald (f := a81) (pc' := 62) hC 13 layM_13 rfl rfl dX12_parts_61 (okx_in h84) rfl ?_
          refine go_namei (fun x85 hx => ?_)
          have hf := lz_r hx hf
          clear hx
          obtain ⟨h86, hf⟩ := gd_e hf
          refine go_iast (f := a82) (pc' := 63) hC 39 layM_39 rfl rfl dX12_parts_62 (okx_in h86) rfl rfl (fun a87 ha L3' hL => ?_)
          have hf := lz_r ha hf
          clear ha
          obtain rfl : L3' = [(13, a81), (14, (S.2.2.1 14)), (16, (S.2.2.1 16)), (39, a87), (40, (S.2.2.1 40)), (41, a1)] := hL.symm
          refine go_aload_n (pc' := 64) hC dX12_parts_63 rfl rfl ?_
          refine go_getq (pc' := 67) hC 0 27 layM_0 rfl rfl inlX12 (Nat.le_of_ble_eq_true rfl) mw_193 rfl dX12_parts_64 rfl ?_
          refine go_iload_n (pc' := 68) hC dX12_parts_67 rfl rfl ?_
          refine go_iconst (pc' := 69) hC dX12_parts_68 ki_0 rfl ?_
          obtain ⟨h88, hf⟩ := gd_e hf
          refine go_iast (f := a81) (pc' := 70) hC 13 layM_13 rfl rfl dX12_parts_69 (okx_in h88) rfl rfl (fun a89 ha L3' hL => ?_)
          have hf := lz_r ha hf
          clear ha
          obtain rfl : L3' = [(13, a89), (14, (S.2.2.1 14)), (16, (S.2.2.1 16)), (39, a87), (40, (S.2.2.1 40)), (41, a1)] := hL.symm
          refine go_iinc (lc' := [(0, .ref (x_q X 0)), (1, .int (x80 + (1 : Int32)))]) (pc' := 73) hC dX12_parts_70 rfl ki_1 (Nat.le_of_ble_eq_true rfl) rfl rfl ?_
          refine go_goto (tgt := 43) hC dX12_parts_73 (by decide) ?_
          exact ih (x80 + (1 : Int32)) a89 a87 hf
    exact l43_91 fuel (0 : Int32) (S.2.2.1 13) (S.2.2.1 39) hf
  clear hk28_2
  have l2_100 : ∀ (nn : Nat) (x92 : Int32) (a93 : Nat → Int32), it2 (f_X12_parts_L2 S k28_2) nn x92 a93 = some o → Go X layM S 2 [(0, .ref (x_q X 0)), (1, .int x92)] [] g [(72, (S.1 72))] [] [(13, (S.2.2.1 13)), (14, (S.2.2.1 14)), (16, (S.2.2.1 16)), (39, (S.2.2.1 39)), (40, (S.2.2.1 40)), (41, a93)] [] [] 0 0 := by
    intro nn
    induction nn with
    | zero =>
      intro x92 a93 hf
      exact none_no hf
    | succ nn ih =>
      intro x92 a93 hf
      have hf : f_X12_parts_L2 S k28_2 (it2 (f_X12_parts_L2 S k28_2) nn) x92 a93 = some o := hf
      generalize it2 (f_X12_parts_L2 S k28_2) nn = r94 at ih hf
      unfold f_X12_parts_L2 at hf
      refine go_iload_n (pc' := 3) hC dX12_parts_2 rfl rfl ?_
      refine go_aload_n (pc' := 4) hC dX12_parts_3 rfl rfl ?_
      refine go_geti (v := (S.1 32)) (pc' := 7) hC 0 32 layM_0 rfl rfl inlX12 (Nat.le_of_ble_eq_true rfl) mw_250 rfl dX12_parts_4 rfl rfl ?_
      refine go_icmp_ge (tgt := 28) (pc' := 10) hC dX12_parts_7 (by decide) rfl (fun h99 => ?_) (fun h99 => ?_)
      · have hf := ite_t h99 hf
        refine go_sub [0] rfl ?_
        exact jk28_2 a93 hf
      · have hf := ite_f h99 hf
        refine go_aload_n (pc' := 11) hC dX12_parts_10 rfl rfl ?_
        refine go_getq (pc' := 14) hC 0 73 layM_0 rfl rfl inlX12 (Nat.le_of_ble_eq_true rfl) mw_222 rfl dX12_parts_11 rfl ?_
        refine go_iload_n (pc' := 15) hC dX12_parts_14 rfl rfl ?_
        refine go_aload_n (pc' := 16) hC dX12_parts_15 rfl rfl ?_
        refine go_getq (pc' := 19) hC 0 33 layM_0 rfl rfl inlX12 (Nat.le_of_ble_eq_true rfl) mw_196 rfl dX12_parts_16 rfl ?_
        refine go_iload_n (pc' := 20) hC dX12_parts_19 rfl rfl ?_
        obtain ⟨h95, hf⟩ := gd_e hf
        refine go_iald (f := (S.2.2.1 16)) (pc' := 21) hC 16 layM_16 rfl rfl dX12_parts_20 (okx_in h95) rfl ?_
        refine go_namei (fun x96 hx => ?_)
        have hf := lz_r hx hf
        clear hx
        obtain ⟨h97, hf⟩ := gd_e hf
        refine go_iast (f := a93) (pc' := 22) hC 41 layM_41 rfl rfl dX12_parts_21 (okx_in h97) rfl rfl (fun a98 ha L3' hL => ?_)
        have hf := lz_r ha hf
        clear ha
        obtain rfl : L3' = [(13, (S.2.2.1 13)), (14, (S.2.2.1 14)), (16, (S.2.2.1 16)), (39, (S.2.2.1 39)), (40, (S.2.2.1 40)), (41, a98)] := hL.symm
        refine go_iinc (lc' := [(0, .ref (x_q X 0)), (1, .int (x92 + (1 : Int32)))]) (pc' := 25) hC dX12_parts_22 rfl ki_1 (Nat.le_of_ble_eq_true rfl) rfl rfl ?_
        refine go_goto (tgt := 2) hC dX12_parts_25 (by decide) ?_
        exact ih (x92 + (1 : Int32)) a98 hf
  exact l2_100 fuel (0 : Int32) (S.2.2.1 41) hf
