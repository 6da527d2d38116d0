theorem dX10_putApart_0 : decode cX10_putApart 0 = .ok (.iconst 0, 1) := by decide +kernel
theorem dX10_putApart_1 : decode cX10_putApart 1 = .ok (.istore 4, 2) := by decide +kernel
theorem dX10_putApart_3 : decode cX10_putApart 3 = .ok (.iload 4, 2) := by decide +kernel
theorem dX10_putApart_5 : decode cX10_putApart 5 = .ok (.bipush 12, 2) := by decide +kernel
theorem dX10_putApart_7 : decode cX10_putApart 7 = .ok (.if_icmp .ge 28, 3) := by decide +kernel
theorem dX10_putApart_10 : decode cX10_putApart 10 = .ok (.iload_n 2, 1) := by decide +kernel
theorem dX10_putApart_11 : decode cX10_putApart 11 = .ok (.iload 4, 2) := by decide +kernel
theorem dX10_putApart_13 : decode cX10_putApart 13 = .ok (.ishr, 1) := by decide +kernel
theorem dX10_putApart_14 : decode cX10_putApart 14 = .ok (.iconst 1, 1) := by decide +kernel
theorem dX10_putApart_15 : decode cX10_putApart 15 = .ok (.iand, 1) := by decide +kernel
theorem dX10_putApart_16 : decode cX10_putApart 16 = .ok (.ifCond .eq 13, 3) := by decide +kernel
theorem dX10_putApart_19 : decode cX10_putApart 19 = .ok (.aload_n 0, 1) := by decide +kernel
theorem dX10_putApart_20 : decode cX10_putApart 20 = .ok (.iload_n 1, 1) := by decide +kernel
theorem dX10_putApart_21 : decode cX10_putApart 21 = .ok (.iconst 1, 1) := by decide +kernel
theorem dX10_putApart_22 : decode cX10_putApart 22 = .ok (.iload 4, 2) := by decide +kernel
theorem dX10_putApart_24 : decode cX10_putApart 24 = .ok (.ishl, 1) := by decide +kernel
theorem dX10_putApart_25 : decode cX10_putApart 25 = .ok (.iconst 0, 1) := by decide +kernel
theorem dX10_putApart_26 : decode cX10_putApart 26 = .ok (.invokevirtual 38, 3) := by decide +kernel
theorem dX10_putApart_29 : decode cX10_putApart 29 = .ok (.iinc 4 1, 3) := by decide +kernel
theorem dX10_putApart_32 : decode cX10_putApart 32 = .ok (.goto (-29), 3) := by decide +kernel
theorem dX10_putApart_35 : decode cX10_putApart 35 = .ok (.iconst 0, 1) := by decide +kernel
theorem dX10_putApart_36 : decode cX10_putApart 36 = .ok (.istore 4, 2) := by decide +kernel
theorem dX10_putApart_38 : decode cX10_putApart 38 = .ok (.iload 4, 2) := by decide +kernel
theorem dX10_putApart_40 : decode cX10_putApart 40 = .ok (.bipush 10, 2) := by decide +kernel
theorem dX10_putApart_42 : decode cX10_putApart 42 = .ok (.if_icmp .ge 28, 3) := by decide +kernel
theorem dX10_putApart_45 : decode cX10_putApart 45 = .ok (.iload_n 3, 1) := by decide +kernel
theorem dX10_putApart_46 : decode cX10_putApart 46 = .ok (.iload 4, 2) := by decide +kernel
theorem dX10_putApart_48 : decode cX10_putApart 48 = .ok (.ishr, 1) := by decide +kernel
theorem dX10_putApart_49 : decode cX10_putApart 49 = .ok (.iconst 1, 1) := by decide +kernel
theorem dX10_putApart_50 : decode cX10_putApart 50 = .ok (.iand, 1) := by decide +kernel
theorem dX10_putApart_51 : decode cX10_putApart 51 = .ok (.ifCond .eq 13, 3) := by decide +kernel
theorem dX10_putApart_54 : decode cX10_putApart 54 = .ok (.aload_n 0, 1) := by decide +kernel
theorem dX10_putApart_55 : decode cX10_putApart 55 = .ok (.iload_n 1, 1) := by decide +kernel
theorem dX10_putApart_56 : decode cX10_putApart 56 = .ok (.iconst 0, 1) := by decide +kernel
theorem dX10_putApart_57 : decode cX10_putApart 57 = .ok (.iconst 1, 1) := by decide +kernel
theorem dX10_putApart_58 : decode cX10_putApart 58 = .ok (.iload 4, 2) := by decide +kernel
theorem dX10_putApart_60 : decode cX10_putApart 60 = .ok (.ishl, 1) := by decide +kernel
theorem dX10_putApart_61 : decode cX10_putApart 61 = .ok (.invokevirtual 38, 3) := by decide +kernel
theorem dX10_putApart_64 : decode cX10_putApart 64 = .ok (.iinc 4 1, 3) := by decide +kernel
theorem dX10_putApart_67 : decode cX10_putApart 67 = .ok (.goto (-29), 3) := by decide +kernel
theorem dX10_putApart_70 : decode cX10_putApart 70 = .ok (.return_, 1) := by decide +kernel
abbrev o_X10_putApart_q117 : Type := Int32 × (Nat → Int32) × (Nat → Int32)
def f_X10_putApart_q117_L38 (S : wd_W) (p1 : Int32) (p3 : Int32) (r9 : (Int32) → (Int32) → (Nat → Int32) → (Nat → Int32) → (Option o_X10_putApart_q117)) (x5 : Int32) (x6 : Int32) (a7 : Nat → Int32) (a8 : Nat → Int32) : Option o_X10_putApart_q117 :=
if (10 : Int32) ≤ x5 then (
some (x6, a7, a8)) else (
lk (fun x10 a11 a12 =>
r9 (x5 + (1 : Int32)) x10 a11 a12) fun k64_13 =>
if ((p3 >>> (x5 &&& 31)) &&& (1 : Int32)) = 0 then (
k64_13 x6 a7 a8) else (
bd (f_X10_put_q117 (wd_o S [(11700, x6)] [] [(118, a7), (119, a8)] [] []) p1 (0 : Int32) ((1 : Int32) <<< (x5 &&& 31))) fun o14 =>
k64_13 o14.1 o14.2.1 o14.2.2))
def f_X10_putApart_q117_L3 (S : wd_W) (p1 : Int32) (p2 : Int32) (k35_4 : (Int32) → (Nat → Int32) → (Nat → Int32) → (Option o_X10_putApart_q117)) (r22 : (Int32) → (Int32) → (Nat → Int32) → (Nat → Int32) → (Option o_X10_putApart_q117)) (x18 : Int32) (x19 : Int32) (a20 : Nat → Int32) (a21 : Nat → Int32) : Option o_X10_putApart_q117 :=
if (12 : Int32) ≤ x18 then (
k35_4 x19 a20 a21) else (
lk (fun x23 a24 a25 =>
r22 (x18 + (1 : Int32)) x23 a24 a25) fun k29_26 =>
if ((p2 >>> (x18 &&& 31)) &&& (1 : Int32)) = 0 then (
k29_26 x19 a20 a21) else (
bd (f_X10_put_q117 (wd_o S [(11700, x19)] [] [(118, a20), (119, a21)] [] []) p1 ((1 : Int32) <<< (x18 &&& 31)) (0 : Int32)) fun o27 =>
k29_26 o27.1 o27.2.1 o27.2.2))
def f_X10_putApart_q117 (S : wd_W) (p1 : Int32) (p2 : Int32) (p3 : Int32) : Option o_X10_putApart_q117 :=
lk (fun x1 a2 a3 =>
it4 (f_X10_putApart_q117_L38 S p1 p3) fuel (0 : Int32) x1 a2 a3) fun k35_4 =>
it4 (f_X10_putApart_q117_L3 S p1 p2 k35_4) fuel (0 : Int32) (S.1 11700) (S.2.2.1 118) (S.2.2.1 119)
set_option maxRecDepth 100000 in
set_option maxHeartbeats 4000000 in
theorem c_X10_putApart_q117 (l : Launch) (D : va_G) (q g : Nat → Nat) (cy : Nat → ClassId) (z : (Nat → Nat) × (Nat → Nat) × Nat) (S : wd_W) (p1 : Int32) (p2 : Int32) (p3 : Int32) (o : o_X10_putApart_q117) (hf : f_X10_putApart_q117 S p1 p2 p3 = some o) : MX layX l yX10_putApart cX10_putApart 5 none ({ frames := 1, cells := 0, slots := 0, locals := 25 } : Room) D q g cy z [.ref (q 117), .int p1, .int p2, .int p3] S false (none) (wd_o S [(11700, o.1)] [] [(118, o.2.1), (119, o.2.2)] [] []) 0 0 := by
  refine mx_of (own := RX10) (lc := [(0, .ref (q 117)), (1, .int p1), (2, .int p2), (3, .int p3)]) (by decide +kernel) rfl layX_ok (Nat.le_of_ble_eq_true rfl) rfl ?_
  intro X hXl hXq hXz hC hQ
  subst hXl; subst hXq; subst hXz
  unfold f_X10_putApart_q117 at hf
  refine go_keys (L1 := [(11700, (S.1 11700))]) (L2 := []) (L3 := [(118, (S.2.2.1 118)), (119, (S.2.2.1 119))]) (L4 := []) (L5 := []) [11700] [] [118, 119] [] [] rfl rfl rfl rfl rfl ?_
  refine go_iconst (pc' := 1) hC dX10_putApart_0 ki_0 rfl ?_
  refine go_istore (lc' := [(0, .ref (x_q X 117)), (1, .int p1), (2, .int p2), (3, .int p3), (4, .int (0 : Int32))]) (pc' := 3) hC dX10_putApart_1 (Nat.le_of_ble_eq_true rfl) rfl rfl ?_
  obtain ⟨k35_4, hk35_4, hf⟩ := lk_e3 hf
  have jk35_4 : ∀ (x1 : Int32) (a2 : Nat → Int32) (a3 : Nat → Int32), k35_4 x1 a2 a3 = some o → Go X layX S 35 [(0, .ref (x_q X 117)), (1, .int p1), (3, .int p3)] [] g [(11700, x1)] [] [(118, a2), (119, a3)] [] [] 0 0 := by
    intro x1 a2 a3 hf
    have hf := hk35_4 x1 a2 a3 hf
    clear hk35_4
    refine go_iconst (pc' := 36) hC dX10_putApart_35 ki_0 rfl ?_
    refine go_istore (lc' := [(0, .ref (x_q X 117)), (1, .int p1), (3, .int p3), (4, .int (0 : Int32))]) (pc' := 38) hC dX10_putApart_36 (Nat.le_of_ble_eq_true rfl) rfl rfl ?_
    have l38_17 : ∀ (nn : Nat) (x5 : Int32) (x6 : Int32) (a7 : Nat → Int32) (a8 : Nat → Int32), it4 (f_X10_putApart_q117_L38 S p1 p3) nn x5 x6 a7 a8 = some o → Go X layX S 38 [(0, .ref (x_q X 117)), (1, .int p1), (3, .int p3), (4, .int x5)] [] g [(11700, x6)] [] [(118, a7), (119, a8)] [] [] 0 0 := by
      intro nn
      induction nn with
      | zero =>
        intro x5 x6 a7 a8 hf
        exact none_no hf
      | succ nn ih =>
        intro x5 x6 a7 a8 hf
        have hf : f_X10_putApart_q117_L38 S p1 p3 (it4 (f_X10_putApart_q117_L38 S p1 p3) nn) x5 x6 a7 a8 = some o := hf
        generalize it4 (f_X10_putApart_q117_L38 S p1 p3) nn = r9 at ih hf
        unfold f_X10_putApart_q117_L38 at hf
        refine go_iload (pc' := 40) hC dX10_putApart_38 rfl rfl ?_
        refine go_bipush (pc' := 42) hC dX10_putApart_40 kb_10 rfl ?_
        refine go_icmp_ge (tgt := 70) (pc' := 45) hC dX10_putApart_42 (by decide) rfl (fun h16 => ?_) (fun h16 => ?_)
        · have hf := ite_t h16 hf
          obtain rfl := Option.some.inj hf
          exact go_vret hC hQ dX10_putApart_70 rfl rfl rfl (fun _ => rfl) rfl rfl
        · have hf := ite_f h16 hf
          refine go_iload_n (pc' := 46) hC dX10_putApart_45 rfl rfl ?_
          refine go_iload (pc' := 48) hC dX10_putApart_46 rfl rfl ?_
          refine go_ishr (pc' := 49) hC dX10_putApart_48 rfl ?_
          refine go_iconst (pc' := 50) hC dX10_putApart_49 ki_1 rfl ?_
          refine go_iand (pc' := 51) hC dX10_putApart_50 rfl ?_
          obtain ⟨k64_13, hk64_13, hf⟩ := lk_e3 hf
          have jk64_13 : ∀ (x10 : Int32) (a11 : Nat → Int32) (a12 : Nat → Int32), k64_13 x10 a11 a12 = some o → Go X layX S 64 [(0, .ref (x_q X 117)), (1, .int p1), (3, .int p3), (4, .int x5)] [] g [(11700, x10)] [] [(118, a11), (119, a12)] [] [] 0 0 := by
            intro x10 a11 a12 hf
            have hf := hk64_13 x10 a11 a12 hf
            clear hk64_13
            refine go_iinc (lc' := [(0, .ref (x_q X 117)), (1, .int p1), (3, .int p3), (4, .int (x5 + (1 : Int32)))]) (pc' := 67) hC dX10_putApart_64 rfl ki_1 (Nat.le_of_ble_eq_true rfl) rfl rfl ?_
            refine go_goto (tgt := 38) hC dX10_putApart_67 (by decide) ?_
            exact ih (x5 + (1 : Int32)) x10 a11 a12 hf
          clear hk64_13
          refine go_if_eq (tgt := 64) (pc' := 54) hC dX10_putApart_51 (by decide) rfl (fun h15 => ?_) (fun h15 => ?_)
          · have hf := ite_t h15 hf
            exact jk64_13 x6 a7 a8 hf
          · have hf := ite_f h15 hf
            refine go_aload_n (pc' := 55) hC dX10_putApart_54 rfl rfl ?_
            refine go_iload_n (pc' := 56) hC dX10_putApart_55 rfl rfl ?_
            refine go_iconst (pc' := 57) hC dX10_putApart_56 ki_0 rfl ?_
            refine go_iconst (pc' := 58) hC dX10_putApart_57 ki_1 rfl ?_
            refine go_iload (pc' := 60) hC dX10_putApart_58 rfl rfl ?_
            refine go_ishl (pc' := 61) hC dX10_putApart_60 rfl ?_
            obtain ⟨o14, ho14, hf⟩ := bd_e hf
            refine go_callV1 (pc' := 64) (As := [.int p1, .int (0 : Int32), .int ((1 : Int32) <<< (x5 &&& 31))]) (st := []) (st' := []) (L1' := [(11700, o14.1)]) (L2' := []) (L3' := [(118, o14.2.1), (119, o14.2.2)]) (L4' := []) (L5' := []) (cells' := 0) (slots' := 0)  (b := 117) hC dX10_putApart_61 ⟨mw_647, mw_650, mw_103, yd_yX10_put, yp_yX10_put, Nat.le_of_ble_eq_true rfl, Nat.le_of_ble_eq_true rfl, (Nat.le_of_ble_eq_true rfl), (Nat.le_of_ble_eq_true rfl)⟩ mw_648 mw_649 layX_117 rfl rfl rfl (Nat.le_of_ble_eq_true rfl) (c_X10_put_q117 (x_l X) (x_D X) (x_q X) g (x_cy X) (x_z X) _ p1 (0 : Int32) ((1 : Int32) <<< (x5 &&& 31)) o14 ho14) rfl rfl rfl rfl rfl rfl rfl rfl rfl rfl rfl rfl rfl rfl ?_
            exact jk64_13 o14.1 o14.2.1 o14.2.2 hf
    exact l38_17 fuel (0 : Int32) x1 a2 a3 hf
  clear hk35_4
  have l3_30 : ∀ (nn : Nat) (x18 : Int32) (x19 : Int32) (a20 : Nat → Int32) (a21 : Nat → Int32), it4 (f_X10_putApart_q117_L3 S p1 p2 k35_4) nn x18 x19 a20 a21 = some o → Go X layX S 3 [(0, .ref (x_q X 117)), (1, .int p1), (2, .int p2), (3, .int p3), (4, .int x18)] [] g [(11700, x19)] [] [(118, a20), (119, a21)] [] [] 0 0 := by
    intro nn
    induction nn with
    | zero =>
      intro x18 x19 a20 a21 hf
      exact none_no hf
    | succ nn ih =>
      intro x18 x19 a20 a21 hf
      have hf : f_X10_putApart_q117_L3 S p1 p2 k35_4 (it4 (f_X10_putApart_q117_L3 S p1 p2 k35_4) nn) x18 x19 a20 a21 = some o := hf
      generalize it4 (f_X10_putApart_q117_L3 S p1 p2 k35_4) nn = r22 at ih hf
      unfold f_X10_putApart_q117_L3 at hf
      refine go_iload (pc' := 5) hC dX10_putApart_3 rfl rfl ?_
      refine go_bipush (pc' := 7) hC dX10_putApart_5 kb_12 rfl ?_
      refine go_icmp_ge (tgt := 35) (pc' := 10) hC dX10_putApart_7 (by decide) rfl (fun h29 => ?_) (fun h29 => ?_)
      · have hf := ite_t h29 hf
        refine go_sub [0, 1, 3] rfl ?_
        exact jk35_4 x19 a20 a21 hf
      · have hf := ite_f h29 hf
        refine go_iload_n (pc' := 11) hC dX10_putApart_10 rfl rfl ?_
        refine go_iload (pc' := 13) hC dX10_putApart_11 rfl rfl ?_
        refine go_ishr (pc' := 14) hC dX10_putApart_13 rfl ?_
        refine go_iconst (pc' := 15) hC dX10_putApart_14 ki_1 rfl ?_
        refine go_iand (pc' := 16) hC dX10_putApart_15 rfl ?_
        obtain ⟨k29_26, hk29_26, hf⟩ := lk_e3 hf
        have jk29_26 : ∀ (x23 : Int32) (a24 : Nat → Int32) (a25 : Nat → Int32), k29_26 x23 a24 a25 = some o → Go X layX S 29 [(0, .ref (x_q X 117)), (1, .int p1), (2, .int p2), (3, .int p3), (4, .int x18)] [] g [(11700, x23)] [] [(118, a24), (119, a25)] [] [] 0 0 := by
          intro x23 a24 a25 hf
          have hf := hk29_26 x23 a24 a25 hf
          clear hk29_26
          refine go_iinc (lc' := [(0, .ref (x_q X 117)), (1, .int p1), (2, .int p2), (3, .int p3), (4, .int (x18 + (1 : Int32)))]) (pc' := 32) hC dX10_putApart_29 rfl ki_1 (Nat.le_of_ble_eq_true rfl) rfl rfl ?_
          refine go_goto (tgt := 3) hC dX10_putApart_32 (by decide) ?_
          exact ih (x18 + (1 : Int32)) x23 a24 a25 hf
        clear hk29_26
        refine go_if_eq (tgt := 29) (pc' := 19) hC dX10_putApart_16 (by decide) rfl (fun h28 => ?_) (fun h28 => ?_)
        · have hf := ite_t h28 hf
          exact jk29_26 x19 a20 a21 hf
        · have hf := ite_f h28 hf
          refine go_aload_n (pc' := 20) hC dX10_putApart_19 rfl rfl ?_
          refine go_iload_n (pc' := 21) hC dX10_putApart_20 rfl rfl ?_
          refine go_iconst (pc' := 22) hC dX10_putApart_21 ki_1 rfl ?_
          refine go_iload (pc' := 24) hC dX10_putApart_22 rfl rfl ?_
          refine go_ishl (pc' := 25) hC dX10_putApart_24 rfl ?_
          refine go_iconst (pc' := 26) hC dX10_putApart_25 ki_0 rfl ?_
          obtain ⟨o27, ho27, hf⟩ := bd_e hf
          refine go_callV1 (pc' := 29) (As := [.int p1, .int ((1 : Int32) <<< (x18 &&& 31)), .int (0 : Int32)]) (st := []) (st' := []) (L1' := [(11700, o27.1)]) (L2' := []) (L3' := [(118, o27.2.1), (119, o27.2.2)]) (L4' := []) (L5' := []) (cells' := 0) (slots' := 0)  (b := 117) hC dX10_putApart_26 ⟨mw_647, mw_650, mw_103, yd_yX10_put, yp_yX10_put, Nat.le_of_ble_eq_true rfl, Nat.le_of_ble_eq_true rfl, (Nat.le_of_ble_eq_true rfl), (Nat.le_of_ble_eq_true rfl)⟩ mw_648 mw_649 layX_117 rfl rfl rfl (Nat.le_of_ble_eq_true rfl) (c_X10_put_q117 (x_l X) (x_D X) (x_q X) g (x_cy X) (x_z X) _ p1 ((1 : Int32) <<< (x18 &&& 31)) (0 : Int32) o27 ho27) rfl rfl rfl rfl rfl rfl rfl rfl rfl rfl rfl rfl rfl rfl ?_
          exact jk29_26 o27.1 o27.2.1 o27.2.2 hf
  exact l3_30 fuel (0 : Int32) (S.1 11700) (S.2.2.1 118) (S.2.2.1 119) hf
theorem dX10_take_0 : decode cX10_take 0 = .ok (.aload_n 0, 1) := by decide +kernel
theorem dX10_take_1 : decode cX10_take 1 = .ok (.iconst 0, 1) := by decide +kernel
theorem dX10_take_2 : decode cX10_take 2 = .ok (.putfield 26, 3) := by decide +kernel
theorem dX10_take_5 : decode cX10_take 5 = .ok (.iconst 0, 1) := by decide +kernel
theorem dX10_take_6 : decode cX10_take 6 = .ok (.istore_n 2, 1) := by decide +kernel
theorem dX10_take_7 : decode cX10_take 7 = .ok (.iload_n 2, 1) := by decide +kernel
theorem dX10_take_8 : decode cX10_take 8 = .ok (.aload_n 0, 1) := by decide +kernel
theorem dX10_take_9 : decode cX10_take 9 = .ok (.getfield 18, 3) := by decide +kernel
theorem dX10_take_12 : decode cX10_take 12 = .ok (.getfield 30, 3) := by decide +kernel
theorem dX10_take_15 : decode cX10_take 15 = .ok (.if_icmp .ge 26, 3) := by decide +kernel
theorem dX10_take_18 : decode cX10_take 18 = .ok (.aload_n 0, 1) := by decide +kernel
theorem dX10_take_19 : decode cX10_take 19 = .ok (.aload_n 0, 1) := by decide +kernel
theorem dX10_take_20 : decode cX10_take 20 = .ok (.getfield 18, 3) := by decide +kernel
theorem dX10_take_23 : decode cX10_take 23 = .ok (.getfield 35, 3) := by decide +kernel
theorem dX10_take_26 : decode cX10_take 26 = .ok (.iload_n 2, 1) := by decide +kernel
theorem dX10_take_27 : decode cX10_take 27 = .ok (.iaload, 1) := by decide +kernel
theorem dX10_take_28 : decode cX10_take 28 = .ok (.iconst 1, 1) := by decide +kernel
theorem dX10_take_29 : decode cX10_take 29 = .ok (.iload_n 2, 1) := by decide +kernel
theorem dX10_take_30 : decode cX10_take 30 = .ok (.ishl, 1) := by decide +kernel
theorem dX10_take_31 : decode cX10_take 31 = .ok (.iconst 0, 1) := by decide +kernel
theorem dX10_take_32 : decode cX10_take 32 = .ok (.invokevirtual 38, 3) := by decide +kernel
theorem dX10_take_35 : decode cX10_take 35 = .ok (.iinc 2 1, 3) := by decide +kernel
theorem dX10_take_38 : decode cX10_take 38 = .ok (.goto (-31), 3) := by decide +kernel
theorem dX10_take_41 : decode cX10_take 41 = .ok (.iconst 0, 1) := by decide +kernel
theorem dX10_take_42 : decode cX10_take 42 = .ok (.istore_n 2, 1) := by decide +kernel
theorem dX10_take_43 : decode cX10_take 43 = .ok (.iload_n 2, 1) := by decide +kernel
theorem dX10_take_44 : decode cX10_take 44 = .ok (.aload_n 0, 1) := by decide +kernel
theorem dX10_take_45 : decode cX10_take 45 = .ok (.getfield 18, 3) := by decide +kernel
theorem dX10_take_48 : decode cX10_take 48 = .ok (.getfield 42, 3) := by decide +kernel
theorem dX10_take_51 : decode cX10_take 51 = .ok (.if_icmp .ge 34, 3) := by decide +kernel
theorem dX10_take_54 : decode cX10_take 54 = .ok (.aload_n 0, 1) := by decide +kernel
theorem dX10_take_55 : decode cX10_take 55 = .ok (.aload_n 0, 1) := by decide +kernel
theorem dX10_take_56 : decode cX10_take 56 = .ok (.getfield 18, 3) := by decide +kernel
theorem dX10_take_59 : decode cX10_take 59 = .ok (.getfield 45, 3) := by decide +kernel
theorem dX10_take_62 : decode cX10_take 62 = .ok (.iload_n 2, 1) := by decide +kernel
theorem dX10_take_63 : decode cX10_take 63 = .ok (.iaload, 1) := by decide +kernel
theorem dX10_take_64 : decode cX10_take 64 = .ok (.iconst 0, 1) := by decide +kernel
theorem dX10_take_65 : decode cX10_take 65 = .ok (.iconst 1, 1) := by decide +kernel
theorem dX10_take_66 : decode cX10_take 66 = .ok (.aload_n 0, 1) := by decide +kernel
theorem dX10_take_67 : decode cX10_take 67 = .ok (.getfield 18, 3) := by decide +kernel
theorem dX10_take_70 : decode cX10_take 70 = .ok (.getfield 48, 3) := by decide +kernel
theorem dX10_take_73 : decode cX10_take 73 = .ok (.iload_n 2, 1) := by decide +kernel
theorem dX10_take_74 : decode cX10_take 74 = .ok (.iaload, 1) := by decide +kernel
theorem dX10_take_75 : decode cX10_take 75 = .ok (.ishl, 1) := by decide +kernel
theorem dX10_take_76 : decode cX10_take 76 = .ok (.invokevirtual 38, 3) := by decide +kernel
theorem dX10_take_79 : decode cX10_take 79 = .ok (.iinc 2 1, 3) := by decide +kernel
theorem dX10_take_82 : decode cX10_take 82 = .ok (.goto (-39), 3) := by decide +kernel
theorem dX10_take_85 : decode cX10_take 85 = .ok (.iconst 0, 1) := by decide +kernel
theorem dX10_take_86 : decode cX10_take 86 = .ok (.istore_n 2, 1) := by decide +kernel
theorem dX10_take_87 : decode cX10_take 87 = .ok (.iload_n 2, 1) := by decide +kernel
theorem dX10_take_88 : decode cX10_take 88 = .ok (.aload_n 0, 1) := by decide +kernel
theorem dX10_take_89 : decode cX10_take 89 = .ok (.getfield 18, 3) := by decide +kernel
theorem dX10_take_92 : decode cX10_take 92 = .ok (.getfield 51, 3) := by decide +kernel
theorem dX10_take_95 : decode cX10_take 95 = .ok (.if_icmp .ge 78, 3) := by decide +kernel
theorem dX10_take_98 : decode cX10_take 98 = .ok (.iload_n 1, 1) := by decide +kernel
theorem dX10_take_99 : decode cX10_take 99 = .ok (.ifCond .eq 37, 3) := by decide +kernel
theorem dX10_take_102 : decode cX10_take 102 = .ok (.aload_n 0, 1) := by decide +kernel
theorem dX10_take_103 : decode cX10_take 103 = .ok (.aload_n 0, 1) := by decide +kernel
theorem dX10_take_104 : decode cX10_take 104 = .ok (.getfield 18, 3) := by decide +kernel
theorem dX10_take_107 : decode cX10_take 107 = .ok (.getfield 54, 3) := by decide +kernel
theorem dX10_take_110 : decode cX10_take 110 = .ok (.iload_n 2, 1) := by decide +kernel
theorem dX10_take_111 : decode cX10_take 111 = .ok (.iaload, 1) := by decide +kernel
theorem dX10_take_112 : decode cX10_take 112 = .ok (.aload_n 0, 1) := by decide +kernel
theorem dX10_take_113 : decode cX10_take 113 = .ok (.getfield 18, 3) := by decide +kernel
theorem dX10_take_116 : decode cX10_take 116 = .ok (.getfield 57, 3) := by decide +kernel
theorem dX10_take_119 : decode cX10_take 119 = .ok (.iload_n 2, 1) := by decide +kernel
theorem dX10_take_120 : decode cX10_take 120 = .ok (.iaload, 1) := by decide +kernel
theorem dX10_take_121 : decode cX10_take 121 = .ok (.aload_n 0, 1) := by decide +kernel
theorem dX10_take_122 : decode cX10_take 122 = .ok (.getfield 18, 3) := by decide +kernel
theorem dX10_take_125 : decode cX10_take 125 = .ok (.getfield 60, 3) := by decide +kernel
theorem dX10_take_128 : decode cX10_take 128 = .ok (.iload_n 2, 1) := by decide +kernel
theorem dX10_take_129 : decode cX10_take 129 = .ok (.iaload, 1) := by decide +kernel
theorem dX10_take_130 : decode cX10_take 130 = .ok (.invokevirtual 63, 3) := by decide +kernel
theorem dX10_take_133 : decode cX10_take 133 = .ok (.goto 34, 3) := by decide +kernel
theorem dX10_take_136 : decode cX10_take 136 = .ok (.aload_n 0, 1) := by decide +kernel
theorem dX10_take_137 : decode cX10_take 137 = .ok (.aload_n 0, 1) := by decide +kernel
theorem dX10_take_138 : decode cX10_take 138 = .ok (.getfield 18, 3) := by decide +kernel
theorem dX10_take_141 : decode cX10_take 141 = .ok (.getfield 54, 3) := by decide +kernel
theorem dX10_take_144 : decode cX10_take 144 = .ok (.iload_n 2, 1) := by decide +kernel
theorem dX10_take_145 : decode cX10_take 145 = .ok (.iaload, 1) := by decide +kernel
theorem dX10_take_146 : decode cX10_take 146 = .ok (.aload_n 0, 1) := by decide +kernel
theorem dX10_take_147 : decode cX10_take 147 = .ok (.getfield 18, 3) := by decide +kernel
theorem dX10_take_150 : decode cX10_take 150 = .ok (.getfield 57, 3) := by decide +kernel
theorem dX10_take_153 : decode cX10_take 153 = .ok (.iload_n 2, 1) := by decide +kernel
theorem dX10_take_154 : decode cX10_take 154 = .ok (.iaload, 1) := by decide +kernel
theorem dX10_take_155 : decode cX10_take 155 = .ok (.aload_n 0, 1) := by decide +kernel
theorem dX10_take_156 : decode cX10_take 156 = .ok (.getfield 18, 3) := by decide +kernel
theorem dX10_take_159 : decode cX10_take 159 = .ok (.getfield 60, 3) := by decide +kernel
theorem dX10_take_162 : decode cX10_take 162 = .ok (.iload_n 2, 1) := by decide +kernel
theorem dX10_take_163 : decode cX10_take 163 = .ok (.iaload, 1) := by decide +kernel
theorem dX10_take_164 : decode cX10_take 164 = .ok (.invokevirtual 38, 3) := by decide +kernel
theorem dX10_take_167 : decode cX10_take 167 = .ok (.iinc 2 1, 3) := by decide +kernel
theorem dX10_take_170 : decode cX10_take 170 = .ok (.goto (-83), 3) := by decide +kernel
theorem dX10_take_173 : decode cX10_take 173 = .ok (.return_, 1) := by decide +kernel
abbrev o_X10_take_q117 : Type := Int32 × (Nat → Int32) × (Nat → Int32)
def f_X10_take_q117_L87 (S : wd_W) (p1 : Int32) (r13 : (Int32) → (Int32) → (Nat → Int32) → (Nat → Int32) → (Option o_X10_take_q117)) (x9 : Int32) (x10 : Int32) (a11 : Nat → Int32) (a12 : Nat → Int32) : Option o_X10_take_q117 :=
if (S.1 1610) ≤ x9 then (
some (x10, a11, a12)) else (
lk (fun x14 a15 a16 =>
r13 (x9 + (1 : Int32)) x14 a15 a16) fun k167_17 =>
if p1 = 0 then (
gd (okx x9 3) <|
gd (okx x9 3) <|
gd (okx x9 3) <|
bd (f_X10_put_q117 (wd_o S [(11700, x10)] [] [(118, a11), (119, a12)] [] []) ((S.2.2.1 24) x9.toNatClampNeg) ((S.2.2.1 25) x9.toNatClampNeg) ((S.2.2.1 26) x9.toNatClampNeg)) fun o21 =>
k167_17 o21.1 o21.2.1 o21.2.2) else (
gd (okx x9 3) <|
gd (okx x9 3) <|
gd (okx x9 3) <|
bd (f_X10_putApart_q117 (wd_o S [(11700, x10)] [] [(118, a11), (119, a12)] [] []) ((S.2.2.1 24) x9.toNatClampNeg) ((S.2.2.1 25) x9.toNatClampNeg) ((S.2.2.1 26) x9.toNatClampNeg)) fun o25 =>
k167_17 o25.1 o25.2.1 o25.2.2))
def f_X10_take_q117_L43 (S : wd_W) (k85_8 : (Int32) → (Nat → Int32) → (Nat → Int32) → (Option o_X10_take_q117)) (r33 : (Int32) → (Int32) → (Nat → Int32) → (Nat → Int32) → (Option o_X10_take_q117)) (x29 : Int32) (x30 : Int32) (a31 : Nat → Int32) (a32 : Nat → Int32) : Option o_X10_take_q117 :=
if (S.1 1607) ≤ x29 then (
k85_8 x30 a31 a32) else (
gd (okx x29 10) <|
gd (okx x29 10) <|
bd (f_X10_put_q117 (wd_o S [(11700, x30)] [] [(118, a31), (119, a32)] [] []) ((S.2.2.1 23) x29.toNatClampNeg) (0 : Int32) ((1 : Int32) <<< (((S.2.2.1 22) x29.toNatClampNeg) &&& 31))) fun o36 =>
r33 (x29 + (1 : Int32)) o36.1 o36.2.1 o36.2.2)
def f_X10_take_q117_L7 (S : wd_W) (k41_4 : (Int32) → (Nat → Int32) → (Nat → Int32) → (Option o_X10_take_q117)) (r43 : (Int32) → (Int32) → (Nat → Int32) → (Nat → Int32) → (Option o_X10_take_q117)) (x39 : Int32) (x40 : Int32) (a41 : Nat → Int32) (a42 : Nat → Int32) : Option o_X10_take_q117 :=
if (S.1 1601) ≤ x39 then (
k41_4 x40 a41 a42) else (
gd (okx x39 13) <|
bd (f_X10_put_q117 (wd_o S [(11700, x40)] [] [(118, a41), (119, a42)] [] []) ((S.2.2.1 19) x39.toNatClampNeg) ((1 : Int32) <<< (x39 &&& 31)) (0 : Int32)) fun o45 =>
r43 (x39 + (1 : Int32)) o45.1 o45.2.1 o45.2.2)
def f_X10_take_q117 (S : wd_W) (p1 : Int32) : Option o_X10_take_q117 :=
lk (fun x1 a2 a3 =>
lk (fun x5 a6 a7 =>
it4 (f_X10_take_q117_L87 S p1) fuel (0 : Int32) x5 a6 a7) fun k85_8 =>
it4 (f_X10_take_q117_L43 S k85_8) fuel (0 : Int32) x1 a2 a3) fun k41_4 =>
it4 (f_X10_take_q117_L7 S k41_4) fuel (0 : Int32) (0 : Int32) (S.2.2.1 118) (S.2.2.1 119)
set_option maxRecDepth 100000 in
set_option maxHeartbeats 4000000 in
theorem c_X10_take_q117 (l : Launch) (D : va_G) (q g : Nat → Nat) (cy : Nat → ClassId) (z : (Nat → Nat) × (Nat → Nat) × Nat) (S : wd_W) (p1 : Int32) (o : o_X10_take_q117) (hf : f_X10_take_q117 S p1 = some o) : MX layX l yX10_take cX10_take 3 none ({ frames := 2, cells := 0, slots := 0, locals := 49 } : Room) D q g cy z [.ref (q 117), .int p1] S false (none) (wd_o S [(11700, o.1)] [] [(118, o.2.1), (119, o.2.2)] [] []) 0 0 := by
  refine mx_of (own := RX10) (lc := [(0, .ref (q 117)), (1, .int p1)]) (by decide +kernel) rfl layX_ok (Nat.le_of_ble_eq_true rfl) rfl ?_
  intro X hXl hXq hXz hC hQ
  subst hXl; subst hXq; subst hXz
  unfold f_X10_take_q117 at hf
  refine go_keys (L1 := [(11700, (S.1 11700))]) (L2 := []) (L3 := [(118, (S.2.2.1 118)), (119, (S.2.2.1 119))]) (L4 := []) (L5 := []) [11700] [] [118, 119] [] [] rfl rfl rfl rfl rfl ?_
  refine go_aload_n (pc' := 1) hC dX10_take_0 rfl rfl ?_
  refine go_iconst (pc' := 2) hC dX10_take_1 ki_0 rfl ?_
  refine go_puti (L1' := [(11700, (0 : Int32))]) (pc' := 5) hC 117 0 layX_117 rfl rfl inlX10 tyX10_ok nmX10 (Nat.le_of_ble_eq_true rfl) mw_637 rfl rfl rfl rfl dX10_take_2 rfl rfl rfl ?_
  refine go_iconst (pc' := 6) hC dX10_take_5 ki_0 rfl ?_
  refine go_istore_n (lc' := [(0, .ref (x_q X 117)), (1, .int p1), (2, .int (0 : Int32))]) (pc' := 7) hC dX10_take_6 (Nat.le_of_ble_eq_true rfl) rfl rfl ?_
  obtain ⟨k41_4, hk41_4, hf⟩ := lk_e3 hf
  have jk41_4 : ∀ (x1 : Int32) (a2 : Nat → Int32) (a3 : Nat → Int32), k41_4 x1 a2 a3 = some o → Go X layX S 41 [(0, .ref (x_q X 117)), (1, .int p1)] [] g [(11700, x1)] [] [(118, a2), (119, a3)] [] [] 0 0 := by
    intro x1 a2 a3 hf
    have hf := hk41_4 x1 a2 a3 hf
    clear hk41_4
    refine go_iconst (pc' := 42) hC dX10_take_41 ki_0 rfl ?_
    refine go_istore_n (lc' := [(0, .ref (x_q X 117)), (1, .int p1), (2, .int (0 : Int32))]) (pc' := 43) hC dX10_take_42 (Nat.le_of_ble_eq_true rfl) rfl rfl ?_
    obtain ⟨k85_8, hk85_8, hf⟩ := lk_e3 hf
    have jk85_8 : ∀ (x5 : Int32) (a6 : Nat → Int32) (a7 : Nat → Int32), k85_8 x5 a6 a7 = some o → Go X layX S 85 [(0, .ref (x_q X 117)), (1, .int p1)] [] g [(11700, x5)] [] [(118, a6), (119, a7)] [] [] 0 0 := by
      intro x5 a6 a7 hf
      have hf := hk85_8 x5 a6 a7 hf
      clear hk85_8
      refine go_iconst (pc' := 86) hC dX10_take_85 ki_0 rfl ?_
      refine go_istore_n (lc' := [(0, .ref (x_q X 117)), (1, .int p1), (2, .int (0 : Int32))]) (pc' := 87) hC dX10_take_86 (Nat.le_of_ble_eq_true rfl) rfl rfl ?_
      have l87_28 : ∀ (nn : Nat) (x9 : Int32) (x10 : Int32) (a11 : Nat → Int32) (a12 : Nat → Int32), it4 (f_X10_take_q117_L87 S p1) nn x9 x10 a11 a12 = some o → Go X layX S 87 [(0, .ref (x_q X 117)), (1, .int p1), (2, .int x9)] [] g [(11700, x10)] [] [(118, a11), (119, a12)] [] [] 0 0 := by
        intro nn
        induction nn with
        | zero =>
          intro x9 x10 a11 a12 hf
          exact none_no hf
        | succ nn ih =>
          intro x9 x10 a11 a12 hf
          have hf : f_X10_take_q117_L87 S p1 (it4 (f_X10_take_q117_L87 S p1) nn) x9 x10 a11 a12 = some o := hf
          generalize it4 (f_X10_take_q117_L87 S p1) nn = r13 at ih hf
          unfold f_X10_take_q117_L87 at hf
          refine go_iload_n (pc' := 88) hC dX10_take_87 rfl rfl ?_
          refine go_aload_n (pc' := 89) hC dX10_take_88 rfl rfl ?_
          refine go_getq (pc' := 92) hC 117 3 layX_117 rfl rfl inlX10 (Nat.le_of_ble_eq_true rfl) mw_122 rfl dX10_take_89 rfl ?_
          refine go_geti (v := (S.1 1610)) (pc' := 95) hC 16 10 layX_16 rfl rfl inlX2 (Nat.le_of_ble_eq_true rfl) mw_643 rfl dX10_take_92 rfl rfl ?_
          refine go_icmp_ge (tgt := 173) (pc' := 98) hC dX10_take_95 (by decide) rfl (fun h27 => ?_) (fun h27 => ?_)
          · have hf := ite_t h27 hf
            obtain rfl := Option.some.inj hf
            exact go_vret hC hQ dX10_take_173 rfl rfl rfl (fun _ => rfl) rfl rfl
          · have hf := ite_f h27 hf
            refine go_iload_n (pc' := 99) hC dX10_take_98 rfl rfl ?_
            obtain ⟨k167_17, hk167_17, hf⟩ := lk_e3 hf
            have jk167_17 : ∀ (x14 : Int32) (a15 : Nat → Int32) (a16 : Nat → Int32), k167_17 x14 a15 a16 = some o → Go X layX S 167 [(0, .ref (x_q X 117)), (1, .int p1), (2, .int x9)] [] g [(11700, x14)] [] [(118, a15), (119, a16)] [] [] 0 0 := by
              intro x14 a15 a16 hf
              have hf := hk167_17 x14 a15 a16 hf
              clear hk167_17
              refine go_iinc (lc' := [(0, .ref (x_q X 117)), (1, .int p1), (2, .int (x9 + (1 : Int32)))]) (pc' := 170) hC dX10_take_167 rfl ki_1 (Nat.le_of_ble_eq_true rfl) rfl rfl ?_
              refine go_goto (tgt := 87) hC dX10_take_170 (by decide) ?_
              exact ih (x9 + (1 : Int32)) x14 a15 a16 hf
            clear hk167_17
            refine go_if_eq (tgt := 136) (pc' := 102) hC dX10_take_99 (by decide) rfl (fun h26 => ?_) (fun h26 => ?_)
            · have hf := ite_t h26 hf
              refine go_aload_n (pc' := 137) hC dX10_take_136 rfl rfl ?_
              refine go_aload_n (pc' := 138) hC dX10_take_137 rfl rfl ?_
              refine go_getq (pc' := 141) hC 117 3 layX_117 rfl rfl inlX10 (Nat.le_of_ble_eq_true rfl) mw_122 rfl dX10_take_138 rfl ?_
              refine go_getq (pc' := 144) hC 16 11 layX_16 rfl rfl inlX2 (Nat.le_of_ble_eq_true rfl) mw_644 rfl dX10_take_141 rfl ?_
              refine go_iload_n (pc' := 145) hC dX10_take_144 rfl rfl ?_
              obtain ⟨h18, hf⟩ := gd_e hf
              refine go_iald (f := (S.2.2.1 24)) (pc' := 146) hC 24 layX_24 rfl rfl dX10_take_145 (okx_in h18) rfl ?_
              refine go_aload_n (pc' := 147) hC dX10_take_146 rfl rfl ?_
              refine go_getq (pc' := 150) hC 117 3 layX_117 rfl rfl inlX10 (Nat.le_of_ble_eq_true rfl) mw_122 rfl dX10_take_147 rfl ?_
              refine go_getq (pc' := 153) hC 16 12 layX_16 rfl rfl inlX2 (Nat.le_of_ble_eq_true rfl) mw_645 rfl dX10_take_150 rfl ?_
              refine go_iload_n (pc' := 154) hC dX10_take_153 rfl rfl ?_
              obtain ⟨h19, hf⟩ := gd_e hf
              refine go_iald (f := (S.2.2.1 25)) (pc' := 155) hC 25 layX_25 rfl rfl dX10_take_154 (okx_in h19) rfl ?_
              refine go_aload_n (pc' := 156) hC dX10_take_155 rfl rfl ?_
              refine go_getq (pc' := 159) hC 117 3 layX_117 rfl rfl inlX10 (Nat.le_of_ble_eq_true rfl) mw_122 rfl dX10_take_156 rfl ?_
              refine go_getq (pc' := 162) hC 16 13 layX_16 rfl rfl inlX2 (Nat.le_of_ble_eq_true rfl) mw_646 rfl dX10_take_159 rfl ?_
              refine go_iload_n (pc' := 163) hC dX10_take_162 rfl rfl ?_
              obtain ⟨h20, hf⟩ := gd_e hf
              refine go_iald (f := (S.2.2.1 26)) (pc' := 164) hC 26 layX_26 rfl rfl dX10_take_163 (okx_in h20) rfl ?_
              obtain ⟨o21, ho21, hf⟩ := bd_e hf
              refine go_callV1 (pc' := 167) (As := [.int ((S.2.2.1 24) x9.toNatClampNeg), .int ((S.2.2.1 25) x9.toNatClampNeg), .int ((S.2.2.1 26) x9.toNatClampNeg)]) (st := []) (st' := []) (L1' := [(11700, o21.1)]) (L2' := []) (L3' := [(118, o21.2.1), (119, o21.2.2)]) (L4' := []) (L5' := []) (cells' := 0) (slots' := 0)  (b := 117) hC dX10_take_164 ⟨mw_647, mw_650, mw_103, yd_yX10_put, yp_yX10_put, Nat.le_of_ble_eq_true rfl, Nat.le_of_ble_eq_true rfl, (Nat.le_of_ble_eq_true rfl), (Nat.le_of_ble_eq_true rfl)⟩ mw_648 mw_649 layX_117 rfl rfl rfl (Nat.le_of_ble_eq_true rfl) (c_X10_put_q117 (x_l X) (x_D X) (x_q X) g (x_cy X) (x_z X) _ ((S.2.2.1 24) x9.toNatClampNeg) ((S.2.2.1 25) x9.toNatClampNeg) ((S.2.2.1 26) x9.toNatClampNeg) o21 ho21) rfl rfl rfl rfl rfl rfl rfl rfl rfl rfl rfl rfl rfl rfl ?_
              exact jk167_17 o21.1 o21.2.1 o21.2.2 hf
            · have hf := ite_f h26 hf
              refine go_aload_n (pc' := 103) hC dX10_take_102 rfl rfl ?_
              refine go_aload_n (pc' := 104) hC dX10_take_103 rfl rfl ?_
              refine go_getq (pc' := 107) hC 117 3 layX_117 rfl rfl inlX10 (Nat.le_of_ble_eq_true rfl) mw_122 rfl dX10_take_104 rfl ?_
              refine go_getq (pc' := 110) hC 16 11 layX_16 rfl rfl inlX2 (Nat.le_of_ble_eq_true rfl) mw_644 rfl dX10_take_107 rfl ?_
              refine go_iload_n (pc' := 111) hC dX10_take_110 rfl rfl ?_
              obtain ⟨h22, hf⟩ := gd_e hf
              refine go_iald (f := (S.2.2.1 24)) (pc' := 112) hC 24 layX_24 rfl rfl dX10_take_111 (okx_in h22) rfl ?_
              refine go_aload_n (pc' := 113) hC dX10_take_112 rfl rfl ?_
              refine go_getq (pc' := 116) hC 117 3 layX_117 rfl rfl inlX10 (Nat.le_of_ble_eq_true rfl) mw_122 rfl dX10_take_113 rfl ?_
              refine go_getq (pc' := 119) hC 16 12 layX_16 rfl rfl inlX2 (Nat.le_of_ble_eq_true rfl) mw_645 rfl dX10_take_116 rfl ?_
              refine go_iload_n (pc' := 120) hC dX10_take_119 rfl rfl ?_
              obtain ⟨h23, hf⟩ := gd_e hf
              refine go_iald (f := (S.2.2.1 25)) (pc' := 121) hC 25 layX_25 rfl rfl dX10_take_120 (okx_in h23) rfl ?_
              refine go_aload_n (pc' := 122) hC dX10_take_121 rfl rfl ?_
              refine go_getq (pc' := 125) hC 117 3 layX_117 rfl rfl inlX10 (Nat.le_of_ble_eq_true rfl) mw_122 rfl dX10_take_122 rfl ?_
              refine go_getq (pc' := 128) hC 16 13 layX_16 rfl rfl inlX2 (Nat.le_of_ble_eq_true rfl) mw_646 rfl dX10_take_125 rfl ?_
              refine go_iload_n (pc' := 129) hC dX10_take_128 rfl rfl ?_
              obtain ⟨h24, hf⟩ := gd_e hf
              refine go_iald (f := (S.2.2.1 26)) (pc' := 130) hC 26 layX_26 rfl rfl dX10_take_129 (okx_in h24) rfl ?_
              obtain ⟨o25, ho25, hf⟩ := bd_e hf
              refine go_callV1 (pc' := 133) (As := [.int ((S.2.2.1 24) x9.toNatClampNeg), .int ((S.2.2.1 25) x9.toNatClampNeg), .int ((S.2.2.1 26) x9.toNatClampNeg)]) (st := []) (st' := []) (L1' := [(11700, o25.1)]) (L2' := []) (L3' := [(118, o25.2.1), (119, o25.2.2)]) (L4' := []) (L5' := []) (cells' := 0) (slots' := 0)  (b := 117) hC dX10_take_130 ⟨mw_653, mw_656, mw_103, yd_yX10_putApart, yp_yX10_putApart, Nat.le_of_ble_eq_true rfl, Nat.le_of_ble_eq_true rfl, (Nat.le_of_ble_eq_true rfl), (Nat.le_of_ble_eq_true rfl)⟩ mw_654 mw_655 layX_117 rfl rfl rfl (Nat.le_of_ble_eq_true rfl) (c_X10_putApart_q117 (x_l X) (x_D X) (x_q X) g (x_cy X) (x_z X) _ ((S.2.2.1 24) x9.toNatClampNeg) ((S.2.2.1 25) x9.toNatClampNeg) ((S.2.2.1 26) x9.toNatClampNeg) o25 ho25) rfl rfl rfl rfl rfl rfl rfl rfl rfl rfl rfl rfl rfl rfl ?_
              refine go_goto (tgt := 167) hC dX10_take_133 (by decide) ?_
              exact jk167_17 o25.1 o25.2.1 o25.2.2 hf
      exact l87_28 fuel (0 : Int32) x5 a6 a7 hf
    clear hk85_8
    have l43_38 : ∀ (nn : Nat) (x29 : Int32) (x30 : Int32) (a31 : Nat → Int32) (a32 : Nat → Int32), it4 (f_X10_take_q117_L43 S k85_8) nn x29 x30 a31 a32 = some o → Go X layX S 43 [(0, .ref (x_q X 117)), (1, .int p1), (2, .int x29)] [] g [(11700, x30)] [] [(118, a31), (119, a32)] [] [] 0 0 := by
      intro nn
      induction nn with
      | zero =>
        intro x29 x30 a31 a32 hf
        exact none_no hf
      | succ nn ih =>
        intro x29 x30 a31 a32 hf
        have hf : f_X10_take_q117_L43 S k85_8 (it4 (f_X10_take_q117_L43 S k85_8) nn) x29 x30 a31 a32 = some o := hf
        generalize it4 (f_X10_take_q117_L43 S k85_8) nn = r33 at ih hf
        unfold f_X10_take_q117_L43 at hf
        refine go_iload_n (pc' := 44) hC dX10_take_43 rfl rfl ?_
        refine go_aload_n (pc' := 45) hC dX10_take_44 rfl rfl ?_
        refine go_getq (pc' := 48) hC 117 3 layX_117 rfl rfl inlX10 (Nat.le_of_ble_eq_true rfl) mw_122 rfl dX10_take_45 rfl ?_
        refine go_geti (v := (S.1 1607)) (pc' := 51) hC 16 7 layX_16 rfl rfl inlX2 (Nat.le_of_ble_eq_true rfl) mw_640 rfl dX10_take_48 rfl rfl ?_
        refine go_icmp_ge (tgt := 85) (pc' := 54) hC dX10_take_51 (by decide) rfl (fun h37 => ?_) (fun h37 => ?_)
        · have hf := ite_t h37 hf
          refine go_sub [0, 1] rfl ?_
          exact jk85_8 x30 a31 a32 hf
        · have hf := ite_f h37 hf
          refine go_aload_n (pc' := 55) hC dX10_take_54 rfl rfl ?_
          refine go_aload_n (pc' := 56) hC dX10_take_55 rfl rfl ?_
          refine go_getq (pc' := 59) hC 117 3 layX_117 rfl rfl inlX10 (Nat.le_of_ble_eq_true rfl) mw_122 rfl dX10_take_56 rfl ?_
          refine go_getq (pc' := 62) hC 16 9 layX_16 rfl rfl inlX2 (Nat.le_of_ble_eq_true rfl) mw_641 rfl dX10_take_59 rfl ?_
          refine go_iload_n (pc' := 63) hC dX10_take_62 rfl rfl ?_
          obtain ⟨h34, hf⟩ := gd_e hf
          refine go_iald (f := (S.2.2.1 23)) (pc' := 64) hC 23 layX_23 rfl rfl dX10_take_63 (okx_in h34) rfl ?_
          refine go_iconst (pc' := 65) hC dX10_take_64 ki_0 rfl ?_
          refine go_iconst (pc' := 66) hC dX10_take_65 ki_1 rfl ?_
          refine go_aload_n (pc' := 67) hC dX10_take_66 rfl rfl ?_
          refine go_getq (pc' := 70) hC 117 3 layX_117 rfl rfl inlX10 (Nat.le_of_ble_eq_true rfl) mw_122 rfl dX10_take_67 rfl ?_
          refine go_getq (pc' := 73) hC 16 8 layX_16 rfl rfl inlX2 (Nat.le_of_ble_eq_true rfl) mw_642 rfl dX10_take_70 rfl ?_
          refine go_iload_n (pc' := 74) hC dX10_take_73 rfl rfl ?_
          obtain ⟨h35, hf⟩ := gd_e hf
          refine go_iald (f := (S.2.2.1 22)) (pc' := 75) hC 22 layX_22 rfl rfl dX10_take_74 (okx_in h35) rfl ?_
          refine go_ishl (pc' := 76) hC dX10_take_75 rfl ?_
          obtain ⟨o36, ho36, hf⟩ := bd_e hf
          refine go_callV1 (pc' := 79) (As := [.int ((S.2.2.1 23) x29.toNatClampNeg), .int (0 : Int32), .int ((1 : Int32) <<< (((S.2.2.1 22) x29.toNatClampNeg) &&& 31))]) (st := []) (st' := []) (L1' := [(11700, o36.1)]) (L2' := []) (L3' := [(118, o36.2.1), (119, o36.2.2)]) (L4' := []) (L5' := []) (cells' := 0) (slots' := 0)  (b := 117) hC dX10_take_76 ⟨mw_647, mw_650, mw_103, yd_yX10_put, yp_yX10_put, Nat.le_of_ble_eq_true rfl, Nat.le_of_ble_eq_true rfl, (Nat.le_of_ble_eq_true rfl), (Nat.le_of_ble_eq_true rfl)⟩ mw_648 mw_649 layX_117 rfl rfl rfl (Nat.le_of_ble_eq_true rfl) (c_X10_put_q117 (x_l X) (x_D X) (x_q X) g (x_cy X) (x_z X) _ ((S.2.2.1 23) x29.toNatClampNeg) (0 : Int32) ((1 : Int32) <<< (((S.2.2.1 22) x29.toNatClampNeg) &&& 31)) o36 ho36) rfl rfl rfl rfl rfl rfl rfl rfl rfl rfl rfl rfl rfl rfl ?_
          refine go_iinc (lc' := [(0, .ref (x_q X 117)), (1, .int p1), (2, .int (x29 + (1 : Int32)))]) (pc' := 82) hC dX10_take_79 rfl ki_1 (Nat.le_of_ble_eq_true rfl) rfl rfl ?_
          refine go_goto (tgt := 43) hC dX10_take_82 (by decide) ?_
          exact ih (x29 + (1 : Int32)) o36.1 o36.2.1 o36.2.2 hf
    exact l43_38 fuel (0 : Int32) x1 a2 a3 hf
  clear hk41_4
  have l7_47 : ∀ (nn : Nat) (x39 : Int32) (x40 : Int32) (a41 : Nat → Int32) (a42 : Nat → Int32), it4 (f_X10_take_q117_L7 S k41_4) nn x39 x40 a41 a42 = some o → Go X layX S 7 [(0, .ref (x_q X 117)), (1, .int p1), (2, .int x39)] [] g [(11700, x40)] [] [(118, a41), (119, a42)] [] [] 0 0 := by
    intro nn
    induction nn with
    | zero =>
      intro x39 x40 a41 a42 hf
      exact none_no hf
    | succ nn ih =>
      intro x39 x40 a41 a42 hf
      have hf : f_X10_take_q117_L7 S k41_4 (it4 (f_X10_take_q117_L7 S k41_4) nn) x39 x40 a41 a42 = some o := hf
      generalize it4 (f_X10_take_q117_L7 S k41_4) nn = r43 at ih hf
      unfold f_X10_take_q117_L7 at hf
      refine go_iload_n (pc' := 8) hC dX10_take_7 rfl rfl ?_
      refine go_aload_n (pc' := 9) hC dX10_take_8 rfl rfl ?_
      refine go_getq (pc' := 12) hC 117 3 layX_117 rfl rfl inlX10 (Nat.le_of_ble_eq_true rfl) mw_122 rfl dX10_take_9 rfl ?_
      refine go_geti (v := (S.1 1601)) (pc' := 15) hC 16 1 layX_16 rfl rfl inlX2 (Nat.le_of_ble_eq_true rfl) mw_638 rfl dX10_take_12 rfl rfl ?_
      refine go_icmp_ge (tgt := 41) (pc' := 18) hC dX10_take_15 (by decide) rfl (fun h46 => ?_) (fun h46 => ?_)
      · have hf := ite_t h46 hf
        refine go_sub [0, 1] rfl ?_
        exact jk41_4 x40 a41 a42 hf
      · have hf := ite_f h46 hf
        refine go_aload_n (pc' := 19) hC dX10_take_18 rfl rfl ?_
        refine go_aload_n (pc' := 20) hC dX10_take_19 rfl rfl ?_
        refine go_getq (pc' := 23) hC 117 3 layX_117 rfl rfl inlX10 (Nat.le_of_ble_eq_true rfl) mw_122 rfl dX10_take_20 rfl ?_
        refine go_getq (pc' := 26) hC 16 4 layX_16 rfl rfl inlX2 (Nat.le_of_ble_eq_true rfl) mw_639 rfl dX10_take_23 rfl ?_
        refine go_iload_n (pc' := 27) hC dX10_take_26 rfl rfl ?_
        obtain ⟨h44, hf⟩ := gd_e hf
        refine go_iald (f := (S.2.2.1 19)) (pc' := 28) hC 19 layX_19 rfl rfl dX10_take_27 (okx_in h44) rfl ?_
        refine go_iconst (pc' := 29) hC dX10_take_28 ki_1 rfl ?_
        refine go_iload_n (pc' := 30) hC dX10_take_29 rfl rfl ?_
        refine go_ishl (pc' := 31) hC dX10_take_30 rfl ?_
        refine go_iconst (pc' := 32) hC dX10_take_31 ki_0 rfl ?_
        obtain ⟨o45, ho45, hf⟩ := bd_e hf
        refine go_callV1 (pc' := 35) (As := [.int ((S.2.2.1 19) x39.toNatClampNeg), .int ((1 : Int32) <<< (x39 &&& 31)), .int (0 : Int32)]) (st := []) (st' := []) (L1' := [(11700, o45.1)]) (L2' := []) (L3' := [(118, o45.2.1), (119, o45.2.2)]) (L4' := []) (L5' := []) (cells' := 0) (slots' := 0)  (b := 117) hC dX10_take_32 ⟨mw_647, mw_650, mw_103, yd_yX10_put, yp_yX10_put, Nat.le_of_ble_eq_true rfl, Nat.le_of_ble_eq_true rfl, (Nat.le_of_ble_eq_true rfl), (Nat.le_of_ble_eq_true rfl)⟩ mw_648 mw_649 layX_117 rfl rfl rfl (Nat.le_of_ble_eq_true rfl) (c_X10_put_q117 (x_l X) (x_D X) (x_q X) g (x_cy X) (x_z X) _ ((S.2.2.1 19) x39.toNatClampNeg) ((1 : Int32) <<< (x39 &&& 31)) (0 : Int32) o45 ho45) rfl rfl rfl rfl rfl rfl rfl rfl rfl rfl rfl rfl rfl rfl ?_
        refine go_iinc (lc' := [(0, .ref (x_q X 117)), (1, .int p1), (2, .int (x39 + (1 : Int32)))]) (pc' := 38) hC dX10_take_35 rfl ki_1 (Nat.le_of_ble_eq_true rfl) rfl rfl ?_
        refine go_goto (tgt := 7) hC dX10_take_38 (by decide) ?_
        exact ih (x39 + (1 : Int32)) o45.1 o45.2.1 o45.2.2 hf
  exact l7_47 fuel (0 : Int32) (0 : Int32) (S.2.2.1 118) (S.2.2.1 119) hf
theorem dX8_makeRoom_0 : decode cX8_makeRoom 0 = .ok (.aload_n 0, 1) := by decide +kernel
theorem dX8_makeRoom_1 : decode cX8_makeRoom 1 = .ok (.getfield 9, 3) := by decide +kernel
theorem dX8_makeRoom_4 : decode cX8_makeRoom 4 = .ok (.arraylength, 1) := by decide +kernel
theorem dX8_makeRoom_5 : decode cX8_makeRoom 5 = .ok (.iload_n 1, 1) := by decide +kernel
theorem dX8_makeRoom_6 : decode cX8_makeRoom 6 = .ok (.if_icmp .ge 17, 3) := by decide +kernel
theorem dX8_makeRoom_9 : decode cX8_makeRoom 9 = .ok (.aload_n 0, 1) := by decide +kernel
theorem dX8_makeRoom_10 : decode cX8_makeRoom 10 = .ok (.iload_n 1, 1) := by decide +kernel
theorem dX8_makeRoom_11 : decode cX8_makeRoom 11 = .ok (.newarray .long, 2) := by decide +kernel
theorem dX8_makeRoom_13 : decode cX8_makeRoom 13 = .ok (.putfield 9, 3) := by decide +kernel
theorem dX8_makeRoom_16 : decode cX8_makeRoom 16 = .ok (.aload_n 0, 1) := by decide +kernel
theorem dX8_makeRoom_17 : decode cX8_makeRoom 17 = .ok (.iload_n 1, 1) := by decide +kernel
theorem dX8_makeRoom_18 : decode cX8_makeRoom 18 = .ok (.newarray .int, 2) := by decide +kernel
theorem dX8_makeRoom_20 : decode cX8_makeRoom 20 = .ok (.putfield 18, 3) := by decide +kernel
theorem dX8_makeRoom_23 : decode cX8_makeRoom 23 = .ok (.aload_n 0, 1) := by decide +kernel
theorem dX8_makeRoom_24 : decode cX8_makeRoom 24 = .ok (.getfield 22, 3) := by decide +kernel
theorem dX8_makeRoom_27 : decode cX8_makeRoom 27 = .ok (.arraylength, 1) := by decide +kernel
theorem dX8_makeRoom_28 : decode cX8_makeRoom 28 = .ok (.iload_n 2, 1) := by decide +kernel
theorem dX8_makeRoom_29 : decode cX8_makeRoom 29 = .ok (.if_icmp .ge 17, 3) := by decide +kernel
theorem dX8_makeRoom_32 : decode cX8_makeRoom 32 = .ok (.aload_n 0, 1) := by decide +kernel
theorem dX8_makeRoom_33 : decode cX8_makeRoom 33 = .ok (.iload_n 2, 1) := by decide +kernel
theorem dX8_makeRoom_34 : decode cX8_makeRoom 34 = .ok (.newarray .byte, 2) := by decide +kernel
theorem dX8_makeRoom_36 : decode cX8_makeRoom 36 = .ok (.putfield 22, 3) := by decide +kernel
theorem dX8_makeRoom_39 : decode cX8_makeRoom 39 = .ok (.aload_n 0, 1) := by decide +kernel
theorem dX8_makeRoom_40 : decode cX8_makeRoom 40 = .ok (.iload_n 2, 1) := by decide +kernel
theorem dX8_makeRoom_41 : decode cX8_makeRoom 41 = .ok (.newarray .long, 2) := by decide +kernel
theorem dX8_makeRoom_43 : decode cX8_makeRoom 43 = .ok (.putfield 15, 3) := by decide +kernel
theorem dX8_makeRoom_46 : decode cX8_makeRoom 46 = .ok (.return_, 1) := by decide +kernel
abbrev o_X8_makeRoom_q106 : Type := (Nat → Int32) × (Nat → Int32) × (Nat → Int64) × (Nat → Int64) × Nat × Nat × Nat × Nat × Nat × Nat
def f_X8_makeRoom_q106 (S : wd_W) (p1 : Int32) (p2 : Int32) : Option o_X8_makeRoom_q106 :=
lk (fun a1 a2 n3 n4 n5 n6 =>
if p2 ≤ (Int32.ofNat (S.2.2.2.2 110)) then (
some (a1, (S.2.2.1 110), a2, (S.2.2.2.1 108), n3, (S.2.2.2.2 108), n4, (S.2.2.2.2 110), n5, n6)) else (
gd (okg p2 n5 n6 4 80000) <|
gd (okg p2 (n5 + 1) (n6 + (p2).toNatClampNeg) 4 80000) <|
some (a1, (fun _ => 0), a2, (fun _ => 0), n3, (p2).toNatClampNeg, n4, (p2).toNatClampNeg, n5 + 1 + 1, n6 + (p2).toNatClampNeg + (p2).toNatClampNeg))) fun k23_7 =>
if p1 ≤ (Int32.ofNat (S.2.2.2.2 107)) then (
k23_7 (S.2.2.1 109) (S.2.2.2.1 107) (S.2.2.2.2 107) (S.2.2.2.2 109) 0 0) else (
gd (okg p1 0 0 4 80000) <|
gd (okg p1 (0 + 1) (0 + (p1).toNatClampNeg) 4 80000) <|
k23_7 (fun _ => 0) (fun _ => 0) ((p1).toNatClampNeg) ((p1).toNatClampNeg) (0 + 1 + 1) (0 + (p1).toNatClampNeg + (p1).toNatClampNeg))
set_option maxRecDepth 100000 in
set_option maxHeartbeats 4000000 in
theorem c_X8_makeRoom_q106 (l : Launch) (D : va_G) (q g : Nat → Nat) (cy : Nat → ClassId) (z : (Nat → Nat) × (Nat → Nat) × Nat) (S : wd_W) (p1 : Int32) (p2 : Int32) (o : o_X8_makeRoom_q106) (hf : f_X8_makeRoom_q106 S p1 p2 = some o) : MX layX l yX8_makeRoom cX8_makeRoom 3 none ({ frames := 0, cells := 4, slots := 80000, locals := 0 } : Room) D q g cy z [.ref (q 106), .int p1, .int p2] S true (none) (wd_o S [] [] [(109, o.1), (110, o.2.1)] [(107, o.2.2.1), (108, o.2.2.2.1)] [(107, o.2.2.2.2.1), (108, o.2.2.2.2.2.1), (109, o.2.2.2.2.2.2.1), (110, o.2.2.2.2.2.2.2.1)]) o.2.2.2.2.2.2.2.2.1 o.2.2.2.2.2.2.2.2.2 := by
  refine mx_of (own := RX8) (lc := [(0, .ref (q 106)), (1, .int p1), (2, .int p2)]) (by decide +kernel) rfl layX_ok (Nat.le_of_ble_eq_true rfl) rfl ?_
  intro X hXl hXq hXz hC hQ
  subst hXl; subst hXq; subst hXz
  unfold f_X8_makeRoom_q106 at hf
  refine go_keys (L1 := []) (L2 := []) (L3 := [(109, (S.2.2.1 109)), (110, (S.2.2.1 110))]) (L4 := [(107, (S.2.2.2.1 107)), (108, (S.2.2.2.1 108))]) (L5 := [(107, (S.2.2.2.2 107)), (108, (S.2.2.2.2 108)), (109, (S.2.2.2.2 109)), (110, (S.2.2.2.2 110))]) [] [] [109, 110] [107, 108] [107, 108, 109, 110] rfl rfl rfl rfl rfl ?_
  refine go_aload_n (pc' := 1) hC dX8_makeRoom_0 rfl rfl ?_
  refine go_getg (pc' := 4) hC 106 4 layX_106 rfl rfl inlX8 (Nat.le_of_ble_eq_true rfl) mw_92 rfl dX8_makeRoom_1 rfl ?_
  refine go_aleng (v := Int32.ofNat (S.2.2.2.2 107)) (pc' := 5) hC 107 layX_107 (Nat.le_of_ble_eq_true rfl) rfl rfl dX8_makeRoom_4 rfl ?_
  refine go_iload_n (pc' := 6) hC dX8_makeRoom_5 rfl rfl ?_
  obtain ⟨k23_7, hk23_7, hf⟩ := lk_e6 hf
  have jk23_7 : ∀ (a1 : Nat → Int32) (a2 : Nat → Int64) (n3 : Nat) (n4 : Nat) (n5 : Nat) (n6 : Nat) (g : Nat → Nat), k23_7 a1 a2 n3 n4 n5 n6 = some o → Go X layX S 23 [(0, .ref (x_q X 106)), (2, .int p2)] [] g [] [] [(109, a1), (110, (S.2.2.1 110))] [(107, a2), (108, (S.2.2.2.1 108))] [(107, n3), (108, (S.2.2.2.2 108)), (109, n4), (110, (S.2.2.2.2 110))] n5 n6 := by
    intro a1 a2 n3 n4 n5 n6 g hf
    have hf := hk23_7 a1 a2 n3 n4 n5 n6 hf
    clear hk23_7
    refine go_aload_n (pc' := 24) hC dX8_makeRoom_23 rfl rfl ?_
    refine go_getg (pc' := 27) hC 106 7 layX_106 rfl rfl inlX8 (Nat.le_of_ble_eq_true rfl) mw_96 rfl dX8_makeRoom_24 rfl ?_
    refine go_aleng (v := Int32.ofNat (S.2.2.2.2 110)) (pc' := 28) hC 110 layX_110 (Nat.le_of_ble_eq_true rfl) rfl rfl dX8_makeRoom_27 rfl ?_
    refine go_iload_n (pc' := 29) hC dX8_makeRoom_28 rfl rfl ?_
    refine go_icmp_ge (tgt := 46) (pc' := 32) hC dX8_makeRoom_29 (by decide) rfl (fun h10 => ?_) (fun h10 => ?_)
    · have hf := ite_t h10 hf
      obtain rfl := Option.some.inj hf
      exact go_vret hC hQ dX8_makeRoom_46 rfl rfl rfl (fun h => nomatch h) rfl rfl
    · have hf := ite_f h10 hf
      refine go_aload_n (pc' := 33) hC dX8_makeRoom_32 rfl rfl ?_
      refine go_iload_n (pc' := 34) hC dX8_makeRoom_33 rfl rfl ?_
      obtain ⟨h8, hf⟩ := gd_e hf
      refine go_growA (L3' := [(109, a1), (110, (fun _ => 0))]) (L5' := [(107, n3), (108, (S.2.2.2.2 108)), (109, n4), (110, (p2).toNatClampNeg)]) (cells' := n5 + 1) (slots' := n6 + (p2).toNatClampNeg) (pc' := 39) (atype := .byte) hC 106 7 110 layX_106 rfl layX_110 (Or.inr (Or.inl ⟨rfl, rfl⟩)) (by decide +kernel) rfl inlX8 tyX8_ok nmX8 (Nat.le_of_ble_eq_true rfl) mw_96 rfl rfl (fun _ => rfl) (fun _ => rfl) mw_95 rfl dX8_makeRoom_34 dX8_makeRoom_36 rfl h8 rfl rfl rfl rfl rfl rfl rfl rfl (fun g => ?_)
      refine go_aload_n (pc' := 40) hC dX8_makeRoom_39 rfl rfl ?_
      refine go_iload_n (pc' := 41) hC dX8_makeRoom_40 rfl rfl ?_
      obtain ⟨h9, hf⟩ := gd_e hf
      refine go_growB (L4' := [(107, a2), (108, (fun _ => 0))]) (L5' := [(107, n3), (108, (p2).toNatClampNeg), (109, n4), (110, (p2).toNatClampNeg)]) (cells' := n5 + 1 + 1) (slots' := n6 + (p2).toNatClampNeg + (p2).toNatClampNeg) (pc' := 46) (atype := .long) hC 106 5 108 layX_106 rfl layX_108 (by decide +kernel) rfl inlX8 tyX8_ok nmX8 (Nat.le_of_ble_eq_true rfl) mw_93 rfl rfl (fun _ => rfl) (fun _ => rfl) mw_91 rfl dX8_makeRoom_41 dX8_makeRoom_43 rfl h9 rfl rfl rfl rfl rfl rfl rfl rfl (fun g => ?_)
      obtain rfl := Option.some.inj hf
      exact go_vret hC hQ dX8_makeRoom_46 rfl rfl rfl (fun h => nomatch h) rfl rfl
  clear hk23_7
  refine go_icmp_ge (tgt := 23) (pc' := 9) hC dX8_makeRoom_6 (by decide) rfl (fun h13 => ?_) (fun h13 => ?_)
  · have hf := ite_t h13 hf
    refine go_sub [0, 2] rfl ?_
    exact jk23_7 (S.2.2.1 109) (S.2.2.2.1 107) (S.2.2.2.2 107) (S.2.2.2.2 109) 0 0 g hf
  · have hf := ite_f h13 hf
    refine go_aload_n (pc' := 10) hC dX8_makeRoom_9 rfl rfl ?_
    refine go_iload_n (pc' := 11) hC dX8_makeRoom_10 rfl rfl ?_
    obtain ⟨h11, hf⟩ := gd_e hf
    refine go_growB (L4' := [(107, (fun _ => 0)), (108, (S.2.2.2.1 108))]) (L5' := [(107, (p1).toNatClampNeg), (108, (S.2.2.2.2 108)), (109, (S.2.2.2.2 109)), (110, (S.2.2.2.2 110))]) (cells' := 0 + 1) (slots' := 0 + (p1).toNatClampNeg) (pc' := 16) (atype := .long) hC 106 4 107 layX_106 rfl layX_107 (by decide +kernel) rfl inlX8 tyX8_ok nmX8 (Nat.le_of_ble_eq_true rfl) mw_92 rfl rfl (fun _ => rfl) (fun _ => rfl) mw_91 rfl dX8_makeRoom_11 dX8_makeRoom_13 rfl h11 rfl rfl rfl rfl rfl rfl rfl rfl (fun g => ?_)
    refine go_aload_n (pc' := 17) hC dX8_makeRoom_16 rfl rfl ?_
    refine go_iload_n (pc' := 18) hC dX8_makeRoom_17 rfl rfl ?_
    obtain ⟨h12, hf⟩ := gd_e hf
    refine go_growA (L3' := [(109, (fun _ => 0)), (110, (S.2.2.1 110))]) (L5' := [(107, (p1).toNatClampNeg), (108, (S.2.2.2.2 108)), (109, (p1).toNatClampNeg), (110, (S.2.2.2.2 110))]) (cells' := 0 + 1 + 1) (slots' := 0 + (p1).toNatClampNeg + (p1).toNatClampNeg) (pc' := 23) (atype := .int) hC 106 6 109 layX_106 rfl layX_109 (Or.inl ⟨rfl, rfl⟩) (by decide +kernel) rfl inlX8 tyX8_ok nmX8 (Nat.le_of_ble_eq_true rfl) mw_94 rfl rfl (fun _ => rfl) (fun _ => rfl) mw_59 rfl dX8_makeRoom_18 dX8_makeRoom_20 rfl h12 rfl rfl rfl rfl rfl rfl rfl rfl (fun g => ?_)
    refine go_sub [0, 2] rfl ?_
    exact jk23_7 (fun _ => 0) (fun _ => 0) ((p1).toNatClampNeg) ((p1).toNatClampNeg) (0 + 1 + 1) (0 + (p1).toNatClampNeg + (p1).toNatClampNeg) g hf
theorem dJ7_fill_53178_0 : decode cJ7_fill_53178 0 = .ok (.iconst 0, 1) := by decide +kernel
theorem dJ7_fill_53178_1 : decode cJ7_fill_53178 1 = .ok (.istore_n 2, 1) := by decide +kernel
theorem dJ7_fill_53178_2 : decode cJ7_fill_53178 2 = .ok (.aload_n 0, 1) := by decide +kernel
theorem dJ7_fill_53178_3 : decode cJ7_fill_53178 3 = .ok (.arraylength, 1) := by decide +kernel
theorem dJ7_fill_53178_4 : decode cJ7_fill_53178 4 = .ok (.istore_n 3, 1) := by decide +kernel
theorem dJ7_fill_53178_5 : decode cJ7_fill_53178 5 = .ok (.iload_n 2, 1) := by decide +kernel
theorem dJ7_fill_53178_6 : decode cJ7_fill_53178 6 = .ok (.iload_n 3, 1) := by decide +kernel
theorem dJ7_fill_53178_7 : decode cJ7_fill_53178 7 = .ok (.if_icmp .ge 13, 3) := by decide +kernel
theorem dJ7_fill_53178_10 : decode cJ7_fill_53178 10 = .ok (.aload_n 0, 1) := by decide +kernel
theorem dJ7_fill_53178_11 : decode cJ7_fill_53178 11 = .ok (.iload_n 2, 1) := by decide +kernel
theorem dJ7_fill_53178_12 : decode cJ7_fill_53178 12 = .ok (.iload_n 1, 1) := by decide +kernel
theorem dJ7_fill_53178_13 : decode cJ7_fill_53178 13 = .ok (.iastore, 1) := by decide +kernel
theorem dJ7_fill_53178_14 : decode cJ7_fill_53178 14 = .ok (.iinc 2 1, 3) := by decide +kernel
theorem dJ7_fill_53178_17 : decode cJ7_fill_53178 17 = .ok (.goto (-12), 3) := by decide +kernel
theorem dJ7_fill_53178_20 : decode cJ7_fill_53178 20 = .ok (.return_, 1) := by decide +kernel
abbrev o_J7_fill_53178_q115 : Type := (Nat → Int32)
def f_J7_fill_53178_q115_L5 (p1 : Int32) (r3 : (Int32) → (Nat → Int32) → (Option o_J7_fill_53178_q115)) (x1 : Int32) (a2 : Nat → Int32) : Option o_J7_fill_53178_q115 :=
if (10 : Int32) ≤ x1 then (
some a2) else (
gd (okx x1 10) <|
lz (upd a2 x1.toNatClampNeg p1) fun a5 =>
r3 (x1 + (1 : Int32)) a5)
def f_J7_fill_53178_q115 (S : wd_W) (p1 : Int32) : Option o_J7_fill_53178_q115 :=
it2 (f_J7_fill_53178_q115_L5 p1) fuel (0 : Int32) (S.2.2.1 115)
set_option maxRecDepth 100000 in
set_option maxHeartbeats 4000000 in
theorem c_J7_fill_53178_q115 (l : Launch) (D : va_G) (q g : Nat → Nat) (cy : Nat → ClassId) (z : (Nat → Nat) × (Nat → Nat) × Nat) (S : wd_W) (p1 : Int32) (o : o_J7_fill_53178_q115) (hf : f_J7_fill_53178_q115 S p1 = some o) : MX layX l yJ7_fill_53178 cJ7_fill_53178 4 none ({ frames := 0, cells := 0, slots := 0, locals := 0 } : Room) D q g cy z [.ref (q 115), .int p1] S false (none) (wd_o S [] [] [(115, o)] [] []) 0 0 := by
  refine mx_of (own := RJ7) (lc := [(0, .ref (q 115)), (1, .int p1)]) (by decide +kernel) rfl layX_ok (Nat.le_of_ble_eq_true rfl) rfl ?_
  intro X hXl hXq hXz hC hQ
  subst hXl; subst hXq; subst hXz
  unfold f_J7_fill_53178_q115 at hf
  refine go_keys (L1 := []) (L2 := []) (L3 := [(115, (S.2.2.1 115))]) (L4 := []) (L5 := []) [] [] [115] [] [] rfl rfl rfl rfl rfl ?_
  refine go_iconst (pc' := 1) hC dJ7_fill_53178_0 ki_0 rfl ?_
  refine go_istore_n (lc' := [(0, .ref (x_q X 115)), (1, .int p1), (2, .int (0 : Int32))]) (pc' := 2) hC dJ7_fill_53178_1 (Nat.le_of_ble_eq_true rfl) rfl rfl ?_
  refine go_aload_n (pc' := 3) hC dJ7_fill_53178_2 rfl rfl ?_
  refine go_alen (v := (10 : Int32)) (pc' := 4) hC 115 layX_115 rfl (Nat.le_of_ble_eq_true rfl) kn_10 dJ7_fill_53178_3 rfl ?_
  refine go_istore_n (lc' := [(0, .ref (x_q X 115)), (1, .int p1), (2, .int (0 : Int32)), (3, .int (10 : Int32))]) (pc' := 5) hC dJ7_fill_53178_4 (Nat.le_of_ble_eq_true rfl) rfl rfl ?_
  have l5_7 : ∀ (nn : Nat) (x1 : Int32) (a2 : Nat → Int32), it2 (f_J7_fill_53178_q115_L5 p1) nn x1 a2 = some o → Go X layX S 5 [(0, .ref (x_q X 115)), (1, .int p1), (2, .int x1), (3, .int (10 : Int32))] [] g [] [] [(115, a2)] [] [] 0 0 := by
    intro nn
    induction nn with
    | zero =>
      intro x1 a2 hf
      exact none_no hf
    | succ nn ih =>
      intro x1 a2 hf
      have hf : f_J7_fill_53178_q115_L5 p1 (it2 (f_J7_fill_53178_q115_L5 p1) nn) x1 a2 = some o := hf
      generalize it2 (f_J7_fill_53178_q115_L5 p1) nn = r3 at ih hf
      unfold f_J7_fill_53178_q115_L5 at hf
      refine go_iload_n (pc' := 6) hC dJ7_fill_53178_5 rfl rfl ?_
      refine go_iload_n (pc' := 7) hC dJ7_fill_53178_6 rfl rfl ?_
      refine go_icmp_ge (tgt := 20) (pc' := 10) hC dJ7_fill_53178_7 (by decide) rfl (fun h6 => ?_) (fun h6 => ?_)
      · have hf := ite_t h6 hf
        obtain rfl := Option.some.inj hf
        exact go_vret hC hQ dJ7_fill_53178_20 rfl rfl rfl (fun _ => rfl) rfl rfl
      · have hf := ite_f h6 hf
        refine go_aload_n (pc' := 11) hC dJ7_fill_53178_10 rfl rfl ?_
        refine go_iload_n (pc' := 12) hC dJ7_fill_53178_11 rfl rfl ?_
        refine go_iload_n (pc' := 13) hC dJ7_fill_53178_12 rfl rfl ?_
        obtain ⟨h4, hf⟩ := gd_e hf
        refine go_iast (f := a2) (pc' := 14) hC 115 layX_115 rfl rfl dJ7_fill_53178_13 (okx_in h4) rfl rfl (fun a5 ha L3' hL => ?_)
        have hf := lz_r ha hf
        clear ha
        obtain rfl : L3' = [(115, a5)] := hL.symm
        refine go_iinc (lc' := [(0, .ref (x_q X 115)), (1, .int p1), (2, .int (x1 + (1 : Int32))), (3, .int (10 : Int32))]) (pc' := 17) hC dJ7_fill_53178_14 rfl ki_1 (Nat.le_of_ble_eq_true rfl) rfl rfl ?_
        refine go_goto (tgt := 5) hC dJ7_fill_53178_17 (by decide) ?_
        exact ih (x1 + (1 : Int32)) a5 hf
  exact l5_7 fuel (0 : Int32) (S.2.2.1 115) hf
theorem dX7_goAlong_0 : decode cX7_goAlong 0 = .ok (.aload_n 0, 1) := by decide +kernel
theorem dX7_goAlong_1 : decode cX7_goAlong 1 = .ok (.getfield 27, 3) := by decide +kernel
theorem dX7_goAlong_4 : decode cX7_goAlong 4 = .ok (.getfield 52, 3) := by decide +kernel
theorem dX7_goAlong_7 : decode cX7_goAlong 7 = .ok (.iload_n 1, 1) := by decide +kernel
theorem dX7_goAlong_8 : decode cX7_goAlong 8 = .ok (.iaload, 1) := by decide +kernel
theorem dX7_goAlong_9 : decode cX7_goAlong 9 = .ok (.istore_n 2, 1) := by decide +kernel
theorem dX7_goAlong_10 : decode cX7_goAlong 10 = .ok (.aload_n 0, 1) := by decide +kernel
theorem dX7_goAlong_11 : decode cX7_goAlong 11 = .ok (.getfield 27, 3) := by decide +kernel
theorem dX7_goAlong_14 : decode cX7_goAlong 14 = .ok (.getfield 55, 3) := by decide +kernel
theorem dX7_goAlong_17 : decode cX7_goAlong 17 = .ok (.iload_n 1, 1) := by decide +kernel
theorem dX7_goAlong_18 : decode cX7_goAlong 18 = .ok (.iaload, 1) := by decide +kernel
theorem dX7_goAlong_19 : decode cX7_goAlong 19 = .ok (.istore_n 3, 1) := by decide +kernel
theorem dX7_goAlong_20 : decode cX7_goAlong 20 = .ok (.aload_n 0, 1) := by decide +kernel
theorem dX7_goAlong_21 : decode cX7_goAlong 21 = .ok (.getfield 27, 3) := by decide +kernel
theorem dX7_goAlong_24 : decode cX7_goAlong 24 = .ok (.getfield 84, 3) := by decide +kernel
theorem dX7_goAlong_27 : decode cX7_goAlong 27 = .ok (.iload_n 1, 1) := by decide +kernel
theorem dX7_goAlong_28 : decode cX7_goAlong 28 = .ok (.iaload, 1) := by decide +kernel
theorem dX7_goAlong_29 : decode cX7_goAlong 29 = .ok (.istore 4, 2) := by decide +kernel
theorem dX7_goAlong_31 : decode cX7_goAlong 31 = .ok (.aload_n 0, 1) := by decide +kernel
theorem dX7_goAlong_32 : decode cX7_goAlong 32 = .ok (.getfield 21, 3) := by decide +kernel
theorem dX7_goAlong_35 : decode cX7_goAlong 35 = .ok (.iload_n 2, 1) := by decide +kernel
theorem dX7_goAlong_36 : decode cX7_goAlong 36 = .ok (.iaload, 1) := by decide +kernel
theorem dX7_goAlong_37 : decode cX7_goAlong 37 = .ok (.iload 4, 2) := by decide +kernel
theorem dX7_goAlong_39 : decode cX7_goAlong 39 = .ok (.iadd, 1) := by decide +kernel
theorem dX7_goAlong_40 : decode cX7_goAlong 40 = .ok (.aload_n 0, 1) := by decide +kernel
theorem dX7_goAlong_41 : decode cX7_goAlong 41 = .ok (.getfield 21, 3) := by decide +kernel
theorem dX7_goAlong_44 : decode cX7_goAlong 44 = .ok (.iload_n 3, 1) := by decide +kernel
theorem dX7_goAlong_45 : decode cX7_goAlong 45 = .ok (.iaload, 1) := by decide +kernel
theorem dX7_goAlong_46 : decode cX7_goAlong 46 = .ok (.if_icmp .ge 20, 3) := by decide +kernel
theorem dX7_goAlong_49 : decode cX7_goAlong 49 = .ok (.aload_n 0, 1) := by decide +kernel
theorem dX7_goAlong_50 : decode cX7_goAlong 50 = .ok (.getfield 21, 3) := by decide +kernel
theorem dX7_goAlong_53 : decode cX7_goAlong 53 = .ok (.iload_n 3, 1) := by decide +kernel
theorem dX7_goAlong_54 : decode cX7_goAlong 54 = .ok (.aload_n 0, 1) := by decide +kernel
theorem dX7_goAlong_55 : decode cX7_goAlong 55 = .ok (.getfield 21, 3) := by decide +kernel
theorem dX7_goAlong_58 : decode cX7_goAlong 58 = .ok (.iload_n 2, 1) := by decide +kernel
theorem dX7_goAlong_59 : decode cX7_goAlong 59 = .ok (.iaload, 1) := by decide +kernel
theorem dX7_goAlong_60 : decode cX7_goAlong 60 = .ok (.iload 4, 2) := by decide +kernel
theorem dX7_goAlong_62 : decode cX7_goAlong 62 = .ok (.iadd, 1) := by decide +kernel
theorem dX7_goAlong_63 : decode cX7_goAlong 63 = .ok (.iastore, 1) := by decide +kernel
theorem dX7_goAlong_64 : decode cX7_goAlong 64 = .ok (.iconst 1, 1) := by decide +kernel
theorem dX7_goAlong_65 : decode cX7_goAlong 65 = .ok (.ireturn, 1) := by decide +kernel
theorem dX7_goAlong_66 : decode cX7_goAlong 66 = .ok (.aload_n 0, 1) := by decide +kernel
theorem dX7_goAlong_67 : decode cX7_goAlong 67 = .ok (.getfield 27, 3) := by decide +kernel
theorem dX7_goAlong_70 : decode cX7_goAlong 70 = .ok (.getfield 58, 3) := by decide +kernel
theorem dX7_goAlong_73 : decode cX7_goAlong 73 = .ok (.iload_n 1, 1) := by decide +kernel
theorem dX7_goAlong_74 : decode cX7_goAlong 74 = .ok (.iaload, 1) := by decide +kernel
theorem dX7_goAlong_75 : decode cX7_goAlong 75 = .ok (.ifCond .ne 38, 3) := by decide +kernel
theorem dX7_goAlong_78 : decode cX7_goAlong 78 = .ok (.aload_n 0, 1) := by decide +kernel
theorem dX7_goAlong_79 : decode cX7_goAlong 79 = .ok (.getfield 21, 3) := by decide +kernel
theorem dX7_goAlong_82 : decode cX7_goAlong 82 = .ok (.iload_n 3, 1) := by decide +kernel
theorem dX7_goAlong_83 : decode cX7_goAlong 83 = .ok (.iaload, 1) := by decide +kernel
theorem dX7_goAlong_84 : decode cX7_goAlong 84 = .ok (.iload 4, 2) := by decide +kernel
theorem dX7_goAlong_86 : decode cX7_goAlong 86 = .ok (.iadd, 1) := by decide +kernel
theorem dX7_goAlong_87 : decode cX7_goAlong 87 = .ok (.aload_n 0, 1) := by decide +kernel
theorem dX7_goAlong_88 : decode cX7_goAlong 88 = .ok (.getfield 21, 3) := by decide +kernel
theorem dX7_goAlong_91 : decode cX7_goAlong 91 = .ok (.iload_n 2, 1) := by decide +kernel
theorem dX7_goAlong_92 : decode cX7_goAlong 92 = .ok (.iaload, 1) := by decide +kernel
theorem dX7_goAlong_93 : decode cX7_goAlong 93 = .ok (.if_icmp .ge 20, 3) := by decide +kernel
theorem dX7_goAlong_96 : decode cX7_goAlong 96 = .ok (.aload_n 0, 1) := by decide +kernel
theorem dX7_goAlong_97 : decode cX7_goAlong 97 = .ok (.getfield 21, 3) := by decide +kernel
theorem dX7_goAlong_100 : decode cX7_goAlong 100 = .ok (.iload_n 2, 1) := by decide +kernel
theorem dX7_goAlong_101 : decode cX7_goAlong 101 = .ok (.aload_n 0, 1) := by decide +kernel
theorem dX7_goAlong_102 : decode cX7_goAlong 102 = .ok (.getfield 21, 3) := by decide +kernel
theorem dX7_goAlong_105 : decode cX7_goAlong 105 = .ok (.iload_n 3, 1) := by decide +kernel
theorem dX7_goAlong_106 : decode cX7_goAlong 106 = .ok (.iaload, 1) := by decide +kernel
theorem dX7_goAlong_107 : decode cX7_goAlong 107 = .ok (.iload 4, 2) := by decide +kernel
theorem dX7_goAlong_109 : decode cX7_goAlong 109 = .ok (.iadd, 1) := by decide +kernel
theorem dX7_goAlong_110 : decode cX7_goAlong 110 = .ok (.iastore, 1) := by decide +kernel
theorem dX7_goAlong_111 : decode cX7_goAlong 111 = .ok (.iconst 1, 1) := by decide +kernel
theorem dX7_goAlong_112 : decode cX7_goAlong 112 = .ok (.ireturn, 1) := by decide +kernel
theorem dX7_goAlong_113 : decode cX7_goAlong 113 = .ok (.iconst 0, 1) := by decide +kernel
theorem dX7_goAlong_114 : decode cX7_goAlong 114 = .ok (.ireturn, 1) := by decide +kernel
abbrev o_X7_goAlong_q111 : Type := Int32 × (Nat → Int32)
def f_X7_goAlong_q111 (S : wd_W) (p1 : Int32) : Option o_X7_goAlong_q111 :=
gd (okx p1 13) <|
lz ((S.2.2.1 17) p1.toNatClampNeg) fun x2 =>
gd (okx p1 13) <|
lz ((S.2.2.1 18) p1.toNatClampNeg) fun x4 =>
gd (okx p1 13) <|
lz ((S.2.2.1 21) p1.toNatClampNeg) fun x6 =>
gd (okx x2 10) <|
gd (okx x4 10) <|
if ((S.2.2.1 115) x4.toNatClampNeg) ≤ (((S.2.2.1 115) x2.toNatClampNeg) + x6) then (
gd (okx p1 13) <|
if ((S.2.2.1 20) p1.toNatClampNeg) = 0 then (
gd (okx x4 10) <|
gd (okx x2 10) <|
if ((S.2.2.1 115) x2.toNatClampNeg) ≤ (((S.2.2.1 115) x4.toNatClampNeg) + x6) then (
some ((0 : Int32), (S.2.2.1 115))) else (
gd (okx x4 10) <|
lz (((S.2.2.1 115) x4.toNatClampNeg) + x6) fun x13 =>
gd (okx x2 10) <|
lz (upd (S.2.2.1 115) x2.toNatClampNeg x13) fun a15 =>
some ((1 : Int32), a15))) else (
some ((0 : Int32), (S.2.2.1 115)))) else (
gd (okx x2 10) <|
lz (((S.2.2.1 115) x2.toNatClampNeg) + x6) fun x19 =>
gd (okx x4 10) <|
lz (upd (S.2.2.1 115) x4.toNatClampNeg x19) fun a21 =>
some ((1 : Int32), a21))
set_option maxRecDepth 100000 in
set_option maxHeartbeats 4000000 in
theorem c_X7_goAlong_q111 (l : Launch) (D : va_G) (q g : Nat → Nat) (cy : Nat → ClassId) (z : (Nat → Nat) × (Nat → Nat) × Nat) (S : wd_W) (p1 : Int32) (o : o_X7_goAlong_q111) (hf : f_X7_goAlong_q111 S p1 = some o) : MX layX l yX7_goAlong cX7_goAlong 5 (some .boolean) ({ frames := 0, cells := 0, slots := 0, locals := 0 } : Room) D q g cy z [.ref (q 111), .int p1] S false (some (.int o.1)) (wd_o S [] [] [(115, o.2)] [] []) 0 0 := by
  refine mx_of (own := RX7) (lc := [(0, .ref (q 111)), (1, .int p1)]) (by decide +kernel) rfl layX_ok (Nat.le_of_ble_eq_true rfl) rfl ?_
  intro X hXl hXq hXz hC hQ
  subst hXl; subst hXq; subst hXz
  unfold f_X7_goAlong_q111 at hf
  refine go_keys (L1 := []) (L2 := []) (L3 := [(115, (S.2.2.1 115))]) (L4 := []) (L5 := []) [] [] [115] [] [] rfl rfl rfl rfl rfl ?_
  refine go_aload_n (pc' := 1) hC dX7_goAlong_0 rfl rfl ?_
  refine go_getq (pc' := 4) hC 111 4 layX_111 rfl rfl inlX7 (Nat.le_of_ble_eq_true rfl) mw_115 rfl dX7_goAlong_1 rfl ?_
  refine go_getq (pc' := 7) hC 16 2 layX_16 rfl rfl inlX2 (Nat.le_of_ble_eq_true rfl) mw_623 rfl dX7_goAlong_4 rfl ?_
  refine go_iload_n (pc' := 8) hC dX7_goAlong_7 rfl rfl ?_
  obtain ⟨h1, hf⟩ := gd_e hf
  refine go_iald (f := (S.2.2.1 17)) (pc' := 9) hC 17 layX_17 rfl rfl dX7_goAlong_8 (okx_in h1) rfl ?_
  refine go_namei (fun x2 hx => ?_)
  have hf := lz_r hx hf
  clear hx
  refine go_istore_n (lc' := [(0, .ref (x_q X 111)), (1, .int p1), (2, .int x2)]) (pc' := 10) hC dX7_goAlong_9 (Nat.le_of_ble_eq_true rfl) rfl rfl ?_
  refine go_aload_n (pc' := 11) hC dX7_goAlong_10 rfl rfl ?_
  refine go_getq (pc' := 14) hC 111 4 layX_111 rfl rfl inlX7 (Nat.le_of_ble_eq_true rfl) mw_115 rfl dX7_goAlong_11 rfl ?_
  refine go_getq (pc' := 17) hC 16 3 layX_16 rfl rfl inlX2 (Nat.le_of_ble_eq_true rfl) mw_624 rfl dX7_goAlong_14 rfl ?_
  refine go_iload_n (pc' := 18) hC dX7_goAlong_17 rfl rfl ?_
  obtain ⟨h3, hf⟩ := gd_e hf
  refine go_iald (f := (S.2.2.1 18)) (pc' := 19) hC 18 layX_18 rfl rfl dX7_goAlong_18 (okx_in h3) rfl ?_
  refine go_namei (fun x4 hx => ?_)
  have hf := lz_r hx hf
  clear hx
  refine go_istore_n (lc' := [(0, .ref (x_q X 111)), (1, .int p1), (2, .int x2), (3, .int x4)]) (pc' := 20) hC dX7_goAlong_19 (Nat.le_of_ble_eq_true rfl) rfl rfl ?_
  refine go_aload_n (pc' := 21) hC dX7_goAlong_20 rfl rfl ?_
  refine go_getq (pc' := 24) hC 111 4 layX_111 rfl rfl inlX7 (Nat.le_of_ble_eq_true rfl) mw_115 rfl dX7_goAlong_21 rfl ?_
  refine go_getq (pc' := 27) hC 16 6 layX_16 rfl rfl inlX2 (Nat.le_of_ble_eq_true rfl) mw_693 rfl dX7_goAlong_24 rfl ?_
  refine go_iload_n (pc' := 28) hC dX7_goAlong_27 rfl rfl ?_
  obtain ⟨h5, hf⟩ := gd_e hf
  refine go_iald (f := (S.2.2.1 21)) (pc' := 29) hC 21 layX_21 rfl rfl dX7_goAlong_28 (okx_in h5) rfl ?_
  refine go_namei (fun x6 hx => ?_)
  have hf := lz_r hx hf
  clear hx
  refine go_istore (lc' := [(0, .ref (x_q X 111)), (1, .int p1), (2, .int x2), (3, .int x4), (4, .int x6)]) (pc' := 31) hC dX7_goAlong_29 (Nat.le_of_ble_eq_true rfl) rfl rfl ?_
  refine go_aload_n (pc' := 32) hC dX7_goAlong_31 rfl rfl ?_
  refine go_getq (pc' := 35) hC 111 8 layX_111 rfl rfl inlX7 (Nat.le_of_ble_eq_true rfl) mw_113 rfl dX7_goAlong_32 rfl ?_
  refine go_iload_n (pc' := 36) hC dX7_goAlong_35 rfl rfl ?_
  obtain ⟨h7, hf⟩ := gd_e hf
  refine go_iald (f := (S.2.2.1 115)) (pc' := 37) hC 115 layX_115 rfl rfl dX7_goAlong_36 (okx_in h7) rfl ?_
  refine go_iload (pc' := 39) hC dX7_goAlong_37 rfl rfl ?_
  refine go_iadd (pc' := 40) hC dX7_goAlong_39 rfl ?_
  refine go_aload_n (pc' := 41) hC dX7_goAlong_40 rfl rfl ?_
  refine go_getq (pc' := 44) hC 111 8 layX_111 rfl rfl inlX7 (Nat.le_of_ble_eq_true rfl) mw_113 rfl dX7_goAlong_41 rfl ?_
  refine go_iload_n (pc' := 45) hC dX7_goAlong_44 rfl rfl ?_
  obtain ⟨h8, hf⟩ := gd_e hf
  refine go_iald (f := (S.2.2.1 115)) (pc' := 46) hC 115 layX_115 rfl rfl dX7_goAlong_45 (okx_in h8) rfl ?_
  refine go_icmp_ge (tgt := 66) (pc' := 49) hC dX7_goAlong_46 (by decide) rfl (fun h22 => ?_) (fun h22 => ?_)
  · have hf := ite_t h22 hf
    refine go_aload_n (pc' := 67) hC dX7_goAlong_66 rfl rfl ?_
    refine go_getq (pc' := 70) hC 111 4 layX_111 rfl rfl inlX7 (Nat.le_of_ble_eq_true rfl) mw_115 rfl dX7_goAlong_67 rfl ?_
    refine go_getq (pc' := 73) hC 16 5 layX_16 rfl rfl inlX2 (Nat.le_of_ble_eq_true rfl) mw_625 rfl dX7_goAlong_70 rfl ?_
    refine go_iload_n (pc' := 74) hC dX7_goAlong_73 rfl rfl ?_
    obtain ⟨h9, hf⟩ := gd_e hf
    refine go_iald (f := (S.2.2.1 20)) (pc' := 75) hC 20 layX_20 rfl rfl dX7_goAlong_74 (okx_in h9) rfl ?_
    refine go_if_ne (tgt := 113) (pc' := 78) hC dX7_goAlong_75 (by decide) rfl (fun h17 => ?_) (fun h17 => ?_)
    · have hf := ite_f h17 hf
      refine go_iconst (pc' := 114) hC dX7_goAlong_113 ki_0 rfl ?_
      obtain rfl := Option.some.inj hf
      exact go_iret hC hQ dX7_goAlong_114 rfl rfl rfl rfl (fun _ => rfl) rfl rfl
    · have hf := ite_t h17 hf
      refine go_aload_n (pc' := 79) hC dX7_goAlong_78 rfl rfl ?_
      refine go_getq (pc' := 82) hC 111 8 layX_111 rfl rfl inlX7 (Nat.le_of_ble_eq_true rfl) mw_113 rfl dX7_goAlong_79 rfl ?_
      refine go_iload_n (pc' := 83) hC dX7_goAlong_82 rfl rfl ?_
      obtain ⟨h10, hf⟩ := gd_e hf
      refine go_iald (f := (S.2.2.1 115)) (pc' := 84) hC 115 layX_115 rfl rfl dX7_goAlong_83 (okx_in h10) rfl ?_
      refine go_iload (pc' := 86) hC dX7_goAlong_84 rfl rfl ?_
      refine go_iadd (pc' := 87) hC dX7_goAlong_86 rfl ?_
      refine go_aload_n (pc' := 88) hC dX7_goAlong_87 rfl rfl ?_
      refine go_getq (pc' := 91) hC 111 8 layX_111 rfl rfl inlX7 (Nat.le_of_ble_eq_true rfl) mw_113 rfl dX7_goAlong_88 rfl ?_
      refine go_iload_n (pc' := 92) hC dX7_goAlong_91 rfl rfl ?_
      obtain ⟨h11, hf⟩ := gd_e hf
      refine go_iald (f := (S.2.2.1 115)) (pc' := 93) hC 115 layX_115 rfl rfl dX7_goAlong_92 (okx_in h11) rfl ?_
      refine go_icmp_ge (tgt := 113) (pc' := 96) hC dX7_goAlong_93 (by decide) rfl (fun h16 => ?_) (fun h16 => ?_)
      · have hf := ite_t h16 hf
        refine go_iconst (pc' := 114) hC dX7_goAlong_113 ki_0 rfl ?_
        obtain rfl := Option.some.inj hf
        exact go_iret hC hQ dX7_goAlong_114 rfl rfl rfl rfl (fun _ => rfl) rfl rfl
      · have hf := ite_f h16 hf
        refine go_aload_n (pc' := 97) hC dX7_goAlong_96 rfl rfl ?_
        refine go_getq (pc' := 100) hC 111 8 layX_111 rfl rfl inlX7 (Nat.le_of_ble_eq_true rfl) mw_113 rfl dX7_goAlong_97 rfl ?_
        refine go_iload_n (pc' := 101) hC dX7_goAlong_100 rfl rfl ?_
        refine go_aload_n (pc' := 102) hC dX7_goAlong_101 rfl rfl ?_
        refine go_getq (pc' := 105) hC 111 8 layX_111 rfl rfl inlX7 (Nat.le_of_ble_eq_true rfl) mw_113 rfl dX7_goAlong_102 rfl ?_
        refine go_iload_n (pc' := 106) hC dX7_goAlong_105 rfl rfl ?_
        obtain ⟨h12, hf⟩ := gd_e hf
        refine go_iald (f := (S.2.2.1 115)) (pc' := 107) hC 115 layX_115 rfl rfl dX7_goAlong_106 (okx_in h12) rfl ?_
        refine go_iload (pc' := 109) hC dX7_goAlong_107 rfl rfl ?_
        refine go_iadd (pc' := 110) hC dX7_goAlong_109 rfl ?_
        refine go_namei (fun x13 hx => ?_)
        have hf := lz_r hx hf
        clear hx
        obtain ⟨h14, hf⟩ := gd_e hf
        refine go_iast (f := (S.2.2.1 115)) (pc' := 111) hC 115 layX_115 rfl rfl dX7_goAlong_110 (okx_in h14) rfl rfl (fun a15 ha L3' hL => ?_)
        have hf := lz_r ha hf
        clear ha
        obtain rfl : L3' = [(115, a15)] := hL.symm
        refine go_iconst (pc' := 112) hC dX7_goAlong_111 ki_1 rfl ?_
        obtain rfl := Option.some.inj hf
        exact go_iret hC hQ dX7_goAlong_112 rfl rfl rfl rfl (fun _ => rfl) rfl rfl
  · have hf := ite_f h22 hf
    refine go_aload_n (pc' := 50) hC dX7_goAlong_49 rfl rfl ?_
    refine go_getq (pc' := 53) hC 111 8 layX_111 rfl rfl inlX7 (Nat.le_of_ble_eq_true rfl) mw_113 rfl dX7_goAlong_50 rfl ?_
    refine go_iload_n (pc' := 54) hC dX7_goAlong_53 rfl rfl ?_
    refine go_aload_n (pc' := 55) hC dX7_goAlong_54 rfl rfl ?_
    refine go_getq (pc' := 58) hC 111 8 layX_111 rfl rfl inlX7 (Nat.le_of_ble_eq_true rfl) mw_113 rfl dX7_goAlong_55 rfl ?_
    refine go_iload_n (pc' := 59) hC dX7_goAlong_58 rfl rfl ?_
    obtain ⟨h18, hf⟩ := gd_e hf
    refine go_iald (f := (S.2.2.1 115)) (pc' := 60) hC 115 layX_115 rfl rfl dX7_goAlong_59 (okx_in h18) rfl ?_
    refine go_iload (pc' := 62) hC dX7_goAlong_60 rfl rfl ?_
    refine go_iadd (pc' := 63) hC dX7_goAlong_62 rfl ?_
    refine go_namei (fun x19 hx => ?_)
    have hf := lz_r hx hf
    clear hx
    obtain ⟨h20, hf⟩ := gd_e hf
    refine go_iast (f := (S.2.2.1 115)) (pc' := 64) hC 115 layX_115 rfl rfl dX7_goAlong_63 (okx_in h20) rfl rfl (fun a21 ha L3' hL => ?_)
    have hf := lz_r ha hf
    clear ha
    obtain rfl : L3' = [(115, a21)] := hL.symm
    refine go_iconst (pc' := 65) hC dX7_goAlong_64 ki_1 rfl ?_
    obtain rfl := Option.some.inj hf
    exact go_iret hC hQ dX7_goAlong_65 rfl rfl rfl rfl (fun _ => rfl) rfl rfl
theorem dX7_daysBetween_0 : decode cX7_daysBetween 0 = .ok (.aload_n 0, 1) := by decide +kernel
theorem dX7_daysBetween_1 : decode cX7_daysBetween 1 = .ok (.getfield 21, 3) := by decide +kernel
theorem dX7_daysBetween_4 : decode cX7_daysBetween 4 = .ok (.sipush 1000, 3) := by decide +kernel
theorem dX7_daysBetween_7 : decode cX7_daysBetween 7 = .ok (.invokestatic 74, 3) := by decide +kernel
theorem dX7_daysBetween_10 : decode cX7_daysBetween 10 = .ok (.aload_n 0, 1) := by decide +kernel
theorem dX7_daysBetween_11 : decode cX7_daysBetween 11 = .ok (.getfield 21, 3) := by decide +kernel
theorem dX7_daysBetween_14 : decode cX7_daysBetween 14 = .ok (.iload_n 1, 1) := by decide +kernel
theorem dX7_daysBetween_15 : decode cX7_daysBetween 15 = .ok (.iconst 0, 1) := by decide +kernel
theorem dX7_daysBetween_16 : decode cX7_daysBetween 16 = .ok (.iastore, 1) := by decide +kernel
theorem dX7_daysBetween_17 : decode cX7_daysBetween 17 = .ok (.iconst 1, 1) := by decide +kernel
theorem dX7_daysBetween_18 : decode cX7_daysBetween 18 = .ok (.istore 4, 2) := by decide +kernel
theorem dX7_daysBetween_20 : decode cX7_daysBetween 20 = .ok (.iload 4, 2) := by decide +kernel
theorem dX7_daysBetween_22 : decode cX7_daysBetween 22 = .ok (.aload_n 0, 1) := by decide +kernel
theorem dX7_daysBetween_23 : decode cX7_daysBetween 23 = .ok (.getfield 37, 3) := by decide +kernel
theorem dX7_daysBetween_26 : decode cX7_daysBetween 26 = .ok (.if_icmp .ge 58, 3) := by decide +kernel
theorem dX7_daysBetween_29 : decode cX7_daysBetween 29 = .ok (.iconst 0, 1) := by decide +kernel
theorem dX7_daysBetween_30 : decode cX7_daysBetween 30 = .ok (.istore 5, 2) := by decide +kernel
theorem dX7_daysBetween_32 : decode cX7_daysBetween 32 = .ok (.iconst 0, 1) := by decide +kernel
theorem dX7_daysBetween_33 : decode cX7_daysBetween 33 = .ok (.istore 6, 2) := by decide +kernel
theorem dX7_daysBetween_35 : decode cX7_daysBetween 35 = .ok (.iload 6, 2) := by decide +kernel
theorem dX7_daysBetween_37 : decode cX7_daysBetween 37 = .ok (.aload_n 0, 1) := by decide +kernel
theorem dX7_daysBetween_38 : decode cX7_daysBetween 38 = .ok (.getfield 41, 3) := by decide +kernel
theorem dX7_daysBetween_41 : decode cX7_daysBetween 41 = .ok (.if_icmp .ge 29, 3) := by decide +kernel
theorem dX7_daysBetween_44 : decode cX7_daysBetween 44 = .ok (.iload_n 3, 1) := by decide +kernel
theorem dX7_daysBetween_45 : decode cX7_daysBetween 45 = .ok (.iload 6, 2) := by decide +kernel
theorem dX7_daysBetween_47 : decode cX7_daysBetween 47 = .ok (.ishr, 1) := by decide +kernel
theorem dX7_daysBetween_48 : decode cX7_daysBetween 48 = .ok (.iconst 1, 1) := by decide +kernel
theorem dX7_daysBetween_49 : decode cX7_daysBetween 49 = .ok (.iand, 1) := by decide +kernel
theorem dX7_daysBetween_50 : decode cX7_daysBetween 50 = .ok (.ifCond .eq 14, 3) := by decide +kernel
theorem dX7_daysBetween_53 : decode cX7_daysBetween 53 = .ok (.iload 5, 2) := by decide +kernel
theorem dX7_daysBetween_55 : decode cX7_daysBetween 55 = .ok (.aload_n 0, 1) := by decide +kernel
theorem dX7_daysBetween_56 : decode cX7_daysBetween 56 = .ok (.iload 6, 2) := by decide +kernel
theorem dX7_daysBetween_58 : decode cX7_daysBetween 58 = .ok (.invokevirtual 80, 3) := by decide +kernel
theorem dX7_daysBetween_61 : decode cX7_daysBetween 61 = .ok (.ior, 1) := by decide +kernel
theorem dX7_daysBetween_62 : decode cX7_daysBetween 62 = .ok (.istore 5, 2) := by decide +kernel
theorem dX7_daysBetween_64 : decode cX7_daysBetween 64 = .ok (.iinc 6 1, 3) := by decide +kernel
theorem dX7_daysBetween_67 : decode cX7_daysBetween 67 = .ok (.goto (-32), 3) := by decide +kernel
theorem dX7_daysBetween_70 : decode cX7_daysBetween 70 = .ok (.iload 5, 2) := by decide +kernel
theorem dX7_daysBetween_72 : decode cX7_daysBetween 72 = .ok (.ifCond .ne 6, 3) := by decide +kernel
theorem dX7_daysBetween_75 : decode cX7_daysBetween 75 = .ok (.goto 9, 3) := by decide +kernel
theorem dX7_daysBetween_78 : decode cX7_daysBetween 78 = .ok (.iinc 4 1, 3) := by decide +kernel
theorem dX7_daysBetween_81 : decode cX7_daysBetween 81 = .ok (.goto (-61), 3) := by decide +kernel
theorem dX7_daysBetween_84 : decode cX7_daysBetween 84 = .ok (.aload_n 0, 1) := by decide +kernel
theorem dX7_daysBetween_85 : decode cX7_daysBetween 85 = .ok (.getfield 21, 3) := by decide +kernel
theorem dX7_daysBetween_88 : decode cX7_daysBetween 88 = .ok (.iload_n 2, 1) := by decide +kernel
theorem dX7_daysBetween_89 : decode cX7_daysBetween 89 = .ok (.iaload, 1) := by decide +kernel
theorem dX7_daysBetween_90 : decode cX7_daysBetween 90 = .ok (.ireturn, 1) := by decide +kernel
abbrev o_X7_daysBetween_q111 : Type := Int32 × (Nat → Int32)
def f_X7_daysBetween_q111_L35 (S : wd_W) (p3 : Int32) (k70_14 : (Int32) → (Nat → Int32) → (Option o_X7_daysBetween_q111)) (r19 : (Int32) → (Int32) → (Nat → Int32) → (Option o_X7_daysBetween_q111)) (x16 : Int32) (x17 : Int32) (a18 : Nat → Int32) : Option o_X7_daysBetween_q111 :=
if (S.1 11100) ≤ x17 then (
k70_14 x16 a18) else (
lk (fun x20 a21 =>
r19 x20 (x17 + (1 : Int32)) a21) fun k64_22 =>
if ((p3 >>> (x17 &&& 31)) &&& (1 : Int32)) = 0 then (
k64_22 x16 a18) else (
bd (f_X7_goAlong_q111 (wd_o S [] [] [(115, a18)] [] []) x17) fun o23 =>
lz (x16 ||| o23.1) fun x24 =>
k64_22 x24 o23.2))
def f_X7_daysBetween_q111_L20 (S : wd_W) (p3 : Int32) (k84_5 : (Nat → Int32) → (Option o_X7_daysBetween_q111)) (k75_8 : (Nat → Int32) → (Option o_X7_daysBetween_q111)) (r11 : (Int32) → (Nat → Int32) → (Option o_X7_daysBetween_q111)) (x9 : Int32) (a10 : Nat → Int32) : Option o_X7_daysBetween_q111 :=
if (S.1 11103) ≤ x9 then (
k84_5 a10) else (
lk (fun x12 a13 =>
if x12 = 0 then (
k75_8 a13) else (
r11 (x9 + (1 : Int32)) a13)) fun k70_14 =>
it3 (f_X7_daysBetween_q111_L35 S p3 k70_14) fuel (0 : Int32) (0 : Int32) a10)
def f_X7_daysBetween_q111 (S : wd_W) (p1 : Int32) (p2 : Int32) (p3 : Int32) : Option o_X7_daysBetween_q111 :=
bd (f_J7_fill_53178_q115 (wd_o S [] [] [(115, (S.2.2.1 115))] [] []) (1000 : Int32)) fun o1 =>
gd (okx p1 10) <|
lz (upd o1 p1.toNatClampNeg (0 : Int32)) fun a3 =>
lk (fun a4 =>
gd (okx p2 10) <|
some (a4 p2.toNatClampNeg, a4)) fun k84_5 =>
lk (fun a7 =>
k84_5 a7) fun k75_8 =>
it2 (f_X7_daysBetween_q111_L20 S p3 k84_5 k75_8) fuel (1 : Int32) a3
set_option maxRecDepth 100000 in
set_option maxHeartbeats 4000000 in
theorem c_X7_daysBetween_q111 (l : Launch) (D : va_G) (q g : Nat → Nat) (cy : Nat → ClassId) (z : (Nat → Nat) × (Nat → Nat) × Nat) (S : wd_W) (p1 : Int32) (p2 : Int32) (p3 : Int32) (o : o_X7_daysBetween_q111) (hf : f_X7_daysBetween_q111 S p1 p2 p3 = some o) : MX layX l yX7_daysBetween cX7_daysBetween 7 (some .int) ({ frames := 1, cells := 0, slots := 0, locals := 24 } : Room) D q g cy z [.ref (q 111), .int p1, .int p2, .int p3] S false (some (.int o.1)) (wd_o S [] [] [(115, o.2)] [] []) 0 0 := by
  refine mx_of (own := RX7) (lc := [(0, .ref (q 111)), (1, .int p1), (2, .int p2), (3, .int p3)]) (by decide +kernel) rfl layX_ok (Nat.le_of_ble_eq_true rfl) rfl ?_
  intro X hXl hXq hXz hC hQ
  subst hXl; subst hXq; subst hXz
  unfold f_X7_daysBetween_q111 at hf
  refine go_keys (L1 := []) (L2 := []) (L3 := [(115, (S.2.2.1 115))]) (L4 := []) (L5 := []) [] [] [115] [] [] rfl rfl rfl rfl rfl ?_
  refine go_aload_n (pc' := 1) hC dX7_daysBetween_0 rfl rfl ?_
  refine go_getq (pc' := 4) hC 111 8 layX_111 rfl rfl inlX7 (Nat.le_of_ble_eq_true rfl) mw_113 rfl dX7_daysBetween_1 rfl ?_
  refine go_sipush (pc' := 7) hC dX7_daysBetween_4 ks_1000 rfl ?_
  obtain ⟨o1, ho1, hf⟩ := bd_e hf
  refine go_callS1 (pc' := 10) (As := [.ref (x_q X 115), .int (1000 : Int32)]) (st := []) (st' := []) (L1' := []) (L2' := []) (L3' := [(115, o1)]) (L4' := []) (L5' := []) (cells' := 0) (slots' := 0)  hC dX7_daysBetween_7 ⟨mw_685, mw_688, mw_687, yd_yJ7_fill_53178, yp_yJ7_fill_53178, Nat.le_of_ble_eq_true rfl, Nat.le_of_ble_eq_true rfl, (Nat.le_of_ble_eq_true rfl), (Nat.le_of_ble_eq_true rfl)⟩ mw_686 rfl rfl (Nat.le_of_ble_eq_true rfl) (c_J7_fill_53178_q115 (x_l X) (x_D X) (x_q X) g (x_cy X) (x_z X) _ (1000 : Int32) o1 ho1) rfl rfl rfl rfl rfl rfl rfl rfl rfl rfl rfl rfl rfl rfl ?_
  refine go_aload_n (pc' := 11) hC dX7_daysBetween_10 rfl rfl ?_
  refine go_getq (pc' := 14) hC 111 8 layX_111 rfl rfl inlX7 (Nat.le_of_ble_eq_true rfl) mw_113 rfl dX7_daysBetween_11 rfl ?_
  refine go_iload_n (pc' := 15) hC dX7_daysBetween_14 rfl rfl ?_
  refine go_iconst (pc' := 16) hC dX7_daysBetween_15 ki_0 rfl ?_
  obtain ⟨h2, hf⟩ := gd_e hf
  refine go_iast (f := o1) (pc' := 17) hC 115 layX_115 rfl rfl dX7_daysBetween_16 (okx_in h2) rfl rfl (fun a3 ha L3' hL => ?_)
  have hf := lz_r ha hf
  clear ha
  obtain rfl : L3' = [(115, a3)] := hL.symm
  refine go_iconst (pc' := 18) hC dX7_daysBetween_17 ki_1 rfl ?_
  refine go_istore (lc' := [(0, .ref (x_q X 111)), (1, .int p1), (2, .int p2), (3, .int p3), (4, .int (1 : Int32))]) (pc' := 20) hC dX7_daysBetween_18 (Nat.le_of_ble_eq_true rfl) rfl rfl ?_
  obtain ⟨k84_5, hk84_5, hf⟩ := lk_e1 hf
  have jk84_5 : ∀ (a4 : Nat → Int32), k84_5 a4 = some o → Go X layX S 84 [(0, .ref (x_q X 111)), (2, .int p2)] [] g [] [] [(115, a4)] [] [] 0 0 := by
    intro a4 hf
    have hf := hk84_5 a4 hf
    clear hk84_5
    refine go_aload_n (pc' := 85) hC dX7_daysBetween_84 rfl rfl ?_
    refine go_getq (pc' := 88) hC 111 8 layX_111 rfl rfl inlX7 (Nat.le_of_ble_eq_true rfl) mw_113 rfl dX7_daysBetween_85 rfl ?_
    refine go_iload_n (pc' := 89) hC dX7_daysBetween_88 rfl rfl ?_
    obtain ⟨h6, hf⟩ := gd_e hf
    refine go_iald (f := a4) (pc' := 90) hC 115 layX_115 rfl rfl dX7_daysBetween_89 (okx_in h6) rfl ?_
    obtain rfl := Option.some.inj hf
    exact go_iret hC hQ dX7_daysBetween_90 rfl rfl rfl rfl (fun _ => rfl) rfl rfl
  clear hk84_5
  obtain ⟨k75_8, hk75_8, hf⟩ := lk_e1 hf
  have jk75_8 : ∀ (a7 : Nat → Int32), k75_8 a7 = some o → Go X layX S 75 [(0, .ref (x_q X 111)), (2, .int p2)] [] g [] [] [(115, a7)] [] [] 0 0 := by
    intro a7 hf
    have hf := hk75_8 a7 hf
    clear hk75_8
    refine go_goto (tgt := 84) hC dX7_daysBetween_75 (by decide) ?_
    exact jk84_5 a7 hf
  clear hk75_8
  have l20_29 : ∀ (nn : Nat) (x9 : Int32) (a10 : Nat → Int32), it2 (f_X7_daysBetween_q111_L20 S p3 k84_5 k75_8) nn x9 a10 = some o → Go X layX S 20 [(0, .ref (x_q X 111)), (2, .int p2), (3, .int p3), (4, .int x9)] [] g [] [] [(115, a10)] [] [] 0 0 := by
    intro nn
    induction nn with
    | zero =>
      intro x9 a10 hf
      exact none_no hf
    | succ nn ih =>
      intro x9 a10 hf
      have hf : f_X7_daysBetween_q111_L20 S p3 k84_5 k75_8 (it2 (f_X7_daysBetween_q111_L20 S p3 k84_5 k75_8) nn) x9 a10 = some o := hf
      generalize it2 (f_X7_daysBetween_q111_L20 S p3 k84_5 k75_8) nn = r11 at ih hf
      unfold f_X7_daysBetween_q111_L20 at hf
      refine go_iload (pc' := 22) hC dX7_daysBetween_20 rfl rfl ?_
      refine go_aload_n (pc' := 23) hC dX7_daysBetween_22 rfl rfl ?_
      refine go_geti (v := (S.1 11103)) (pc' := 26) hC 111 3 layX_111 rfl rfl inlX7 (Nat.le_of_ble_eq_true rfl) mw_618 rfl dX7_daysBetween_23 rfl rfl ?_
      refine go_icmp_ge (tgt := 84) (pc' := 29) hC dX7_daysBetween_26 (by decide) rfl (fun h28 => ?_) (fun h28 => ?_)
      · have hf := ite_t h28 hf
        refine go_sub [0, 2] rfl ?_
        exact jk84_5 a10 hf
      · have hf := ite_f h28 hf
        refine go_iconst (pc' := 30) hC dX7_daysBetween_29 ki_0 rfl ?_
        refine go_istore (lc' := [(0, .ref (x_q X 111)), (2, .int p2), (3, .int p3), (4, .int x9), (5, .int (0 : Int32))]) (pc' := 32) hC dX7_daysBetween_30 (Nat.le_of_ble_eq_true rfl) rfl rfl ?_
        refine go_iconst (pc' := 33) hC dX7_daysBetween_32 ki_0 rfl ?_
        refine go_istore (lc' := [(0, .ref (x_q X 111)), (2, .int p2), (3, .int p3), (4, .int x9), (5, .int (0 : Int32)), (6, .int (0 : Int32))]) (pc' := 35) hC dX7_daysBetween_33 (Nat.le_of_ble_eq_true rfl) rfl rfl ?_
        obtain ⟨k70_14, hk70_14, hf⟩ := lk_e2 hf
        have jk70_14 : ∀ (x12 : Int32) (a13 : Nat → Int32), k70_14 x12 a13 = some o → Go X layX S 70 [(0, .ref (x_q X 111)), (2, .int p2), (3, .int p3), (4, .int x9), (5, .int x12)] [] g [] [] [(115, a13)] [] [] 0 0 := by
          intro x12 a13 hf
          have hf := hk70_14 x12 a13 hf
          clear hk70_14
          refine go_iload (pc' := 72) hC dX7_daysBetween_70 rfl rfl ?_
          refine go_if_ne (tgt := 78) (pc' := 75) hC dX7_daysBetween_72 (by decide) rfl (fun h15 => ?_) (fun h15 => ?_)
          · have hf := ite_f h15 hf
            refine go_iinc (lc' := [(0, .ref (x_q X 111)), (2, .int p2), (3, .int p3), (4, .int (x9 + (1 : Int32))), (5, .int x12)]) (pc' := 81) hC dX7_daysBetween_78 rfl ki_1 (Nat.le_of_ble_eq_true rfl) rfl rfl ?_
            refine go_goto (tgt := 20) hC dX7_daysBetween_81 (by decide) ?_
            refine go_sub [0, 2, 3, 4] rfl ?_
            exact ih (x9 + (1 : Int32)) a13 hf
          · have hf := ite_t h15 hf
            refine go_sub [0, 2] rfl ?_
            exact jk75_8 a13 hf
        clear hk70_14
        have l35_27 : ∀ (nn : Nat) (x16 : Int32) (x17 : Int32) (a18 : Nat → Int32), it3 (f_X7_daysBetween_q111_L35 S p3 k70_14) nn x16 x17 a18 = some o → Go X layX S 35 [(0, .ref (x_q X 111)), (2, .int p2), (3, .int p3), (4, .int x9), (5, .int x16), (6, .int x17)] [] g [] [] [(115, a18)] [] [] 0 0 := by
          intro nn
          induction nn with
          | zero =>
            intro x16 x17 a18 hf
            exact none_no hf
          | succ nn ih =>
            intro x16 x17 a18 hf
            have hf : f_X7_daysBetween_q111_L35 S p3 k70_14 (it3 (f_X7_daysBetween_q111_L35 S p3 k70_14) nn) x16 x17 a18 = some o := hf
            generalize it3 (f_X7_daysBetween_q111_L35 S p3 k70_14) nn = r19 at ih hf
            unfold f_X7_daysBetween_q111_L35 at hf
            refine go_iload (pc' := 37) hC dX7_daysBetween_35 rfl rfl ?_
            refine go_aload_n (pc' := 38) hC dX7_daysBetween_37 rfl rfl ?_
            refine go_geti (v := (S.1 11100)) (pc' := 41) hC 111 0 layX_111 rfl rfl inlX7 (Nat.le_of_ble_eq_true rfl) mw_620 rfl dX7_daysBetween_38 rfl rfl ?_
            refine go_icmp_ge (tgt := 70) (pc' := 44) hC dX7_daysBetween_41 (by decide) rfl (fun h26 => ?_) (fun h26 => ?_)
            · have hf := ite_t h26 hf
              refine go_sub [0, 2, 3, 4, 5] rfl ?_
              exact jk70_14 x16 a18 hf
            · have hf := ite_f h26 hf
              refine go_iload_n (pc' := 45) hC dX7_daysBetween_44 rfl rfl ?_
              refine go_iload (pc' := 47) hC dX7_daysBetween_45 rfl rfl ?_
              refine go_ishr (pc' := 48) hC dX7_daysBetween_47 rfl ?_
              refine go_iconst (pc' := 49) hC dX7_daysBetween_48 ki_1 rfl ?_
              refine go_iand (pc' := 50) hC dX7_daysBetween_49 rfl ?_
              obtain ⟨k64_22, hk64_22, hf⟩ := lk_e2 hf
              have jk64_22 : ∀ (x20 : Int32) (a21 : Nat → Int32), k64_22 x20 a21 = some o → Go X layX S 64 [(0, .ref (x_q X 111)), (2, .int p2), (3, .int p3), (4, .int x9), (5, .int x20), (6, .int x17)] [] g [] [] [(115, a21)] [] [] 0 0 := by
                intro x20 a21 hf
                have hf := hk64_22 x20 a21 hf
                clear hk64_22
                refine go_iinc (lc' := [(0, .ref (x_q X 111)), (2, .int p2), (3, .int p3), (4, .int x9), (5, .int x20), (6, .int (x17 + (1 : Int32)))]) (pc' := 67) hC dX7_daysBetween_64 rfl ki_1 (Nat.le_of_ble_eq_true rfl) rfl rfl ?_
                refine go_goto (tgt := 35) hC dX7_daysBetween_67 (by decide) ?_
                exact ih x20 (x17 + (1 : Int32)) a21 hf
              clear hk64_22
              refine go_if_eq (tgt := 64) (pc' := 53) hC dX7_daysBetween_50 (by decide) rfl (fun h25 => ?_) (fun h25 => ?_)
              · have hf := ite_t h25 hf
                exact jk64_22 x16 a18 hf
              · have hf := ite_f h25 hf
                refine go_iload (pc' := 55) hC dX7_daysBetween_53 rfl rfl ?_
                refine go_aload_n (pc' := 56) hC dX7_daysBetween_55 rfl rfl ?_
                refine go_iload (pc' := 58) hC dX7_daysBetween_56 rfl rfl ?_
                obtain ⟨o23, ho23, hf⟩ := bd_e hf
                refine go_callV1 (pc' := 61) (As := [.int x17]) (st := [.int x16]) (st' := [.int o23.1, .int x16]) (L1' := []) (L2' := []) (L3' := [(115, o23.2)]) (L4' := []) (L5' := []) (cells' := 0) (slots' := 0)  (b := 111) hC dX7_daysBetween_58 ⟨mw_689, mw_692, mw_99, yd_yX7_goAlong, yp_yX7_goAlong, Nat.le_of_ble_eq_true rfl, Nat.le_of_ble_eq_true rfl, (Nat.le_of_ble_eq_true rfl), (Nat.le_of_ble_eq_true rfl)⟩ mw_690 mw_691 layX_111 rfl rfl rfl (Nat.le_of_ble_eq_true rfl) (c_X7_goAlong_q111 (x_l X) (x_D X) (x_q X) g (x_cy X) (x_z X) _ x17 o23 ho23) rfl rfl rfl rfl rfl rfl rfl rfl rfl rfl rfl rfl rfl rfl ?_
                refine go_ior (pc' := 62) hC dX7_daysBetween_61 rfl ?_
                refine go_namei (fun x24 hx => ?_)
                have hf := lz_r hx hf
                clear hx
                refine go_istore (lc' := [(0, .ref (x_q X 111)), (2, .int p2), (3, .int p3), (4, .int x9), (5, .int x24), (6, .int x17)]) (pc' := 64) hC dX7_daysBetween_62 (Nat.le_of_ble_eq_true rfl) rfl rfl ?_
                exact jk64_22 x24 o23.2 hf
        exact l35_27 fuel (0 : Int32) (0 : Int32) a10 hf
  refine go_sub [0, 2, 3, 4] rfl ?_
  exact l20_29 fuel (1 : Int32) a3 hf
theorem dX7_reached_0 : decode cX7_reached 0 = .ok (.iconst 1, 1) := by decide +kernel
theorem dX7_reached_1 : decode cX7_reached 1 = .ok (.iload_n 1, 1) := by decide +kernel
theorem dX7_reached_2 : decode cX7_reached 2 = .ok (.ishl, 1) := by decide +kernel
theorem dX7_reached_3 : decode cX7_reached 3 = .ok (.istore 4, 2) := by decide +kernel
theorem dX7_reached_5 : decode cX7_reached 5 = .ok (.iconst 1, 1) := by decide +kernel
theorem dX7_reached_6 : decode cX7_reached 6 = .ok (.istore 5, 2) := by decide +kernel
theorem dX7_reached_8 : decode cX7_reached 8 = .ok (.iload 5, 2) := by decide +kernel
theorem dX7_reached_10 : decode cX7_reached 10 = .ok (.aload_n 0, 1) := by decide +kernel
theorem dX7_reached_11 : decode cX7_reached 11 = .ok (.getfield 37, 3) := by decide +kernel
theorem dX7_reached_14 : decode cX7_reached 14 = .ok (.if_icmp .ge 72, 3) := by decide +kernel
theorem dX7_reached_17 : decode cX7_reached 17 = .ok (.iload 4, 2) := by decide +kernel
theorem dX7_reached_19 : decode cX7_reached 19 = .ok (.istore 6, 2) := by decide +kernel
theorem dX7_reached_21 : decode cX7_reached 21 = .ok (.iconst 0, 1) := by decide +kernel
theorem dX7_reached_22 : decode cX7_reached 22 = .ok (.istore 7, 2) := by decide +kernel
theorem dX7_reached_24 : decode cX7_reached 24 = .ok (.iload 7, 2) := by decide +kernel
theorem dX7_reached_26 : decode cX7_reached 26 = .ok (.aload_n 0, 1) := by decide +kernel
theorem dX7_reached_27 : decode cX7_reached 27 = .ok (.getfield 41, 3) := by decide +kernel
theorem dX7_reached_30 : decode cX7_reached 30 = .ok (.if_icmp .ge 40, 3) := by decide +kernel
theorem dX7_reached_33 : decode cX7_reached 33 = .ok (.iload_n 2, 1) := by decide +kernel
theorem dX7_reached_34 : decode cX7_reached 34 = .ok (.iload 7, 2) := by decide +kernel
theorem dX7_reached_36 : decode cX7_reached 36 = .ok (.ishr, 1) := by decide +kernel
theorem dX7_reached_37 : decode cX7_reached 37 = .ok (.iconst 1, 1) := by decide +kernel
theorem dX7_reached_38 : decode cX7_reached 38 = .ok (.iand, 1) := by decide +kernel
theorem dX7_reached_39 : decode cX7_reached 39 = .ok (.ifCond .eq 25, 3) := by decide +kernel
theorem dX7_reached_42 : decode cX7_reached 42 = .ok (.iload 4, 2) := by decide +kernel
theorem dX7_reached_44 : decode cX7_reached 44 = .ok (.aload_n 3, 1) := by decide +kernel
theorem dX7_reached_45 : decode cX7_reached 45 = .ok (.iload 7, 2) := by decide +kernel
theorem dX7_reached_47 : decode cX7_reached 47 = .ok (.iaload, 1) := by decide +kernel
theorem dX7_reached_48 : decode cX7_reached 48 = .ok (.iand, 1) := by decide +kernel
theorem dX7_reached_49 : decode cX7_reached 49 = .ok (.ifCond .eq 15, 3) := by decide +kernel
theorem dX7_reached_52 : decode cX7_reached 52 = .ok (.iload 4, 2) := by decide +kernel
theorem dX7_reached_54 : decode cX7_reached 54 = .ok (.aload_n 0, 1) := by decide +kernel
theorem dX7_reached_55 : decode cX7_reached 55 = .ok (.getfield 9, 3) := by decide +kernel
theorem dX7_reached_58 : decode cX7_reached 58 = .ok (.iload 7, 2) := by decide +kernel
theorem dX7_reached_60 : decode cX7_reached 60 = .ok (.iaload, 1) := by decide +kernel
theorem dX7_reached_61 : decode cX7_reached 61 = .ok (.ior, 1) := by decide +kernel
theorem dX7_reached_62 : decode cX7_reached 62 = .ok (.istore 4, 2) := by decide +kernel
theorem dX7_reached_64 : decode cX7_reached 64 = .ok (.iinc 7 1, 3) := by decide +kernel
theorem dX7_reached_67 : decode cX7_reached 67 = .ok (.goto (-43), 3) := by decide +kernel
theorem dX7_reached_70 : decode cX7_reached 70 = .ok (.iload 4, 2) := by decide +kernel
theorem dX7_reached_72 : decode cX7_reached 72 = .ok (.iload 6, 2) := by decide +kernel
theorem dX7_reached_74 : decode cX7_reached 74 = .ok (.if_icmp .ne 6, 3) := by decide +kernel
theorem dX7_reached_77 : decode cX7_reached 77 = .ok (.goto 9, 3) := by decide +kernel
theorem dX7_reached_80 : decode cX7_reached 80 = .ok (.iinc 5 1, 3) := by decide +kernel
theorem dX7_reached_83 : decode cX7_reached 83 = .ok (.goto (-75), 3) := by decide +kernel
theorem dX7_reached_86 : decode cX7_reached 86 = .ok (.iload 4, 2) := by decide +kernel
theorem dX7_reached_88 : decode cX7_reached 88 = .ok (.ireturn, 1) := by decide +kernel
abbrev o_X7_reached_q111_q113 : Type := Int32
def f_X7_reached_q111_q113_L24 (S : wd_W) (p2 : Int32) (k70_6 : (Int32) → (Option o_X7_reached_q111_q113)) (r10 : (Int32) → (Int32) → (Option o_X7_reached_q111_q113)) (x8 : Int32) (x9 : Int32) : Option o_X7_reached_q111_q113 :=
if (S.1 11100) ≤ x9 then (
k70_6 x8) else (
lk (fun x11 =>
r10 x11 (x9 + (1 : Int32))) fun k64_12 =>
if ((p2 >>> (x9 &&& 31)) &&& (1 : Int32)) = 0 then (
k64_12 x8) else (
gd (okx x9 13) <|
if (x8 &&& ((S.2.2.1 113) x9.toNatClampNeg)) = 0 then (
k64_12 x8) else (
gd (okx x9 13) <|
lz (x8 ||| ((S.2.2.1 112) x9.toNatClampNeg)) fun x15 =>
k64_12 x15)))
def f_X7_reached_q111_q113_L8 (S : wd_W) (p2 : Int32) (r4 : (Int32) → (Int32) → (Option o_X7_reached_q111_q113)) (x2 : Int32) (x3 : Int32) : Option o_X7_reached_q111_q113 :=
if (S.1 11103) ≤ x3 then (
some x2) else (
lk (fun x5 =>
if x5 = x2 then (
some x5) else (
r4 x5 (x3 + (1 : Int32)))) fun k70_6 =>
it2 (f_X7_reached_q111_q113_L24 S p2 k70_6) fuel x2 (0 : Int32))
def f_X7_reached_q111_q113 (S : wd_W) (p1 : Int32) (p2 : Int32) : Option o_X7_reached_q111_q113 :=
lz ((1 : Int32) <<< (p1 &&& 31)) fun x1 =>
it2 (f_X7_reached_q111_q113_L8 S p2) fuel x1 (1 : Int32)
set_option maxRecDepth 100000 in
set_option maxHeartbeats 4000000 in
theorem c_X7_reached_q111_q113 (l : Launch) (D : va_G) (q g : Nat → Nat) (cy : Nat → ClassId) (z : (Nat → Nat) × (Nat → Nat) × Nat) (S : wd_W) (p1 : Int32) (p2 : Int32) (o : o_X7_reached_q111_q113) (hf : f_X7_reached_q111_q113 S p1 p2 = some o) : MX layX l yX7_reached cX7_reached 8 (some .int) ({ frames := 0, cells := 0, slots := 0, locals := 0 } : Room) D q g cy z [.ref (q 111), .int p1, .int p2, .ref (q 113)] S false (some (.int o)) (wd_o S [] [] [] [] []) 0 0 := by
  refine mx_of (own := RX7) (lc := [(0, .ref (q 111)), (1, .int p1), (2, .int p2), (3, .ref (q 113))]) (by decide +kernel) rfl layX_ok (Nat.le_of_ble_eq_true rfl) rfl ?_
  intro X hXl hXq hXz hC hQ
  subst hXl; subst hXq; subst hXz
  unfold f_X7_reached_q111_q113 at hf
  refine go_iconst (pc' := 1) hC dX7_reached_0 ki_1 rfl ?_
  refine go_iload_n (pc' := 2) hC dX7_reached_1 rfl rfl ?_
  refine go_ishl (pc' := 3) hC dX7_reached_2 rfl ?_
  refine go_namei (fun x1 hx => ?_)
  have hf := lz_r hx hf
  clear hx
  refine go_istore (lc' := [(0, .ref (x_q X 111)), (1, .int p1), (2, .int p2), (3, .ref (x_q X 113)), (4, .int x1)]) (pc' := 5) hC dX7_reached_3 (Nat.le_of_ble_eq_true rfl) rfl rfl ?_
  refine go_iconst (pc' := 6) hC dX7_reached_5 ki_1 rfl ?_
  refine go_istore (lc' := [(0, .ref (x_q X 111)), (1, .int p1), (2, .int p2), (3, .ref (x_q X 113)), (4, .int x1), (5, .int (1 : Int32))]) (pc' := 8) hC dX7_reached_6 (Nat.le_of_ble_eq_true rfl) rfl rfl ?_
  have l8_21 : ∀ (nn : Nat) (x2 : Int32) (x3 : Int32), it2 (f_X7_reached_q111_q113_L8 S p2) nn x2 x3 = some o → Go X layX S 8 [(0, .ref (x_q X 111)), (2, .int p2), (3, .ref (x_q X 113)), (4, .int x2), (5, .int x3)] [] g [] [] [] [] [] 0 0 := by
    intro nn
    induction nn with
    | zero =>
      intro x2 x3 hf
      exact none_no hf
    | succ nn ih =>
      intro x2 x3 hf
      have hf : f_X7_reached_q111_q113_L8 S p2 (it2 (f_X7_reached_q111_q113_L8 S p2) nn) x2 x3 = some o := hf
      generalize it2 (f_X7_reached_q111_q113_L8 S p2) nn = r4 at ih hf
      unfold f_X7_reached_q111_q113_L8 at hf
      refine go_iload (pc' := 10) hC dX7_reached_8 rfl rfl ?_
      refine go_aload_n (pc' := 11) hC dX7_reached_10 rfl rfl ?_
      refine go_geti (v := (S.1 11103)) (pc' := 14) hC 111 3 layX_111 rfl rfl inlX7 (Nat.le_of_ble_eq_true rfl) mw_618 rfl dX7_reached_11 rfl rfl ?_
      refine go_icmp_ge (tgt := 86) (pc' := 17) hC dX7_reached_14 (by decide) rfl (fun h20 => ?_) (fun h20 => ?_)
      · have hf := ite_t h20 hf
        refine go_iload (pc' := 88) hC dX7_reached_86 rfl rfl ?_
        obtain rfl := Option.some.inj hf
        exact go_iret hC hQ dX7_reached_88 rfl rfl rfl rfl (fun _ => rfl) rfl rfl
      · have hf := ite_f h20 hf
        refine go_iload (pc' := 19) hC dX7_reached_17 rfl rfl ?_
        refine go_istore (lc' := [(0, .ref (x_q X 111)), (2, .int p2), (3, .ref (x_q X 113)), (4, .int x2), (5, .int x3), (6, .int x2)]) (pc' := 21) hC dX7_reached_19 (Nat.le_of_ble_eq_true rfl) rfl rfl ?_
        refine go_iconst (pc' := 22) hC dX7_reached_21 ki_0 rfl ?_
        refine go_istore (lc' := [(0, .ref (x_q X 111)), (2, .int p2), (3, .ref (x_q X 113)), (4, .int x2), (5, .int x3), (6, .int x2), (7, .int (0 : Int32))]) (pc' := 24) hC dX7_reached_22 (Nat.le_of_ble_eq_true rfl) rfl rfl ?_
        obtain ⟨k70_6, hk70_6, hf⟩ := lk_e1 hf
        have jk70_6 : ∀ (x5 : Int32), k70_6 x5 = some o → Go X layX S 70 [(0, .ref (x_q X 111)), (2, .int p2), (3, .ref (x_q X 113)), (4, .int x5), (5, .int x3), (6, .int x2)] [] g [] [] [] [] [] 0 0 := by
          intro x5 hf
          have hf := hk70_6 x5 hf
          clear hk70_6
          refine go_iload (pc' := 72) hC dX7_reached_70 rfl rfl ?_
          refine go_iload (pc' := 74) hC dX7_reached_72 rfl rfl ?_
          refine go_icmp_ne (tgt := 80) (pc' := 77) hC dX7_reached_74 (by decide) rfl (fun h7 => ?_) (fun h7 => ?_)
          · have hf := ite_f h7 hf
            refine go_iinc (lc' := [(0, .ref (x_q X 111)), (2, .int p2), (3, .ref (x_q X 113)), (4, .int x5), (5, .int (x3 + (1 : Int32))), (6, .int x2)]) (pc' := 83) hC dX7_reached_80 rfl ki_1 (Nat.le_of_ble_eq_true rfl) rfl rfl ?_
            refine go_goto (tgt := 8) hC dX7_reached_83 (by decide) ?_
            refine go_sub [0, 2, 3, 4, 5] rfl ?_
            exact ih x5 (x3 + (1 : Int32)) hf
          · have hf := ite_t h7 hf
            refine go_goto (tgt := 86) hC dX7_reached_77 (by decide) ?_
            refine go_iload (pc' := 88) hC dX7_reached_86 rfl rfl ?_
            obtain rfl := Option.some.inj hf
            exact go_iret hC hQ dX7_reached_88 rfl rfl rfl rfl (fun _ => rfl) rfl rfl
        clear hk70_6
        have l24_19 : ∀ (nn : Nat) (x8 : Int32) (x9 : Int32), it2 (f_X7_reached_q111_q113_L24 S p2 k70_6) nn x8 x9 = some o → Go X layX S 24 [(0, .ref (x_q X 111)), (2, .int p2), (3, .ref (x_q X 113)), (4, .int x8), (5, .int x3), (6, .int x2), (7, .int x9)] [] g [] [] [] [] [] 0 0 := by
          intro nn
          induction nn with
          | zero =>
            intro x8 x9 hf
            exact none_no hf
          | succ nn ih =>
            intro x8 x9 hf
            have hf : f_X7_reached_q111_q113_L24 S p2 k70_6 (it2 (f_X7_reached_q111_q113_L24 S p2 k70_6) nn) x8 x9 = some o := hf
            generalize it2 (f_X7_reached_q111_q113_L24 S p2 k70_6) nn = r10 at ih hf
            unfold f_X7_reached_q111_q113_L24 at hf
            refine go_iload (pc' := 26) hC dX7_reached_24 rfl rfl ?_
            refine go_aload_n (pc' := 27) hC dX7_reached_26 rfl rfl ?_
            refine go_geti (v := (S.1 11100)) (pc' := 30) hC 111 0 layX_111 rfl rfl inlX7 (Nat.le_of_ble_eq_true rfl) mw_620 rfl dX7_reached_27 rfl rfl ?_
            refine go_icmp_ge (tgt := 70) (pc' := 33) hC dX7_reached_30 (by decide) rfl (fun h18 => ?_) (fun h18 => ?_)
            · have hf := ite_t h18 hf
              refine go_sub [0, 2, 3, 4, 5, 6] rfl ?_
              exact jk70_6 x8 hf
            · have hf := ite_f h18 hf
              refine go_iload_n (pc' := 34) hC dX7_reached_33 rfl rfl ?_
              refine go_iload (pc' := 36) hC dX7_reached_34 rfl rfl ?_
              refine go_ishr (pc' := 37) hC dX7_reached_36 rfl ?_
              refine go_iconst (pc' := 38) hC dX7_reached_37 ki_1 rfl ?_
              refine go_iand (pc' := 39) hC dX7_reached_38 rfl ?_
              obtain ⟨k64_12, hk64_12, hf⟩ := lk_e1 hf
              have jk64_12 : ∀ (x11 : Int32), k64_12 x11 = some o → Go X layX S 64 [(0, .ref (x_q X 111)), (2, .int p2), (3, .ref (x_q X 113)), (4, .int x11), (5, .int x3), (6, .int x2), (7, .int x9)] [] g [] [] [] [] [] 0 0 := by
                intro x11 hf
                have hf := hk64_12 x11 hf
                clear hk64_12
                refine go_iinc (lc' := [(0, .ref (x_q X 111)), (2, .int p2), (3, .ref (x_q X 113)), (4, .int x11), (5, .int x3), (6, .int x2), (7, .int (x9 + (1 : Int32)))]) (pc' := 67) hC dX7_reached_64 rfl ki_1 (Nat.le_of_ble_eq_true rfl) rfl rfl ?_
                refine go_goto (tgt := 24) hC dX7_reached_67 (by decide) ?_
                exact ih x11 (x9 + (1 : Int32)) hf
              clear hk64_12
              refine go_if_eq (tgt := 64) (pc' := 42) hC dX7_reached_39 (by decide) rfl (fun h17 => ?_) (fun h17 => ?_)
              · have hf := ite_t h17 hf
                exact jk64_12 x8 hf
              · have hf := ite_f h17 hf
                refine go_iload (pc' := 44) hC dX7_reached_42 rfl rfl ?_
                refine go_aload_n (pc' := 45) hC dX7_reached_44 rfl rfl ?_
                refine go_iload (pc' := 47) hC dX7_reached_45 rfl rfl ?_
                obtain ⟨h13, hf⟩ := gd_e hf
                refine go_iald (f := (S.2.2.1 113)) (pc' := 48) hC 113 layX_113 rfl rfl dX7_reached_47 (okx_in h13) rfl ?_
                refine go_iand (pc' := 49) hC dX7_reached_48 rfl ?_
                refine go_if_eq (tgt := 64) (pc' := 52) hC dX7_reached_49 (by decide) rfl (fun h16 => ?_) (fun h16 => ?_)
                · have hf := ite_t h16 hf
                  exact jk64_12 x8 hf
                · have hf := ite_f h16 hf
                  refine go_iload (pc' := 54) hC dX7_reached_52 rfl rfl ?_
                  refine go_aload_n (pc' := 55) hC dX7_reached_54 rfl rfl ?_
                  refine go_getq (pc' := 58) hC 111 5 layX_111 rfl rfl inlX7 (Nat.le_of_ble_eq_true rfl) mw_110 rfl dX7_reached_55 rfl ?_
                  refine go_iload (pc' := 60) hC dX7_reached_58 rfl rfl ?_
                  obtain ⟨h14, hf⟩ := gd_e hf
                  refine go_iald (f := (S.2.2.1 112)) (pc' := 61) hC 112 layX_112 rfl rfl dX7_reached_60 (okx_in h14) rfl ?_
                  refine go_ior (pc' := 62) hC dX7_reached_61 rfl ?_
                  refine go_namei (fun x15 hx => ?_)
                  have hf := lz_r hx hf
                  clear hx
                  refine go_istore (lc' := [(0, .ref (x_q X 111)), (2, .int p2), (3, .ref (x_q X 113)), (4, .int x15), (5, .int x3), (6, .int x2), (7, .int x9)]) (pc' := 64) hC dX7_reached_62 (Nat.le_of_ble_eq_true rfl) rfl rfl ?_
                  exact jk64_12 x15 hf
        exact l24_19 fuel x2 (0 : Int32) hf
  refine go_sub [0, 2, 3, 4, 5] rfl ?_
  exact l8_21 fuel x1 (1 : Int32) hf
theorem dJ6_bitCount_0f7a4_0 : decode cJ6_bitCount_0f7a4 0 = .ok (.iload_n 0, 1) := by decide +kernel
theorem dJ6_bitCount_0f7a4_1 : decode cJ6_bitCount_0f7a4 1 = .ok (.iload_n 0, 1) := by decide +kernel
theorem dJ6_bitCount_0f7a4_2 : decode cJ6_bitCount_0f7a4 2 = .ok (.iconst 1, 1) := by decide +kernel
theorem dJ6_bitCount_0f7a4_3 : decode cJ6_bitCount_0f7a4 3 = .ok (.iushr, 1) := by decide +kernel
theorem dJ6_bitCount_0f7a4_4 : decode cJ6_bitCount_0f7a4 4 = .ok (.ldc_w 265, 3) := by decide +kernel
theorem dJ6_bitCount_0f7a4_7 : decode cJ6_bitCount_0f7a4 7 = .ok (.iand, 1) := by decide +kernel
theorem dJ6_bitCount_0f7a4_8 : decode cJ6_bitCount_0f7a4 8 = .ok (.isub, 1) := by decide +kernel
theorem dJ6_bitCount_0f7a4_9 : decode cJ6_bitCount_0f7a4 9 = .ok (.istore_n 0, 1) := by decide +kernel
theorem dJ6_bitCount_0f7a4_10 : decode cJ6_bitCount_0f7a4 10 = .ok (.iload_n 0, 1) := by decide +kernel
theorem dJ6_bitCount_0f7a4_11 : decode cJ6_bitCount_0f7a4 11 = .ok (.ldc_w 266, 3) := by decide +kernel
theorem dJ6_bitCount_0f7a4_14 : decode cJ6_bitCount_0f7a4 14 = .ok (.iand, 1) := by decide +kernel
theorem dJ6_bitCount_0f7a4_15 : decode cJ6_bitCount_0f7a4 15 = .ok (.iload_n 0, 1) := by decide +kernel
theorem dJ6_bitCount_0f7a4_16 : decode cJ6_bitCount_0f7a4 16 = .ok (.iconst 2, 1) := by decide +kernel
theorem dJ6_bitCount_0f7a4_17 : decode cJ6_bitCount_0f7a4 17 = .ok (.iushr, 1) := by decide +kernel
theorem dJ6_bitCount_0f7a4_18 : decode cJ6_bitCount_0f7a4 18 = .ok (.ldc_w 266, 3) := by decide +kernel
theorem dJ6_bitCount_0f7a4_21 : decode cJ6_bitCount_0f7a4 21 = .ok (.iand, 1) := by decide +kernel
theorem dJ6_bitCount_0f7a4_22 : decode cJ6_bitCount_0f7a4 22 = .ok (.iadd, 1) := by decide +kernel
theorem dJ6_bitCount_0f7a4_23 : decode cJ6_bitCount_0f7a4 23 = .ok (.istore_n 0, 1) := by decide +kernel
theorem dJ6_bitCount_0f7a4_24 : decode cJ6_bitCount_0f7a4 24 = .ok (.iload_n 0, 1) := by decide +kernel
theorem dJ6_bitCount_0f7a4_25 : decode cJ6_bitCount_0f7a4 25 = .ok (.iload_n 0, 1) := by decide +kernel
theorem dJ6_bitCount_0f7a4_26 : decode cJ6_bitCount_0f7a4 26 = .ok (.iconst 4, 1) := by decide +kernel
theorem dJ6_bitCount_0f7a4_27 : decode cJ6_bitCount_0f7a4 27 = .ok (.iushr, 1) := by decide +kernel
theorem dJ6_bitCount_0f7a4_28 : decode cJ6_bitCount_0f7a4 28 = .ok (.iadd, 1) := by decide +kernel
theorem dJ6_bitCount_0f7a4_29 : decode cJ6_bitCount_0f7a4 29 = .ok (.ldc_w 267, 3) := by decide +kernel
theorem dJ6_bitCount_0f7a4_32 : decode cJ6_bitCount_0f7a4 32 = .ok (.iand, 1) := by decide +kernel
theorem dJ6_bitCount_0f7a4_33 : decode cJ6_bitCount_0f7a4 33 = .ok (.istore_n 0, 1) := by decide +kernel
theorem dJ6_bitCount_0f7a4_34 : decode cJ6_bitCount_0f7a4 34 = .ok (.iload_n 0, 1) := by decide +kernel
theorem dJ6_bitCount_0f7a4_35 : decode cJ6_bitCount_0f7a4 35 = .ok (.iload_n 0, 1) := by decide +kernel
theorem dJ6_bitCount_0f7a4_36 : decode cJ6_bitCount_0f7a4 36 = .ok (.bipush 8, 2) := by decide +kernel
theorem dJ6_bitCount_0f7a4_38 : decode cJ6_bitCount_0f7a4 38 = .ok (.iushr, 1) := by decide +kernel
theorem dJ6_bitCount_0f7a4_39 : decode cJ6_bitCount_0f7a4 39 = .ok (.iadd, 1) := by decide +kernel
theorem dJ6_bitCount_0f7a4_40 : decode cJ6_bitCount_0f7a4 40 = .ok (.istore_n 0, 1) := by decide +kernel
theorem dJ6_bitCount_0f7a4_41 : decode cJ6_bitCount_0f7a4 41 = .ok (.iload_n 0, 1) := by decide +kernel
theorem dJ6_bitCount_0f7a4_42 : decode cJ6_bitCount_0f7a4 42 = .ok (.iload_n 0, 1) := by decide +kernel
theorem dJ6_bitCount_0f7a4_43 : decode cJ6_bitCount_0f7a4 43 = .ok (.bipush 16, 2) := by decide +kernel
theorem dJ6_bitCount_0f7a4_45 : decode cJ6_bitCount_0f7a4 45 = .ok (.iushr, 1) := by decide +kernel
theorem dJ6_bitCount_0f7a4_46 : decode cJ6_bitCount_0f7a4 46 = .ok (.iadd, 1) := by decide +kernel
theorem dJ6_bitCount_0f7a4_47 : decode cJ6_bitCount_0f7a4 47 = .ok (.istore_n 0, 1) := by decide +kernel
theorem dJ6_bitCount_0f7a4_48 : decode cJ6_bitCount_0f7a4 48 = .ok (.iload_n 0, 1) := by decide +kernel
theorem dJ6_bitCount_0f7a4_49 : decode cJ6_bitCount_0f7a4 49 = .ok (.bipush 63, 2) := by decide +kernel
theorem dJ6_bitCount_0f7a4_51 : decode cJ6_bitCount_0f7a4 51 = .ok (.iand, 1) := by decide +kernel
theorem dJ6_bitCount_0f7a4_52 : decode cJ6_bitCount_0f7a4 52 = .ok (.ireturn, 1) := by decide +kernel
abbrev o_J6_bitCount_0f7a4 : Type := Int32
def f_J6_bitCount_0f7a4 (p1 : Int32) : Option o_J6_bitCount_0f7a4 :=
lz (p1 - (((p1.toUInt32 >>> ((1 : Int32).toUInt32 &&& Int32.toUInt32 31)).toInt32) &&& (1431655765 : Int32))) fun x1 =>
lz ((x1 &&& (858993459 : Int32)) + (((x1.toUInt32 >>> ((2 : Int32).toUInt32 &&& Int32.toUInt32 31)).toInt32) &&& (858993459 : Int32))) fun x2 =>
lz ((x2 + ((x2.toUInt32 >>> ((4 : Int32).toUInt32 &&& Int32.toUInt32 31)).toInt32)) &&& (252645135 : Int32)) fun x3 =>
lz (x3 + ((x3.toUInt32 >>> ((8 : Int32).toUInt32 &&& Int32.toUInt32 31)).toInt32)) fun x4 =>
lz (x4 + ((x4.toUInt32 >>> ((16 : Int32).toUInt32 &&& Int32.toUInt32 31)).toInt32)) fun x5 =>
some (x5 &&& (63 : Int32))
set_option maxRecDepth 100000 in
set_option maxHeartbeats 4000000 in
theorem c_J6_bitCount_0f7a4 (l : Launch) (D : va_G) (q g : Nat → Nat) (cy : Nat → ClassId) (z : (Nat → Nat) × (Nat → Nat) × Nat) (S : wd_W) (p1 : Int32) (o : o_J6_bitCount_0f7a4) (hf : f_J6_bitCount_0f7a4 p1 = some o) : MX layX l yJ6_bitCount_0f7a4 cJ6_bitCount_0f7a4 1 (some .int) ({ frames := 0, cells := 0, slots := 0, locals := 0 } : Room) D q g cy z [.int p1] S false (some (.int o)) (wd_o S [] [] [] [] []) 0 0 := by
  refine mx_of (own := RJ6) (lc := [(0, .int p1)]) (by decide +kernel) rfl layX_ok (Nat.le_of_ble_eq_true rfl) rfl ?_
  intro X hXl hXq hXz hC hQ
  subst hXl; subst hXq; subst hXz
  unfold f_J6_bitCount_0f7a4 at hf
  refine go_iload_n (pc' := 1) hC dJ6_bitCount_0f7a4_0 rfl rfl ?_
  refine go_iload_n (pc' := 2) hC dJ6_bitCount_0f7a4_1 rfl rfl ?_
  refine go_iconst (pc' := 3) hC dJ6_bitCount_0f7a4_2 ki_1 rfl ?_
  refine go_iushr (pc' := 4) hC dJ6_bitCount_0f7a4_3 rfl ?_
  refine go_ldc_w (pc' := 7) hC dJ6_bitCount_0f7a4_4 mw_678 rfl ?_
  refine go_iand (pc' := 8) hC dJ6_bitCount_0f7a4_7 rfl ?_
  refine go_isub (pc' := 9) hC dJ6_bitCount_0f7a4_8 rfl ?_
  refine go_namei (fun x1 hx => ?_)
  have hf := lz_r hx hf
  clear hx
  refine go_istore_n (lc' := [(0, .int x1)]) (pc' := 10) hC dJ6_bitCount_0f7a4_9 (Nat.le_of_ble_eq_true rfl) rfl rfl ?_
  refine go_iload_n (pc' := 11) hC dJ6_bitCount_0f7a4_10 rfl rfl ?_
  refine go_ldc_w (pc' := 14) hC dJ6_bitCount_0f7a4_11 mw_679 rfl ?_
  refine go_iand (pc' := 15) hC dJ6_bitCount_0f7a4_14 rfl ?_
  refine go_iload_n (pc' := 16) hC dJ6_bitCount_0f7a4_15 rfl rfl ?_
  refine go_iconst (pc' := 17) hC dJ6_bitCount_0f7a4_16 ki_2 rfl ?_
  refine go_iushr (pc' := 18) hC dJ6_bitCount_0f7a4_17 rfl ?_
  refine go_ldc_w (pc' := 21) hC dJ6_bitCount_0f7a4_18 mw_679 rfl ?_
  refine go_iand (pc' := 22) hC dJ6_bitCount_0f7a4_21 rfl ?_
  refine go_iadd (pc' := 23) hC dJ6_bitCount_0f7a4_22 rfl ?_
  refine go_namei (fun x2 hx => ?_)
  have hf := lz_r hx hf
  clear hx
  refine go_istore_n (lc' := [(0, .int x2)]) (pc' := 24) hC dJ6_bitCount_0f7a4_23 (Nat.le_of_ble_eq_true rfl) rfl rfl ?_
  refine go_iload_n (pc' := 25) hC dJ6_bitCount_0f7a4_24 rfl rfl ?_
  refine go_iload_n (pc' := 26) hC dJ6_bitCount_0f7a4_25 rfl rfl ?_
  refine go_iconst (pc' := 27) hC dJ6_bitCount_0f7a4_26 ki_4 rfl ?_
  refine go_iushr (pc' := 28) hC dJ6_bitCount_0f7a4_27 rfl ?_
  refine go_iadd (pc' := 29) hC dJ6_bitCount_0f7a4_28 rfl ?_
  refine go_ldc_w (pc' := 32) hC dJ6_bitCount_0f7a4_29 mw_680 rfl ?_
  refine go_iand (pc' := 33) hC dJ6_bitCount_0f7a4_32 rfl ?_
  refine go_namei (fun x3 hx => ?_)
  have hf := lz_r hx hf
  clear hx
  refine go_istore_n (lc' := [(0, .int x3)]) (pc' := 34) hC dJ6_bitCount_0f7a4_33 (Nat.le_of_ble_eq_true rfl) rfl rfl ?_
  refine go_iload_n (pc' := 35) hC dJ6_bitCount_0f7a4_34 rfl rfl ?_
  refine go_iload_n (pc' := 36) hC dJ6_bitCount_0f7a4_35 rfl rfl ?_
  refine go_bipush (pc' := 38) hC dJ6_bitCount_0f7a4_36 kb_8 rfl ?_
  refine go_iushr (pc' := 39) hC dJ6_bitCount_0f7a4_38 rfl ?_
  refine go_iadd (pc' := 40) hC dJ6_bitCount_0f7a4_39 rfl ?_
  refine go_namei (fun x4 hx => ?_)
  have hf := lz_r hx hf
  clear hx
  refine go_istore_n (lc' := [(0, .int x4)]) (pc' := 41) hC dJ6_bitCount_0f7a4_40 (Nat.le_of_ble_eq_true rfl) rfl rfl ?_
  refine go_iload_n (pc' := 42) hC dJ6_bitCount_0f7a4_41 rfl rfl ?_
  refine go_iload_n (pc' := 43) hC dJ6_bitCount_0f7a4_42 rfl rfl ?_
  refine go_bipush (pc' := 45) hC dJ6_bitCount_0f7a4_43 kb_16 rfl ?_
  refine go_iushr (pc' := 46) hC dJ6_bitCount_0f7a4_45 rfl ?_
  refine go_iadd (pc' := 47) hC dJ6_bitCount_0f7a4_46 rfl ?_
  refine go_namei (fun x5 hx => ?_)
  have hf := lz_r hx hf
  clear hx
  refine go_istore_n (lc' := [(0, .int x5)]) (pc' := 48) hC dJ6_bitCount_0f7a4_47 (Nat.le_of_ble_eq_true rfl) rfl rfl ?_
  refine go_iload_n (pc' := 49) hC dJ6_bitCount_0f7a4_48 rfl rfl ?_
  refine go_bipush (pc' := 51) hC dJ6_bitCount_0f7a4_49 kb_63 rfl ?_
  refine go_iand (pc' := 52) hC dJ6_bitCount_0f7a4_51 rfl ?_
  obtain rfl := Option.some.inj hf
  exact go_iret hC hQ dJ6_bitCount_0f7a4_52 rfl rfl rfl rfl (fun _ => rfl) rfl rfl
abbrev o_X7_reached_q111_q114 : Type := Int32
def f_X7_reached_q111_q114_L24 (S : wd_W) (p2 : Int32) (k70_6 : (Int32) → (Option o_X7_reached_q111_q114)) (r10 : (Int32) → (Int32) → (Option o_X7_reached_q111_q114)) (x8 : Int32) (x9 : Int32) : Option o_X7_reached_q111_q114 :=
if (S.1 11100) ≤ x9 then (
k70_6 x8) else (
lk (fun x11 =>
r10 x11 (x9 + (1 : Int32))) fun k64_12 =>
if ((p2 >>> (x9 &&& 31)) &&& (1 : Int32)) = 0 then (
k64_12 x8) else (
gd (okx x9 13) <|
if (x8 &&& ((S.2.2.1 114) x9.toNatClampNeg)) = 0 then (
k64_12 x8) else (
gd (okx x9 13) <|
lz (x8 ||| ((S.2.2.1 112) x9.toNatClampNeg)) fun x15 =>
k64_12 x15)))
def f_X7_reached_q111_q114_L8 (S : wd_W) (p2 : Int32) (r4 : (Int32) → (Int32) → (Option o_X7_reached_q111_q114)) (x2 : Int32) (x3 : Int32) : Option o_X7_reached_q111_q114 :=
if (S.1 11103) ≤ x3 then (
some x2) else (
lk (fun x5 =>
if x5 = x2 then (
some x5) else (
r4 x5 (x3 + (1 : Int32)))) fun k70_6 =>
it2 (f_X7_reached_q111_q114_L24 S p2 k70_6) fuel x2 (0 : Int32))
def f_X7_reached_q111_q114 (S : wd_W) (p1 : Int32) (p2 : Int32) : Option o_X7_reached_q111_q114 :=
lz ((1 : Int32) <<< (p1 &&& 31)) fun x1 =>
it2 (f_X7_reached_q111_q114_L8 S p2) fuel x1 (1 : Int32)
set_option maxRecDepth 100000 in
set_option maxHeartbeats 4000000 in
theorem c_X7_reached_q111_q114 (l : Launch) (D : va_G) (q g : Nat → Nat) (cy : Nat → ClassId) (z : (Nat → Nat) × (Nat → Nat) × Nat) (S : wd_W) (p1 : Int32) (p2 : Int32) (o : o_X7_reached_q111_q114) (hf : f_X7_reached_q111_q114 S p1 p2 = some o) : MX layX l yX7_reached cX7_reached 8 (some .int) ({ frames := 0, cells := 0, slots := 0, locals := 0 } : Room) D q g cy z [.ref (q 111), .int p1, .int p2, .ref (q 114)] S false (some (.int o)) (wd_o S [] [] [] [] []) 0 0 := by
  refine mx_of (own := RX7) (lc := [(0, .ref (q 111)), (1, .int p1), (2, .int p2), (3, .ref (q 114))]) (by decide +kernel) rfl layX_ok (Nat.le_of_ble_eq_true rfl) rfl ?_
  intro X hXl hXq hXz hC hQ
  subst hXl; subst hXq; subst hXz
  unfold f_X7_reached_q111_q114 at hf
  refine go_iconst (pc' := 1) hC dX7_reached_0 ki_1 rfl ?_
  refine go_iload_n (pc' := 2) hC dX7_reached_1 rfl rfl ?_
  refine go_ishl (pc' := 3) hC dX7_reached_2 rfl ?_
  refine go_namei (fun x1 hx => ?_)
  have hf := lz_r hx hf
  clear hx
  refine go_istore (lc' := [(0, .ref (x_q X 111)), (1, .int p1), (2, .int p2), (3, .ref (x_q X 114)), (4, .int x1)]) (pc' := 5) hC dX7_reached_3 (Nat.le_of_ble_eq_true rfl) rfl rfl ?_
  refine go_iconst (pc' := 6) hC dX7_reached_5 ki_1 rfl ?_
  refine go_istore (lc' := [(0, .ref (x_q X 111)), (1, .int p1), (2, .int p2), (3, .ref (x_q X 114)), (4, .int x1), (5, .int (1 : Int32))]) (pc' := 8) hC dX7_reached_6 (Nat.le_of_ble_eq_true rfl) rfl rfl ?_
  have l8_21 : ∀ (nn : Nat) (x2 : Int32) (x3 : Int32), it2 (f_X7_reached_q111_q114_L8 S p2) nn x2 x3 = some o → Go X layX S 8 [(0, .ref (x_q X 111)), (2, .int p2), (3, .ref (x_q X 114)), (4, .int x2), (5, .int x3)] [] g [] [] [] [] [] 0 0 := by
    intro nn
    induction nn with
    | zero =>
      intro x2 x3 hf
      exact none_no hf
    | succ nn ih =>
      intro x2 x3 hf
      have hf : f_X7_reached_q111_q114_L8 S p2 (it2 (f_X7_reached_q111_q114_L8 S p2) nn) x2 x3 = some o := hf
      generalize it2 (f_X7_reached_q111_q114_L8 S p2) nn = r4 at ih hf
      unfold f_X7_reached_q111_q114_L8 at hf
      refine go_iload (pc' := 10) hC dX7_reached_8 rfl rfl ?_
      refine go_aload_n (pc' := 11) hC dX7_reached_10 rfl rfl ?_
      refine go_geti (v := (S.1 11103)) (pc' := 14) hC 111 3 layX_111 rfl rfl inlX7 (Nat.le_of_ble_eq_true rfl) mw_618 rfl dX7_reached_11 rfl rfl ?_
      refine go_icmp_ge (tgt := 86) (pc' := 17) hC dX7_reached_14 (by decide) rfl (fun h20 => ?_) (fun h20 => ?_)
      · have hf := ite_t h20 hf
        refine go_iload (pc' := 88) hC dX7_reached_86 rfl rfl ?_
        obtain rfl := Option.some.inj hf
        exact go_iret hC hQ dX7_reached_88 rfl rfl rfl rfl (fun _ => rfl) rfl rfl
      · have hf := ite_f h20 hf
        refine go_iload (pc' := 19) hC dX7_reached_17 rfl rfl ?_
        refine go_istore (lc' := [(0, .ref (x_q X 111)), (2, .int p2), (3, .ref (x_q X 114)), (4, .int x2), (5, .int x3), (6, .int x2)]) (pc' := 21) hC dX7_reached_19 (Nat.le_of_ble_eq_true rfl) rfl rfl ?_
        refine go_iconst (pc' := 22) hC dX7_reached_21 ki_0 rfl ?_
        refine go_istore (lc' := [(0, .ref (x_q X 111)), (2, .int p2), (3, .ref (x_q X 114)), (4, .int x2), (5, .int x3), (6, .int x2), (7, .int (0 : Int32))]) (pc' := 24) hC dX7_reached_22 (Nat.le_of_ble_eq_true rfl) rfl rfl ?_
        obtain ⟨k70_6, hk70_6, hf⟩ := lk_e1 hf
        have jk70_6 : ∀ (x5 : Int32), k70_6 x5 = some o → Go X layX S 70 [(0, .ref (x_q X 111)), (2, .int p2), (3, .ref (x_q X 114)), (4, .int x5), (5, .int x3), (6, .int x2)] [] g [] [] [] [] [] 0 0 := by
          intro x5 hf
          have hf := hk70_6 x5 hf
          clear hk70_6
          refine go_iload (pc' := 72) hC dX7_reached_70 rfl rfl ?_
          refine go_iload (pc' := 74) hC dX7_reached_72 rfl rfl ?_
          refine go_icmp_ne (tgt := 80) (pc' := 77) hC dX7_reached_74 (by decide) rfl (fun h7 => ?_) (fun h7 => ?_)
          · have hf := ite_f h7 hf
            refine go_iinc (lc' := [(0, .ref (x_q X 111)), (2, .int p2), (3, .ref (x_q X 114)), (4, .int x5), (5, .int (x3 + (1 : Int32))), (6, .int x2)]) (pc' := 83) hC dX7_reached_80 rfl ki_1 (Nat.le_of_ble_eq_true rfl) rfl rfl ?_
            refine go_goto (tgt := 8) hC dX7_reached_83 (by decide) ?_
            refine go_sub [0, 2, 3, 4, 5] rfl ?_
            exact ih x5 (x3 + (1 : Int32)) hf
          · have hf := ite_t h7 hf
            refine go_goto (tgt := 86) hC dX7_reached_77 (by decide) ?_
            refine go_iload (pc' := 88) hC dX7_reached_86 rfl rfl ?_
            obtain rfl := Option.some.inj hf
            exact go_iret hC hQ dX7_reached_88 rfl rfl rfl rfl (fun _ => rfl) rfl rfl
        clear hk70_6
        have l24_19 : ∀ (nn : Nat) (x8 : Int32) (x9 : Int32), it2 (f_X7_reached_q111_q114_L24 S p2 k70_6) nn x8 x9 = some o → Go X layX S 24 [(0, .ref (x_q X 111)), (2, .int p2), (3, .ref (x_q X 114)), (4, .int x8), (5, .int x3), (6, .int x2), (7, .int x9)] [] g [] [] [] [] [] 0 0 := by
          intro nn
          induction nn with
          | zero =>
            intro x8 x9 hf
            exact none_no hf
          | succ nn ih =>
            intro x8 x9 hf
            have hf : f_X7_reached_q111_q114_L24 S p2 k70_6 (it2 (f_X7_reached_q111_q114_L24 S p2 k70_6) nn) x8 x9 = some o := hf
            generalize it2 (f_X7_reached_q111_q114_L24 S p2 k70_6) nn = r10 at ih hf
            unfold f_X7_reached_q111_q114_L24 at hf
            refine go_iload (pc' := 26) hC dX7_reached_24 rfl rfl ?_
            refine go_aload_n (pc' := 27) hC dX7_reached_26 rfl rfl ?_
            refine go_geti (v := (S.1 11100)) (pc' := 30) hC 111 0 layX_111 rfl rfl inlX7 (Nat.le_of_ble_eq_true rfl) mw_620 rfl dX7_reached_27 rfl rfl ?_
            refine go_icmp_ge (tgt := 70) (pc' := 33) hC dX7_reached_30 (by decide) rfl (fun h18 => ?_) (fun h18 => ?_)
            · have hf := ite_t h18 hf
              refine go_sub [0, 2, 3, 4, 5, 6] rfl ?_
              exact jk70_6 x8 hf
            · have hf := ite_f h18 hf
              refine go_iload_n (pc' := 34) hC dX7_reached_33 rfl rfl ?_
              refine go_iload (pc' := 36) hC dX7_reached_34 rfl rfl ?_
              refine go_ishr (pc' := 37) hC dX7_reached_36 rfl ?_
              refine go_iconst (pc' := 38) hC dX7_reached_37 ki_1 rfl ?_
              refine go_iand (pc' := 39) hC dX7_reached_38 rfl ?_
              obtain ⟨k64_12, hk64_12, hf⟩ := lk_e1 hf
              have jk64_12 : ∀ (x11 : Int32), k64_12 x11 = some o → Go X layX S 64 [(0, .ref (x_q X 111)), (2, .int p2), (3, .ref (x_q X 114)), (4, .int x11), (5, .int x3), (6, .int x2), (7, .int x9)] [] g [] [] [] [] [] 0 0 := by
                intro x11 hf
                have hf := hk64_12 x11 hf
                clear hk64_12
                refine go_iinc (lc' := [(0, .ref (x_q X 111)), (2, .int p2), (3, .ref (x_q X 114)), (4, .int x11), (5, .int x3), (6, .int x2), (7, .int (x9 + (1 : Int32)))]) (pc' := 67) hC dX7_reached_64 rfl ki_1 (Nat.le_of_ble_eq_true rfl) rfl rfl ?_
                refine go_goto (tgt := 24) hC dX7_reached_67 (by decide) ?_
                exact ih x11 (x9 + (1 : Int32)) hf
              clear hk64_12
              refine go_if_eq (tgt := 64) (pc' := 42) hC dX7_reached_39 (by decide) rfl (fun h17 => ?_) (fun h17 => ?_)
              · have hf := ite_t h17 hf
                exact jk64_12 x8 hf
              · have hf := ite_f h17 hf
                refine go_iload (pc' := 44) hC dX7_reached_42 rfl rfl ?_
                refine go_aload_n (pc' := 45) hC dX7_reached_44 rfl rfl ?_
                refine go_iload (pc' := 47) hC dX7_reached_45 rfl rfl ?_
                obtain ⟨h13, hf⟩ := gd_e hf
                refine go_iald (f := (S.2.2.1 114)) (pc' := 48) hC 114 layX_114 rfl rfl dX7_reached_47 (okx_in h13) rfl ?_
                refine go_iand (pc' := 49) hC dX7_reached_48 rfl ?_
                refine go_if_eq (tgt := 64) (pc' := 52) hC dX7_reached_49 (by decide) rfl (fun h16 => ?_) (fun h16 => ?_)
                · have hf := ite_t h16 hf
                  exact jk64_12 x8 hf
                · have hf := ite_f h16 hf
                  refine go_iload (pc' := 54) hC dX7_reached_52 rfl rfl ?_
                  refine go_aload_n (pc' := 55) hC dX7_reached_54 rfl rfl ?_
                  refine go_getq (pc' := 58) hC 111 5 layX_111 rfl rfl inlX7 (Nat.le_of_ble_eq_true rfl) mw_110 rfl dX7_reached_55 rfl ?_
                  refine go_iload (pc' := 60) hC dX7_reached_58 rfl rfl ?_
                  obtain ⟨h14, hf⟩ := gd_e hf
                  refine go_iald (f := (S.2.2.1 112)) (pc' := 61) hC 112 layX_112 rfl rfl dX7_reached_60 (okx_in h14) rfl ?_
                  refine go_ior (pc' := 62) hC dX7_reached_61 rfl ?_
                  refine go_namei (fun x15 hx => ?_)
                  have hf := lz_r hx hf
                  clear hx
                  refine go_istore (lc' := [(0, .ref (x_q X 111)), (2, .int p2), (3, .ref (x_q X 114)), (4, .int x15), (5, .int x3), (6, .int x2), (7, .int x9)]) (pc' := 64) hC dX7_reached_62 (Nat.le_of_ble_eq_true rfl) rfl rfl ?_
                  exact jk64_12 x15 hf
        exact l24_19 fuel x2 (0 : Int32) hf
  refine go_sub [0, 2, 3, 4, 5] rfl ?_
  exact l8_21 fuel x1 (1 : Int32) hf
theorem dX7_leads_0 : decode cX7_leads 0 = .ok (.aload_n 0, 1) := by decide +kernel
theorem dX7_leads_1 : decode cX7_leads 1 = .ok (.iload_n 1, 1) := by decide +kernel
theorem dX7_leads_2 : decode cX7_leads 2 = .ok (.iload_n 3, 1) := by decide +kernel
theorem dX7_leads_3 : decode cX7_leads 3 = .ok (.aload_n 0, 1) := by decide +kernel
theorem dX7_leads_4 : decode cX7_leads 4 = .ok (.getfield 15, 3) := by decide +kernel
theorem dX7_leads_7 : decode cX7_leads 7 = .ok (.invokevirtual 70, 3) := by decide +kernel
theorem dX7_leads_10 : decode cX7_leads 10 = .ok (.iload_n 2, 1) := by decide +kernel
theorem dX7_leads_11 : decode cX7_leads 11 = .ok (.ishr, 1) := by decide +kernel
theorem dX7_leads_12 : decode cX7_leads 12 = .ok (.iconst 1, 1) := by decide +kernel
theorem dX7_leads_13 : decode cX7_leads 13 = .ok (.iand, 1) := by decide +kernel
theorem dX7_leads_14 : decode cX7_leads 14 = .ok (.ifCond .eq 7, 3) := by decide +kernel
theorem dX7_leads_17 : decode cX7_leads 17 = .ok (.iconst 1, 1) := by decide +kernel
theorem dX7_leads_18 : decode cX7_leads 18 = .ok (.goto 4, 3) := by decide +kernel
theorem dX7_leads_21 : decode cX7_leads 21 = .ok (.iconst 0, 1) := by decide +kernel
theorem dX7_leads_22 : decode cX7_leads 22 = .ok (.ireturn, 1) := by decide +kernel
abbrev o_X7_leads_q111 : Type := Int32
def f_X7_leads_q111 (S : wd_W) (p1 : Int32) (p2 : Int32) (p3 : Int32) : Option o_X7_leads_q111 :=
bd (f_X7_reached_q111_q113 (wd_o S [] [] [] [] []) p1 p3) fun o1 =>
if ((o1 >>> (p2 &&& 31)) &&& (1 : Int32)) = 0 then (
some (0 : Int32)) else (
some (1 : Int32))
set_option maxRecDepth 100000 in
set_option maxHeartbeats 4000000 in
theorem c_X7_leads_q111 (l : Launch) (D : va_G) (q g : Nat → Nat) (cy : Nat → ClassId) (z : (Nat → Nat) × (Nat → Nat) × Nat) (S : wd_W) (p1 : Int32) (p2 : Int32) (p3 : Int32) (o : o_X7_leads_q111) (hf : f_X7_leads_q111 S p1 p2 p3 = some o) : MX layX l yX7_leads cX7_leads 4 (some .boolean) ({ frames := 1, cells := 0, slots := 0, locals := 27 } : Room) D q g cy z [.ref (q 111), .int p1, .int p2, .int p3] S false (some (.int o)) (wd_o S [] [] [] [] []) 0 0 := by
  refine mx_of (own := RX7) (lc := [(0, .ref (q 111)), (1, .int p1), (2, .int p2), (3, .int p3)]) (by decide +kernel) rfl layX_ok (Nat.le_of_ble_eq_true rfl) rfl ?_
  intro X hXl hXq hXz hC hQ
  subst hXl; subst hXq; subst hXz
  unfold f_X7_leads_q111 at hf
  refine go_aload_n (pc' := 1) hC dX7_leads_0 rfl rfl ?_
  refine go_iload_n (pc' := 2) hC dX7_leads_1 rfl rfl ?_
  refine go_iload_n (pc' := 3) hC dX7_leads_2 rfl rfl ?_
  refine go_aload_n (pc' := 4) hC dX7_leads_3 rfl rfl ?_
  refine go_getq (pc' := 7) hC 111 6 layX_111 rfl rfl inlX7 (Nat.le_of_ble_eq_true rfl) mw_111 rfl dX7_leads_4 rfl ?_
  obtain ⟨o1, ho1, hf⟩ := bd_e hf
  refine go_callV0 (pc' := 10) (As := [.int p1, .int p3, .ref (x_q X 113)]) (st := []) (st' := [.int o1])    (b := 111) hC dX7_leads_7 ⟨mw_670, mw_673, mw_99, yd_yX7_reached, yp_yX7_reached, Nat.le_of_ble_eq_true rfl, Nat.le_of_ble_eq_true rfl, (Nat.le_of_ble_eq_true rfl), (Nat.le_of_ble_eq_true rfl)⟩ mw_671 mw_672 layX_111 rfl rfl rfl (Nat.le_of_ble_eq_true rfl) (c_X7_reached_q111_q113 (x_l X) (x_D X) (x_q X) g (x_cy X) (x_z X) _ p1 p3 o1 ho1) rfl rfl ?_
  refine go_iload_n (pc' := 11) hC dX7_leads_10 rfl rfl ?_
  refine go_ishr (pc' := 12) hC dX7_leads_11 rfl ?_
  refine go_iconst (pc' := 13) hC dX7_leads_12 ki_1 rfl ?_
  refine go_iand (pc' := 14) hC dX7_leads_13 rfl ?_
  refine go_if_eq (tgt := 21) (pc' := 17) hC dX7_leads_14 (by decide) rfl (fun h2 => ?_) (fun h2 => ?_)
  · have hf := ite_t h2 hf
    refine go_iconst (pc' := 22) hC dX7_leads_21 ki_0 rfl ?_
    obtain rfl := Option.some.inj hf
    exact go_iret hC hQ dX7_leads_22 rfl rfl rfl rfl (fun _ => rfl) rfl rfl
  · have hf := ite_f h2 hf
    refine go_iconst (pc' := 18) hC dX7_leads_17 ki_1 rfl ?_
    refine go_goto (tgt := 22) hC dX7_leads_18 (by decide) ?_
    obtain rfl := Option.some.inj hf
    exact go_iret hC hQ dX7_leads_22 rfl rfl rfl rfl (fun _ => rfl) rfl rfl
theorem dX7_leadsWithoutAny_0 : decode cX7_leadsWithoutAny 0 = .ok (.iconst 0, 1) := by decide +kernel
theorem dX7_leadsWithoutAny_1 : decode cX7_leadsWithoutAny 1 = .ok (.istore 4, 2) := by decide +kernel
theorem dX7_leadsWithoutAny_3 : decode cX7_leadsWithoutAny 3 = .ok (.iload 4, 2) := by decide +kernel
theorem dX7_leadsWithoutAny_5 : decode cX7_leadsWithoutAny 5 = .ok (.aload_n 0, 1) := by decide +kernel
theorem dX7_leadsWithoutAny_6 : decode cX7_leadsWithoutAny 6 = .ok (.getfield 41, 3) := by decide +kernel
theorem dX7_leadsWithoutAny_9 : decode cX7_leadsWithoutAny 9 = .ok (.if_icmp .ge 42, 3) := by decide +kernel
theorem dX7_leadsWithoutAny_12 : decode cX7_leadsWithoutAny 12 = .ok (.iload_n 3, 1) := by decide +kernel
theorem dX7_leadsWithoutAny_13 : decode cX7_leadsWithoutAny 13 = .ok (.iload 4, 2) := by decide +kernel
theorem dX7_leadsWithoutAny_15 : decode cX7_leadsWithoutAny 15 = .ok (.ishr, 1) := by decide +kernel
theorem dX7_leadsWithoutAny_16 : decode cX7_leadsWithoutAny 16 = .ok (.iconst 1, 1) := by decide +kernel
theorem dX7_leadsWithoutAny_17 : decode cX7_leadsWithoutAny 17 = .ok (.iand, 1) := by decide +kernel
theorem dX7_leadsWithoutAny_18 : decode cX7_leadsWithoutAny 18 = .ok (.ifCond .eq 27, 3) := by decide +kernel
theorem dX7_leadsWithoutAny_21 : decode cX7_leadsWithoutAny 21 = .ok (.aload_n 0, 1) := by decide +kernel
theorem dX7_leadsWithoutAny_22 : decode cX7_leadsWithoutAny 22 = .ok (.iload_n 1, 1) := by decide +kernel
theorem dX7_leadsWithoutAny_23 : decode cX7_leadsWithoutAny 23 = .ok (.iload_n 3, 1) := by decide +kernel
theorem dX7_leadsWithoutAny_24 : decode cX7_leadsWithoutAny 24 = .ok (.iconst 1, 1) := by decide +kernel
theorem dX7_leadsWithoutAny_25 : decode cX7_leadsWithoutAny 25 = .ok (.iload 4, 2) := by decide +kernel
theorem dX7_leadsWithoutAny_27 : decode cX7_leadsWithoutAny 27 = .ok (.ishl, 1) := by decide +kernel
theorem dX7_leadsWithoutAny_28 : decode cX7_leadsWithoutAny 28 = .ok (.ixor, 1) := by decide +kernel
theorem dX7_leadsWithoutAny_29 : decode cX7_leadsWithoutAny 29 = .ok (.aload_n 0, 1) := by decide +kernel
theorem dX7_leadsWithoutAny_30 : decode cX7_leadsWithoutAny 30 = .ok (.getfield 15, 3) := by decide +kernel
theorem dX7_leadsWithoutAny_33 : decode cX7_leadsWithoutAny 33 = .ok (.invokevirtual 70, 3) := by decide +kernel
theorem dX7_leadsWithoutAny_36 : decode cX7_leadsWithoutAny 36 = .ok (.iload_n 2, 1) := by decide +kernel
theorem dX7_leadsWithoutAny_37 : decode cX7_leadsWithoutAny 37 = .ok (.ishr, 1) := by decide +kernel
theorem dX7_leadsWithoutAny_38 : decode cX7_leadsWithoutAny 38 = .ok (.iconst 1, 1) := by decide +kernel
theorem dX7_leadsWithoutAny_39 : decode cX7_leadsWithoutAny 39 = .ok (.iand, 1) := by decide +kernel
theorem dX7_leadsWithoutAny_40 : decode cX7_leadsWithoutAny 40 = .ok (.ifCond .ne 5, 3) := by decide +kernel
theorem dX7_leadsWithoutAny_43 : decode cX7_leadsWithoutAny 43 = .ok (.iconst 0, 1) := by decide +kernel
theorem dX7_leadsWithoutAny_44 : decode cX7_leadsWithoutAny 44 = .ok (.ireturn, 1) := by decide +kernel
theorem dX7_leadsWithoutAny_45 : decode cX7_leadsWithoutAny 45 = .ok (.iinc 4 1, 3) := by decide +kernel
theorem dX7_leadsWithoutAny_48 : decode cX7_leadsWithoutAny 48 = .ok (.goto (-45), 3) := by decide +kernel
theorem dX7_leadsWithoutAny_51 : decode cX7_leadsWithoutAny 51 = .ok (.iconst 1, 1) := by decide +kernel
theorem dX7_leadsWithoutAny_52 : decode cX7_leadsWithoutAny 52 = .ok (.ireturn, 1) := by decide +kernel
abbrev o_X7_leadsWithoutAny_q111 : Type := Int32
def f_X7_leadsWithoutAny_q111_L3 (S : wd_W) (p1 : Int32) (p2 : Int32) (p3 : Int32) (r2 : (Int32) → (Option o_X7_leadsWithoutAny_q111)) (x1 : Int32) : Option o_X7_leadsWithoutAny_q111 :=
if (S.1 11100) ≤ x1 then (
some (1 : Int32)) else (
lk (r2 (x1 + (1 : Int32))) fun k45_3 =>
if ((p3 >>> (x1 &&& 31)) &&& (1 : Int32)) = 0 then (
k45_3) else (
bd (f_X7_reached_q111_q113 (wd_o S [] [] [] [] []) p1 (p3 ^^^ ((1 : Int32) <<< (x1 &&& 31)))) fun o4 =>
if ((o4 >>> (p2 &&& 31)) &&& (1 : Int32)) = 0 then (
some (0 : Int32)) else (
k45_3)))
def f_X7_leadsWithoutAny_q111 (S : wd_W) (p1 : Int32) (p2 : Int32) (p3 : Int32) : Option o_X7_leadsWithoutAny_q111 :=
it1 (f_X7_leadsWithoutAny_q111_L3 S p1 p2 p3) fuel (0 : Int32)
set_option maxRecDepth 100000 in
set_option maxHeartbeats 4000000 in
theorem c_X7_leadsWithoutAny_q111 (l : Launch) (D : va_G) (q g : Nat → Nat) (cy : Nat → ClassId) (z : (Nat → Nat) × (Nat → Nat) × Nat) (S : wd_W) (p1 : Int32) (p2 : Int32) (p3 : Int32) (o : o_X7_leadsWithoutAny_q111) (hf : f_X7_leadsWithoutAny_q111 S p1 p2 p3 = some o) : MX layX l yX7_leadsWithoutAny cX7_leadsWithoutAny 5 (some .boolean) ({ frames := 1, cells := 0, slots := 0, locals := 27 } : Room) D q g cy z [.ref (q 111), .int p1, .int p2, .int p3] S false (some (.int o)) (wd_o S [] [] [] [] []) 0 0 := by
  refine mx_of (own := RX7) (lc := [(0, .ref (q 111)), (1, .int p1), (2, .int p2), (3, .int p3)]) (by decide +kernel) rfl layX_ok (Nat.le_of_ble_eq_true rfl) rfl ?_
  intro X hXl hXq hXz hC hQ
  subst hXl; subst hXq; subst hXz
  unfold f_X7_leadsWithoutAny_q111 at hf
  refine go_iconst (pc' := 1) hC dX7_leadsWithoutAny_0 ki_0 rfl ?_
  refine go_istore (lc' := [(0, .ref (x_q X 111)), (1, .int p1), (2, .int p2), (3, .int p3), (4, .int (0 : Int32))]) (pc' := 3) hC dX7_leadsWithoutAny_1 (Nat.le_of_ble_eq_true rfl) rfl rfl ?_
  have l3_8 : ∀ (nn : Nat) (x1 : Int32), it1 (f_X7_leadsWithoutAny_q111_L3 S p1 p2 p3) nn x1 = some o → Go X layX S 3 [(0, .ref (x_q X 111)), (1, .int p1), (2, .int p2), (3, .int p3), (4, .int x1)] [] g [] [] [] [] [] 0 0 := by
    intro nn
    induction nn with
    | zero =>
      intro x1 hf
      exact none_no hf
    | succ nn ih =>
      intro x1 hf
      have hf : f_X7_leadsWithoutAny_q111_L3 S p1 p2 p3 (it1 (f_X7_leadsWithoutAny_q111_L3 S p1 p2 p3) nn) x1 = some o := hf
      generalize it1 (f_X7_leadsWithoutAny_q111_L3 S p1 p2 p3) nn = r2 at ih hf
      unfold f_X7_leadsWithoutAny_q111_L3 at hf
      refine go_iload (pc' := 5) hC dX7_leadsWithoutAny_3 rfl rfl ?_
      refine go_aload_n (pc' := 6) hC dX7_leadsWithoutAny_5 rfl rfl ?_
      refine go_geti (v := (S.1 11100)) (pc' := 9) hC 111 0 layX_111 rfl rfl inlX7 (Nat.le_of_ble_eq_true rfl) mw_620 rfl dX7_leadsWithoutAny_6 rfl rfl ?_
      refine go_icmp_ge (tgt := 51) (pc' := 12) hC dX7_leadsWithoutAny_9 (by decide) rfl (fun h7 => ?_) (fun h7 => ?_)
      · have hf := ite_t h7 hf
        refine go_iconst (pc' := 52) hC dX7_leadsWithoutAny_51 ki_1 rfl ?_
        obtain rfl := Option.some.inj hf
        exact go_iret hC hQ dX7_leadsWithoutAny_52 rfl rfl rfl rfl (fun _ => rfl) rfl rfl
      · have hf := ite_f h7 hf
        refine go_iload_n (pc' := 13) hC dX7_leadsWithoutAny_12 rfl rfl ?_
        refine go_iload (pc' := 15) hC dX7_leadsWithoutAny_13 rfl rfl ?_
        refine go_ishr (pc' := 16) hC dX7_leadsWithoutAny_15 rfl ?_
        refine go_iconst (pc' := 17) hC dX7_leadsWithoutAny_16 ki_1 rfl ?_
        refine go_iand (pc' := 18) hC dX7_leadsWithoutAny_17 rfl ?_
        obtain ⟨k45_3, hk45_3, hf⟩ := lk_e0 hf
        have jk45_3 : ∀ (_ : Unit), k45_3 = some o → Go X layX S 45 [(0, .ref (x_q X 111)), (1, .int p1), (2, .int p2), (3, .int p3), (4, .int x1)] [] g [] [] [] [] [] 0 0 := by
          intro _ hf
          have hf := hk45_3 hf
          clear hk45_3
          refine go_iinc (lc' := [(0, .ref (x_q X 111)), (1, .int p1), (2, .int p2), (3, .int p3), (4, .int (x1 + (1 : Int32)))]) (pc' := 48) hC dX7_leadsWithoutAny_45 rfl ki_1 (Nat.le_of_ble_eq_true rfl) rfl rfl ?_
          refine go_goto (tgt := 3) hC dX7_leadsWithoutAny_48 (by decide) ?_
          exact ih (x1 + (1 : Int32)) hf
        clear hk45_3
        refine go_if_eq (tgt := 45) (pc' := 21) hC dX7_leadsWithoutAny_18 (by decide) rfl (fun h6 => ?_) (fun h6 => ?_)
        · have hf := ite_t h6 hf
          exact jk45_3 () hf
        · have hf := ite_f h6 hf
          refine go_aload_n (pc' := 22) hC dX7_leadsWithoutAny_21 rfl rfl ?_
          refine go_iload_n (pc' := 23) hC dX7_leadsWithoutAny_22 rfl rfl ?_
          refine go_iload_n (pc' := 24) hC dX7_leadsWithoutAny_23 rfl rfl ?_
          refine go_iconst (pc' := 25) hC dX7_leadsWithoutAny_24 ki_1 rfl ?_
          refine go_iload (pc' := 27) hC dX7_leadsWithoutAny_25 rfl rfl ?_
          refine go_ishl (pc' := 28) hC dX7_leadsWithoutAny_27 rfl ?_
          refine go_ixor (pc' := 29) hC dX7_leadsWithoutAny_28 rfl ?_
          refine go_aload_n (pc' := 30) hC dX7_leadsWithoutAny_29 rfl rfl ?_
          refine go_getq (pc' := 33) hC 111 6 layX_111 rfl rfl inlX7 (Nat.le_of_ble_eq_true rfl) mw_111 rfl dX7_leadsWithoutAny_30 rfl ?_
          obtain ⟨o4, ho4, hf⟩ := bd_e hf
          refine go_callV0 (pc' := 36) (As := [.int p1, .int (p3 ^^^ ((1 : Int32) <<< (x1 &&& 31))), .ref (x_q X 113)]) (st := []) (st' := [.int o4])    (b := 111) hC dX7_leadsWithoutAny_33 ⟨mw_670, mw_673, mw_99, yd_yX7_reached, yp_yX7_reached, Nat.le_of_ble_eq_true rfl, Nat.le_of_ble_eq_true rfl, (Nat.le_of_ble_eq_true rfl), (Nat.le_of_ble_eq_true rfl)⟩ mw_671 mw_672 layX_111 rfl rfl rfl (Nat.le_of_ble_eq_true rfl) (c_X7_reached_q111_q113 (x_l X) (x_D X) (x_q X) g (x_cy X) (x_z X) _ p1 (p3 ^^^ ((1 : Int32) <<< (x1 &&& 31))) o4 ho4) rfl rfl ?_
          refine go_iload_n (pc' := 37) hC dX7_leadsWithoutAny_36 rfl rfl ?_
          refine go_ishr (pc' := 38) hC dX7_leadsWithoutAny_37 rfl ?_
          refine go_iconst (pc' := 39) hC dX7_leadsWithoutAny_38 ki_1 rfl ?_
          refine go_iand (pc' := 40) hC dX7_leadsWithoutAny_39 rfl ?_
          refine go_if_ne (tgt := 45) (pc' := 43) hC dX7_leadsWithoutAny_40 (by decide) rfl (fun h5 => ?_) (fun h5 => ?_)
          · have hf := ite_f h5 hf
            exact jk45_3 () hf
          · have hf := ite_t h5 hf
            refine go_iconst (pc' := 44) hC dX7_leadsWithoutAny_43 ki_0 rfl ?_
            obtain rfl := Option.some.inj hf
            exact go_iret hC hQ dX7_leadsWithoutAny_44 rfl rfl rfl rfl (fun _ => rfl) rfl rfl
  exact l3_8 fuel (0 : Int32) hf
theorem dX7_carries_0 : decode cX7_carries 0 = .ok (.aload_n 0, 1) := by decide +kernel
theorem dX7_carries_1 : decode cX7_carries 1 = .ok (.getfield 27, 3) := by decide +kernel
theorem dX7_carries_4 : decode cX7_carries 4 = .ok (.getfield 64, 3) := by decide +kernel
theorem dX7_carries_7 : decode cX7_carries 7 = .ok (.istore_n 2, 1) := by decide +kernel
theorem dX7_carries_8 : decode cX7_carries 8 = .ok (.aload_n 0, 1) := by decide +kernel
theorem dX7_carries_9 : decode cX7_carries 9 = .ok (.getfield 27, 3) := by decide +kernel
theorem dX7_carries_12 : decode cX7_carries 12 = .ok (.getfield 67, 3) := by decide +kernel
theorem dX7_carries_15 : decode cX7_carries 15 = .ok (.istore_n 3, 1) := by decide +kernel
theorem dX7_carries_16 : decode cX7_carries 16 = .ok (.aload_n 0, 1) := by decide +kernel
theorem dX7_carries_17 : decode cX7_carries 17 = .ok (.getfield 27, 3) := by decide +kernel
theorem dX7_carries_20 : decode cX7_carries 20 = .ok (.getfield 61, 3) := by decide +kernel
theorem dX7_carries_23 : decode cX7_carries 23 = .ok (.tableswitch 129 0 3 #[29, 37, 77, 106], 29) := by decide +kernel
theorem dX7_carries_52 : decode cX7_carries 52 = .ok (.aload_n 0, 1) := by decide +kernel
theorem dX7_carries_53 : decode cX7_carries 53 = .ok (.iload_n 2, 1) := by decide +kernel
theorem dX7_carries_54 : decode cX7_carries 54 = .ok (.iload_n 3, 1) := by decide +kernel
theorem dX7_carries_55 : decode cX7_carries 55 = .ok (.iload_n 1, 1) := by decide +kernel
theorem dX7_carries_56 : decode cX7_carries 56 = .ok (.invokevirtual 87, 3) := by decide +kernel
theorem dX7_carries_59 : decode cX7_carries 59 = .ok (.ireturn, 1) := by decide +kernel
theorem dX7_carries_60 : decode cX7_carries 60 = .ok (.aload_n 0, 1) := by decide +kernel
theorem dX7_carries_61 : decode cX7_carries 61 = .ok (.iconst 0, 1) := by decide +kernel
theorem dX7_carries_62 : decode cX7_carries 62 = .ok (.iload_n 1, 1) := by decide +kernel
theorem dX7_carries_63 : decode cX7_carries 63 = .ok (.aload_n 0, 1) := by decide +kernel
theorem dX7_carries_64 : decode cX7_carries 64 = .ok (.getfield 15, 3) := by decide +kernel
theorem dX7_carries_67 : decode cX7_carries 67 = .ok (.invokevirtual 70, 3) := by decide +kernel
theorem dX7_carries_70 : decode cX7_carries 70 = .ok (.aload_n 0, 1) := by decide +kernel
theorem dX7_carries_71 : decode cX7_carries 71 = .ok (.getfield 42, 3) := by decide +kernel
theorem dX7_carries_74 : decode cX7_carries 74 = .ok (.if_icmp .ne 24, 3) := by decide +kernel
theorem dX7_carries_77 : decode cX7_carries 77 = .ok (.aload_n 0, 1) := by decide +kernel
theorem dX7_carries_78 : decode cX7_carries 78 = .ok (.iconst 0, 1) := by decide +kernel
theorem dX7_carries_79 : decode cX7_carries 79 = .ok (.iload_n 1, 1) := by decide +kernel
theorem dX7_carries_80 : decode cX7_carries 80 = .ok (.aload_n 0, 1) := by decide +kernel
theorem dX7_carries_81 : decode cX7_carries 81 = .ok (.getfield 18, 3) := by decide +kernel
theorem dX7_carries_84 : decode cX7_carries 84 = .ok (.invokevirtual 70, 3) := by decide +kernel
theorem dX7_carries_87 : decode cX7_carries 87 = .ok (.aload_n 0, 1) := by decide +kernel
theorem dX7_carries_88 : decode cX7_carries 88 = .ok (.getfield 42, 3) := by decide +kernel
theorem dX7_carries_91 : decode cX7_carries 91 = .ok (.if_icmp .ne 7, 3) := by decide +kernel
theorem dX7_carries_94 : decode cX7_carries 94 = .ok (.iconst 1, 1) := by decide +kernel
theorem dX7_carries_95 : decode cX7_carries 95 = .ok (.goto 4, 3) := by decide +kernel
theorem dX7_carries_98 : decode cX7_carries 98 = .ok (.iconst 0, 1) := by decide +kernel
theorem dX7_carries_99 : decode cX7_carries 99 = .ok (.ireturn, 1) := by decide +kernel
theorem dX7_carries_100 : decode cX7_carries 100 = .ok (.aload_n 0, 1) := by decide +kernel
theorem dX7_carries_101 : decode cX7_carries 101 = .ok (.iload_n 2, 1) := by decide +kernel
theorem dX7_carries_102 : decode cX7_carries 102 = .ok (.iload_n 1, 1) := by decide +kernel
theorem dX7_carries_103 : decode cX7_carries 103 = .ok (.aload_n 0, 1) := by decide +kernel
theorem dX7_carries_104 : decode cX7_carries 104 = .ok (.getfield 15, 3) := by decide +kernel
theorem dX7_carries_107 : decode cX7_carries 107 = .ok (.invokevirtual 70, 3) := by decide +kernel
theorem dX7_carries_110 : decode cX7_carries 110 = .ok (.invokestatic 91, 3) := by decide +kernel
theorem dX7_carries_113 : decode cX7_carries 113 = .ok (.aload_n 0, 1) := by decide +kernel
theorem dX7_carries_114 : decode cX7_carries 114 = .ok (.getfield 27, 3) := by decide +kernel
theorem dX7_carries_117 : decode cX7_carries 117 = .ok (.getfield 97, 3) := by decide +kernel
theorem dX7_carries_120 : decode cX7_carries 120 = .ok (.if_icmp .lt 7, 3) := by decide +kernel
theorem dX7_carries_123 : decode cX7_carries 123 = .ok (.iconst 1, 1) := by decide +kernel
theorem dX7_carries_124 : decode cX7_carries 124 = .ok (.goto 4, 3) := by decide +kernel
theorem dX7_carries_127 : decode cX7_carries 127 = .ok (.iconst 0, 1) := by decide +kernel
theorem dX7_carries_128 : decode cX7_carries 128 = .ok (.ireturn, 1) := by decide +kernel
theorem dX7_carries_129 : decode cX7_carries 129 = .ok (.aload_n 0, 1) := by decide +kernel
theorem dX7_carries_130 : decode cX7_carries 130 = .ok (.iload_n 2, 1) := by decide +kernel
theorem dX7_carries_131 : decode cX7_carries 131 = .ok (.iload_n 3, 1) := by decide +kernel
theorem dX7_carries_132 : decode cX7_carries 132 = .ok (.iload_n 1, 1) := by decide +kernel
theorem dX7_carries_133 : decode cX7_carries 133 = .ok (.invokevirtual 100, 3) := by decide +kernel
theorem dX7_carries_136 : decode cX7_carries 136 = .ok (.aload_n 0, 1) := by decide +kernel
theorem dX7_carries_137 : decode cX7_carries 137 = .ok (.getfield 27, 3) := by decide +kernel
theorem dX7_carries_140 : decode cX7_carries 140 = .ok (.getfield 97, 3) := by decide +kernel
theorem dX7_carries_143 : decode cX7_carries 143 = .ok (.if_icmp .gt 7, 3) := by decide +kernel
theorem dX7_carries_146 : decode cX7_carries 146 = .ok (.iconst 1, 1) := by decide +kernel
theorem dX7_carries_147 : decode cX7_carries 147 = .ok (.goto 4, 3) := by decide +kernel
theorem dX7_carries_150 : decode cX7_carries 150 = .ok (.iconst 0, 1) := by decide +kernel
theorem dX7_carries_151 : decode cX7_carries 151 = .ok (.ireturn, 1) := by decide +kernel
theorem dX7_carries_152 : decode cX7_carries 152 = .ok (.aload_n 0, 1) := by decide +kernel
theorem dX7_carries_153 : decode cX7_carries 153 = .ok (.iload_n 2, 1) := by decide +kernel
theorem dX7_carries_154 : decode cX7_carries 154 = .ok (.iload_n 3, 1) := by decide +kernel
theorem dX7_carries_155 : decode cX7_carries 155 = .ok (.iload_n 1, 1) := by decide +kernel
theorem dX7_carries_156 : decode cX7_carries 156 = .ok (.invokevirtual 87, 3) := by decide +kernel
theorem dX7_carries_159 : decode cX7_carries 159 = .ok (.ifCond .eq 17, 3) := by decide +kernel
theorem dX7_carries_162 : decode cX7_carries 162 = .ok (.aload_n 0, 1) := by decide +kernel
theorem dX7_carries_163 : decode cX7_carries 163 = .ok (.iload_n 2, 1) := by decide +kernel
theorem dX7_carries_164 : decode cX7_carries 164 = .ok (.iload_n 3, 1) := by decide +kernel
theorem dX7_carries_165 : decode cX7_carries 165 = .ok (.iload_n 1, 1) := by decide +kernel
theorem dX7_carries_166 : decode cX7_carries 166 = .ok (.invokevirtual 104, 3) := by decide +kernel
theorem dX7_carries_169 : decode cX7_carries 169 = .ok (.ifCond .eq 7, 3) := by decide +kernel
theorem dX7_carries_172 : decode cX7_carries 172 = .ok (.iconst 1, 1) := by decide +kernel
theorem dX7_carries_173 : decode cX7_carries 173 = .ok (.goto 4, 3) := by decide +kernel
theorem dX7_carries_176 : decode cX7_carries 176 = .ok (.iconst 0, 1) := by decide +kernel
theorem dX7_carries_177 : decode cX7_carries 177 = .ok (.ireturn, 1) := by decide +kernel
abbrev o_X7_carries_q111 : Type := Int32 × (Nat → Int32)
def f_X7_carries_q111 (S : wd_W) (p1 : Int32) : Option o_X7_carries_q111 :=
lz ((S.1 1616)) fun x1 =>
lz ((S.1 1617)) fun x2 =>
if (S.1 1614) = (0 : Int32) then (
bd (f_X7_leads_q111 (wd_o S [] [] [(115, (S.2.2.1 115))] [] []) x1 x2 p1) fun o3 =>
gd (okz o3) <|
some (o3, (S.2.2.1 115))) else (
if (S.1 1614) = (1 : Int32) then (
bd (f_X7_reached_q111_q113 (wd_o S [] [] [(115, (S.2.2.1 115))] [] []) (0 : Int32) p1) fun o6 =>
if o6 = (S.1 11101) then (
bd (f_X7_reached_q111_q114 (wd_o S [] [] [(115, (S.2.2.1 115))] [] []) (0 : Int32) p1) fun o7 =>
if o7 = (S.1 11101) then (
some ((1 : Int32), (S.2.2.1 115))) else (
some ((0 : Int32), (S.2.2.1 115)))) else (
some ((0 : Int32), (S.2.2.1 115)))) else (
if (S.1 1614) = (2 : Int32) then (
bd (f_X7_reached_q111_q113 (wd_o S [] [] [(115, (S.2.2.1 115))] [] []) x1 p1) fun o11 =>
bd (f_J6_bitCount_0f7a4 o11) fun o12 =>
if o12 < (S.1 1615) then (
some ((0 : Int32), (S.2.2.1 115))) else (
some ((1 : Int32), (S.2.2.1 115)))) else (
if (S.1 1614) = (3 : Int32) then (
bd (f_X7_daysBetween_q111 (wd_o S [] [] [(115, (S.2.2.1 115))] [] []) x1 x2 p1) fun o15 =>
if (S.1 1615) < o15.1 then (
some ((0 : Int32), o15.2)) else (
some ((1 : Int32), o15.2))) else (
bd (f_X7_leads_q111 (wd_o S [] [] [(115, (S.2.2.1 115))] [] []) x1 x2 p1) fun o18 =>
if o18 = 0 then (
some ((0 : Int32), (S.2.2.1 115))) else (
bd (f_X7_leadsWithoutAny_q111 (wd_o S [] [] [(115, (S.2.2.1 115))] [] []) x1 x2 p1) fun o19 =>
if o19 = 0 then (
some ((0 : Int32), (S.2.2.1 115))) else (
some ((1 : Int32), (S.2.2.1 115))))))))
set_option maxRecDepth 100000 in
set_option maxHeartbeats 4000000 in
theorem c_X7_carries_q111 (l : Launch) (D : va_G) (q g : Nat → Nat) (cy : Nat → ClassId) (z : (Nat → Nat) × (Nat → Nat) × Nat) (S : wd_W) (p1 : Int32) (o : o_X7_carries_q111) (hf : f_X7_carries_q111 S p1 = some o) : MX layX l yX7_carries cX7_carries 4 (some .boolean) ({ frames := 2, cells := 0, slots := 0, locals := 51 } : Room) D q g cy z [.ref (q 111), .int p1] S false (some (.int o.1)) (wd_o S [] [] [(115, o.2)] [] []) 0 0 := by
  refine mx_of (own := RX7) (lc := [(0, .ref (q 111)), (1, .int p1)]) (by decide +kernel) rfl layX_ok (Nat.le_of_ble_eq_true rfl) rfl ?_
  intro X hXl hXq hXz hC hQ
  subst hXl; subst hXq; subst hXz
  unfold f_X7_carries_q111 at hf
  refine go_keys (L1 := []) (L2 := []) (L3 := [(115, (S.2.2.1 115))]) (L4 := []) (L5 := []) [] [] [115] [] [] rfl rfl rfl rfl rfl ?_
  refine go_aload_n (pc' := 1) hC dX7_carries_0 rfl rfl ?_
  refine go_getq (pc' := 4) hC 111 4 layX_111 rfl rfl inlX7 (Nat.le_of_ble_eq_true rfl) mw_115 rfl dX7_carries_1 rfl ?_
  refine go_geti (v := (S.1 1616)) (pc' := 7) hC 16 16 layX_16 rfl rfl inlX2 (Nat.le_of_ble_eq_true rfl) mw_631 rfl dX7_carries_4 rfl rfl ?_
  refine go_namei (fun x1 hx => ?_)
  have hf := lz_r hx hf
  clear hx
  refine go_istore_n (lc' := [(0, .ref (x_q X 111)), (1, .int p1), (2, .int x1)]) (pc' := 8) hC dX7_carries_7 (Nat.le_of_ble_eq_true rfl) rfl rfl ?_
  refine go_aload_n (pc' := 9) hC dX7_carries_8 rfl rfl ?_
  refine go_getq (pc' := 12) hC 111 4 layX_111 rfl rfl inlX7 (Nat.le_of_ble_eq_true rfl) mw_115 rfl dX7_carries_9 rfl ?_
  refine go_geti (v := (S.1 1617)) (pc' := 15) hC 16 17 layX_16 rfl rfl inlX2 (Nat.le_of_ble_eq_true rfl) mw_632 rfl dX7_carries_12 rfl rfl ?_
  refine go_namei (fun x2 hx => ?_)
  have hf := lz_r hx hf
  clear hx
  refine go_istore_n (lc' := [(0, .ref (x_q X 111)), (1, .int p1), (2, .int x1), (3, .int x2)]) (pc' := 16) hC dX7_carries_15 (Nat.le_of_ble_eq_true rfl) rfl rfl ?_
  refine go_aload_n (pc' := 17) hC dX7_carries_16 rfl rfl ?_
  refine go_getq (pc' := 20) hC 111 4 layX_111 rfl rfl inlX7 (Nat.le_of_ble_eq_true rfl) mw_115 rfl dX7_carries_17 rfl ?_
  refine go_geti (v := (S.1 1614)) (pc' := 23) hC 16 14 layX_16 rfl rfl inlX2 (Nat.le_of_ble_eq_true rfl) mw_630 rfl dX7_carries_20 rfl rfl ?_
  by_cases h5 : (S.1 1614) = (0 : Int32)
  · have hf := ite_t h5 hf
    refine go_tabIn' (v := (0 : Int32)) (tgt := 52) hC dX7_carries_23 h5 kt_0 (by decide) (by decide) rfl (by decide) ?_
    refine go_aload_n (pc' := 53) hC dX7_carries_52 rfl rfl ?_
    refine go_iload_n (pc' := 54) hC dX7_carries_53 rfl rfl ?_
    refine go_iload_n (pc' := 55) hC dX7_carries_54 rfl rfl ?_
    refine go_iload_n (pc' := 56) hC dX7_carries_55 rfl rfl ?_
    obtain ⟨o3, ho3, hf⟩ := bd_e hf
    refine go_callV0 (pc' := 59) (As := [.int x1, .int x2, .int p1]) (st := []) (st' := [.int o3])    (b := 111) hC dX7_carries_56 ⟨mw_666, mw_669, mw_99, yd_yX7_leads, yp_yX7_leads, Nat.le_of_ble_eq_true rfl, Nat.le_of_ble_eq_true rfl, (Nat.le_of_ble_eq_true rfl), (Nat.le_of_ble_eq_true rfl)⟩ mw_667 mw_668 layX_111 rfl rfl rfl (Nat.le_of_ble_eq_true rfl) (c_X7_leads_q111 (x_l X) (x_D X) (x_q X) g (x_cy X) (x_z X) _ x1 x2 p1 o3 ho3) rfl rfl ?_
    obtain ⟨h4, hf⟩ := gd_e hf
    obtain rfl := Option.some.inj hf
    exact go_iret hC hQ dX7_carries_59 rfl (okz_n h4) rfl rfl (fun _ => rfl) rfl rfl
  · have hf := ite_f h5 hf
    by_cases h10 : (S.1 1614) = (1 : Int32)
    · have hf := ite_t h10 hf
      refine go_tabIn' (v := (1 : Int32)) (tgt := 60) hC dX7_carries_23 h10 kt_1 (by decide) (by decide) rfl (by decide) ?_
      refine go_aload_n (pc' := 61) hC dX7_carries_60 rfl rfl ?_
      refine go_iconst (pc' := 62) hC dX7_carries_61 ki_0 rfl ?_
      refine go_iload_n (pc' := 63) hC dX7_carries_62 rfl rfl ?_
      refine go_aload_n (pc' := 64) hC dX7_carries_63 rfl rfl ?_
      refine go_getq (pc' := 67) hC 111 6 layX_111 rfl rfl inlX7 (Nat.le_of_ble_eq_true rfl) mw_111 rfl dX7_carries_64 rfl ?_
      obtain ⟨o6, ho6, hf⟩ := bd_e hf
      refine go_callV0 (pc' := 70) (As := [.int (0 : Int32), .int p1, .ref (x_q X 113)]) (st := []) (st' := [.int o6])    (b := 111) hC dX7_carries_67 ⟨mw_670, mw_673, mw_99, yd_yX7_reached, yp_yX7_reached, Nat.le_of_ble_eq_true rfl, Nat.le_of_ble_eq_true rfl, (Nat.le_of_ble_eq_true rfl), (Nat.le_of_ble_eq_true rfl)⟩ mw_671 mw_672 layX_111 rfl rfl rfl (Nat.le_of_ble_eq_true rfl) (c_X7_reached_q111_q113 (x_l X) (x_D X) (x_q X) g (x_cy X) (x_z X) _ (0 : Int32) p1 o6 ho6) rfl rfl ?_
      refine go_aload_n (pc' := 71) hC dX7_carries_70 rfl rfl ?_
      refine go_geti (v := (S.1 11101)) (pc' := 74) hC 111 1 layX_111 rfl rfl inlX7 (Nat.le_of_ble_eq_true rfl) mw_621 rfl dX7_carries_71 rfl rfl ?_
      refine go_icmp_ne (tgt := 98) (pc' := 77) hC dX7_carries_74 (by decide) rfl (fun h9 => ?_) (fun h9 => ?_)
      · have hf := ite_f h9 hf
        refine go_iconst (pc' := 99) hC dX7_carries_98 ki_0 rfl ?_
        obtain rfl := Option.some.inj hf
        exact go_iret hC hQ dX7_carries_99 rfl rfl rfl rfl (fun _ => rfl) rfl rfl
      · have hf := ite_t h9 hf
        refine go_aload_n (pc' := 78) hC dX7_carries_77 rfl rfl ?_
        refine go_iconst (pc' := 79) hC dX7_carries_78 ki_0 rfl ?_
        refine go_iload_n (pc' := 80) hC dX7_carries_79 rfl rfl ?_
        refine go_aload_n (pc' := 81) hC dX7_carries_80 rfl rfl ?_
        refine go_getq (pc' := 84) hC 111 7 layX_111 rfl rfl inlX7 (Nat.le_of_ble_eq_true rfl) mw_112 rfl dX7_carries_81 rfl ?_
        obtain ⟨o7, ho7, hf⟩ := bd_e hf
        refine go_callV0 (pc' := 87) (As := [.int (0 : Int32), .int p1, .ref (x_q X 114)]) (st := []) (st' := [.int o7])    (b := 111) hC dX7_carries_84 ⟨mw_670, mw_673, mw_99, yd_yX7_reached, yp_yX7_reached, Nat.le_of_ble_eq_true rfl, Nat.le_of_ble_eq_true rfl, (Nat.le_of_ble_eq_true rfl), (Nat.le_of_ble_eq_true rfl)⟩ mw_671 mw_672 layX_111 rfl rfl rfl (Nat.le_of_ble_eq_true rfl) (c_X7_reached_q111_q114 (x_l X) (x_D X) (x_q X) g (x_cy X) (x_z X) _ (0 : Int32) p1 o7 ho7) rfl rfl ?_
        refine go_aload_n (pc' := 88) hC dX7_carries_87 rfl rfl ?_
        refine go_geti (v := (S.1 11101)) (pc' := 91) hC 111 1 layX_111 rfl rfl inlX7 (Nat.le_of_ble_eq_true rfl) mw_621 rfl dX7_carries_88 rfl rfl ?_
        refine go_icmp_ne (tgt := 98) (pc' := 94) hC dX7_carries_91 (by decide) rfl (fun h8 => ?_) (fun h8 => ?_)
        · have hf := ite_f h8 hf
          refine go_iconst (pc' := 99) hC dX7_carries_98 ki_0 rfl ?_
          obtain rfl := Option.some.inj hf
          exact go_iret hC hQ dX7_carries_99 rfl rfl rfl rfl (fun _ => rfl) rfl rfl
        · have hf := ite_t h8 hf
          refine go_iconst (pc' := 95) hC dX7_carries_94 ki_1 rfl ?_
          refine go_goto (tgt := 99) hC dX7_carries_95 (by decide) ?_
          obtain rfl := Option.some.inj hf
          exact go_iret hC hQ dX7_carries_99 rfl rfl rfl rfl (fun _ => rfl) rfl rfl
    · have hf := ite_f h10 hf
      by_cases h14 : (S.1 1614) = (2 : Int32)
      · have hf := ite_t h14 hf
        refine go_tabIn' (v := (2 : Int32)) (tgt := 100) hC dX7_carries_23 h14 kt_2 (by decide) (by decide) rfl (by decide) ?_
        refine go_aload_n (pc' := 101) hC dX7_carries_100 rfl rfl ?_
        refine go_iload_n (pc' := 102) hC dX7_carries_101 rfl rfl ?_
        refine go_iload_n (pc' := 103) hC dX7_carries_102 rfl rfl ?_
        refine go_aload_n (pc' := 104) hC dX7_carries_103 rfl rfl ?_
        refine go_getq (pc' := 107) hC 111 6 layX_111 rfl rfl inlX7 (Nat.le_of_ble_eq_true rfl) mw_111 rfl dX7_carries_104 rfl ?_
        obtain ⟨o11, ho11, hf⟩ := bd_e hf
        refine go_callV0 (pc' := 110) (As := [.int x1, .int p1, .ref (x_q X 113)]) (st := []) (st' := [.int o11])    (b := 111) hC dX7_carries_107 ⟨mw_670, mw_673, mw_99, yd_yX7_reached, yp_yX7_reached, Nat.le_of_ble_eq_true rfl, Nat.le_of_ble_eq_true rfl, (Nat.le_of_ble_eq_true rfl), (Nat.le_of_ble_eq_true rfl)⟩ mw_671 mw_672 layX_111 rfl rfl rfl (Nat.le_of_ble_eq_true rfl) (c_X7_reached_q111_q113 (x_l X) (x_D X) (x_q X) g (x_cy X) (x_z X) _ x1 p1 o11 ho11) rfl rfl ?_
        obtain ⟨o12, ho12, hf⟩ := bd_e hf
        refine go_callS0 (pc' := 113) (As := [.int o11]) (st := []) (st' := [.int o12])    hC dX7_carries_110 ⟨mw_674, mw_677, mw_676, yd_yJ6_bitCount_0f7a4, yp_yJ6_bitCount_0f7a4, Nat.le_of_ble_eq_true rfl, Nat.le_of_ble_eq_true rfl, (Nat.le_of_ble_eq_true rfl), (Nat.le_of_ble_eq_true rfl)⟩ mw_675 rfl rfl (Nat.le_of_ble_eq_true rfl) (c_J6_bitCount_0f7a4 (x_l X) (x_D X) (x_q X) g (x_cy X) (x_z X) _ o11 o12 ho12) rfl rfl ?_
        refine go_aload_n (pc' := 114) hC dX7_carries_113 rfl rfl ?_
        refine go_getq (pc' := 117) hC 111 4 layX_111 rfl rfl inlX7 (Nat.le_of_ble_eq_true rfl) mw_115 rfl dX7_carries_114 rfl ?_
        refine go_geti (v := (S.1 1615)) (pc' := 120) hC 16 15 layX_16 rfl rfl inlX2 (Nat.le_of_ble_eq_true rfl) mw_665 rfl dX7_carries_117 rfl rfl ?_
        refine go_icmp_lt (tgt := 127) (pc' := 123) hC dX7_carries_120 (by decide) rfl (fun h13 => ?_) (fun h13 => ?_)
        · have hf := ite_t h13 hf
          refine go_iconst (pc' := 128) hC dX7_carries_127 ki_0 rfl ?_
          obtain rfl := Option.some.inj hf
          exact go_iret hC hQ dX7_carries_128 rfl rfl rfl rfl (fun _ => rfl) rfl rfl
        · have hf := ite_f h13 hf
          refine go_iconst (pc' := 124) hC dX7_carries_123 ki_1 rfl ?_
          refine go_goto (tgt := 128) hC dX7_carries_124 (by decide) ?_
          obtain rfl := Option.some.inj hf
          exact go_iret hC hQ dX7_carries_128 rfl rfl rfl rfl (fun _ => rfl) rfl rfl
      · have hf := ite_f h14 hf
        by_cases h17 : (S.1 1614) = (3 : Int32)
        · have hf := ite_t h17 hf
          refine go_tabIn' (v := (3 : Int32)) (tgt := 129) hC dX7_carries_23 h17 kt_3 (by decide) (by decide) rfl (by decide) ?_
          refine go_aload_n (pc' := 130) hC dX7_carries_129 rfl rfl ?_
          refine go_iload_n (pc' := 131) hC dX7_carries_130 rfl rfl ?_
          refine go_iload_n (pc' := 132) hC dX7_carries_131 rfl rfl ?_
          refine go_iload_n (pc' := 133) hC dX7_carries_132 rfl rfl ?_
          obtain ⟨o15, ho15, hf⟩ := bd_e hf
          refine go_callV1 (pc' := 136) (As := [.int x1, .int x2, .int p1]) (st := []) (st' := [.int o15.1]) (L1' := []) (L2' := []) (L3' := [(115, o15.2)]) (L4' := []) (L5' := []) (cells' := 0) (slots' := 0)  (b := 111) hC dX7_carries_133 ⟨mw_681, mw_684, mw_99, yd_yX7_daysBetween, yp_yX7_daysBetween, Nat.le_of_ble_eq_true rfl, Nat.le_of_ble_eq_true rfl, (Nat.le_of_ble_eq_true rfl), (Nat.le_of_ble_eq_true rfl)⟩ mw_682 mw_683 layX_111 rfl rfl rfl (Nat.le_of_ble_eq_true rfl) (c_X7_daysBetween_q111 (x_l X) (x_D X) (x_q X) g (x_cy X) (x_z X) _ x1 x2 p1 o15 ho15) rfl rfl rfl rfl rfl rfl rfl rfl rfl rfl rfl rfl rfl rfl ?_
          refine go_aload_n (pc' := 137) hC dX7_carries_136 rfl rfl ?_
          refine go_getq (pc' := 140) hC 111 4 layX_111 rfl rfl inlX7 (Nat.le_of_ble_eq_true rfl) mw_115 rfl dX7_carries_137 rfl ?_
          refine go_geti (v := (S.1 1615)) (pc' := 143) hC 16 15 layX_16 rfl rfl inlX2 (Nat.le_of_ble_eq_true rfl) mw_665 rfl dX7_carries_140 rfl rfl ?_
          refine go_icmp_gt (tgt := 150) (pc' := 146) hC dX7_carries_143 (by decide) rfl (fun h16 => ?_) (fun h16 => ?_)
          · have hf := ite_t h16 hf
            refine go_iconst (pc' := 151) hC dX7_carries_150 ki_0 rfl ?_
            obtain rfl := Option.some.inj hf
            exact go_iret hC hQ dX7_carries_151 rfl rfl rfl rfl (fun _ => rfl) rfl rfl
          · have hf := ite_f h16 hf
            refine go_iconst (pc' := 147) hC dX7_carries_146 ki_1 rfl ?_
            refine go_goto (tgt := 151) hC dX7_carries_147 (by decide) ?_
            obtain rfl := Option.some.inj hf
            exact go_iret hC hQ dX7_carries_151 rfl rfl rfl rfl (fun _ => rfl) rfl rfl
        · have hf := ite_f h17 hf
          refine go_tabOut (tgt := 152) hC dX7_carries_23 ?_ (by decide) ?_
          · have e0 := lv_neT h5 kt_0; have e1 := lv_neT h10 kt_1; have e2 := lv_neT h14 kt_2; have e3 := lv_neT h17 kt_3; omega
          · refine go_aload_n (pc' := 153) hC dX7_carries_152 rfl rfl ?_
            refine go_iload_n (pc' := 154) hC dX7_carries_153 rfl rfl ?_
            refine go_iload_n (pc' := 155) hC dX7_carries_154 rfl rfl ?_
            refine go_iload_n (pc' := 156) hC dX7_carries_155 rfl rfl ?_
            obtain ⟨o18, ho18, hf⟩ := bd_e hf
            refine go_callV0 (pc' := 159) (As := [.int x1, .int x2, .int p1]) (st := []) (st' := [.int o18])    (b := 111) hC dX7_carries_156 ⟨mw_666, mw_669, mw_99, yd_yX7_leads, yp_yX7_leads, Nat.le_of_ble_eq_true rfl, Nat.le_of_ble_eq_true rfl, (Nat.le_of_ble_eq_true rfl), (Nat.le_of_ble_eq_true rfl)⟩ mw_667 mw_668 layX_111 rfl rfl rfl (Nat.le_of_ble_eq_true rfl) (c_X7_leads_q111 (x_l X) (x_D X) (x_q X) g (x_cy X) (x_z X) _ x1 x2 p1 o18 ho18) rfl rfl ?_
            refine go_if_eq (tgt := 176) (pc' := 162) hC dX7_carries_159 (by decide) rfl (fun h21 => ?_) (fun h21 => ?_)
            · have hf := ite_t h21 hf
              refine go_iconst (pc' := 177) hC dX7_carries_176 ki_0 rfl ?_
              obtain rfl := Option.some.inj hf
              exact go_iret hC hQ dX7_carries_177 rfl rfl rfl rfl (fun _ => rfl) rfl rfl
            · have hf := ite_f h21 hf
              refine go_aload_n (pc' := 163) hC dX7_carries_162 rfl rfl ?_
              refine go_iload_n (pc' := 164) hC dX7_carries_163 rfl rfl ?_
              refine go_iload_n (pc' := 165) hC dX7_carries_164 rfl rfl ?_
              refine go_iload_n (pc' := 166) hC dX7_carries_165 rfl rfl ?_
              obtain ⟨o19, ho19, hf⟩ := bd_e hf
              refine go_callV0 (pc' := 169) (As := [.int x1, .int x2, .int p1]) (st := []) (st' := [.int o19])    (b := 111) hC dX7_carries_166 ⟨mw_694, mw_697, mw_99, yd_yX7_leadsWithoutAny, yp_yX7_leadsWithoutAny, Nat.le_of_ble_eq_true rfl, Nat.le_of_ble_eq_true rfl, (Nat.le_of_ble_eq_true rfl), (Nat.le_of_ble_eq_true rfl)⟩ mw_695 mw_696 layX_111 rfl rfl rfl (Nat.le_of_ble_eq_true rfl) (c_X7_leadsWithoutAny_q111 (x_l X) (x_D X) (x_q X) g (x_cy X) (x_z X) _ x1 x2 p1 o19 ho19) rfl rfl ?_
              refine go_if_eq (tgt := 176) (pc' := 172) hC dX7_carries_169 (by decide) rfl (fun h20 => ?_) (fun h20 => ?_)
              · have hf := ite_t h20 hf
                refine go_iconst (pc' := 177) hC dX7_carries_176 ki_0 rfl ?_
                obtain rfl := Option.some.inj hf
                exact go_iret hC hQ dX7_carries_177 rfl rfl rfl rfl (fun _ => rfl) rfl rfl
              · have hf := ite_f h20 hf
                refine go_iconst (pc' := 173) hC dX7_carries_172 ki_1 rfl ?_
                refine go_goto (tgt := 177) hC dX7_carries_173 (by decide) ?_
                obtain rfl := Option.some.inj hf
                exact go_iret hC hQ dX7_carries_177 rfl rfl rfl rfl (fun _ => rfl) rfl rfl
