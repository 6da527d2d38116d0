abbrev o_X0_fold_g135_g136 : Type := (Nat → Int64)
def f_X0_fold_g135_g136_L7 (S : wd_W) (p1 : Int32) (p2 : Int32) (p3 : Int32) (r4 : (Int32) → (Int32) → (Nat → Int64) → (Option o_X0_fold_g135_g136)) (x1 : Int32) (x2 : Int32) (a3 : Nat → Int64) : Option o_X0_fold_g135_g136 :=
if p3 < x2 then (
some a3) else (
gd (okx (x1 ||| ((1 : Int32) <<< (p1 &&& 31))) (S.2.2.2.2 135)) <|
gd (okx x1 (S.2.2.2.2 135)) <|
lz ((p2.toInt64 * ((S.2.2.2.1 135) (x1 ||| ((1 : Int32) <<< (p1 &&& 31))).toNatClampNeg)) + ((((16 : Int32) - p2).toInt64) * ((S.2.2.2.1 135) x1.toNatClampNeg))) fun x7 =>
gd (okx x1 (S.2.2.2.2 136)) <|
lz (vp_updL a3 x1.toNatClampNeg x7) fun a9 =>
if x1 = 0 then (
some a9) else (
lz ((x1 - (1 : Int32)) &&& p3) fun x10 =>
r4 x10 (x2 + (1 : Int32)) a9))
def f_X0_fold_g135_g136 (S : wd_W) (p1 : Int32) (p2 : Int32) (p3 : Int32) : Option o_X0_fold_g135_g136 :=
it3 (f_X0_fold_g135_g136_L7 S p1 p2 p3) fuel p3 (0 : Int32) (S.2.2.2.1 136)
set_option maxRecDepth 100000 in
set_option maxHeartbeats 4000000 in
theorem c_X0_fold_g135_g136 (l : Launch) (D : va_G) (q g : Nat → Nat) (cy : Nat → ClassId) (z : (Nat → Nat) × (Nat → Nat) × Nat) (S : wd_W) (p1 : Int32) (p2 : Int32) (p3 : Int32) (o : o_X0_fold_g135_g136) (hf : f_X0_fold_g135_g136 S p1 p2 p3 = some o) : MX layX l yX0_fold cX0_fold 7 none ({ frames := 0, cells := 0, slots := 0, locals := 0 } : Room) D q g cy z [.ref (g 135), .ref (g 136), .int p1, .int p2, .int p3] S false (none) (wd_o S [] [] [] [(136, o)] []) 0 0 := by
  refine mx_of (own := RX0) (lc := [(0, .ref (g 135)), (1, .ref (g 136)), (2, .int p1), (3, .int p2), (4, .int p3)]) (by decide +kernel) rfl layX_ok (Nat.le_of_ble_eq_true rfl) rfl ?_
  intro X hXl hXq hXz hC hQ
  subst hXl; subst hXq; subst hXz
  unfold f_X0_fold_g135_g136 at hf
  refine go_keys (L1 := []) (L2 := []) (L3 := []) (L4 := [(136, (S.2.2.2.1 136))]) (L5 := []) [] [] [] [136] [] rfl rfl rfl rfl rfl ?_
  refine go_iload (pc' := 2) hC dX0_fold_0 rfl rfl ?_
  refine go_istore (lc' := [(0, .ref (g 135)), (1, .ref (g 136)), (2, .int p1), (3, .int p2), (4, .int p3), (5, .int p3)]) (pc' := 4) hC dX0_fold_2 (Nat.le_of_ble_eq_true rfl) rfl rfl ?_
  refine go_iconst (pc' := 5) hC dX0_fold_4 ki_0 rfl ?_
  refine go_istore (lc' := [(0, .ref (g 135)), (1, .ref (g 136)), (2, .int p1), (3, .int p2), (4, .int p3), (5, .int p3), (6, .int (0 : Int32))]) (pc' := 7) hC dX0_fold_5 (Nat.le_of_ble_eq_true rfl) rfl rfl ?_
  have l7_13 : ∀ (nn : Nat) (x1 : Int32) (x2 : Int32) (a3 : Nat → Int64), it3 (f_X0_fold_g135_g136_L7 S p1 p2 p3) nn x1 x2 a3 = some o → Go X layX S 7 [(0, .ref (g 135)), (1, .ref (g 136)), (2, .int p1), (3, .int p2), (4, .int p3), (5, .int x1), (6, .int x2)] [] g [] [] [] [(136, a3)] [] 0 0 := by
    intro nn
    induction nn with
    | zero =>
      intro x1 x2 a3 hf
      exact none_no hf
    | succ nn ih =>
      intro x1 x2 a3 hf
      have hf : f_X0_fold_g135_g136_L7 S p1 p2 p3 (it3 (f_X0_fold_g135_g136_L7 S p1 p2 p3) nn) x1 x2 a3 = some o := hf
      generalize it3 (f_X0_fold_g135_g136_L7 S p1 p2 p3) nn = r4 at ih hf
      unfold f_X0_fold_g135_g136_L7 at hf
      refine go_iload (pc' := 9) hC dX0_fold_7 rfl rfl ?_
      refine go_iload (pc' := 11) hC dX0_fold_9 rfl rfl ?_
      refine go_icmp_gt (tgt := 63) (pc' := 14) hC dX0_fold_11 (by decide) rfl (fun h12 => ?_) (fun h12 => ?_)
      · have hf := ite_t h12 hf
        obtain rfl := Option.some.inj hf
        exact go_vret hC hQ dX0_fold_63 rfl rfl rfl (fun _ => rfl) rfl rfl
      · have hf := ite_f h12 hf
        refine go_aload_n (pc' := 15) hC dX0_fold_14 rfl rfl ?_
        refine go_iload (pc' := 17) hC dX0_fold_15 rfl rfl ?_
        refine go_iload_n (pc' := 18) hC dX0_fold_17 rfl rfl ?_
        refine go_i2l (pc' := 19) hC dX0_fold_18 rfl ?_
        refine go_aload_n (pc' := 20) hC dX0_fold_19 rfl rfl ?_
        refine go_iload (pc' := 22) hC dX0_fold_20 rfl rfl ?_
        refine go_iconst (pc' := 23) hC dX0_fold_22 ki_1 rfl ?_
        refine go_iload_n (pc' := 24) hC dX0_fold_23 rfl rfl ?_
        refine go_ishl (pc' := 25) hC dX0_fold_24 rfl ?_
        refine go_ior (pc' := 26) hC dX0_fold_25 rfl ?_
        obtain ⟨h5, hf⟩ := gd_e hf
        refine go_laldg (f := (S.2.2.2.1 135)) (pc' := 27) hC 135 layX_135 rfl rfl dX0_fold_26 (okx_in h5) rfl ?_
        refine go_lmul (pc' := 28) hC dX0_fold_27 rfl ?_
        refine go_bipush (pc' := 30) hC dX0_fold_28 kb_16 rfl ?_
        refine go_iload_n (pc' := 31) hC dX0_fold_30 rfl rfl ?_
        refine go_isub (pc' := 32) hC dX0_fold_31 rfl ?_
        refine go_i2l (pc' := 33) hC dX0_fold_32 rfl ?_
        refine go_aload_n (pc' := 34) hC dX0_fold_33 rfl rfl ?_
        refine go_iload (pc' := 36) hC dX0_fold_34 rfl rfl ?_
        obtain ⟨h6, hf⟩ := gd_e hf
        refine go_laldg (f := (S.2.2.2.1 135)) (pc' := 37) hC 135 layX_135 rfl rfl dX0_fold_36 (okx_in h6) rfl ?_
        refine go_lmul (pc' := 38) hC dX0_fold_37 rfl ?_
        refine go_ladd (pc' := 39) hC dX0_fold_38 rfl ?_
        refine go_namel (fun x7 hx => ?_)
        have hf := lz_r hx hf
        clear hx
        obtain ⟨h8, hf⟩ := gd_e hf
        refine go_lastg (f := a3) (pc' := 40) hC 136 layX_136 rfl rfl dX0_fold_39 (okx_in h8) rfl rfl (fun a9 ha L4' hL => ?_)
        have hf := lz_r ha hf
        clear ha
        obtain rfl : L4' = [(136, a9)] := hL.symm
        refine go_iload (pc' := 42) hC dX0_fold_40 rfl rfl ?_
        refine go_if_ne (tgt := 48) (pc' := 45) hC dX0_fold_42 (by decide) rfl (fun h11 => ?_) (fun h11 => ?_)
        · have hf := ite_f h11 hf
          refine go_iload (pc' := 50) hC dX0_fold_48 rfl rfl ?_
          refine go_iconst (pc' := 51) hC dX0_fold_50 ki_1 rfl ?_
          refine go_isub (pc' := 52) hC dX0_fold_51 rfl ?_
          refine go_iload (pc' := 54) hC dX0_fold_52 rfl rfl ?_
          refine go_iand (pc' := 55) hC dX0_fold_54 rfl ?_
          refine go_namei (fun x10 hx => ?_)
          have hf := lz_r hx hf
          clear hx
          refine go_istore (lc' := [(0, .ref (g 135)), (1, .ref (g 136)), (2, .int p1), (3, .int p2), (4, .int p3), (5, .int x10), (6, .int x2)]) (pc' := 57) hC dX0_fold_55 (Nat.le_of_ble_eq_true rfl) rfl rfl ?_
          refine go_iinc (lc' := [(0, .ref (g 135)), (1, .ref (g 136)), (2, .int p1), (3, .int p2), (4, .int p3), (5, .int x10), (6, .int (x2 + (1 : Int32)))]) (pc' := 60) hC dX0_fold_57 rfl ki_1 (Nat.le_of_ble_eq_true rfl) rfl rfl ?_
          refine go_goto (tgt := 7) hC dX0_fold_60 (by decide) ?_
          exact ih x10 (x2 + (1 : Int32)) a9 hf
        · have hf := ite_t h11 hf
          refine go_goto (tgt := 63) hC dX0_fold_45 (by decide) ?_
          obtain rfl := Option.some.inj hf
          exact go_vret hC hQ dX0_fold_63 rfl rfl rfl (fun _ => rfl) rfl rfl
  exact l7_13 fuel p3 (0 : Int32) (S.2.2.2.1 136) hf
abbrev o_X0_fold_g136_g136 : Type := (Nat → Int64)
def f_X0_fold_g136_g136_L7 (S : wd_W) (p1 : Int32) (p2 : Int32) (p3 : Int32) (r4 : (Int32) → (Int32) → (Nat → Int64) → (Option o_X0_fold_g136_g136)) (x1 : Int32) (x2 : Int32) (a3 : Nat → Int64) : Option o_X0_fold_g136_g136 :=
if p3 < x2 then (
some a3) else (
gd (okx (x1 ||| ((1 : Int32) <<< (p1 &&& 31))) (S.2.2.2.2 136)) <|
gd (okx x1 (S.2.2.2.2 136)) <|
lz ((p2.toInt64 * (a3 (x1 ||| ((1 : Int32) <<< (p1 &&& 31))).toNatClampNeg)) + ((((16 : Int32) - p2).toInt64) * (a3 x1.toNatClampNeg))) fun x7 =>
gd (okx x1 (S.2.2.2.2 136)) <|
lz (vp_updL a3 x1.toNatClampNeg x7) fun a9 =>
if x1 = 0 then (
some a9) else (
lz ((x1 - (1 : Int32)) &&& p3) fun x10 =>
r4 x10 (x2 + (1 : Int32)) a9))
def f_X0_fold_g136_g136 (S : wd_W) (p1 : Int32) (p2 : Int32) (p3 : Int32) : Option o_X0_fold_g136_g136 :=
it3 (f_X0_fold_g136_g136_L7 S p1 p2 p3) fuel p3 (0 : Int32) (S.2.2.2.1 136)
set_option maxRecDepth 100000 in
set_option maxHeartbeats 4000000 in
theorem c_X0_fold_g136_g136 (l : Launch) (D : va_G) (q g : Nat → Nat) (cy : Nat → ClassId) (z : (Nat → Nat) × (Nat → Nat) × Nat) (S : wd_W) (p1 : Int32) (p2 : Int32) (p3 : Int32) (o : o_X0_fold_g136_g136) (hf : f_X0_fold_g136_g136 S p1 p2 p3 = some o) : MX layX l yX0_fold cX0_fold 7 none ({ frames := 0, cells := 0, slots := 0, locals := 0 } : Room) D q g cy z [.ref (g 136), .ref (g 136), .int p1, .int p2, .int p3] S false (none) (wd_o S [] [] [] [(136, o)] []) 0 0 := by
  refine mx_of (own := RX0) (lc := [(0, .ref (g 136)), (1, .ref (g 136)), (2, .int p1), (3, .int p2), (4, .int p3)]) (by decide +kernel) rfl layX_ok (Nat.le_of_ble_eq_true rfl) rfl ?_
  intro X hXl hXq hXz hC hQ
  subst hXl; subst hXq; subst hXz
  unfold f_X0_fold_g136_g136 at hf
  refine go_keys (L1 := []) (L2 := []) (L3 := []) (L4 := [(136, (S.2.2.2.1 136))]) (L5 := []) [] [] [] [136] [] rfl rfl rfl rfl rfl ?_
  refine go_iload (pc' := 2) hC dX0_fold_0 rfl rfl ?_
  refine go_istore (lc' := [(0, .ref (g 136)), (1, .ref (g 136)), (2, .int p1), (3, .int p2), (4, .int p3), (5, .int p3)]) (pc' := 4) hC dX0_fold_2 (Nat.le_of_ble_eq_true rfl) rfl rfl ?_
  refine go_iconst (pc' := 5) hC dX0_fold_4 ki_0 rfl ?_
  refine go_istore (lc' := [(0, .ref (g 136)), (1, .ref (g 136)), (2, .int p1), (3, .int p2), (4, .int p3), (5, .int p3), (6, .int (0 : Int32))]) (pc' := 7) hC dX0_fold_5 (Nat.le_of_ble_eq_true rfl) rfl rfl ?_
  have l7_13 : ∀ (nn : Nat) (x1 : Int32) (x2 : Int32) (a3 : Nat → Int64), it3 (f_X0_fold_g136_g136_L7 S p1 p2 p3) nn x1 x2 a3 = some o → Go X layX S 7 [(0, .ref (g 136)), (1, .ref (g 136)), (2, .int p1), (3, .int p2), (4, .int p3), (5, .int x1), (6, .int x2)] [] g [] [] [] [(136, a3)] [] 0 0 := by
    intro nn
    induction nn with
    | zero =>
      intro x1 x2 a3 hf
      exact none_no hf
    | succ nn ih =>
      intro x1 x2 a3 hf
      have hf : f_X0_fold_g136_g136_L7 S p1 p2 p3 (it3 (f_X0_fold_g136_g136_L7 S p1 p2 p3) nn) x1 x2 a3 = some o := hf
      generalize it3 (f_X0_fold_g136_g136_L7 S p1 p2 p3) nn = r4 at ih hf
      unfold f_X0_fold_g136_g136_L7 at hf
      refine go_iload (pc' := 9) hC dX0_fold_7 rfl rfl ?_
      refine go_iload (pc' := 11) hC dX0_fold_9 rfl rfl ?_
      refine go_icmp_gt (tgt := 63) (pc' := 14) hC dX0_fold_11 (by decide) rfl (fun h12 => ?_) (fun h12 => ?_)
      · have hf := ite_t h12 hf
        obtain rfl := Option.some.inj hf
        exact go_vret hC hQ dX0_fold_63 rfl rfl rfl (fun _ => rfl) rfl rfl
      · have hf := ite_f h12 hf
        refine go_aload_n (pc' := 15) hC dX0_fold_14 rfl rfl ?_
        refine go_iload (pc' := 17) hC dX0_fold_15 rfl rfl ?_
        refine go_iload_n (pc' := 18) hC dX0_fold_17 rfl rfl ?_
        refine go_i2l (pc' := 19) hC dX0_fold_18 rfl ?_
        refine go_aload_n (pc' := 20) hC dX0_fold_19 rfl rfl ?_
        refine go_iload (pc' := 22) hC dX0_fold_20 rfl rfl ?_
        refine go_iconst (pc' := 23) hC dX0_fold_22 ki_1 rfl ?_
        refine go_iload_n (pc' := 24) hC dX0_fold_23 rfl rfl ?_
        refine go_ishl (pc' := 25) hC dX0_fold_24 rfl ?_
        refine go_ior (pc' := 26) hC dX0_fold_25 rfl ?_
        obtain ⟨h5, hf⟩ := gd_e hf
        refine go_laldg (f := a3) (pc' := 27) hC 136 layX_136 rfl rfl dX0_fold_26 (okx_in h5) rfl ?_
        refine go_lmul (pc' := 28) hC dX0_fold_27 rfl ?_
        refine go_bipush (pc' := 30) hC dX0_fold_28 kb_16 rfl ?_
        refine go_iload_n (pc' := 31) hC dX0_fold_30 rfl rfl ?_
        refine go_isub (pc' := 32) hC dX0_fold_31 rfl ?_
        refine go_i2l (pc' := 33) hC dX0_fold_32 rfl ?_
        refine go_aload_n (pc' := 34) hC dX0_fold_33 rfl rfl ?_
        refine go_iload (pc' := 36) hC dX0_fold_34 rfl rfl ?_
        obtain ⟨h6, hf⟩ := gd_e hf
        refine go_laldg (f := a3) (pc' := 37) hC 136 layX_136 rfl rfl dX0_fold_36 (okx_in h6) rfl ?_
        refine go_lmul (pc' := 38) hC dX0_fold_37 rfl ?_
        refine go_ladd (pc' := 39) hC dX0_fold_38 rfl ?_
        refine go_namel (fun x7 hx => ?_)
        have hf := lz_r hx hf
        clear hx
        obtain ⟨h8, hf⟩ := gd_e hf
        refine go_lastg (f := a3) (pc' := 40) hC 136 layX_136 rfl rfl dX0_fold_39 (okx_in h8) rfl rfl (fun a9 ha L4' hL => ?_)
        have hf := lz_r ha hf
        clear ha
        obtain rfl : L4' = [(136, a9)] := hL.symm
        refine go_iload (pc' := 42) hC dX0_fold_40 rfl rfl ?_
        refine go_if_ne (tgt := 48) (pc' := 45) hC dX0_fold_42 (by decide) rfl (fun h11 => ?_) (fun h11 => ?_)
        · have hf := ite_f h11 hf
          refine go_iload (pc' := 50) hC dX0_fold_48 rfl rfl ?_
          refine go_iconst (pc' := 51) hC dX0_fold_50 ki_1 rfl ?_
          refine go_isub (pc' := 52) hC dX0_fold_51 rfl ?_
          refine go_iload (pc' := 54) hC dX0_fold_52 rfl rfl ?_
          refine go_iand (pc' := 55) hC dX0_fold_54 rfl ?_
          refine go_namei (fun x10 hx => ?_)
          have hf := lz_r hx hf
          clear hx
          refine go_istore (lc' := [(0, .ref (g 136)), (1, .ref (g 136)), (2, .int p1), (3, .int p2), (4, .int p3), (5, .int x10), (6, .int x2)]) (pc' := 57) hC dX0_fold_55 (Nat.le_of_ble_eq_true rfl) rfl rfl ?_
          refine go_iinc (lc' := [(0, .ref (g 136)), (1, .ref (g 136)), (2, .int p1), (3, .int p2), (4, .int p3), (5, .int x10), (6, .int (x2 + (1 : Int32)))]) (pc' := 60) hC dX0_fold_57 rfl ki_1 (Nat.le_of_ble_eq_true rfl) rfl rfl ?_
          refine go_goto (tgt := 7) hC dX0_fold_60 (by decide) ?_
          exact ih x10 (x2 + (1 : Int32)) a9 hf
        · have hf := ite_t h11 hf
          refine go_goto (tgt := 63) hC dX0_fold_45 (by decide) ?_
          obtain rfl := Option.some.inj hf
          exact go_vret hC hQ dX0_fold_63 rfl rfl rfl (fun _ => rfl) rfl rfl
  exact l7_13 fuel p3 (0 : Int32) (S.2.2.2.1 136) hf
theorem dX0_chanceAfter_0 : decode cX0_chanceAfter 0 = .ok (.aload_n 0, 1) := by decide +kernel
theorem dX0_chanceAfter_1 : decode cX0_chanceAfter 1 = .ok (.getfield 21, 3) := by decide +kernel
theorem dX0_chanceAfter_4 : decode cX0_chanceAfter 4 = .ok (.astore_n 3, 1) := by decide +kernel
theorem dX0_chanceAfter_5 : decode cX0_chanceAfter 5 = .ok (.iload_n 2, 1) := by decide +kernel
theorem dX0_chanceAfter_6 : decode cX0_chanceAfter 6 = .ok (.istore 4, 2) := by decide +kernel
theorem dX0_chanceAfter_8 : decode cX0_chanceAfter 8 = .ok (.iconst 0, 1) := by decide +kernel
theorem dX0_chanceAfter_9 : decode cX0_chanceAfter 9 = .ok (.istore 5, 2) := by decide +kernel
theorem dX0_chanceAfter_11 : decode cX0_chanceAfter 11 = .ok (.iload 5, 2) := by decide +kernel
theorem dX0_chanceAfter_13 : decode cX0_chanceAfter 13 = .ok (.aload_n 0, 1) := by decide +kernel
theorem dX0_chanceAfter_14 : decode cX0_chanceAfter 14 = .ok (.getfield 45, 3) := by decide +kernel
theorem dX0_chanceAfter_17 : decode cX0_chanceAfter 17 = .ok (.if_icmp .ge 64, 3) := by decide +kernel
theorem dX0_chanceAfter_20 : decode cX0_chanceAfter 20 = .ok (.iload_n 2, 1) := by decide +kernel
theorem dX0_chanceAfter_21 : decode cX0_chanceAfter 21 = .ok (.iload 5, 2) := by decide +kernel
theorem dX0_chanceAfter_23 : decode cX0_chanceAfter 23 = .ok (.ishr, 1) := by decide +kernel
theorem dX0_chanceAfter_24 : decode cX0_chanceAfter 24 = .ok (.iconst 1, 1) := by decide +kernel
theorem dX0_chanceAfter_25 : decode cX0_chanceAfter 25 = .ok (.iand, 1) := by decide +kernel
theorem dX0_chanceAfter_26 : decode cX0_chanceAfter 26 = .ok (.ifCond .eq 49, 3) := by decide +kernel
theorem dX0_chanceAfter_29 : decode cX0_chanceAfter 29 = .ok (.iload 4, 2) := by decide +kernel
theorem dX0_chanceAfter_31 : decode cX0_chanceAfter 31 = .ok (.iconst 1, 1) := by decide +kernel
theorem dX0_chanceAfter_32 : decode cX0_chanceAfter 32 = .ok (.iload 5, 2) := by decide +kernel
theorem dX0_chanceAfter_34 : decode cX0_chanceAfter 34 = .ok (.ishl, 1) := by decide +kernel
theorem dX0_chanceAfter_35 : decode cX0_chanceAfter 35 = .ok (.ixor, 1) := by decide +kernel
theorem dX0_chanceAfter_36 : decode cX0_chanceAfter 36 = .ok (.istore 4, 2) := by decide +kernel
theorem dX0_chanceAfter_38 : decode cX0_chanceAfter 38 = .ok (.aload_n 3, 1) := by decide +kernel
theorem dX0_chanceAfter_39 : decode cX0_chanceAfter 39 = .ok (.aload_n 0, 1) := by decide +kernel
theorem dX0_chanceAfter_40 : decode cX0_chanceAfter 40 = .ok (.getfield 24, 3) := by decide +kernel
theorem dX0_chanceAfter_43 : decode cX0_chanceAfter 43 = .ok (.iload 5, 2) := by decide +kernel
theorem dX0_chanceAfter_45 : decode cX0_chanceAfter 45 = .ok (.aload_n 0, 1) := by decide +kernel
theorem dX0_chanceAfter_46 : decode cX0_chanceAfter 46 = .ok (.getfield 31, 3) := by decide +kernel
theorem dX0_chanceAfter_49 : decode cX0_chanceAfter 49 = .ok (.iload_n 1, 1) := by decide +kernel
theorem dX0_chanceAfter_50 : decode cX0_chanceAfter 50 = .ok (.iload 5, 2) := by decide +kernel
theorem dX0_chanceAfter_52 : decode cX0_chanceAfter 52 = .ok (.aload_n 0, 1) := by decide +kernel
theorem dX0_chanceAfter_53 : decode cX0_chanceAfter 53 = .ok (.getfield 27, 3) := by decide +kernel
theorem dX0_chanceAfter_56 : decode cX0_chanceAfter 56 = .ok (.getfield 56, 3) := by decide +kernel
theorem dX0_chanceAfter_59 : decode cX0_chanceAfter 59 = .ok (.iload 5, 2) := by decide +kernel
theorem dX0_chanceAfter_61 : decode cX0_chanceAfter 61 = .ok (.iaload, 1) := by decide +kernel
theorem dX0_chanceAfter_62 : decode cX0_chanceAfter 62 = .ok (.invokevirtual 123, 3) := by decide +kernel
theorem dX0_chanceAfter_65 : decode cX0_chanceAfter 65 = .ok (.iload 4, 2) := by decide +kernel
theorem dX0_chanceAfter_67 : decode cX0_chanceAfter 67 = .ok (.invokestatic 119, 3) := by decide +kernel
theorem dX0_chanceAfter_70 : decode cX0_chanceAfter 70 = .ok (.aload_n 0, 1) := by decide +kernel
theorem dX0_chanceAfter_71 : decode cX0_chanceAfter 71 = .ok (.getfield 24, 3) := by decide +kernel
theorem dX0_chanceAfter_74 : decode cX0_chanceAfter 74 = .ok (.astore_n 3, 1) := by decide +kernel
theorem dX0_chanceAfter_75 : decode cX0_chanceAfter 75 = .ok (.iinc 5 1, 3) := by decide +kernel
theorem dX0_chanceAfter_78 : decode cX0_chanceAfter 78 = .ok (.goto (-67), 3) := by decide +kernel
theorem dX0_chanceAfter_81 : decode cX0_chanceAfter 81 = .ok (.aload_n 3, 1) := by decide +kernel
theorem dX0_chanceAfter_82 : decode cX0_chanceAfter 82 = .ok (.iconst 0, 1) := by decide +kernel
theorem dX0_chanceAfter_83 : decode cX0_chanceAfter 83 = .ok (.laload, 1) := by decide +kernel
theorem dX0_chanceAfter_84 : decode cX0_chanceAfter 84 = .ok (.lreturn, 1) := by decide +kernel
abbrev o_X0_chanceAfter_q131 : Type := Int64 × (Nat → Int64)
def f_X0_chanceAfter_q131_L75_7 (S : wd_W) (p1 : Int32) (p2 : Int32) (k81_10 : (Nat → Int64) → (Option o_X0_chanceAfter_q131)) (r15 : (Int32) → (Int32) → (Nat → Int64) → (Option o_X0_chanceAfter_q131)) (x12 : Int32) (x13 : Int32) (a14 : Nat → Int64) : Option o_X0_chanceAfter_q131 :=
if (S.1 13105) ≤ (x13 + (1 : Int32)) then (
k81_10 a14) else (
if ((p2 >>> ((x13 + (1 : Int32)) &&& 31)) &&& (1 : Int32)) = 0 then (
r15 x12 (x13 + (1 : Int32)) a14) else (
lz (x12 ^^^ ((1 : Int32) <<< ((x13 + (1 : Int32)) &&& 31))) fun x16 =>
gd (okx (x13 + (1 : Int32)) 13) <|
bd (f_X6_chanceAfter_q27 (wd_o S [] [] [] [(136, a14)] []) p1 (x13 + (1 : Int32)) ((S.2.2.1 19) (x13 + (1 : Int32)).toNatClampNeg)) fun o18 =>
bd (f_X0_fold_g136_g136 (wd_o S [] [] [] [(136, a14)] []) (x13 + (1 : Int32)) o18 x16) fun o19 =>
r15 x16 (x13 + (1 : Int32)) o19))
def f_X0_chanceAfter_q131_L11 (S : wd_W) (p2 : Int32) (k81_1 : (Option o_X0_chanceAfter_q131)) (k29_4 : (Int32) → (Option o_X0_chanceAfter_q131)) (r24 : (Int32) → (Option o_X0_chanceAfter_q131)) (x23 : Int32) : Option o_X0_chanceAfter_q131 :=
if (S.1 13105) ≤ x23 then (
k81_1) else (
if ((p2 >>> (x23 &&& 31)) &&& (1 : Int32)) = 0 then (
r24 (x23 + (1 : Int32))) else (
k29_4 x23))
def f_X0_chanceAfter_q131 (S : wd_W) (p1 : Int32) (p2 : Int32) : Option o_X0_chanceAfter_q131 :=
lk (gd (okx (0 : Int32) (S.2.2.2.2 135)) <|
some ((S.2.2.2.1 135) (0 : Int32).toNatClampNeg, (S.2.2.2.1 136))) fun k81_1 =>
lk (fun x3 =>
lz (p2 ^^^ ((1 : Int32) <<< (x3 &&& 31))) fun x5 =>
gd (okx x3 13) <|
bd (f_X6_chanceAfter_q27 (wd_o S [] [] [] [(136, (S.2.2.2.1 136))] []) p1 x3 ((S.2.2.1 19) x3.toNatClampNeg)) fun o7 =>
bd (f_X0_fold_g135_g136 (wd_o S [] [] [] [(136, (S.2.2.2.1 136))] []) x3 o7 x5) fun o8 =>
lk (fun a9 =>
gd (okx (0 : Int32) (S.2.2.2.2 136)) <|
some (a9 (0 : Int32).toNatClampNeg, a9)) fun k81_10 =>
it3 (f_X0_chanceAfter_q131_L75_7 S p1 p2 k81_10) fuel x5 x3 o8) fun k29_4 =>
it1 (f_X0_chanceAfter_q131_L11 S p2 k81_1 k29_4) fuel (0 : Int32)
set_option maxRecDepth 100000 in
set_option maxHeartbeats 4000000 in
theorem c_X0_chanceAfter_q131 (l : Launch) (D : va_G) (q g : Nat → Nat) (cy : Nat → ClassId) (z : (Nat → Nat) × (Nat → Nat) × Nat) (S : wd_W) (p1 : Int32) (p2 : Int32) (o : o_X0_chanceAfter_q131) (hf : f_X0_chanceAfter_q131 S p1 p2 = some o) : MX layX l yX0_chanceAfter cX0_chanceAfter 6 (some .long) ({ frames := 2, cells := 0, slots := 0, locals := 46 } : Room) D q g cy z [.ref (q 131), .int p1, .int p2] S false (some (.long o.1)) (wd_o S [] [] [] [(136, o.2)] []) 0 0 := by
  refine mx_of (own := RX0) (lc := [(0, .ref (q 131)), (1, .int p1), (2, .int p2)]) (by decide +kernel) rfl layX_ok (Nat.le_of_ble_eq_true rfl) rfl ?_
  intro X hXl hXq hXz hC hQ
  subst hXl; subst hXq; subst hXz
  unfold f_X0_chanceAfter_q131 at hf
  refine go_keys (L1 := []) (L2 := []) (L3 := []) (L4 := [(136, (S.2.2.2.1 136))]) (L5 := []) [] [] [] [136] [] rfl rfl rfl rfl rfl ?_
  refine go_aload_n (pc' := 1) hC dX0_chanceAfter_0 rfl rfl ?_
  refine go_getg (pc' := 4) hC 131 7 layX_131 rfl rfl inlX0 (Nat.le_of_ble_eq_true rfl) mw_142 rfl dX0_chanceAfter_1 rfl ?_
  refine go_astore_n (lc' := [(0, .ref (x_q X 131)), (1, .int p1), (2, .int p2), (3, .ref (g 135))]) (pc' := 5) hC dX0_chanceAfter_4 (Nat.le_of_ble_eq_true rfl) rfl rfl ?_
  refine go_iload_n (pc' := 6) hC dX0_chanceAfter_5 rfl rfl ?_
  refine go_istore (lc' := [(0, .ref (x_q X 131)), (1, .int p1), (2, .int p2), (3, .ref (g 135)), (4, .int p2)]) (pc' := 8) hC dX0_chanceAfter_6 (Nat.le_of_ble_eq_true rfl) rfl rfl ?_
  refine go_iconst (pc' := 9) hC dX0_chanceAfter_8 ki_0 rfl ?_
  refine go_istore (lc' := [(0, .ref (x_q X 131)), (1, .int p1), (2, .int p2), (3, .ref (g 135)), (4, .int p2), (5, .int (0 : Int32))]) (pc' := 11) hC dX0_chanceAfter_9 (Nat.le_of_ble_eq_true rfl) rfl rfl ?_
  obtain ⟨k81_1, hk81_1, hf⟩ := lk_e0 hf
  have jk81_1 : ∀ (_ : Unit), k81_1 = some o → Go X layX S 81 [(3, .ref (g 135))] [] g [] [] [] [(136, (S.2.2.2.1 136))] [] 0 0 := by
    intro _ hf
    have hf := hk81_1 hf
    clear hk81_1
    refine go_aload_n (pc' := 82) hC dX0_chanceAfter_81 rfl rfl ?_
    refine go_iconst (pc' := 83) hC dX0_chanceAfter_82 ki_0 rfl ?_
    obtain ⟨h2, hf⟩ := gd_e hf
    refine go_laldg (f := (S.2.2.2.1 135)) (pc' := 84) hC 135 layX_135 rfl rfl dX0_chanceAfter_83 (okx_in h2) rfl ?_
    obtain rfl := Option.some.inj hf
    exact go_lret hC hQ dX0_chanceAfter_84 rfl rfl rfl (fun _ => rfl) rfl rfl
  clear hk81_1
  obtain ⟨k29_4, hk29_4, hf⟩ := lk_e1 hf
  have jk29_4 : ∀ (x3 : Int32), k29_4 x3 = some o → Go X layX S 29 [(0, .ref (x_q X 131)), (1, .int p1), (2, .int p2), (3, .ref (g 135)), (4, .int p2), (5, .int x3)] [] g [] [] [] [(136, (S.2.2.2.1 136))] [] 0 0 := by
    intro x3 hf
    have hf := hk29_4 x3 hf
    clear hk29_4
    refine go_iload (pc' := 31) hC dX0_chanceAfter_29 rfl rfl ?_
    refine go_iconst (pc' := 32) hC dX0_chanceAfter_31 ki_1 rfl ?_
    refine go_iload (pc' := 34) hC dX0_chanceAfter_32 rfl rfl ?_
    refine go_ishl (pc' := 35) hC dX0_chanceAfter_34 rfl ?_
    refine go_ixor (pc' := 36) hC dX0_chanceAfter_35 rfl ?_
    refine go_namei (fun x5 hx => ?_)
    have hf := lz_r hx hf
    clear hx
    refine go_istore (lc' := [(0, .ref (x_q X 131)), (1, .int p1), (2, .int p2), (3, .ref (g 135)), (4, .int x5), (5, .int x3)]) (pc' := 38) hC dX0_chanceAfter_36 (Nat.le_of_ble_eq_true rfl) rfl rfl ?_
    refine go_aload_n (pc' := 39) hC dX0_chanceAfter_38 rfl rfl ?_
    refine go_aload_n (pc' := 40) hC dX0_chanceAfter_39 rfl rfl ?_
    refine go_getg (pc' := 43) hC 131 8 layX_131 rfl rfl inlX0 (Nat.le_of_ble_eq_true rfl) mw_143 rfl dX0_chanceAfter_40 rfl ?_
    refine go_iload (pc' := 45) hC dX0_chanceAfter_43 rfl rfl ?_
    refine go_aload_n (pc' := 46) hC dX0_chanceAfter_45 rfl rfl ?_
    refine go_getq (pc' := 49) hC 131 3 layX_131 rfl rfl inlX0 (Nat.le_of_ble_eq_true rfl) mw_145 rfl dX0_chanceAfter_46 rfl ?_
    refine go_iload_n (pc' := 50) hC dX0_chanceAfter_49 rfl rfl ?_
    refine go_iload (pc' := 52) hC dX0_chanceAfter_50 rfl rfl ?_
    refine go_aload_n (pc' := 53) hC dX0_chanceAfter_52 rfl rfl ?_
    refine go_getq (pc' := 56) hC 131 2 layX_131 rfl rfl inlX0 (Nat.le_of_ble_eq_true rfl) mw_144 rfl dX0_chanceAfter_53 rfl ?_
    refine go_getq (pc' := 59) hC 16 4 layX_16 rfl rfl inlX2 (Nat.le_of_ble_eq_true rfl) mw_768 rfl dX0_chanceAfter_56 rfl ?_
    refine go_iload (pc' := 61) hC dX0_chanceAfter_59 rfl rfl ?_
    obtain ⟨h6, hf⟩ := gd_e hf
    refine go_iald (f := (S.2.2.1 19)) (pc' := 62) hC 19 layX_19 rfl rfl dX0_chanceAfter_61 (okx_in h6) rfl ?_
    obtain ⟨o7, ho7, hf⟩ := bd_e hf
    refine go_callV0 (pc' := 65) (As := [.int p1, .int x3, .int ((S.2.2.1 19) x3.toNatClampNeg)]) (st := [.int x3, .ref (g 136), .ref (g 135)]) (st' := [.int o7, .int x3, .ref (g 136), .ref (g 135)])    (b := 27) hC dX0_chanceAfter_62 ⟨mw_806, mw_809, mw_23, yd_yX6_chanceAfter, yp_yX6_chanceAfter, Nat.le_of_ble_eq_true rfl, Nat.le_of_ble_eq_true rfl, (Nat.le_of_ble_eq_true rfl), (Nat.le_of_ble_eq_true rfl)⟩ mw_807 mw_808 layX_27 rfl rfl rfl (Nat.le_of_ble_eq_true rfl) (c_X6_chanceAfter_q27 (x_l X) (x_D X) (x_q X) g (x_cy X) (x_z X) _ p1 x3 ((S.2.2.1 19) x3.toNatClampNeg) o7 ho7) rfl rfl ?_
    refine go_iload (pc' := 67) hC dX0_chanceAfter_65 rfl rfl ?_
    obtain ⟨o8, ho8, hf⟩ := bd_e hf
    refine go_callS1 (pc' := 70) (As := [.ref (g 135), .ref (g 136), .int x3, .int o7, .int x5]) (st := []) (st' := []) (L1' := []) (L2' := []) (L3' := []) (L4' := [(136, o8)]) (L5' := []) (cells' := 0) (slots' := 0)  hC dX0_chanceAfter_67 ⟨mw_799, mw_801, mw_40, yd_yX0_fold, yp_yX0_fold, Nat.le_of_ble_eq_true rfl, Nat.le_of_ble_eq_true rfl, (Nat.le_of_ble_eq_true rfl), (Nat.le_of_ble_eq_true rfl)⟩ mw_800 rfl rfl (Nat.le_of_ble_eq_true rfl) (c_X0_fold_g135_g136 (x_l X) (x_D X) (x_q X) g (x_cy X) (x_z X) _ x3 o7 x5 o8 ho8) rfl rfl rfl rfl rfl rfl rfl rfl rfl rfl rfl rfl rfl rfl ?_
    refine go_aload_n (pc' := 71) hC dX0_chanceAfter_70 rfl rfl ?_
    refine go_getg (pc' := 74) hC 131 8 layX_131 rfl rfl inlX0 (Nat.le_of_ble_eq_true rfl) mw_143 rfl dX0_chanceAfter_71 rfl ?_
    refine go_astore_n (lc' := [(0, .ref (x_q X 131)), (1, .int p1), (2, .int p2), (3, .ref (g 136)), (4, .int x5), (5, .int x3)]) (pc' := 75) hC dX0_chanceAfter_74 (Nat.le_of_ble_eq_true rfl) rfl rfl ?_
    obtain ⟨k81_10, hk81_10, hf⟩ := lk_e1 hf
    have jk81_10 : ∀ (a9 : Nat → Int64), k81_10 a9 = some o → Go X layX S 81 [(3, .ref (g 136))] [] g [] [] [] [(136, a9)] [] 0 0 := by
      intro a9 hf
      have hf := hk81_10 a9 hf
      clear hk81_10
      refine go_aload_n (pc' := 82) hC dX0_chanceAfter_81 rfl rfl ?_
      refine go_iconst (pc' := 83) hC dX0_chanceAfter_82 ki_0 rfl ?_
      obtain ⟨h11, hf⟩ := gd_e hf
      refine go_laldg (f := a9) (pc' := 84) hC 136 layX_136 rfl rfl dX0_chanceAfter_83 (okx_in h11) rfl ?_
      obtain rfl := Option.some.inj hf
      exact go_lret hC hQ dX0_chanceAfter_84 rfl rfl rfl (fun _ => rfl) rfl rfl
    clear hk81_10
    have l75_22 : ∀ (nn : Nat) (x12 : Int32) (x13 : Int32) (a14 : Nat → Int64), it3 (f_X0_chanceAfter_q131_L75_7 S p1 p2 k81_10) nn x12 x13 a14 = some o → Go X layX S 75 [(0, .ref (x_q X 131)), (1, .int p1), (2, .int p2), (3, .ref (g 136)), (4, .int x12), (5, .int x13)] [] g [] [] [] [(136, a14)] [] 0 0 := by
      intro nn
      induction nn with
      | zero =>
        intro x12 x13 a14 hf
        exact none_no hf
      | succ nn ih =>
        intro x12 x13 a14 hf
        have hf : f_X0_chanceAfter_q131_L75_7 S p1 p2 k81_10 (it3 (f_X0_chanceAfter_q131_L75_7 S p1 p2 k81_10) nn) x12 x13 a14 = some o := hf
        generalize it3 (f_X0_chanceAfter_q131_L75_7 S p1 p2 k81_10) nn = r15 at ih hf
        unfold f_X0_chanceAfter_q131_L75_7 at hf
        refine go_iinc (lc' := [(0, .ref (x_q X 131)), (1, .int p1), (2, .int p2), (3, .ref (g 136)), (4, .int x12), (5, .int (x13 + (1 : Int32)))]) (pc' := 78) hC dX0_chanceAfter_75 rfl ki_1 (Nat.le_of_ble_eq_true rfl) rfl rfl ?_
        refine go_goto (tgt := 11) hC dX0_chanceAfter_78 (by decide) ?_
        refine go_iload (pc' := 13) hC dX0_chanceAfter_11 rfl rfl ?_
        refine go_aload_n (pc' := 14) hC dX0_chanceAfter_13 rfl rfl ?_
        refine go_geti (v := (S.1 13105)) (pc' := 17) hC 131 5 layX_131 rfl rfl inlX0 (Nat.le_of_ble_eq_true rfl) mw_766 rfl dX0_chanceAfter_14 rfl rfl ?_
        refine go_icmp_ge (tgt := 81) (pc' := 20) hC dX0_chanceAfter_17 (by decide) rfl (fun h21 => ?_) (fun h21 => ?_)
        · have hf := ite_t h21 hf
          refine go_sub [3] rfl ?_
          exact jk81_10 a14 hf
        · have hf := ite_f h21 hf
          refine go_iload_n (pc' := 21) hC dX0_chanceAfter_20 rfl rfl ?_
          refine go_iload (pc' := 23) hC dX0_chanceAfter_21 rfl rfl ?_
          refine go_ishr (pc' := 24) hC dX0_chanceAfter_23 rfl ?_
          refine go_iconst (pc' := 25) hC dX0_chanceAfter_24 ki_1 rfl ?_
          refine go_iand (pc' := 26) hC dX0_chanceAfter_25 rfl ?_
          refine go_if_eq (tgt := 75) (pc' := 29) hC dX0_chanceAfter_26 (by decide) rfl (fun h20 => ?_) (fun h20 => ?_)
          · have hf := ite_t h20 hf
            exact ih x12 (x13 + (1 : Int32)) a14 hf
          · have hf := ite_f h20 hf
            refine go_iload (pc' := 31) hC dX0_chanceAfter_29 rfl rfl ?_
            refine go_iconst (pc' := 32) hC dX0_chanceAfter_31 ki_1 rfl ?_
            refine go_iload (pc' := 34) hC dX0_chanceAfter_32 rfl rfl ?_
            refine go_ishl (pc' := 35) hC dX0_chanceAfter_34 rfl ?_
            refine go_ixor (pc' := 36) hC dX0_chanceAfter_35 rfl ?_
            refine go_namei (fun x16 hx => ?_)
            have hf := lz_r hx hf
            clear hx
            refine go_istore (lc' := [(0, .ref (x_q X 131)), (1, .int p1), (2, .int p2), (3, .ref (g 136)), (4, .int x16), (5, .int (x13 + (1 : Int32)))]) (pc' := 38) hC dX0_chanceAfter_36 (Nat.le_of_ble_eq_true rfl) rfl rfl ?_
            refine go_aload_n (pc' := 39) hC dX0_chanceAfter_38 rfl rfl ?_
            refine go_aload_n (pc' := 40) hC dX0_chanceAfter_39 rfl rfl ?_
            refine go_getg (pc' := 43) hC 131 8 layX_131 rfl rfl inlX0 (Nat.le_of_ble_eq_true rfl) mw_143 rfl dX0_chanceAfter_40 rfl ?_
            refine go_iload (pc' := 45) hC dX0_chanceAfter_43 rfl rfl ?_
            refine go_aload_n (pc' := 46) hC dX0_chanceAfter_45 rfl rfl ?_
            refine go_getq (pc' := 49) hC 131 3 layX_131 rfl rfl inlX0 (Nat.le_of_ble_eq_true rfl) mw_145 rfl dX0_chanceAfter_46 rfl ?_
            refine go_iload_n (pc' := 50) hC dX0_chanceAfter_49 rfl rfl ?_
            refine go_iload (pc' := 52) hC dX0_chanceAfter_50 rfl rfl ?_
            refine go_aload_n (pc' := 53) hC dX0_chanceAfter_52 rfl rfl ?_
            refine go_getq (pc' := 56) hC 131 2 layX_131 rfl rfl inlX0 (Nat.le_of_ble_eq_true rfl) mw_144 rfl dX0_chanceAfter_53 rfl ?_
            refine go_getq (pc' := 59) hC 16 4 layX_16 rfl rfl inlX2 (Nat.le_of_ble_eq_true rfl) mw_768 rfl dX0_chanceAfter_56 rfl ?_
            refine go_iload (pc' := 61) hC dX0_chanceAfter_59 rfl rfl ?_
            obtain ⟨h17, hf⟩ := gd_e hf
            refine go_iald (f := (S.2.2.1 19)) (pc' := 62) hC 19 layX_19 rfl rfl dX0_chanceAfter_61 (okx_in h17) rfl ?_
            obtain ⟨o18, ho18, hf⟩ := bd_e hf
            refine go_callV0 (pc' := 65) (As := [.int p1, .int (x13 + (1 : Int32)), .int ((S.2.2.1 19) (x13 + (1 : Int32)).toNatClampNeg)]) (st := [.int (x13 + (1 : Int32)), .ref (g 136), .ref (g 136)]) (st' := [.int o18, .int (x13 + (1 : Int32)), .ref (g 136), .ref (g 136)])    (b := 27) hC dX0_chanceAfter_62 ⟨mw_806, mw_809, mw_23, yd_yX6_chanceAfter, yp_yX6_chanceAfter, Nat.le_of_ble_eq_true rfl, Nat.le_of_ble_eq_true rfl, (Nat.le_of_ble_eq_true rfl), (Nat.le_of_ble_eq_true rfl)⟩ mw_807 mw_808 layX_27 rfl rfl rfl (Nat.le_of_ble_eq_true rfl) (c_X6_chanceAfter_q27 (x_l X) (x_D X) (x_q X) g (x_cy X) (x_z X) _ p1 (x13 + (1 : Int32)) ((S.2.2.1 19) (x13 + (1 : Int32)).toNatClampNeg) o18 ho18) rfl rfl ?_
            refine go_iload (pc' := 67) hC dX0_chanceAfter_65 rfl rfl ?_
            obtain ⟨o19, ho19, hf⟩ := bd_e hf
            refine go_callS1 (pc' := 70) (As := [.ref (g 136), .ref (g 136), .int (x13 + (1 : Int32)), .int o18, .int x16]) (st := []) (st' := []) (L1' := []) (L2' := []) (L3' := []) (L4' := [(136, o19)]) (L5' := []) (cells' := 0) (slots' := 0)  hC dX0_chanceAfter_67 ⟨mw_799, mw_801, mw_40, yd_yX0_fold, yp_yX0_fold, Nat.le_of_ble_eq_true rfl, Nat.le_of_ble_eq_true rfl, (Nat.le_of_ble_eq_true rfl), (Nat.le_of_ble_eq_true rfl)⟩ mw_800 rfl rfl (Nat.le_of_ble_eq_true rfl) (c_X0_fold_g136_g136 (x_l X) (x_D X) (x_q X) g (x_cy X) (x_z X) _ (x13 + (1 : Int32)) o18 x16 o19 ho19) rfl rfl rfl rfl rfl rfl rfl rfl rfl rfl rfl rfl rfl rfl ?_
            refine go_aload_n (pc' := 71) hC dX0_chanceAfter_70 rfl rfl ?_
            refine go_getg (pc' := 74) hC 131 8 layX_131 rfl rfl inlX0 (Nat.le_of_ble_eq_true rfl) mw_143 rfl dX0_chanceAfter_71 rfl ?_
            refine go_astore_n (lc' := [(0, .ref (x_q X 131)), (1, .int p1), (2, .int p2), (3, .ref (g 136)), (4, .int x16), (5, .int (x13 + (1 : Int32)))]) (pc' := 75) hC dX0_chanceAfter_74 (Nat.le_of_ble_eq_true rfl) rfl rfl ?_
            exact ih x16 (x13 + (1 : Int32)) o19 hf
    exact l75_22 fuel x5 x3 o8 hf
  clear hk29_4
  have l11_27 : ∀ (nn : Nat) (x23 : Int32), it1 (f_X0_chanceAfter_q131_L11 S p2 k81_1 k29_4) nn x23 = some o → Go X layX S 11 [(0, .ref (x_q X 131)), (1, .int p1), (2, .int p2), (3, .ref (g 135)), (4, .int p2), (5, .int x23)] [] g [] [] [] [(136, (S.2.2.2.1 136))] [] 0 0 := by
    intro nn
    induction nn with
    | zero =>
      intro x23 hf
      exact none_no hf
    | succ nn ih =>
      intro x23 hf
      have hf : f_X0_chanceAfter_q131_L11 S p2 k81_1 k29_4 (it1 (f_X0_chanceAfter_q131_L11 S p2 k81_1 k29_4) nn) x23 = some o := hf
      generalize it1 (f_X0_chanceAfter_q131_L11 S p2 k81_1 k29_4) nn = r24 at ih hf
      unfold f_X0_chanceAfter_q131_L11 at hf
      refine go_iload (pc' := 13) hC dX0_chanceAfter_11 rfl rfl ?_
      refine go_aload_n (pc' := 14) hC dX0_chanceAfter_13 rfl rfl ?_
      refine go_geti (v := (S.1 13105)) (pc' := 17) hC 131 5 layX_131 rfl rfl inlX0 (Nat.le_of_ble_eq_true rfl) mw_766 rfl dX0_chanceAfter_14 rfl rfl ?_
      refine go_icmp_ge (tgt := 81) (pc' := 20) hC dX0_chanceAfter_17 (by decide) rfl (fun h26 => ?_) (fun h26 => ?_)
      · have hf := ite_t h26 hf
        refine go_sub [3] rfl ?_
        exact jk81_1 () hf
      · have hf := ite_f h26 hf
        refine go_iload_n (pc' := 21) hC dX0_chanceAfter_20 rfl rfl ?_
        refine go_iload (pc' := 23) hC dX0_chanceAfter_21 rfl rfl ?_
        refine go_ishr (pc' := 24) hC dX0_chanceAfter_23 rfl ?_
        refine go_iconst (pc' := 25) hC dX0_chanceAfter_24 ki_1 rfl ?_
        refine go_iand (pc' := 26) hC dX0_chanceAfter_25 rfl ?_
        refine go_if_eq (tgt := 75) (pc' := 29) hC dX0_chanceAfter_26 (by decide) rfl (fun h25 => ?_) (fun h25 => ?_)
        · have hf := ite_t h25 hf
          refine go_iinc (lc' := [(0, .ref (x_q X 131)), (1, .int p1), (2, .int p2), (3, .ref (g 135)), (4, .int p2), (5, .int (x23 + (1 : Int32)))]) (pc' := 78) hC dX0_chanceAfter_75 rfl ki_1 (Nat.le_of_ble_eq_true rfl) rfl rfl ?_
          refine go_goto (tgt := 11) hC dX0_chanceAfter_78 (by decide) ?_
          exact ih (x23 + (1 : Int32)) hf
        · have hf := ite_f h25 hf
          exact jk29_4 x23 hf
  exact l11_27 fuel (0 : Int32) hf
theorem dX0_mendAll_0 : decode cX0_mendAll 0 = .ok (.iconst 1, 1) := by decide +kernel
theorem dX0_mendAll_1 : decode cX0_mendAll 1 = .ok (.aload_n 0, 1) := by decide +kernel
theorem dX0_mendAll_2 : decode cX0_mendAll 2 = .ok (.getfield 31, 3) := by decide +kernel
theorem dX0_mendAll_5 : decode cX0_mendAll 5 = .ok (.getfield 105, 3) := by decide +kernel
theorem dX0_mendAll_8 : decode cX0_mendAll 8 = .ok (.ishl, 1) := by decide +kernel
theorem dX0_mendAll_9 : decode cX0_mendAll 9 = .ok (.istore_n 1, 1) := by decide +kernel
theorem dX0_mendAll_10 : decode cX0_mendAll 10 = .ok (.aload_n 0, 1) := by decide +kernel
theorem dX0_mendAll_11 : decode cX0_mendAll 11 = .ok (.getfield 15, 3) := by decide +kernel
theorem dX0_mendAll_14 : decode cX0_mendAll 14 = .ok (.arraylength, 1) := by decide +kernel
theorem dX0_mendAll_15 : decode cX0_mendAll 15 = .ok (.iload_n 1, 1) := by decide +kernel
theorem dX0_mendAll_16 : decode cX0_mendAll 16 = .ok (.if_icmp .ge 10, 3) := by decide +kernel
theorem dX0_mendAll_19 : decode cX0_mendAll 19 = .ok (.aload_n 0, 1) := by decide +kernel
theorem dX0_mendAll_20 : decode cX0_mendAll 20 = .ok (.iload_n 1, 1) := by decide +kernel
theorem dX0_mendAll_21 : decode cX0_mendAll 21 = .ok (.newarray .long, 2) := by decide +kernel
theorem dX0_mendAll_23 : decode cX0_mendAll 23 = .ok (.putfield 15, 3) := by decide +kernel
theorem dX0_mendAll_26 : decode cX0_mendAll 26 = .ok (.aload_n 0, 1) := by decide +kernel
theorem dX0_mendAll_27 : decode cX0_mendAll 27 = .ok (.getfield 31, 3) := by decide +kernel
theorem dX0_mendAll_30 : decode cX0_mendAll 30 = .ok (.invokevirtual 110, 3) := by decide +kernel
theorem dX0_mendAll_33 : decode cX0_mendAll 33 = .ok (.istore_n 2, 1) := by decide +kernel
theorem dX0_mendAll_34 : decode cX0_mendAll 34 = .ok (.aload_n 0, 1) := by decide +kernel
theorem dX0_mendAll_35 : decode cX0_mendAll 35 = .ok (.iload_n 2, 1) := by decide +kernel
theorem dX0_mendAll_36 : decode cX0_mendAll 36 = .ok (.invokevirtual 113, 3) := by decide +kernel
theorem dX0_mendAll_39 : decode cX0_mendAll 39 = .ok (.iconst 0, 1) := by decide +kernel
theorem dX0_mendAll_40 : decode cX0_mendAll 40 = .ok (.istore_n 3, 1) := by decide +kernel
theorem dX0_mendAll_41 : decode cX0_mendAll 41 = .ok (.iload_n 3, 1) := by decide +kernel
theorem dX0_mendAll_42 : decode cX0_mendAll 42 = .ok (.iload_n 1, 1) := by decide +kernel
theorem dX0_mendAll_43 : decode cX0_mendAll 43 = .ok (.if_icmp .ge 21, 3) := by decide +kernel
theorem dX0_mendAll_46 : decode cX0_mendAll 46 = .ok (.aload_n 0, 1) := by decide +kernel
theorem dX0_mendAll_47 : decode cX0_mendAll 47 = .ok (.getfield 15, 3) := by decide +kernel
theorem dX0_mendAll_50 : decode cX0_mendAll 50 = .ok (.iload_n 3, 1) := by decide +kernel
theorem dX0_mendAll_51 : decode cX0_mendAll 51 = .ok (.aload_n 0, 1) := by decide +kernel
theorem dX0_mendAll_52 : decode cX0_mendAll 52 = .ok (.iload_n 3, 1) := by decide +kernel
theorem dX0_mendAll_53 : decode cX0_mendAll 53 = .ok (.iload_n 2, 1) := by decide +kernel
theorem dX0_mendAll_54 : decode cX0_mendAll 54 = .ok (.invokevirtual 116, 3) := by decide +kernel
theorem dX0_mendAll_57 : decode cX0_mendAll 57 = .ok (.lastore, 1) := by decide +kernel
theorem dX0_mendAll_58 : decode cX0_mendAll 58 = .ok (.iinc 3 1, 3) := by decide +kernel
theorem dX0_mendAll_61 : decode cX0_mendAll 61 = .ok (.goto (-20), 3) := by decide +kernel
theorem dX0_mendAll_64 : decode cX0_mendAll 64 = .ok (.return_, 1) := by decide +kernel
abbrev o_X0_mendAll_q131 : Type := (Nat → Int64) × (Nat → Int64) × (Nat → Int64) × Nat × Nat × Nat
def f_X0_mendAll_q131_L41 (S : wd_W) (x1 : Int32) (n3 : Nat) (n4 : Nat) (n5 : Nat) (o7 : o_X6_linesMended_q27) (o9 : o_X0_foldUntouched_q131) (r14 : (Int32) → (Nat → Int64) → (Nat → Int64) → (Option o_X0_mendAll_q131)) (x11 : Int32) (a12 : Nat → Int64) (a13 : Nat → Int64) : Option o_X0_mendAll_q131 :=
if x1 ≤ x11 then (
some (a12, o9, a13, n3, n4, n5)) else (
gd (okr n4 n5 0 0 1 600) <|
bd (f_X0_chanceAfter_q131 (wd_o S [] [] [] [(133, a12), (135, o9), (136, a13)] [(133, n3)]) x11 o7) fun o15 =>
gd (okx x11 n3) <|
lz (vp_updL a12 x11.toNatClampNeg o15.1) fun a18 =>
r14 (x11 + (1 : Int32)) a18 o15.2)
def f_X0_mendAll_q131 (S : wd_W) : Option o_X0_mendAll_q131 :=
lz ((1 : Int32) <<< ((S.1 2700) &&& 31)) fun x1 =>
lk (fun a2 n3 n4 n5 =>
gd (okr n4 n5 0 0 1 600) <|
bd (f_X6_linesMended_q27 (wd_o S [] [] [] [(133, a2), (135, (S.2.2.2.1 135)), (136, (S.2.2.2.1 136))] [(133, n3)])) fun o7 =>
gd (okr n4 n5 0 0 1 600) <|
bd (f_X0_foldUntouched_q131 (wd_o S [] [] [] [(133, a2), (135, (S.2.2.2.1 135)), (136, (S.2.2.2.1 136))] [(133, n3)]) o7) fun o9 =>
it3 (f_X0_mendAll_q131_L41 S x1 n3 n4 n5 o7 o9) fuel (0 : Int32) a2 (S.2.2.2.1 136)) fun k26_6 =>
if x1 ≤ (Int32.ofNat (S.2.2.2.2 133)) then (
k26_6 (S.2.2.2.1 133) (S.2.2.2.2 133) 0 0) else (
gd (okg x1 0 0 1 600) <|
k26_6 (fun _ => 0) ((x1).toNatClampNeg) (0 + 1) (0 + (x1).toNatClampNeg))
set_option maxRecDepth 100000 in
set_option maxHeartbeats 4000000 in
theorem c_X0_mendAll_q131 (l : Launch) (D : va_G) (q g : Nat → Nat) (cy : Nat → ClassId) (z : (Nat → Nat) × (Nat → Nat) × Nat) (S : wd_W) (o : o_X0_mendAll_q131) (hf : f_X0_mendAll_q131 S = some o) : MX layX l yX0_mendAll cX0_mendAll 4 none ({ frames := 3, cells := 1, slots := 600, locals := 83 } : Room) D q g cy z [.ref (q 131)] S true (none) (wd_o S [] [] [] [(133, o.1), (135, o.2.1), (136, o.2.2.1)] [(133, o.2.2.2.1)]) o.2.2.2.2.1 o.2.2.2.2.2 := by
  refine mx_of (own := RX0) (lc := [(0, .ref (q 131))]) (by decide +kernel) rfl layX_ok (Nat.le_of_ble_eq_true rfl) rfl ?_
  intro X hXl hXq hXz hC hQ
  subst hXl; subst hXq; subst hXz
  unfold f_X0_mendAll_q131 at hf
  refine go_keys (L1 := []) (L2 := []) (L3 := []) (L4 := [(133, (S.2.2.2.1 133)), (135, (S.2.2.2.1 135)), (136, (S.2.2.2.1 136))]) (L5 := [(133, (S.2.2.2.2 133))]) [] [] [] [133, 135, 136] [133] rfl rfl rfl rfl rfl ?_
  refine go_iconst (pc' := 1) hC dX0_mendAll_0 ki_1 rfl ?_
  refine go_aload_n (pc' := 2) hC dX0_mendAll_1 rfl rfl ?_
  refine go_getq (pc' := 5) hC 131 3 layX_131 rfl rfl inlX0 (Nat.le_of_ble_eq_true rfl) mw_145 rfl dX0_mendAll_2 rfl ?_
  refine go_geti (v := (S.1 2700)) (pc' := 8) hC 27 0 layX_27 rfl rfl inlX6 (Nat.le_of_ble_eq_true rfl) mw_790 rfl dX0_mendAll_5 rfl rfl ?_
  refine go_ishl (pc' := 9) hC dX0_mendAll_8 rfl ?_
  refine go_namei (fun x1 hx => ?_)
  have hf := lz_r hx hf
  clear hx
  refine go_istore_n (lc' := [(0, .ref (x_q X 131)), (1, .int x1)]) (pc' := 10) hC dX0_mendAll_9 (Nat.le_of_ble_eq_true rfl) rfl rfl ?_
  refine go_aload_n (pc' := 11) hC dX0_mendAll_10 rfl rfl ?_
  refine go_getg (pc' := 14) hC 131 1 layX_131 rfl rfl inlX0 (Nat.le_of_ble_eq_true rfl) mw_140 rfl dX0_mendAll_11 rfl ?_
  refine go_aleng (v := Int32.ofNat (S.2.2.2.2 133)) (pc' := 15) hC 133 layX_133 (Nat.le_of_ble_eq_true rfl) rfl rfl dX0_mendAll_14 rfl ?_
  refine go_iload_n (pc' := 16) hC dX0_mendAll_15 rfl rfl ?_
  obtain ⟨k26_6, hk26_6, hf⟩ := lk_e4 hf
  have jk26_6 : ∀ (a2 : Nat → Int64) (n3 : Nat) (n4 : Nat) (n5 : Nat) (g : Nat → Nat), k26_6 a2 n3 n4 n5 = some o → Go X layX S 26 [(0, .ref (x_q X 131)), (1, .int x1)] [] g [] [] [] [(133, a2), (135, (S.2.2.2.1 135)), (136, (S.2.2.2.1 136))] [(133, n3)] n4 n5 := by
    intro a2 n3 n4 n5 g hf
    have hf := hk26_6 a2 n3 n4 n5 hf
    clear hk26_6
    refine go_aload_n (pc' := 27) hC dX0_mendAll_26 rfl rfl ?_
    refine go_getq (pc' := 30) hC 131 3 layX_131 rfl rfl inlX0 (Nat.le_of_ble_eq_true rfl) mw_145 rfl dX0_mendAll_27 rfl ?_
    obtain ⟨h8, hf⟩ := gd_e hf
    obtain ⟨o7, ho7, hf⟩ := bd_e hf
    refine go_callV0 (pc' := 33) (As := []) (st := []) (st' := [.int o7])   (rc := { frames := 0, cells := 0, slots := 0, locals := 0 }) (b := 27) hC dX0_mendAll_30 ⟨mw_791, mw_794, mw_23, yd_yX6_linesMended, yp_yX6_linesMended, Nat.le_of_ble_eq_true rfl, Nat.le_of_ble_eq_true rfl, (okr_c h8), (okr_s h8)⟩ mw_792 mw_793 layX_27 rfl rfl rfl (Nat.le_of_ble_eq_true rfl) (c_X6_linesMended_q27 (x_l X) (x_D X) (x_q X) g (x_cy X) (x_z X) _  o7 ho7) rfl rfl ?_
    refine go_istore_n (lc' := [(0, .ref (x_q X 131)), (1, .int x1), (2, .int o7)]) (pc' := 34) hC dX0_mendAll_33 (Nat.le_of_ble_eq_true rfl) rfl rfl ?_
    refine go_aload_n (pc' := 35) hC dX0_mendAll_34 rfl rfl ?_
    refine go_iload_n (pc' := 36) hC dX0_mendAll_35 rfl rfl ?_
    obtain ⟨h10, hf⟩ := gd_e hf
    obtain ⟨o9, ho9, hf⟩ := bd_e hf
    refine go_callV1 (pc' := 39) (As := [.int o7]) (st := []) (st' := []) (L1' := []) (L2' := []) (L3' := []) (L4' := [(133, a2), (135, o9), (136, (S.2.2.2.1 136))]) (L5' := [(133, n3)]) (cells' := n4) (slots' := n5) (rc := { frames := 1, cells := 0, slots := 0, locals := 60 }) (b := 131) hC dX0_mendAll_36 ⟨mw_795, mw_798, mw_40, yd_yX0_foldUntouched, yp_yX0_foldUntouched, Nat.le_of_ble_eq_true rfl, Nat.le_of_ble_eq_true rfl, (okr_c h10), (okr_s h10)⟩ mw_796 mw_797 layX_131 rfl rfl rfl (Nat.le_of_ble_eq_true rfl) (c_X0_foldUntouched_q131 (x_l X) (x_D X) (x_q X) g (x_cy X) (x_z X) _ o7 o9 ho9) rfl rfl rfl rfl rfl rfl rfl rfl rfl rfl rfl rfl rfl rfl ?_
    refine go_iconst (pc' := 40) hC dX0_mendAll_39 ki_0 rfl ?_
    refine go_istore_n (lc' := [(0, .ref (x_q X 131)), (1, .int x1), (2, .int o7), (3, .int (0 : Int32))]) (pc' := 41) hC dX0_mendAll_40 (Nat.le_of_ble_eq_true rfl) rfl rfl ?_
    have l41_20 : ∀ (nn : Nat) (x11 : Int32) (a12 : Nat → Int64) (a13 : Nat → Int64) (g : Nat → Nat), it3 (f_X0_mendAll_q131_L41 S x1 n3 n4 n5 o7 o9) nn x11 a12 a13 = some o → Go X layX S 41 [(0, .ref (x_q X 131)), (1, .int x1), (2, .int o7), (3, .int x11)] [] g [] [] [] [(133, a12), (135, o9), (136, a13)] [(133, n3)] n4 n5 := by
      intro nn
      induction nn with
      | zero =>
        intro x11 a12 a13 g hf
        exact none_no hf
      | succ nn ih =>
        intro x11 a12 a13 g hf
        have hf : f_X0_mendAll_q131_L41 S x1 n3 n4 n5 o7 o9 (it3 (f_X0_mendAll_q131_L41 S x1 n3 n4 n5 o7 o9) nn) x11 a12 a13 = some o := hf
        generalize it3 (f_X0_mendAll_q131_L41 S x1 n3 n4 n5 o7 o9) nn = r14 at ih hf
        unfold f_X0_mendAll_q131_L41 at hf
        refine go_iload_n (pc' := 42) hC dX0_mendAll_41 rfl rfl ?_
        refine go_iload_n (pc' := 43) hC dX0_mendAll_42 rfl rfl ?_
        refine go_icmp_ge (tgt := 64) (pc' := 46) hC dX0_mendAll_43 (by decide) rfl (fun h19 => ?_) (fun h19 => ?_)
        · have hf := ite_t h19 hf
          obtain rfl := Option.some.inj hf
          exact go_vret hC hQ dX0_mendAll_64 rfl rfl rfl (fun h => nomatch h) rfl rfl
        · have hf := ite_f h19 hf
          refine go_aload_n (pc' := 47) hC dX0_mendAll_46 rfl rfl ?_
          refine go_getg (pc' := 50) hC 131 1 layX_131 rfl rfl inlX0 (Nat.le_of_ble_eq_true rfl) mw_140 rfl dX0_mendAll_47 rfl ?_
          refine go_iload_n (pc' := 51) hC dX0_mendAll_50 rfl rfl ?_
          refine go_aload_n (pc' := 52) hC dX0_mendAll_51 rfl rfl ?_
          refine go_iload_n (pc' := 53) hC dX0_mendAll_52 rfl rfl ?_
          refine go_iload_n (pc' := 54) hC dX0_mendAll_53 rfl rfl ?_
          obtain ⟨h16, hf⟩ := gd_e hf
          obtain ⟨o15, ho15, hf⟩ := bd_e hf
          refine go_callV1 (pc' := 57) (As := [.int x11, .int o7]) (st := [.int x11, .ref (g 133)]) (st' := [.long o15.1, .int x11, .ref (g 133)]) (L1' := []) (L2' := []) (L3' := []) (L4' := [(133, a12), (135, o9), (136, o15.2)]) (L5' := [(133, n3)]) (cells' := n4) (slots' := n5) (rc := { frames := 2, cells := 0, slots := 0, locals := 46 }) (b := 131) hC dX0_mendAll_54 ⟨mw_802, mw_805, mw_40, yd_yX0_chanceAfter, yp_yX0_chanceAfter, Nat.le_of_ble_eq_true rfl, Nat.le_of_ble_eq_true rfl, (okr_c h16), (okr_s h16)⟩ mw_803 mw_804 layX_131 rfl rfl rfl (Nat.le_of_ble_eq_true rfl) (c_X0_chanceAfter_q131 (x_l X) (x_D X) (x_q X) g (x_cy X) (x_z X) _ x11 o7 o15 ho15) rfl rfl rfl rfl rfl rfl rfl rfl rfl rfl rfl rfl rfl rfl ?_
          obtain ⟨h17, hf⟩ := gd_e hf
          refine go_lastg (f := a12) (pc' := 58) hC 133 layX_133 rfl rfl dX0_mendAll_57 (okx_in h17) rfl rfl (fun a18 ha L4' hL => ?_)
          have hf := lz_r ha hf
          clear ha
          obtain rfl : L4' = [(133, a18), (135, o9), (136, o15.2)] := hL.symm
          refine go_iinc (lc' := [(0, .ref (x_q X 131)), (1, .int x1), (2, .int o7), (3, .int (x11 + (1 : Int32)))]) (pc' := 61) hC dX0_mendAll_58 rfl ki_1 (Nat.le_of_ble_eq_true rfl) rfl rfl ?_
          refine go_goto (tgt := 41) hC dX0_mendAll_61 (by decide) ?_
          exact ih (x11 + (1 : Int32)) a18 o15.2 g hf
    exact l41_20 fuel (0 : Int32) a2 (S.2.2.2.1 136) g hf
  clear hk26_6
  refine go_icmp_ge (tgt := 26) (pc' := 19) hC dX0_mendAll_16 (by decide) rfl (fun h22 => ?_) (fun h22 => ?_)
  · have hf := ite_t h22 hf
    exact jk26_6 (S.2.2.2.1 133) (S.2.2.2.2 133) 0 0 g hf
  · have hf := ite_f h22 hf
    refine go_aload_n (pc' := 20) hC dX0_mendAll_19 rfl rfl ?_
    refine go_iload_n (pc' := 21) hC dX0_mendAll_20 rfl rfl ?_
    obtain ⟨h21, hf⟩ := gd_e hf
    refine go_growB (L4' := [(133, (fun _ => 0)), (135, (S.2.2.2.1 135)), (136, (S.2.2.2.1 136))]) (L5' := [(133, (x1).toNatClampNeg)]) (cells' := 0 + 1) (slots' := 0 + (x1).toNatClampNeg) (pc' := 26) (atype := .long) hC 131 1 133 layX_131 rfl layX_133 (by decide +kernel) rfl inlX0 tyX0_ok nmX0 (Nat.le_of_ble_eq_true rfl) mw_140 rfl rfl (fun _ => rfl) (fun _ => rfl) mw_91 rfl dX0_mendAll_21 dX0_mendAll_23 rfl h21 rfl rfl rfl rfl rfl rfl rfl rfl (fun g => ?_)
    exact jk26_6 (fun _ => 0) ((x1).toNatClampNeg) (0 + 1) (0 + (x1).toNatClampNeg) g hf
theorem dX5_isAsTold_0 : decode cX5_isAsTold 0 = .ok (.iconst 0, 1) := by decide +kernel
theorem dX5_isAsTold_1 : decode cX5_isAsTold 1 = .ok (.istore_n 2, 1) := by decide +kernel
theorem dX5_isAsTold_2 : decode cX5_isAsTold 2 = .ok (.iload_n 2, 1) := by decide +kernel
theorem dX5_isAsTold_3 : decode cX5_isAsTold 3 = .ok (.aload_n 0, 1) := by decide +kernel
theorem dX5_isAsTold_4 : decode cX5_isAsTold 4 = .ok (.getfield 26, 3) := by decide +kernel
theorem dX5_isAsTold_7 : decode cX5_isAsTold 7 = .ok (.getfield 43, 3) := by decide +kernel
theorem dX5_isAsTold_10 : decode cX5_isAsTold 10 = .ok (.if_icmp .ge 62, 3) := by decide +kernel
theorem dX5_isAsTold_13 : decode cX5_isAsTold 13 = .ok (.aload_n 0, 1) := by decide +kernel
theorem dX5_isAsTold_14 : decode cX5_isAsTold 14 = .ok (.getfield 30, 3) := by decide +kernel
theorem dX5_isAsTold_17 : decode cX5_isAsTold 17 = .ok (.getfield 48, 3) := by decide +kernel
theorem dX5_isAsTold_20 : decode cX5_isAsTold 20 = .ok (.aload_n 0, 1) := by decide +kernel
theorem dX5_isAsTold_21 : decode cX5_isAsTold 21 = .ok (.getfield 26, 3) := by decide +kernel
theorem dX5_isAsTold_24 : decode cX5_isAsTold 24 = .ok (.getfield 52, 3) := by decide +kernel
theorem dX5_isAsTold_27 : decode cX5_isAsTold 27 = .ok (.iload_n 2, 1) := by decide +kernel
theorem dX5_isAsTold_28 : decode cX5_isAsTold 28 = .ok (.iaload, 1) := by decide +kernel
theorem dX5_isAsTold_29 : decode cX5_isAsTold 29 = .ok (.aload_n 0, 1) := by decide +kernel
theorem dX5_isAsTold_30 : decode cX5_isAsTold 30 = .ok (.getfield 26, 3) := by decide +kernel
theorem dX5_isAsTold_33 : decode cX5_isAsTold 33 = .ok (.getfield 56, 3) := by decide +kernel
theorem dX5_isAsTold_36 : decode cX5_isAsTold 36 = .ok (.iload_n 2, 1) := by decide +kernel
theorem dX5_isAsTold_37 : decode cX5_isAsTold 37 = .ok (.iaload, 1) := by decide +kernel
theorem dX5_isAsTold_38 : decode cX5_isAsTold 38 = .ok (.iload_n 1, 1) := by decide +kernel
theorem dX5_isAsTold_39 : decode cX5_isAsTold 39 = .ok (.invokevirtual 59, 3) := by decide +kernel
theorem dX5_isAsTold_42 : decode cX5_isAsTold 42 = .ok (.istore_n 3, 1) := by decide +kernel
theorem dX5_isAsTold_43 : decode cX5_isAsTold 43 = .ok (.iload_n 3, 1) := by decide +kernel
theorem dX5_isAsTold_44 : decode cX5_isAsTold 44 = .ok (.aload_n 0, 1) := by decide +kernel
theorem dX5_isAsTold_45 : decode cX5_isAsTold 45 = .ok (.getfield 26, 3) := by decide +kernel
theorem dX5_isAsTold_48 : decode cX5_isAsTold 48 = .ok (.getfield 65, 3) := by decide +kernel
theorem dX5_isAsTold_51 : decode cX5_isAsTold 51 = .ok (.iload_n 2, 1) := by decide +kernel
theorem dX5_isAsTold_52 : decode cX5_isAsTold 52 = .ok (.iaload, 1) := by decide +kernel
theorem dX5_isAsTold_53 : decode cX5_isAsTold 53 = .ok (.ifCond .eq 7, 3) := by decide +kernel
theorem dX5_isAsTold_56 : decode cX5_isAsTold 56 = .ok (.iconst 1, 1) := by decide +kernel
theorem dX5_isAsTold_57 : decode cX5_isAsTold 57 = .ok (.goto 4, 3) := by decide +kernel
theorem dX5_isAsTold_60 : decode cX5_isAsTold 60 = .ok (.iconst 0, 1) := by decide +kernel
theorem dX5_isAsTold_61 : decode cX5_isAsTold 61 = .ok (.if_icmp .eq 5, 3) := by decide +kernel
theorem dX5_isAsTold_64 : decode cX5_isAsTold 64 = .ok (.iconst 0, 1) := by decide +kernel
theorem dX5_isAsTold_65 : decode cX5_isAsTold 65 = .ok (.ireturn, 1) := by decide +kernel
theorem dX5_isAsTold_66 : decode cX5_isAsTold 66 = .ok (.iinc 2 1, 3) := by decide +kernel
theorem dX5_isAsTold_69 : decode cX5_isAsTold 69 = .ok (.goto (-67), 3) := by decide +kernel
theorem dX5_isAsTold_72 : decode cX5_isAsTold 72 = .ok (.iconst 1, 1) := by decide +kernel
theorem dX5_isAsTold_73 : decode cX5_isAsTold 73 = .ok (.ireturn, 1) := by decide +kernel
abbrev o_X5_isAsTold_q137 : Type := Int32
def f_X5_isAsTold_q137_L2 (S : wd_W) (p1 : Int32) (r2 : (Int32) → (Option o_X5_isAsTold_q137)) (x1 : Int32) : Option o_X5_isAsTold_q137 :=
if (S.1 2704) ≤ x1 then (
some (1 : Int32)) else (
gd (okx x1 6) <|
gd (okx x1 6) <|
bd (f_X7_leads_q111 (wd_o S [] [] [] [] []) ((S.2.2.1 31) x1.toNatClampNeg) ((S.2.2.1 32) x1.toNatClampNeg) p1) fun o5 =>
gd (okx x1 6) <|
lk (fun x7 x8 =>
if x8 = x7 then (
r2 (x1 + (1 : Int32))) else (
some (0 : Int32))) fun k61_9 =>
if ((S.2.2.1 33) x1.toNatClampNeg) = 0 then (
k61_9 (0 : Int32) o5) else (
k61_9 (1 : Int32) o5))
def f_X5_isAsTold_q137 (S : wd_W) (p1 : Int32) : Option o_X5_isAsTold_q137 :=
it1 (f_X5_isAsTold_q137_L2 S p1) fuel (0 : Int32)
set_option maxRecDepth 100000 in
set_option maxHeartbeats 4000000 in
theorem c_X5_isAsTold_q137 (l : Launch) (D : va_G) (q g : Nat → Nat) (cy : Nat → ClassId) (z : (Nat → Nat) × (Nat → Nat) × Nat) (S : wd_W) (p1 : Int32) (o : o_X5_isAsTold_q137) (hf : f_X5_isAsTold_q137 S p1 = some o) : MX layX l yX5_isAsTold cX5_isAsTold 4 (some .boolean) ({ frames := 2, cells := 0, slots := 0, locals := 50 } : Room) D q g cy z [.ref (q 137), .int p1] S false (some (.int o)) (wd_o S [] [] [] [] []) 0 0 := by
  refine mx_of (own := RX5) (lc := [(0, .ref (q 137)), (1, .int p1)]) (by decide +kernel) rfl layX_ok (Nat.le_of_ble_eq_true rfl) rfl ?_
  intro X hXl hXq hXz hC hQ
  subst hXl; subst hXq; subst hXz
  unfold f_X5_isAsTold_q137 at hf
  refine go_iconst (pc' := 1) hC dX5_isAsTold_0 ki_0 rfl ?_
  refine go_istore_n (lc' := [(0, .ref (x_q X 137)), (1, .int p1), (2, .int (0 : Int32))]) (pc' := 2) hC dX5_isAsTold_1 (Nat.le_of_ble_eq_true rfl) rfl rfl ?_
  have l2_13 : ∀ (nn : Nat) (x1 : Int32), it1 (f_X5_isAsTold_q137_L2 S p1) nn x1 = some o → Go X layX S 2 [(0, .ref (x_q X 137)), (1, .int p1), (2, .int x1)] [] g [] [] [] [] [] 0 0 := by
    intro nn
    induction nn with
    | zero =>
      intro x1 hf
      exact none_no hf
    | succ nn ih =>
      intro x1 hf
      have hf : f_X5_isAsTold_q137_L2 S p1 (it1 (f_X5_isAsTold_q137_L2 S p1) nn) x1 = some o := hf
      generalize it1 (f_X5_isAsTold_q137_L2 S p1) nn = r2 at ih hf
      unfold f_X5_isAsTold_q137_L2 at hf
      refine go_iload_n (pc' := 3) hC dX5_isAsTold_2 rfl rfl ?_
      refine go_aload_n (pc' := 4) hC dX5_isAsTold_3 rfl rfl ?_
      refine go_getq (pc' := 7) hC 137 0 layX_137 rfl rfl inlX5 (Nat.le_of_ble_eq_true rfl) mw_155 rfl dX5_isAsTold_4 rfl ?_
      refine go_geti (v := (S.1 2704)) (pc' := 10) hC 27 4 layX_27 rfl rfl inlX6 (Nat.le_of_ble_eq_true rfl) mw_822 rfl dX5_isAsTold_7 rfl rfl ?_
      refine go_icmp_ge (tgt := 72) (pc' := 13) hC dX5_isAsTold_10 (by decide) rfl (fun h12 => ?_) (fun h12 => ?_)
      · have hf := ite_t h12 hf
        refine go_iconst (pc' := 73) hC dX5_isAsTold_72 ki_1 rfl ?_
        obtain rfl := Option.some.inj hf
        exact go_iret hC hQ dX5_isAsTold_73 rfl rfl rfl rfl (fun _ => rfl) rfl rfl
      · have hf := ite_f h12 hf
        refine go_aload_n (pc' := 14) hC dX5_isAsTold_13 rfl rfl ?_
        refine go_getq (pc' := 17) hC 137 1 layX_137 rfl rfl inlX5 (Nat.le_of_ble_eq_true rfl) mw_156 rfl dX5_isAsTold_14 rfl ?_
        refine go_getq (pc' := 20) hC 106 0 layX_106 rfl rfl inlX8 (Nat.le_of_ble_eq_true rfl) mw_823 rfl dX5_isAsTold_17 rfl ?_
        refine go_aload_n (pc' := 21) hC dX5_isAsTold_20 rfl rfl ?_
        refine go_getq (pc' := 24) hC 137 0 layX_137 rfl rfl inlX5 (Nat.le_of_ble_eq_true rfl) mw_155 rfl dX5_isAsTold_21 rfl ?_
        refine go_getq (pc' := 27) hC 27 5 layX_27 rfl rfl inlX6 (Nat.le_of_ble_eq_true rfl) mw_824 rfl dX5_isAsTold_24 rfl ?_
        refine go_iload_n (pc' := 28) hC dX5_isAsTold_27 rfl rfl ?_
        obtain ⟨h3, hf⟩ := gd_e hf
        refine go_iald (f := (S.2.2.1 31)) (pc' := 29) hC 31 layX_31 rfl rfl dX5_isAsTold_28 (okx_in h3) rfl ?_
        refine go_aload_n (pc' := 30) hC dX5_isAsTold_29 rfl rfl ?_
        refine go_getq (pc' := 33) hC 137 0 layX_137 rfl rfl inlX5 (Nat.le_of_ble_eq_true rfl) mw_155 rfl dX5_isAsTold_30 rfl ?_
        refine go_getq (pc' := 36) hC 27 6 layX_27 rfl rfl inlX6 (Nat.le_of_ble_eq_true rfl) mw_825 rfl dX5_isAsTold_33 rfl ?_
        refine go_iload_n (pc' := 37) hC dX5_isAsTold_36 rfl rfl ?_
        obtain ⟨h4, hf⟩ := gd_e hf
        refine go_iald (f := (S.2.2.1 32)) (pc' := 38) hC 32 layX_32 rfl rfl dX5_isAsTold_37 (okx_in h4) rfl ?_
        refine go_iload_n (pc' := 39) hC dX5_isAsTold_38 rfl rfl ?_
        obtain ⟨o5, ho5, hf⟩ := bd_e hf
        refine go_callV0 (pc' := 42) (As := [.int ((S.2.2.1 31) x1.toNatClampNeg), .int ((S.2.2.1 32) x1.toNatClampNeg), .int p1]) (st := []) (st' := [.int o5])    (b := 111) hC dX5_isAsTold_39 ⟨mw_827, mw_669, mw_99, yd_yX7_leads, yp_yX7_leads, Nat.le_of_ble_eq_true rfl, Nat.le_of_ble_eq_true rfl, (Nat.le_of_ble_eq_true rfl), (Nat.le_of_ble_eq_true rfl)⟩ mw_667 mw_668 layX_111 rfl rfl rfl (Nat.le_of_ble_eq_true rfl) (c_X7_leads_q111 (x_l X) (x_D X) (x_q X) g (x_cy X) (x_z X) _ ((S.2.2.1 31) x1.toNatClampNeg) ((S.2.2.1 32) x1.toNatClampNeg) p1 o5 ho5) rfl rfl ?_
        refine go_istore_n (lc' := [(0, .ref (x_q X 137)), (1, .int p1), (2, .int x1), (3, .int o5)]) (pc' := 43) hC dX5_isAsTold_42 (Nat.le_of_ble_eq_true rfl) rfl rfl ?_
        refine go_iload_n (pc' := 44) hC dX5_isAsTold_43 rfl rfl ?_
        refine go_aload_n (pc' := 45) hC dX5_isAsTold_44 rfl rfl ?_
        refine go_getq (pc' := 48) hC 137 0 layX_137 rfl rfl inlX5 (Nat.le_of_ble_eq_true rfl) mw_155 rfl dX5_isAsTold_45 rfl ?_
        refine go_getq (pc' := 51) hC 27 7 layX_27 rfl rfl inlX6 (Nat.le_of_ble_eq_true rfl) mw_826 rfl dX5_isAsTold_48 rfl ?_
        refine go_iload_n (pc' := 52) hC dX5_isAsTold_51 rfl rfl ?_
        obtain ⟨h6, hf⟩ := gd_e hf
        refine go_iald (f := (S.2.2.1 33)) (pc' := 53) hC 33 layX_33 rfl rfl dX5_isAsTold_52 (okx_in h6) rfl ?_
        obtain ⟨k61_9, hk61_9, hf⟩ := lk_e2 hf
        have jk61_9 : ∀ (x7 : Int32) (x8 : Int32), k61_9 x7 x8 = some o → Go X layX S 61 [(0, .ref (x_q X 137)), (1, .int p1), (2, .int x1)] [.int x7, .int x8] g [] [] [] [] [] 0 0 := by
          intro x7 x8 hf
          have hf := hk61_9 x7 x8 hf
          clear hk61_9
          refine go_icmp_eq (tgt := 66) (pc' := 64) hC dX5_isAsTold_61 (by decide) rfl (fun h10 => ?_) (fun h10 => ?_)
          · have hf := ite_t h10 hf
            refine go_iinc (lc' := [(0, .ref (x_q X 137)), (1, .int p1), (2, .int (x1 + (1 : Int32)))]) (pc' := 69) hC dX5_isAsTold_66 rfl ki_1 (Nat.le_of_ble_eq_true rfl) rfl rfl ?_
            refine go_goto (tgt := 2) hC dX5_isAsTold_69 (by decide) ?_
            exact ih (x1 + (1 : Int32)) hf
          · have hf := ite_f h10 hf
            refine go_iconst (pc' := 65) hC dX5_isAsTold_64 ki_0 rfl ?_
            obtain rfl := Option.some.inj hf
            exact go_iret hC hQ dX5_isAsTold_65 rfl rfl rfl rfl (fun _ => rfl) rfl rfl
        clear hk61_9
        refine go_if_eq (tgt := 60) (pc' := 56) hC dX5_isAsTold_53 (by decide) rfl (fun h11 => ?_) (fun h11 => ?_)
        · have hf := ite_t h11 hf
          refine go_iconst (pc' := 61) hC dX5_isAsTold_60 ki_0 rfl ?_
          refine go_sub [0, 1, 2] rfl ?_
          exact jk61_9 (0 : Int32) o5 hf
        · have hf := ite_f h11 hf
          refine go_iconst (pc' := 57) hC dX5_isAsTold_56 ki_1 rfl ?_
          refine go_goto (tgt := 61) hC dX5_isAsTold_57 (by decide) ?_
          refine go_sub [0, 1, 2] rfl ?_
          exact jk61_9 (1 : Int32) o5 hf
  exact l2_13 fuel (0 : Int32) hf
theorem dX5_compare_0 : decode cX5_compare 0 = .ok (.aload_n 0, 1) := by decide +kernel
theorem dX5_compare_1 : decode cX5_compare 1 = .ok (.getfield 9, 3) := by decide +kernel
theorem dX5_compare_4 : decode cX5_compare 4 = .ok (.arraylength, 1) := by decide +kernel
theorem dX5_compare_5 : decode cX5_compare 5 = .ok (.aload_n 0, 1) := by decide +kernel
theorem dX5_compare_6 : decode cX5_compare 6 = .ok (.getfield 30, 3) := by decide +kernel
theorem dX5_compare_9 : decode cX5_compare 9 = .ok (.getfield 34, 3) := by decide +kernel
theorem dX5_compare_12 : decode cX5_compare 12 = .ok (.if_icmp .gt 18, 3) := by decide +kernel
theorem dX5_compare_15 : decode cX5_compare 15 = .ok (.aload_n 0, 1) := by decide +kernel
theorem dX5_compare_16 : decode cX5_compare 16 = .ok (.aload_n 0, 1) := by decide +kernel
theorem dX5_compare_17 : decode cX5_compare 17 = .ok (.getfield 30, 3) := by decide +kernel
theorem dX5_compare_20 : decode cX5_compare 20 = .ok (.getfield 34, 3) := by decide +kernel
theorem dX5_compare_23 : decode cX5_compare 23 = .ok (.iconst 1, 1) := by decide +kernel
theorem dX5_compare_24 : decode cX5_compare 24 = .ok (.iadd, 1) := by decide +kernel
theorem dX5_compare_25 : decode cX5_compare 25 = .ok (.newarray .byte, 2) := by decide +kernel
theorem dX5_compare_27 : decode cX5_compare 27 = .ok (.putfield 9, 3) := by decide +kernel
theorem dX5_compare_30 : decode cX5_compare 30 = .ok (.iconst 0, 1) := by decide +kernel
theorem dX5_compare_31 : decode cX5_compare 31 = .ok (.istore_n 1, 1) := by decide +kernel
theorem dX5_compare_32 : decode cX5_compare 32 = .ok (.iload_n 1, 1) := by decide +kernel
theorem dX5_compare_33 : decode cX5_compare 33 = .ok (.aload_n 0, 1) := by decide +kernel
theorem dX5_compare_34 : decode cX5_compare 34 = .ok (.getfield 30, 3) := by decide +kernel
theorem dX5_compare_37 : decode cX5_compare 37 = .ok (.getfield 34, 3) := by decide +kernel
theorem dX5_compare_40 : decode cX5_compare 40 = .ok (.if_icmp .gt 29, 3) := by decide +kernel
theorem dX5_compare_43 : decode cX5_compare 43 = .ok (.aload_n 0, 1) := by decide +kernel
theorem dX5_compare_44 : decode cX5_compare 44 = .ok (.getfield 9, 3) := by decide +kernel
theorem dX5_compare_47 : decode cX5_compare 47 = .ok (.iload_n 1, 1) := by decide +kernel
theorem dX5_compare_48 : decode cX5_compare 48 = .ok (.aload_n 0, 1) := by decide +kernel
theorem dX5_compare_49 : decode cX5_compare 49 = .ok (.iload_n 1, 1) := by decide +kernel
theorem dX5_compare_50 : decode cX5_compare 50 = .ok (.invokevirtual 39, 3) := by decide +kernel
theorem dX5_compare_53 : decode cX5_compare 53 = .ok (.ifCond .eq 7, 3) := by decide +kernel
theorem dX5_compare_56 : decode cX5_compare 56 = .ok (.iconst 1, 1) := by decide +kernel
theorem dX5_compare_57 : decode cX5_compare 57 = .ok (.goto 4, 3) := by decide +kernel
theorem dX5_compare_60 : decode cX5_compare 60 = .ok (.iconst 0, 1) := by decide +kernel
theorem dX5_compare_61 : decode cX5_compare 61 = .ok (.i2b, 1) := by decide +kernel
theorem dX5_compare_62 : decode cX5_compare 62 = .ok (.bastore, 1) := by decide +kernel
theorem dX5_compare_63 : decode cX5_compare 63 = .ok (.iinc 1 1, 3) := by decide +kernel
theorem dX5_compare_66 : decode cX5_compare 66 = .ok (.goto (-34), 3) := by decide +kernel
theorem dX5_compare_69 : decode cX5_compare 69 = .ok (.return_, 1) := by decide +kernel
abbrev o_X5_compare_q137 : Type := (Nat → Int32) × Nat × Nat × Nat
def f_X5_compare_q137_L32 (S : wd_W) (n2 : Nat) (n3 : Nat) (n4 : Nat) (r8 : (Int32) → (Nat → Int32) → (Option o_X5_compare_q137)) (x6 : Int32) (a7 : Nat → Int32) : Option o_X5_compare_q137 :=
if (S.1 10603) < x6 then (
some (a7, n2, n3, n4)) else (
gd (okr n3 n4 0 0 1 5000) <|
bd (f_X5_isAsTold_q137 (wd_o S [] [] [(138, a7)] [] [(138, n2)]) x6) fun o9 =>
lk (fun x11 x12 =>
lz (x11.toInt8.toInt32) fun x14 =>
gd (okx x12 n2) <|
lz (upd a7 x12.toNatClampNeg (vp_nar .byte x14)) fun a16 =>
r8 (x6 + (1 : Int32)) a16) fun k61_13 =>
if o9 = 0 then (
k61_13 (0 : Int32) x6) else (
k61_13 (1 : Int32) x6))
def f_X5_compare_q137 (S : wd_W) : Option o_X5_compare_q137 :=
lk (fun a1 n2 n3 n4 =>
it2 (f_X5_compare_q137_L32 S n2 n3 n4) fuel (0 : Int32) a1) fun k30_5 =>
if (S.1 10603) < (Int32.ofNat (S.2.2.2.2 138)) then (
k30_5 (S.2.2.1 138) (S.2.2.2.2 138) 0 0) else (
lz ((S.1 10603) + (1 : Int32)) fun x20 =>
gd (okg x20 0 0 1 5000) <|
k30_5 (fun _ => 0) ((x20).toNatClampNeg) (0 + 1) (0 + (x20).toNatClampNeg))
set_option maxRecDepth 100000 in
set_option maxHeartbeats 4000000 in
theorem c_X5_compare_q137 (l : Launch) (D : va_G) (q g : Nat → Nat) (cy : Nat → ClassId) (z : (Nat → Nat) × (Nat → Nat) × Nat) (S : wd_W) (o : o_X5_compare_q137) (hf : f_X5_compare_q137 S = some o) : MX layX l yX5_compare cX5_compare 2 none ({ frames := 3, cells := 1, slots := 5000, locals := 73 } : Room) D q g cy z [.ref (q 137)] S true (none) (wd_o S [] [] [(138, o.1)] [] [(138, o.2.1)]) o.2.2.1 o.2.2.2 := by
  refine mx_of (own := RX5) (lc := [(0, .ref (q 137))]) (by decide +kernel) rfl layX_ok (Nat.le_of_ble_eq_true rfl) rfl ?_
  intro X hXl hXq hXz hC hQ
  subst hXl; subst hXq; subst hXz
  unfold f_X5_compare_q137 at hf
  refine go_keys (L1 := []) (L2 := []) (L3 := [(138, (S.2.2.1 138))]) (L4 := []) (L5 := [(138, (S.2.2.2.2 138))]) [] [] [138] [] [138] rfl rfl rfl rfl rfl ?_
  refine go_aload_n (pc' := 1) hC dX5_compare_0 rfl rfl ?_
  refine go_getg (pc' := 4) hC 137 2 layX_137 rfl rfl inlX5 (Nat.le_of_ble_eq_true rfl) mw_151 rfl dX5_compare_1 rfl ?_
  refine go_aleng (v := Int32.ofNat (S.2.2.2.2 138)) (pc' := 5) hC 138 layX_138 (Nat.le_of_ble_eq_true rfl) rfl rfl dX5_compare_4 rfl ?_
  refine go_aload_n (pc' := 6) hC dX5_compare_5 rfl rfl ?_
  refine go_getq (pc' := 9) hC 137 1 layX_137 rfl rfl inlX5 (Nat.le_of_ble_eq_true rfl) mw_156 rfl dX5_compare_6 rfl ?_
  refine go_geti (v := (S.1 10603)) (pc' := 12) hC 106 3 layX_106 rfl rfl inlX8 (Nat.le_of_ble_eq_true rfl) mw_817 rfl dX5_compare_9 rfl rfl ?_
  obtain ⟨k30_5, hk30_5, hf⟩ := lk_e4 hf
  have jk30_5 : ∀ (a1 : Nat → Int32) (n2 : Nat) (n3 : Nat) (n4 : Nat) (g : Nat → Nat), k30_5 a1 n2 n3 n4 = some o → Go X layX S 30 [(0, .ref (x_q X 137))] [] g [] [] [(138, a1)] [] [(138, n2)] n3 n4 := by
    intro a1 n2 n3 n4 g hf
    have hf := hk30_5 a1 n2 n3 n4 hf
    clear hk30_5
    refine go_iconst (pc' := 31) hC dX5_compare_30 ki_0 rfl ?_
    refine go_istore_n (lc' := [(0, .ref (x_q X 137)), (1, .int (0 : Int32))]) (pc' := 32) hC dX5_compare_31 (Nat.le_of_ble_eq_true rfl) rfl rfl ?_
    have l32_19 : ∀ (nn : Nat) (x6 : Int32) (a7 : Nat → Int32) (g : Nat → Nat), it2 (f_X5_compare_q137_L32 S n2 n3 n4) nn x6 a7 = some o → Go X layX S 32 [(0, .ref (x_q X 137)), (1, .int x6)] [] g [] [] [(138, a7)] [] [(138, n2)] n3 n4 := by
      intro nn
      induction nn with
      | zero =>
        intro x6 a7 g hf
        exact none_no hf
      | succ nn ih =>
        intro x6 a7 g hf
        have hf : f_X5_compare_q137_L32 S n2 n3 n4 (it2 (f_X5_compare_q137_L32 S n2 n3 n4) nn) x6 a7 = some o := hf
        generalize it2 (f_X5_compare_q137_L32 S n2 n3 n4) nn = r8 at ih hf
        unfold f_X5_compare_q137_L32 at hf
        refine go_iload_n (pc' := 33) hC dX5_compare_32 rfl rfl ?_
        refine go_aload_n (pc' := 34) hC dX5_compare_33 rfl rfl ?_
        refine go_getq (pc' := 37) hC 137 1 layX_137 rfl rfl inlX5 (Nat.le_of_ble_eq_true rfl) mw_156 rfl dX5_compare_34 rfl ?_
        refine go_geti (v := (S.1 10603)) (pc' := 40) hC 106 3 layX_106 rfl rfl inlX8 (Nat.le_of_ble_eq_true rfl) mw_817 rfl dX5_compare_37 rfl rfl ?_
        refine go_icmp_gt (tgt := 69) (pc' := 43) hC dX5_compare_40 (by decide) rfl (fun h18 => ?_) (fun h18 => ?_)
        · have hf := ite_t h18 hf
          obtain rfl := Option.some.inj hf
          exact go_vret hC hQ dX5_compare_69 rfl rfl rfl (fun h => nomatch h) rfl rfl
        · have hf := ite_f h18 hf
          refine go_aload_n (pc' := 44) hC dX5_compare_43 rfl rfl ?_
          refine go_getg (pc' := 47) hC 137 2 layX_137 rfl rfl inlX5 (Nat.le_of_ble_eq_true rfl) mw_151 rfl dX5_compare_44 rfl ?_
          refine go_iload_n (pc' := 48) hC dX5_compare_47 rfl rfl ?_
          refine go_aload_n (pc' := 49) hC dX5_compare_48 rfl rfl ?_
          refine go_iload_n (pc' := 50) hC dX5_compare_49 rfl rfl ?_
          obtain ⟨h10, hf⟩ := gd_e hf
          obtain ⟨o9, ho9, hf⟩ := bd_e hf
          refine go_callV0 (pc' := 53) (As := [.int x6]) (st := [.int x6, .ref (g 138)]) (st' := [.int o9, .int x6, .ref (g 138)])   (rc := { frames := 2, cells := 0, slots := 0, locals := 50 }) (b := 137) hC dX5_compare_50 ⟨mw_818, mw_821, mw_44, yd_yX5_isAsTold, yp_yX5_isAsTold, Nat.le_of_ble_eq_true rfl, Nat.le_of_ble_eq_true rfl, (okr_c h10), (okr_s h10)⟩ mw_819 mw_820 layX_137 rfl rfl rfl (Nat.le_of_ble_eq_true rfl) (c_X5_isAsTold_q137 (x_l X) (x_D X) (x_q X) g (x_cy X) (x_z X) _ x6 o9 ho9) rfl rfl ?_
          obtain ⟨k61_13, hk61_13, hf⟩ := lk_e2 hf
          have jk61_13 : ∀ (x11 : Int32) (x12 : Int32) (g : Nat → Nat), k61_13 x11 x12 = some o → Go X layX S 61 [(0, .ref (x_q X 137)), (1, .int x6)] [.int x11, .int x12, .ref (g 138)] g [] [] [(138, a7)] [] [(138, n2)] n3 n4 := by
            intro x11 x12 g hf
            have hf := hk61_13 x11 x12 hf
            clear hk61_13
            refine go_i2b (pc' := 62) hC dX5_compare_61 rfl ?_
            refine go_namei (fun x14 hx => ?_)
            have hf := lz_r hx hf
            clear hx
            obtain ⟨h15, hf⟩ := gd_e hf
            refine go_bastg (f := a7) (pc' := 63) hC 138 layX_138 rfl rfl dX5_compare_62 (okx_in h15) rfl rfl (fun a16 ha L3' hL => ?_)
            have hf := lz_r ha hf
            clear ha
            obtain rfl : L3' = [(138, a16)] := hL.symm
            refine go_iinc (lc' := [(0, .ref (x_q X 137)), (1, .int (x6 + (1 : Int32)))]) (pc' := 66) hC dX5_compare_63 rfl ki_1 (Nat.le_of_ble_eq_true rfl) rfl rfl ?_
            refine go_goto (tgt := 32) hC dX5_compare_66 (by decide) ?_
            exact ih (x6 + (1 : Int32)) a16 g hf
          clear hk61_13
          refine go_if_eq (tgt := 60) (pc' := 56) hC dX5_compare_53 (by decide) rfl (fun h17 => ?_) (fun h17 => ?_)
          · have hf := ite_t h17 hf
            refine go_iconst (pc' := 61) hC dX5_compare_60 ki_0 rfl ?_
            exact jk61_13 (0 : Int32) x6 g hf
          · have hf := ite_f h17 hf
            refine go_iconst (pc' := 57) hC dX5_compare_56 ki_1 rfl ?_
            refine go_goto (tgt := 61) hC dX5_compare_57 (by decide) ?_
            exact jk61_13 (1 : Int32) x6 g hf
    exact l32_19 fuel (0 : Int32) a1 g hf
  clear hk30_5
  refine go_icmp_gt (tgt := 30) (pc' := 15) hC dX5_compare_12 (by decide) rfl (fun h22 => ?_) (fun h22 => ?_)
  · have hf := ite_t h22 hf
    exact jk30_5 (S.2.2.1 138) (S.2.2.2.2 138) 0 0 g hf
  · have hf := ite_f h22 hf
    refine go_aload_n (pc' := 16) hC dX5_compare_15 rfl rfl ?_
    refine go_aload_n (pc' := 17) hC dX5_compare_16 rfl rfl ?_
    refine go_getq (pc' := 20) hC 137 1 layX_137 rfl rfl inlX5 (Nat.le_of_ble_eq_true rfl) mw_156 rfl dX5_compare_17 rfl ?_
    refine go_geti (v := (S.1 10603)) (pc' := 23) hC 106 3 layX_106 rfl rfl inlX8 (Nat.le_of_ble_eq_true rfl) mw_817 rfl dX5_compare_20 rfl rfl ?_
    refine go_iconst (pc' := 24) hC dX5_compare_23 ki_1 rfl ?_
    refine go_iadd (pc' := 25) hC dX5_compare_24 rfl ?_
    refine go_namei (fun x20 hx => ?_)
    have hf := lz_r hx hf
    clear hx
    obtain ⟨h21, hf⟩ := gd_e hf
    refine go_growA (L3' := [(138, (fun _ => 0))]) (L5' := [(138, (x20).toNatClampNeg)]) (cells' := 0 + 1) (slots' := 0 + (x20).toNatClampNeg) (pc' := 30) (atype := .byte) hC 137 2 138 layX_137 rfl layX_138 (Or.inr (Or.inl ⟨rfl, rfl⟩)) (by decide +kernel) rfl inlX5 tyX5_ok nmX5 (Nat.le_of_ble_eq_true rfl) mw_151 rfl rfl (fun _ => rfl) (fun _ => rfl) mw_95 rfl dX5_compare_25 dX5_compare_27 rfl h21 rfl rfl rfl rfl rfl rfl rfl rfl (fun g => ?_)
    exact jk30_5 (fun _ => 0) ((x20).toNatClampNeg) (0 + 1) (0 + (x20).toNatClampNeg) g hf
theorem dX4_isSure_0 : decode cX4_isSure 0 = .ok (.iconst 0, 1) := by decide +kernel
theorem dX4_isSure_1 : decode cX4_isSure 1 = .ok (.istore_n 2, 1) := by decide +kernel
theorem dX4_isSure_2 : decode cX4_isSure 2 = .ok (.iconst 0, 1) := by decide +kernel
theorem dX4_isSure_3 : decode cX4_isSure 3 = .ok (.istore_n 3, 1) := by decide +kernel
theorem dX4_isSure_4 : decode cX4_isSure 4 = .ok (.iload_n 1, 1) := by decide +kernel
theorem dX4_isSure_5 : decode cX4_isSure 5 = .ok (.istore 4, 2) := by decide +kernel
theorem dX4_isSure_7 : decode cX4_isSure 7 = .ok (.iconst 0, 1) := by decide +kernel
theorem dX4_isSure_8 : decode cX4_isSure 8 = .ok (.istore 5, 2) := by decide +kernel
theorem dX4_isSure_10 : decode cX4_isSure 10 = .ok (.iload 5, 2) := by decide +kernel
theorem dX4_isSure_12 : decode cX4_isSure 12 = .ok (.aload_n 0, 1) := by decide +kernel
theorem dX4_isSure_13 : decode cX4_isSure 13 = .ok (.getfield 37, 3) := by decide +kernel
theorem dX4_isSure_16 : decode cX4_isSure 16 = .ok (.if_icmp .ge 53, 3) := by decide +kernel
theorem dX4_isSure_19 : decode cX4_isSure 19 = .ok (.iload_n 2, 1) := by decide +kernel
theorem dX4_isSure_20 : decode cX4_isSure 20 = .ok (.iload 4, 2) := by decide +kernel
theorem dX4_isSure_22 : decode cX4_isSure 22 = .ok (.iconst 3, 1) := by decide +kernel
theorem dX4_isSure_23 : decode cX4_isSure 23 = .ok (.irem, 1) := by decide +kernel
theorem dX4_isSure_24 : decode cX4_isSure 24 = .ok (.iconst 1, 1) := by decide +kernel
theorem dX4_isSure_25 : decode cX4_isSure 25 = .ok (.if_icmp .ne 10, 3) := by decide +kernel
theorem dX4_isSure_28 : decode cX4_isSure 28 = .ok (.iconst 1, 1) := by decide +kernel
theorem dX4_isSure_29 : decode cX4_isSure 29 = .ok (.iload 5, 2) := by decide +kernel
theorem dX4_isSure_31 : decode cX4_isSure 31 = .ok (.ishl, 1) := by decide +kernel
theorem dX4_isSure_32 : decode cX4_isSure 32 = .ok (.goto 4, 3) := by decide +kernel
theorem dX4_isSure_35 : decode cX4_isSure 35 = .ok (.iconst 0, 1) := by decide +kernel
theorem dX4_isSure_36 : decode cX4_isSure 36 = .ok (.ior, 1) := by decide +kernel
theorem dX4_isSure_37 : decode cX4_isSure 37 = .ok (.istore_n 2, 1) := by decide +kernel
theorem dX4_isSure_38 : decode cX4_isSure 38 = .ok (.iload_n 3, 1) := by decide +kernel
theorem dX4_isSure_39 : decode cX4_isSure 39 = .ok (.iload 4, 2) := by decide +kernel
theorem dX4_isSure_41 : decode cX4_isSure 41 = .ok (.iconst 3, 1) := by decide +kernel
theorem dX4_isSure_42 : decode cX4_isSure 42 = .ok (.irem, 1) := by decide +kernel
theorem dX4_isSure_43 : decode cX4_isSure 43 = .ok (.iconst 2, 1) := by decide +kernel
theorem dX4_isSure_44 : decode cX4_isSure 44 = .ok (.if_icmp .ne 10, 3) := by decide +kernel
theorem dX4_isSure_47 : decode cX4_isSure 47 = .ok (.iconst 1, 1) := by decide +kernel
theorem dX4_isSure_48 : decode cX4_isSure 48 = .ok (.iload 5, 2) := by decide +kernel
theorem dX4_isSure_50 : decode cX4_isSure 50 = .ok (.ishl, 1) := by decide +kernel
theorem dX4_isSure_51 : decode cX4_isSure 51 = .ok (.goto 4, 3) := by decide +kernel
theorem dX4_isSure_54 : decode cX4_isSure 54 = .ok (.iconst 0, 1) := by decide +kernel
theorem dX4_isSure_55 : decode cX4_isSure 55 = .ok (.ior, 1) := by decide +kernel
theorem dX4_isSure_56 : decode cX4_isSure 56 = .ok (.istore_n 3, 1) := by decide +kernel
theorem dX4_isSure_57 : decode cX4_isSure 57 = .ok (.iload 4, 2) := by decide +kernel
theorem dX4_isSure_59 : decode cX4_isSure 59 = .ok (.iconst 3, 1) := by decide +kernel
theorem dX4_isSure_60 : decode cX4_isSure 60 = .ok (.idiv, 1) := by decide +kernel
theorem dX4_isSure_61 : decode cX4_isSure 61 = .ok (.istore 4, 2) := by decide +kernel
theorem dX4_isSure_63 : decode cX4_isSure 63 = .ok (.iinc 5 1, 3) := by decide +kernel
theorem dX4_isSure_66 : decode cX4_isSure 66 = .ok (.goto (-56), 3) := by decide +kernel
theorem dX4_isSure_69 : decode cX4_isSure 69 = .ok (.aload_n 0, 1) := by decide +kernel
theorem dX4_isSure_70 : decode cX4_isSure 70 = .ok (.getfield 15, 3) := by decide +kernel
theorem dX4_isSure_73 : decode cX4_isSure 73 = .ok (.iload_n 2, 1) := by decide +kernel
theorem dX4_isSure_74 : decode cX4_isSure 74 = .ok (.invokevirtual 51, 3) := by decide +kernel
theorem dX4_isSure_77 : decode cX4_isSure 77 = .ok (.aload_n 0, 1) := by decide +kernel
theorem dX4_isSure_78 : decode cX4_isSure 78 = .ok (.getfield 15, 3) := by decide +kernel
theorem dX4_isSure_81 : decode cX4_isSure 81 = .ok (.iload_n 2, 1) := by decide +kernel
theorem dX4_isSure_82 : decode cX4_isSure 82 = .ok (.iload_n 3, 1) := by decide +kernel
theorem dX4_isSure_83 : decode cX4_isSure 83 = .ok (.ior, 1) := by decide +kernel
theorem dX4_isSure_84 : decode cX4_isSure 84 = .ok (.invokevirtual 51, 3) := by decide +kernel
theorem dX4_isSure_87 : decode cX4_isSure 87 = .ok (.if_icmp .ne 7, 3) := by decide +kernel
theorem dX4_isSure_90 : decode cX4_isSure 90 = .ok (.iconst 1, 1) := by decide +kernel
theorem dX4_isSure_91 : decode cX4_isSure 91 = .ok (.goto 4, 3) := by decide +kernel
theorem dX4_isSure_94 : decode cX4_isSure 94 = .ok (.iconst 0, 1) := by decide +kernel
theorem dX4_isSure_95 : decode cX4_isSure 95 = .ok (.ireturn, 1) := by decide +kernel
abbrev o_X4_isSure_q159 : Type := Int32
def f_X4_isSure_q159_L10 (S : wd_W) (k69_3 : (Int32) → (Int32) → (Option o_X4_isSure_q159)) (r11 : (Int32) → (Int32) → (Int32) → (Int32) → (Option o_X4_isSure_q159)) (x7 : Int32) (x8 : Int32) (x9 : Int32) (x10 : Int32) : Option o_X4_isSure_q159 :=
if (S.1 15901) ≤ x10 then (
k69_3 x7 x8) else (
lk (fun x12 x13 =>
lz (x13 ||| x12) fun x15 =>
lk (fun x16 x17 =>
lz (x17 ||| x16) fun x19 =>
lz (x9 / (3 : Int32)) fun x20 =>
r11 x15 x19 x20 (x10 + (1 : Int32))) fun k55_18 =>
if (x9 - x9 / (3 : Int32) * (3 : Int32)) = (2 : Int32) then (
k55_18 ((1 : Int32) <<< (x10 &&& 31)) x8) else (
k55_18 (0 : Int32) x8)) fun k36_14 =>
if (x9 - x9 / (3 : Int32) * (3 : Int32)) = (1 : Int32) then (
k36_14 ((1 : Int32) <<< (x10 &&& 31)) x7) else (
k36_14 (0 : Int32) x7))
def f_X4_isSure_q159 (S : wd_W) (p1 : Int32) : Option o_X4_isSure_q159 :=
lk (fun x1 x2 =>
bd (f_X8_isThrough_q106 (wd_o S [] [] [] [] []) x1) fun o4 =>
bd (f_X8_isThrough_q106 (wd_o S [] [] [] [] []) (x1 ||| x2)) fun o5 =>
if o4 = o5 then (
some (1 : Int32)) else (
some (0 : Int32))) fun k69_3 =>
it4 (f_X4_isSure_q159_L10 S k69_3) fuel (0 : Int32) (0 : Int32) p1 (0 : Int32)
set_option maxRecDepth 100000 in
set_option maxHeartbeats 4000000 in
theorem c_X4_isSure_q159 (l : Launch) (D : va_G) (q g : Nat → Nat) (cy : Nat → ClassId) (z : (Nat → Nat) × (Nat → Nat) × Nat) (S : wd_W) (p1 : Int32) (o : o_X4_isSure_q159) (hf : f_X4_isSure_q159 S p1 = some o) : MX layX l yX4_isSure cX4_isSure 6 (some .boolean) ({ frames := 2, cells := 0, slots := 0, locals := 42 } : Room) D q g cy z [.ref (q 159), .int p1] S false (some (.int o)) (wd_o S [] [] [] [] []) 0 0 := by
  refine mx_of (own := RX4) (lc := [(0, .ref (q 159)), (1, .int p1)]) (by decide +kernel) rfl layX_ok (Nat.le_of_ble_eq_true rfl) rfl ?_
  intro X hXl hXq hXz hC hQ
  subst hXl; subst hXq; subst hXz
  unfold f_X4_isSure_q159 at hf
  refine go_iconst (pc' := 1) hC dX4_isSure_0 ki_0 rfl ?_
  refine go_istore_n (lc' := [(0, .ref (x_q X 159)), (1, .int p1), (2, .int (0 : Int32))]) (pc' := 2) hC dX4_isSure_1 (Nat.le_of_ble_eq_true rfl) rfl rfl ?_
  refine go_iconst (pc' := 3) hC dX4_isSure_2 ki_0 rfl ?_
  refine go_istore_n (lc' := [(0, .ref (x_q X 159)), (1, .int p1), (2, .int (0 : Int32)), (3, .int (0 : Int32))]) (pc' := 4) hC dX4_isSure_3 (Nat.le_of_ble_eq_true rfl) rfl rfl ?_
  refine go_iload_n (pc' := 5) hC dX4_isSure_4 rfl rfl ?_
  refine go_istore (lc' := [(0, .ref (x_q X 159)), (1, .int p1), (2, .int (0 : Int32)), (3, .int (0 : Int32)), (4, .int p1)]) (pc' := 7) hC dX4_isSure_5 (Nat.le_of_ble_eq_true rfl) rfl rfl ?_
  refine go_iconst (pc' := 8) hC dX4_isSure_7 ki_0 rfl ?_
  refine go_istore (lc' := [(0, .ref (x_q X 159)), (1, .int p1), (2, .int (0 : Int32)), (3, .int (0 : Int32)), (4, .int p1), (5, .int (0 : Int32))]) (pc' := 10) hC dX4_isSure_8 (Nat.le_of_ble_eq_true rfl) rfl rfl ?_
  obtain ⟨k69_3, hk69_3, hf⟩ := lk_e2 hf
  have jk69_3 : ∀ (x1 : Int32) (x2 : Int32), k69_3 x1 x2 = some o → Go X layX S 69 [(0, .ref (x_q X 159)), (2, .int x1), (3, .int x2)] [] g [] [] [] [] [] 0 0 := by
    intro x1 x2 hf
    have hf := hk69_3 x1 x2 hf
    clear hk69_3
    refine go_aload_n (pc' := 70) hC dX4_isSure_69 rfl rfl ?_
    refine go_getq (pc' := 73) hC 159 0 layX_159 rfl rfl inlX4 (Nat.le_of_ble_eq_true rfl) mw_175 rfl dX4_isSure_70 rfl ?_
    refine go_iload_n (pc' := 74) hC dX4_isSure_73 rfl rfl ?_
    obtain ⟨o4, ho4, hf⟩ := bd_e hf
    refine go_callV0 (pc' := 77) (As := [.int x1]) (st := []) (st' := [.int o4])    (b := 106) hC dX4_isSure_74 ⟨mw_841, mw_734, mw_31, yd_yX8_isThrough, yp_yX8_isThrough, Nat.le_of_ble_eq_true rfl, Nat.le_of_ble_eq_true rfl, (Nat.le_of_ble_eq_true rfl), (Nat.le_of_ble_eq_true rfl)⟩ mw_732 mw_733 layX_106 rfl rfl rfl (Nat.le_of_ble_eq_true rfl) (c_X8_isThrough_q106 (x_l X) (x_D X) (x_q X) g (x_cy X) (x_z X) _ x1 o4 ho4) rfl rfl ?_
    refine go_aload_n (pc' := 78) hC dX4_isSure_77 rfl rfl ?_
    refine go_getq (pc' := 81) hC 159 0 layX_159 rfl rfl inlX4 (Nat.le_of_ble_eq_true rfl) mw_175 rfl dX4_isSure_78 rfl ?_
    refine go_iload_n (pc' := 82) hC dX4_isSure_81 rfl rfl ?_
    refine go_iload_n (pc' := 83) hC dX4_isSure_82 rfl rfl ?_
    refine go_ior (pc' := 84) hC dX4_isSure_83 rfl ?_
    obtain ⟨o5, ho5, hf⟩ := bd_e hf
    refine go_callV0 (pc' := 87) (As := [.int (x1 ||| x2)]) (st := [.int o4]) (st' := [.int o5, .int o4])    (b := 106) hC dX4_isSure_84 ⟨mw_841, mw_734, mw_31, yd_yX8_isThrough, yp_yX8_isThrough, Nat.le_of_ble_eq_true rfl, Nat.le_of_ble_eq_true rfl, (Nat.le_of_ble_eq_true rfl), (Nat.le_of_ble_eq_true rfl)⟩ mw_732 mw_733 layX_106 rfl rfl rfl (Nat.le_of_ble_eq_true rfl) (c_X8_isThrough_q106 (x_l X) (x_D X) (x_q X) g (x_cy X) (x_z X) _ (x1 ||| x2) o5 ho5) rfl rfl ?_
    refine go_icmp_ne (tgt := 94) (pc' := 90) hC dX4_isSure_87 (by decide) rfl (fun h6 => ?_) (fun h6 => ?_)
    · have hf := ite_f h6 hf
      refine go_iconst (pc' := 95) hC dX4_isSure_94 ki_0 rfl ?_
      obtain rfl := Option.some.inj hf
      exact go_iret hC hQ dX4_isSure_95 rfl rfl rfl rfl (fun _ => rfl) rfl rfl
    · have hf := ite_t h6 hf
      refine go_iconst (pc' := 91) hC dX4_isSure_90 ki_1 rfl ?_
      refine go_goto (tgt := 95) hC dX4_isSure_91 (by decide) ?_
      obtain rfl := Option.some.inj hf
      exact go_iret hC hQ dX4_isSure_95 rfl rfl rfl rfl (fun _ => rfl) rfl rfl
  clear hk69_3
  have l10_24 : ∀ (nn : Nat) (x7 : Int32) (x8 : Int32) (x9 : Int32) (x10 : Int32), it4 (f_X4_isSure_q159_L10 S k69_3) nn x7 x8 x9 x10 = some o → Go X layX S 10 [(0, .ref (x_q X 159)), (2, .int x7), (3, .int x8), (4, .int x9), (5, .int x10)] [] g [] [] [] [] [] 0 0 := by
    intro nn
    induction nn with
    | zero =>
      intro x7 x8 x9 x10 hf
      exact none_no hf
    | succ nn ih =>
      intro x7 x8 x9 x10 hf
      have hf : f_X4_isSure_q159_L10 S k69_3 (it4 (f_X4_isSure_q159_L10 S k69_3) nn) x7 x8 x9 x10 = some o := hf
      generalize it4 (f_X4_isSure_q159_L10 S k69_3) nn = r11 at ih hf
      unfold f_X4_isSure_q159_L10 at hf
      refine go_iload (pc' := 12) hC dX4_isSure_10 rfl rfl ?_
      refine go_aload_n (pc' := 13) hC dX4_isSure_12 rfl rfl ?_
      refine go_geti (v := (S.1 15901)) (pc' := 16) hC 159 1 layX_159 rfl rfl inlX4 (Nat.le_of_ble_eq_true rfl) mw_835 rfl dX4_isSure_13 rfl rfl ?_
      refine go_icmp_ge (tgt := 69) (pc' := 19) hC dX4_isSure_16 (by decide) rfl (fun h23 => ?_) (fun h23 => ?_)
      · have hf := ite_t h23 hf
        refine go_sub [0, 2, 3] rfl ?_
        exact jk69_3 x7 x8 hf
      · have hf := ite_f h23 hf
        refine go_iload_n (pc' := 20) hC dX4_isSure_19 rfl rfl ?_
        refine go_iload (pc' := 22) hC dX4_isSure_20 rfl rfl ?_
        refine go_iconst (pc' := 23) hC dX4_isSure_22 ki_3 rfl ?_
        refine go_irem (pc' := 24) hC dX4_isSure_23 (by decide) rfl ?_
        refine go_iconst (pc' := 25) hC dX4_isSure_24 ki_1 rfl ?_
        obtain ⟨k36_14, hk36_14, hf⟩ := lk_e2 hf
        have jk36_14 : ∀ (x12 : Int32) (x13 : Int32), k36_14 x12 x13 = some o → Go X layX S 36 [(0, .ref (x_q X 159)), (3, .int x8), (4, .int x9), (5, .int x10)] [.int x12, .int x13] g [] [] [] [] [] 0 0 := by
          intro x12 x13 hf
          have hf := hk36_14 x12 x13 hf
          clear hk36_14
          refine go_ior (pc' := 37) hC dX4_isSure_36 rfl ?_
          refine go_namei (fun x15 hx => ?_)
          have hf := lz_r hx hf
          clear hx
          refine go_istore_n (lc' := [(0, .ref (x_q X 159)), (2, .int x15), (3, .int x8), (4, .int x9), (5, .int x10)]) (pc' := 38) hC dX4_isSure_37 (Nat.le_of_ble_eq_true rfl) rfl rfl ?_
          refine go_iload_n (pc' := 39) hC dX4_isSure_38 rfl rfl ?_
          refine go_iload (pc' := 41) hC dX4_isSure_39 rfl rfl ?_
          refine go_iconst (pc' := 42) hC dX4_isSure_41 ki_3 rfl ?_
          refine go_irem (pc' := 43) hC dX4_isSure_42 (by decide) rfl ?_
          refine go_iconst (pc' := 44) hC dX4_isSure_43 ki_2 rfl ?_
          obtain ⟨k55_18, hk55_18, hf⟩ := lk_e2 hf
          have jk55_18 : ∀ (x16 : Int32) (x17 : Int32), k55_18 x16 x17 = some o → Go X layX S 55 [(0, .ref (x_q X 159)), (2, .int x15), (4, .int x9), (5, .int x10)] [.int x16, .int x17] g [] [] [] [] [] 0 0 := by
            intro x16 x17 hf
            have hf := hk55_18 x16 x17 hf
            clear hk55_18
            refine go_ior (pc' := 56) hC dX4_isSure_55 rfl ?_
            refine go_namei (fun x19 hx => ?_)
            have hf := lz_r hx hf
            clear hx
            refine go_istore_n (lc' := [(0, .ref (x_q X 159)), (2, .int x15), (3, .int x19), (4, .int x9), (5, .int x10)]) (pc' := 57) hC dX4_isSure_56 (Nat.le_of_ble_eq_true rfl) rfl rfl ?_
            refine go_iload (pc' := 59) hC dX4_isSure_57 rfl rfl ?_
            refine go_iconst (pc' := 60) hC dX4_isSure_59 ki_3 rfl ?_
            refine go_idiv (pc' := 61) hC dX4_isSure_60 (by decide) rfl ?_
            refine go_namei (fun x20 hx => ?_)
            have hf := lz_r hx hf
            clear hx
            refine go_istore (lc' := [(0, .ref (x_q X 159)), (2, .int x15), (3, .int x19), (4, .int x20), (5, .int x10)]) (pc' := 63) hC dX4_isSure_61 (Nat.le_of_ble_eq_true rfl) rfl rfl ?_
            refine go_iinc (lc' := [(0, .ref (x_q X 159)), (2, .int x15), (3, .int x19), (4, .int x20), (5, .int (x10 + (1 : Int32)))]) (pc' := 66) hC dX4_isSure_63 rfl ki_1 (Nat.le_of_ble_eq_true rfl) rfl rfl ?_
            refine go_goto (tgt := 10) hC dX4_isSure_66 (by decide) ?_
            exact ih x15 x19 x20 (x10 + (1 : Int32)) hf
          clear hk55_18
          refine go_icmp_ne (tgt := 54) (pc' := 47) hC dX4_isSure_44 (by decide) rfl (fun h21 => ?_) (fun h21 => ?_)
          · have hf := ite_f h21 hf
            refine go_iconst (pc' := 55) hC dX4_isSure_54 ki_0 rfl ?_
            refine go_sub [0, 2, 4, 5] rfl ?_
            exact jk55_18 (0 : Int32) x8 hf
          · have hf := ite_t h21 hf
            refine go_iconst (pc' := 48) hC dX4_isSure_47 ki_1 rfl ?_
            refine go_iload (pc' := 50) hC dX4_isSure_48 rfl rfl ?_
            refine go_ishl (pc' := 51) hC dX4_isSure_50 rfl ?_
            refine go_goto (tgt := 55) hC dX4_isSure_51 (by decide) ?_
            refine go_sub [0, 2, 4, 5] rfl ?_
            exact jk55_18 ((1 : Int32) <<< (x10 &&& 31)) x8 hf
        clear hk36_14
        refine go_icmp_ne (tgt := 35) (pc' := 28) hC dX4_isSure_25 (by decide) rfl (fun h22 => ?_) (fun h22 => ?_)
        · have hf := ite_f h22 hf
          refine go_iconst (pc' := 36) hC dX4_isSure_35 ki_0 rfl ?_
          refine go_sub [0, 3, 4, 5] rfl ?_
          exact jk36_14 (0 : Int32) x7 hf
        · have hf := ite_t h22 hf
          refine go_iconst (pc' := 29) hC dX4_isSure_28 ki_1 rfl ?_
          refine go_iload (pc' := 31) hC dX4_isSure_29 rfl rfl ?_
          refine go_ishl (pc' := 32) hC dX4_isSure_31 rfl ?_
          refine go_goto (tgt := 36) hC dX4_isSure_32 (by decide) ?_
          refine go_sub [0, 3, 4, 5] rfl ?_
          exact jk36_14 ((1 : Int32) <<< (x10 &&& 31)) x7 hf
  refine go_sub [0, 2, 3, 4, 5] rfl ?_
  exact l10_24 fuel (0 : Int32) (0 : Int32) p1 (0 : Int32) hf
theorem dX4_neededBy_0 : decode cX4_neededBy 0 = .ok (.iconst 1, 1) := by decide +kernel
theorem dX4_neededBy_1 : decode cX4_neededBy 1 = .ok (.aload_n 0, 1) := by decide +kernel
theorem dX4_neededBy_2 : decode cX4_neededBy 2 = .ok (.getfield 9, 3) := by decide +kernel
theorem dX4_neededBy_5 : decode cX4_neededBy 5 = .ok (.iload_n 1, 1) := by decide +kernel
theorem dX4_neededBy_6 : decode cX4_neededBy 6 = .ok (.getstatic 39, 3) := by decide +kernel
theorem dX4_neededBy_9 : decode cX4_neededBy 9 = .ok (.iload_n 2, 1) := by decide +kernel
theorem dX4_neededBy_10 : decode cX4_neededBy 10 = .ok (.iaload, 1) := by decide +kernel
theorem dX4_neededBy_11 : decode cX4_neededBy 11 = .ok (.isub, 1) := by decide +kernel
theorem dX4_neededBy_12 : decode cX4_neededBy 12 = .ok (.baload, 1) := by decide +kernel
theorem dX4_neededBy_13 : decode cX4_neededBy 13 = .ok (.aload_n 0, 1) := by decide +kernel
theorem dX4_neededBy_14 : decode cX4_neededBy 14 = .ok (.getfield 9, 3) := by decide +kernel
theorem dX4_neededBy_17 : decode cX4_neededBy 17 = .ok (.iload_n 1, 1) := by decide +kernel
theorem dX4_neededBy_18 : decode cX4_neededBy 18 = .ok (.iconst 2, 1) := by decide +kernel
theorem dX4_neededBy_19 : decode cX4_neededBy 19 = .ok (.getstatic 39, 3) := by decide +kernel
theorem dX4_neededBy_22 : decode cX4_neededBy 22 = .ok (.iload_n 2, 1) := by decide +kernel
theorem dX4_neededBy_23 : decode cX4_neededBy 23 = .ok (.iaload, 1) := by decide +kernel
theorem dX4_neededBy_24 : decode cX4_neededBy 24 = .ok (.imul, 1) := by decide +kernel
theorem dX4_neededBy_25 : decode cX4_neededBy 25 = .ok (.isub, 1) := by decide +kernel
theorem dX4_neededBy_26 : decode cX4_neededBy 26 = .ok (.baload, 1) := by decide +kernel
theorem dX4_neededBy_27 : decode cX4_neededBy 27 = .ok (.invokestatic 57, 3) := by decide +kernel
theorem dX4_neededBy_30 : decode cX4_neededBy 30 = .ok (.iadd, 1) := by decide +kernel
theorem dX4_neededBy_31 : decode cX4_neededBy 31 = .ok (.ireturn, 1) := by decide +kernel
abbrev o_X4_neededBy_q159 : Type := Int32
def f_X4_neededBy_q159 (S : wd_W) (p1 : Int32) (p2 : Int32) : Option o_X4_neededBy_q159 :=
gd (okx p2 10) <|
gd (okx (p1 - (st_pow (p2).toNatClampNeg)) (S.2.2.2.2 160)) <|
gd (okx p2 10) <|
gd (okx (p1 - ((2 : Int32) * (st_pow (p2).toNatClampNeg))) (S.2.2.2.2 160)) <|
some ((1 : Int32) + (if ((S.2.2.1 160) (p1 - (st_pow (p2).toNatClampNeg)).toNatClampNeg) < ((S.2.2.1 160) (p1 - ((2 : Int32) * (st_pow (p2).toNatClampNeg))).toNatClampNeg) then ((S.2.2.1 160) (p1 - ((2 : Int32) * (st_pow (p2).toNatClampNeg))).toNatClampNeg) else ((S.2.2.1 160) (p1 - (st_pow (p2).toNatClampNeg)).toNatClampNeg)))
set_option maxRecDepth 100000 in
set_option maxHeartbeats 4000000 in
theorem c_X4_neededBy_q159 (l : Launch) (D : va_G) (q g : Nat → Nat) (cy : Nat → ClassId) (z : (Nat → Nat) × (Nat → Nat) × Nat) (S : wd_W) (p1 : Int32) (p2 : Int32) (o : o_X4_neededBy_q159) (hf : f_X4_neededBy_q159 S p1 p2 = some o) : MX layX l yX4_neededBy cX4_neededBy 3 (some .int) ({ frames := 1, cells := 0, slots := 0, locals := 21 } : Room) D q g cy z [.ref (q 159), .int p1, .int p2] S false (some (.int o)) (wd_o S [] [] [] [] []) 0 0 := by
  refine mx_of (own := RX4) (lc := [(0, .ref (q 159)), (1, .int p1), (2, .int p2)]) (by decide +kernel) rfl layX_ok (Nat.le_of_ble_eq_true rfl) rfl ?_
  intro X hXl hXq hXz hC hQ
  subst hXl; subst hXq; subst hXz
  unfold f_X4_neededBy_q159 at hf
  refine go_iconst (pc' := 1) hC dX4_neededBy_0 ki_1 rfl ?_
  refine go_aload_n (pc' := 2) hC dX4_neededBy_1 rfl rfl ?_
  refine go_getg (pc' := 5) hC 159 2 layX_159 rfl rfl inlX4 (Nat.le_of_ble_eq_true rfl) mw_174 rfl dX4_neededBy_2 rfl ?_
  refine go_iload_n (pc' := 6) hC dX4_neededBy_5 rfl rfl ?_
  refine go_getpow (pc' := 9) hC mw_836 dX4_neededBy_6 rfl ?_
  refine go_iload_n (pc' := 10) hC dX4_neededBy_9 rfl rfl ?_
  obtain ⟨h1, hf⟩ := gd_e hf
  refine go_pow (pc' := 11) hC dX4_neededBy_10 (okx_in h1) rfl ?_
  refine go_isub (pc' := 12) hC dX4_neededBy_11 rfl ?_
  obtain ⟨h2, hf⟩ := gd_e hf
  refine go_baldg (f := (S.2.2.1 160)) (pc' := 13) hC 160 layX_160 rfl rfl dX4_neededBy_12 (okx_in h2) rfl ?_
  refine go_aload_n (pc' := 14) hC dX4_neededBy_13 rfl rfl ?_
  refine go_getg (pc' := 17) hC 159 2 layX_159 rfl rfl inlX4 (Nat.le_of_ble_eq_true rfl) mw_174 rfl dX4_neededBy_14 rfl ?_
  refine go_iload_n (pc' := 18) hC dX4_neededBy_17 rfl rfl ?_
  refine go_iconst (pc' := 19) hC dX4_neededBy_18 ki_2 rfl ?_
  refine go_getpow (pc' := 22) hC mw_836 dX4_neededBy_19 rfl ?_
  refine go_iload_n (pc' := 23) hC dX4_neededBy_22 rfl rfl ?_
  obtain ⟨h3, hf⟩ := gd_e hf
  refine go_pow (pc' := 24) hC dX4_neededBy_23 (okx_in h3) rfl ?_
  refine go_imul (pc' := 25) hC dX4_neededBy_24 rfl ?_
  refine go_isub (pc' := 26) hC dX4_neededBy_25 rfl ?_
  obtain ⟨h4, hf⟩ := gd_e hf
  refine go_baldg (f := (S.2.2.1 160)) (pc' := 27) hC 160 layX_160 rfl rfl dX4_neededBy_26 (okx_in h4) rfl ?_
  refine go_mmax (pc' := 30) hC dX4_neededBy_27 mw_850 (Nat.le_of_ble_eq_true rfl) (Nat.le_of_ble_eq_true rfl) (Nat.le_of_ble_eq_true rfl) (Nat.le_of_ble_eq_true rfl) rfl ?_
  refine go_iadd (pc' := 31) hC dX4_neededBy_30 rfl ?_
  obtain rfl := Option.some.inj hf
  exact go_iret hC hQ dX4_neededBy_31 rfl rfl rfl rfl (fun _ => rfl) rfl rfl
theorem dX4_leastFrom_0 : decode cX4_leastFrom 0 = .ok (.aload_n 0, 1) := by decide +kernel
theorem dX4_leastFrom_1 : decode cX4_leastFrom 1 = .ok (.getfield 37, 3) := by decide +kernel
theorem dX4_leastFrom_4 : decode cX4_leastFrom 4 = .ok (.istore_n 2, 1) := by decide +kernel
theorem dX4_leastFrom_5 : decode cX4_leastFrom 5 = .ok (.iload_n 1, 1) := by decide +kernel
theorem dX4_leastFrom_6 : decode cX4_leastFrom 6 = .ok (.istore_n 3, 1) := by decide +kernel
theorem dX4_leastFrom_7 : decode cX4_leastFrom 7 = .ok (.iconst 0, 1) := by decide +kernel
theorem dX4_leastFrom_8 : decode cX4_leastFrom 8 = .ok (.istore 4, 2) := by decide +kernel
theorem dX4_leastFrom_10 : decode cX4_leastFrom 10 = .ok (.iload 4, 2) := by decide +kernel
theorem dX4_leastFrom_12 : decode cX4_leastFrom 12 = .ok (.aload_n 0, 1) := by decide +kernel
theorem dX4_leastFrom_13 : decode cX4_leastFrom 13 = .ok (.getfield 37, 3) := by decide +kernel
theorem dX4_leastFrom_16 : decode cX4_leastFrom 16 = .ok (.if_icmp .ge 32, 3) := by decide +kernel
theorem dX4_leastFrom_19 : decode cX4_leastFrom 19 = .ok (.iload_n 3, 1) := by decide +kernel
theorem dX4_leastFrom_20 : decode cX4_leastFrom 20 = .ok (.iconst 3, 1) := by decide +kernel
theorem dX4_leastFrom_21 : decode cX4_leastFrom 21 = .ok (.irem, 1) := by decide +kernel
theorem dX4_leastFrom_22 : decode cX4_leastFrom 22 = .ok (.iconst 2, 1) := by decide +kernel
theorem dX4_leastFrom_23 : decode cX4_leastFrom 23 = .ok (.if_icmp .ne 15, 3) := by decide +kernel
theorem dX4_leastFrom_26 : decode cX4_leastFrom 26 = .ok (.iload_n 2, 1) := by decide +kernel
theorem dX4_leastFrom_27 : decode cX4_leastFrom 27 = .ok (.aload_n 0, 1) := by decide +kernel
theorem dX4_leastFrom_28 : decode cX4_leastFrom 28 = .ok (.iload_n 1, 1) := by decide +kernel
theorem dX4_leastFrom_29 : decode cX4_leastFrom 29 = .ok (.iload 4, 2) := by decide +kernel
theorem dX4_leastFrom_31 : decode cX4_leastFrom 31 = .ok (.invokevirtual 54, 3) := by decide +kernel
theorem dX4_leastFrom_34 : decode cX4_leastFrom 34 = .ok (.invokestatic 31, 3) := by decide +kernel
theorem dX4_leastFrom_37 : decode cX4_leastFrom 37 = .ok (.istore_n 2, 1) := by decide +kernel
theorem dX4_leastFrom_38 : decode cX4_leastFrom 38 = .ok (.iload_n 3, 1) := by decide +kernel
theorem dX4_leastFrom_39 : decode cX4_leastFrom 39 = .ok (.iconst 3, 1) := by decide +kernel
theorem dX4_leastFrom_40 : decode cX4_leastFrom 40 = .ok (.idiv, 1) := by decide +kernel
theorem dX4_leastFrom_41 : decode cX4_leastFrom 41 = .ok (.istore_n 3, 1) := by decide +kernel
theorem dX4_leastFrom_42 : decode cX4_leastFrom 42 = .ok (.iinc 4 1, 3) := by decide +kernel
theorem dX4_leastFrom_45 : decode cX4_leastFrom 45 = .ok (.goto (-35), 3) := by decide +kernel
theorem dX4_leastFrom_48 : decode cX4_leastFrom 48 = .ok (.iload_n 2, 1) := by decide +kernel
theorem dX4_leastFrom_49 : decode cX4_leastFrom 49 = .ok (.ireturn, 1) := by decide +kernel
abbrev o_X4_leastFrom_q159 : Type := Int32
def f_X4_leastFrom_q159_L10 (S : wd_W) (p1 : Int32) (r5 : (Int32) → (Int32) → (Int32) → (Option o_X4_leastFrom_q159)) (x2 : Int32) (x3 : Int32) (x4 : Int32) : Option o_X4_leastFrom_q159 :=
if (S.1 15901) ≤ x4 then (
some x2) else (
lk (fun x6 =>
lz (x3 / (3 : Int32)) fun x8 =>
r5 x6 x8 (x4 + (1 : Int32))) fun k38_7 =>
if (x3 - x3 / (3 : Int32) * (3 : Int32)) = (2 : Int32) then (
bd (f_X4_neededBy_q159 (wd_o S [] [] [] [] []) p1 x4) fun o9 =>
lz ((if o9 < x2 then o9 else x2)) fun x10 =>
k38_7 x10) else (
k38_7 x2))
def f_X4_leastFrom_q159 (S : wd_W) (p1 : Int32) : Option o_X4_leastFrom_q159 :=
lz ((S.1 15901)) fun x1 =>
it3 (f_X4_leastFrom_q159_L10 S p1) fuel x1 p1 (0 : Int32)
set_option maxRecDepth 100000 in
set_option maxHeartbeats 4000000 in
theorem c_X4_leastFrom_q159 (l : Launch) (D : va_G) (q g : Nat → Nat) (cy : Nat → ClassId) (z : (Nat → Nat) × (Nat → Nat) × Nat) (S : wd_W) (p1 : Int32) (o : o_X4_leastFrom_q159) (hf : f_X4_leastFrom_q159 S p1 = some o) : MX layX l yX4_leastFrom cX4_leastFrom 5 (some .int) ({ frames := 2, cells := 0, slots := 0, locals := 43 } : Room) D q g cy z [.ref (q 159), .int p1] S false (some (.int o)) (wd_o S [] [] [] [] []) 0 0 := by
  refine mx_of (own := RX4) (lc := [(0, .ref (q 159)), (1, .int p1)]) (by decide +kernel) rfl layX_ok (Nat.le_of_ble_eq_true rfl) rfl ?_
  intro X hXl hXq hXz hC hQ
  subst hXl; subst hXq; subst hXz
  unfold f_X4_leastFrom_q159 at hf
  refine go_aload_n (pc' := 1) hC dX4_leastFrom_0 rfl rfl ?_
  refine go_geti (v := (S.1 15901)) (pc' := 4) hC 159 1 layX_159 rfl rfl inlX4 (Nat.le_of_ble_eq_true rfl) mw_835 rfl dX4_leastFrom_1 rfl rfl ?_
  refine go_namei (fun x1 hx => ?_)
  have hf := lz_r hx hf
  clear hx
  refine go_istore_n (lc' := [(0, .ref (x_q X 159)), (1, .int p1), (2, .int x1)]) (pc' := 5) hC dX4_leastFrom_4 (Nat.le_of_ble_eq_true rfl) rfl rfl ?_
  refine go_iload_n (pc' := 6) hC dX4_leastFrom_5 rfl rfl ?_
  refine go_istore_n (lc' := [(0, .ref (x_q X 159)), (1, .int p1), (2, .int x1), (3, .int p1)]) (pc' := 7) hC dX4_leastFrom_6 (Nat.le_of_ble_eq_true rfl) rfl rfl ?_
  refine go_iconst (pc' := 8) hC dX4_leastFrom_7 ki_0 rfl ?_
  refine go_istore (lc' := [(0, .ref (x_q X 159)), (1, .int p1), (2, .int x1), (3, .int p1), (4, .int (0 : Int32))]) (pc' := 10) hC dX4_leastFrom_8 (Nat.le_of_ble_eq_true rfl) rfl rfl ?_
  have l10_13 : ∀ (nn : Nat) (x2 : Int32) (x3 : Int32) (x4 : Int32), it3 (f_X4_leastFrom_q159_L10 S p1) nn x2 x3 x4 = some o → Go X layX S 10 [(0, .ref (x_q X 159)), (1, .int p1), (2, .int x2), (3, .int x3), (4, .int x4)] [] g [] [] [] [] [] 0 0 := by
    intro nn
    induction nn with
    | zero =>
      intro x2 x3 x4 hf
      exact none_no hf
    | succ nn ih =>
      intro x2 x3 x4 hf
      have hf : f_X4_leastFrom_q159_L10 S p1 (it3 (f_X4_leastFrom_q159_L10 S p1) nn) x2 x3 x4 = some o := hf
      generalize it3 (f_X4_leastFrom_q159_L10 S p1) nn = r5 at ih hf
      unfold f_X4_leastFrom_q159_L10 at hf
      refine go_iload (pc' := 12) hC dX4_leastFrom_10 rfl rfl ?_
      refine go_aload_n (pc' := 13) hC dX4_leastFrom_12 rfl rfl ?_
      refine go_geti (v := (S.1 15901)) (pc' := 16) hC 159 1 layX_159 rfl rfl inlX4 (Nat.le_of_ble_eq_true rfl) mw_835 rfl dX4_leastFrom_13 rfl rfl ?_
      refine go_icmp_ge (tgt := 48) (pc' := 19) hC dX4_leastFrom_16 (by decide) rfl (fun h12 => ?_) (fun h12 => ?_)
      · have hf := ite_t h12 hf
        refine go_iload_n (pc' := 49) hC dX4_leastFrom_48 rfl rfl ?_
        obtain rfl := Option.some.inj hf
        exact go_iret hC hQ dX4_leastFrom_49 rfl rfl rfl rfl (fun _ => rfl) rfl rfl
      · have hf := ite_f h12 hf
        refine go_iload_n (pc' := 20) hC dX4_leastFrom_19 rfl rfl ?_
        refine go_iconst (pc' := 21) hC dX4_leastFrom_20 ki_3 rfl ?_
        refine go_irem (pc' := 22) hC dX4_leastFrom_21 (by decide) rfl ?_
        refine go_iconst (pc' := 23) hC dX4_leastFrom_22 ki_2 rfl ?_
        obtain ⟨k38_7, hk38_7, hf⟩ := lk_e1 hf
        have jk38_7 : ∀ (x6 : Int32), k38_7 x6 = some o → Go X layX S 38 [(0, .ref (x_q X 159)), (1, .int p1), (2, .int x6), (3, .int x3), (4, .int x4)] [] g [] [] [] [] [] 0 0 := by
          intro x6 hf
          have hf := hk38_7 x6 hf
          clear hk38_7
          refine go_iload_n (pc' := 39) hC dX4_leastFrom_38 rfl rfl ?_
          refine go_iconst (pc' := 40) hC dX4_leastFrom_39 ki_3 rfl ?_
          refine go_idiv (pc' := 41) hC dX4_leastFrom_40 (by decide) rfl ?_
          refine go_namei (fun x8 hx => ?_)
          have hf := lz_r hx hf
          clear hx
          refine go_istore_n (lc' := [(0, .ref (x_q X 159)), (1, .int p1), (2, .int x6), (3, .int x8), (4, .int x4)]) (pc' := 42) hC dX4_leastFrom_41 (Nat.le_of_ble_eq_true rfl) rfl rfl ?_
          refine go_iinc (lc' := [(0, .ref (x_q X 159)), (1, .int p1), (2, .int x6), (3, .int x8), (4, .int (x4 + (1 : Int32)))]) (pc' := 45) hC dX4_leastFrom_42 rfl ki_1 (Nat.le_of_ble_eq_true rfl) rfl rfl ?_
          refine go_goto (tgt := 10) hC dX4_leastFrom_45 (by decide) ?_
          exact ih x6 x8 (x4 + (1 : Int32)) hf
        clear hk38_7
        refine go_icmp_ne (tgt := 38) (pc' := 26) hC dX4_leastFrom_23 (by decide) rfl (fun h11 => ?_) (fun h11 => ?_)
        · have hf := ite_f h11 hf
          exact jk38_7 x2 hf
        · have hf := ite_t h11 hf
          refine go_iload_n (pc' := 27) hC dX4_leastFrom_26 rfl rfl ?_
          refine go_aload_n (pc' := 28) hC dX4_leastFrom_27 rfl rfl ?_
          refine go_iload_n (pc' := 29) hC dX4_leastFrom_28 rfl rfl ?_
          refine go_iload (pc' := 31) hC dX4_leastFrom_29 rfl rfl ?_
          obtain ⟨o9, ho9, hf⟩ := bd_e hf
          refine go_callV0 (pc' := 34) (As := [.int p1, .int x4]) (st := [.int x2]) (st' := [.int o9, .int x2])    (b := 159) hC dX4_leastFrom_31 ⟨mw_846, mw_849, mw_52, yd_yX4_neededBy, yp_yX4_neededBy, Nat.le_of_ble_eq_true rfl, Nat.le_of_ble_eq_true rfl, (Nat.le_of_ble_eq_true rfl), (Nat.le_of_ble_eq_true rfl)⟩ mw_847 mw_848 layX_159 rfl rfl rfl (Nat.le_of_ble_eq_true rfl) (c_X4_neededBy_q159 (x_l X) (x_D X) (x_q X) g (x_cy X) (x_z X) _ p1 x4 o9 ho9) rfl rfl ?_
          refine go_mmin (pc' := 37) hC dX4_leastFrom_34 mw_834 (Nat.le_of_ble_eq_true rfl) (Nat.le_of_ble_eq_true rfl) (Nat.le_of_ble_eq_true rfl) (Nat.le_of_ble_eq_true rfl) rfl ?_
          refine go_namei (fun x10 hx => ?_)
          have hf := lz_r hx hf
          clear hx
          refine go_istore_n (lc' := [(0, .ref (x_q X 159)), (1, .int p1), (2, .int x10), (3, .int x3), (4, .int x4)]) (pc' := 38) hC dX4_leastFrom_37 (Nat.le_of_ble_eq_true rfl) rfl rfl ?_
          exact jk38_7 x10 hf
  exact l10_13 fuel x1 p1 (0 : Int32) hf
theorem dX4_workOut_0 : decode cX4_workOut 0 = .ok (.aload_n 0, 1) := by decide +kernel
theorem dX4_workOut_1 : decode cX4_workOut 1 = .ok (.aload_n 0, 1) := by decide +kernel
theorem dX4_workOut_2 : decode cX4_workOut 2 = .ok (.getfield 15, 3) := by decide +kernel
theorem dX4_workOut_5 : decode cX4_workOut 5 = .ok (.getfield 19, 3) := by decide +kernel
theorem dX4_workOut_8 : decode cX4_workOut 8 = .ok (.getfield 25, 3) := by decide +kernel
theorem dX4_workOut_11 : decode cX4_workOut 11 = .ok (.bipush 9, 2) := by decide +kernel
theorem dX4_workOut_13 : decode cX4_workOut 13 = .ok (.invokestatic 31, 3) := by decide +kernel
theorem dX4_workOut_16 : decode cX4_workOut 16 = .ok (.putfield 37, 3) := by decide +kernel
theorem dX4_workOut_19 : decode cX4_workOut 19 = .ok (.aload_n 0, 1) := by decide +kernel
theorem dX4_workOut_20 : decode cX4_workOut 20 = .ok (.getfield 9, 3) := by decide +kernel
theorem dX4_workOut_23 : decode cX4_workOut 23 = .ok (.arraylength, 1) := by decide +kernel
theorem dX4_workOut_24 : decode cX4_workOut 24 = .ok (.getstatic 39, 3) := by decide +kernel
theorem dX4_workOut_27 : decode cX4_workOut 27 = .ok (.aload_n 0, 1) := by decide +kernel
theorem dX4_workOut_28 : decode cX4_workOut 28 = .ok (.getfield 37, 3) := by decide +kernel
theorem dX4_workOut_31 : decode cX4_workOut 31 = .ok (.iaload, 1) := by decide +kernel
theorem dX4_workOut_32 : decode cX4_workOut 32 = .ok (.if_icmp .ge 17, 3) := by decide +kernel
theorem dX4_workOut_35 : decode cX4_workOut 35 = .ok (.aload_n 0, 1) := by decide +kernel
theorem dX4_workOut_36 : decode cX4_workOut 36 = .ok (.getstatic 39, 3) := by decide +kernel
theorem dX4_workOut_39 : decode cX4_workOut 39 = .ok (.aload_n 0, 1) := by decide +kernel
theorem dX4_workOut_40 : decode cX4_workOut 40 = .ok (.getfield 37, 3) := by decide +kernel
theorem dX4_workOut_43 : decode cX4_workOut 43 = .ok (.iaload, 1) := by decide +kernel
theorem dX4_workOut_44 : decode cX4_workOut 44 = .ok (.newarray .byte, 2) := by decide +kernel
theorem dX4_workOut_46 : decode cX4_workOut 46 = .ok (.putfield 9, 3) := by decide +kernel
theorem dX4_workOut_49 : decode cX4_workOut 49 = .ok (.iconst 0, 1) := by decide +kernel
theorem dX4_workOut_50 : decode cX4_workOut 50 = .ok (.istore_n 1, 1) := by decide +kernel
theorem dX4_workOut_51 : decode cX4_workOut 51 = .ok (.iload_n 1, 1) := by decide +kernel
theorem dX4_workOut_52 : decode cX4_workOut 52 = .ok (.getstatic 39, 3) := by decide +kernel
theorem dX4_workOut_55 : decode cX4_workOut 55 = .ok (.aload_n 0, 1) := by decide +kernel
theorem dX4_workOut_56 : decode cX4_workOut 56 = .ok (.getfield 37, 3) := by decide +kernel
theorem dX4_workOut_59 : decode cX4_workOut 59 = .ok (.iaload, 1) := by decide +kernel
theorem dX4_workOut_60 : decode cX4_workOut 60 = .ok (.if_icmp .ge 33, 3) := by decide +kernel
theorem dX4_workOut_63 : decode cX4_workOut 63 = .ok (.aload_n 0, 1) := by decide +kernel
theorem dX4_workOut_64 : decode cX4_workOut 64 = .ok (.getfield 9, 3) := by decide +kernel
theorem dX4_workOut_67 : decode cX4_workOut 67 = .ok (.iload_n 1, 1) := by decide +kernel
theorem dX4_workOut_68 : decode cX4_workOut 68 = .ok (.aload_n 0, 1) := by decide +kernel
theorem dX4_workOut_69 : decode cX4_workOut 69 = .ok (.iload_n 1, 1) := by decide +kernel
theorem dX4_workOut_70 : decode cX4_workOut 70 = .ok (.invokevirtual 43, 3) := by decide +kernel
theorem dX4_workOut_73 : decode cX4_workOut 73 = .ok (.ifCond .eq 7, 3) := by decide +kernel
theorem dX4_workOut_76 : decode cX4_workOut 76 = .ok (.iconst 0, 1) := by decide +kernel
theorem dX4_workOut_77 : decode cX4_workOut 77 = .ok (.goto 8, 3) := by decide +kernel
theorem dX4_workOut_80 : decode cX4_workOut 80 = .ok (.aload_n 0, 1) := by decide +kernel
theorem dX4_workOut_81 : decode cX4_workOut 81 = .ok (.iload_n 1, 1) := by decide +kernel
theorem dX4_workOut_82 : decode cX4_workOut 82 = .ok (.invokevirtual 47, 3) := by decide +kernel
theorem dX4_workOut_85 : decode cX4_workOut 85 = .ok (.i2b, 1) := by decide +kernel
theorem dX4_workOut_86 : decode cX4_workOut 86 = .ok (.bastore, 1) := by decide +kernel
theorem dX4_workOut_87 : decode cX4_workOut 87 = .ok (.iinc 1 1, 3) := by decide +kernel
theorem dX4_workOut_90 : decode cX4_workOut 90 = .ok (.goto (-39), 3) := by decide +kernel
theorem dX4_workOut_93 : decode cX4_workOut 93 = .ok (.return_, 1) := by decide +kernel
abbrev o_X4_workOut_q159 : Type := Int32 × (Nat → Int32) × Nat × Nat × Nat
def f_X4_workOut_q159_L51 (S : wd_W) (x1 : Int32) (n4 : Nat) (n5 : Nat) (n6 : Nat) (r10 : (Int32) → (Nat → Int32) → (Option o_X4_workOut_q159)) (x8 : Int32) (a9 : Nat → Int32) : Option o_X4_workOut_q159 :=
gd (okx x1 10) <|
if (st_pow (x1).toNatClampNeg) ≤ x8 then (
some (x1, a9, n4, n5, n6)) else (
gd (okr n5 n6 0 0 1 20000) <|
bd (f_X4_isSure_q159 (wd_o S [(15901, x1)] [] [(160, a9)] [] [(160, n4)]) x8) fun o12 =>
lk (fun x14 x15 =>
lz (x14.toInt8.toInt32) fun x17 =>
gd (okx x15 n4) <|
lz (upd a9 x15.toNatClampNeg (vp_nar .byte x17)) fun a19 =>
r10 (x8 + (1 : Int32)) a19) fun k85_16 =>
if o12 = 0 then (
gd (okr n5 n6 0 0 1 20000) <|
bd (f_X4_leastFrom_q159 (wd_o S [(15901, x1)] [] [(160, a9)] [] [(160, n4)]) x8) fun o20 =>
k85_16 o20 x8) else (
k85_16 (0 : Int32) x8))
def f_X4_workOut_q159 (S : wd_W) : Option o_X4_workOut_q159 :=
lz ((if (9 : Int32) < (S.1 11700) then (9 : Int32) else (S.1 11700))) fun x1 =>
gd (okx x1 10) <|
lk (fun a3 n4 n5 n6 =>
it2 (f_X4_workOut_q159_L51 S x1 n4 n5 n6) fuel (0 : Int32) a3) fun k49_7 =>
if (st_pow (x1).toNatClampNeg) ≤ (Int32.ofNat (S.2.2.2.2 160)) then (
k49_7 (S.2.2.1 160) (S.2.2.2.2 160) 0 0) else (
gd (okx x1 10) <|
lz (st_pow (x1).toNatClampNeg) fun x26 =>
gd (okg x26 0 0 1 20000) <|
k49_7 (fun _ => 0) ((x26).toNatClampNeg) (0 + 1) (0 + (x26).toNatClampNeg))
set_option maxRecDepth 100000 in
set_option maxHeartbeats 4000000 in
theorem c_X4_workOut_q159 (l : Launch) (D : va_G) (q g : Nat → Nat) (cy : Nat → ClassId) (z : (Nat → Nat) × (Nat → Nat) × Nat) (S : wd_W) (o : o_X4_workOut_q159) (hf : f_X4_workOut_q159 S = some o) : MX layX l yX4_workOut cX4_workOut 2 none ({ frames := 3, cells := 1, slots := 20000, locals := 67 } : Room) D q g cy z [.ref (q 159)] S true (none) (wd_o S [(15901, o.1)] [] [(160, o.2.1)] [] [(160, o.2.2.1)]) o.2.2.2.1 o.2.2.2.2 := by
  refine mx_of (own := RX4) (lc := [(0, .ref (q 159))]) (by decide +kernel) rfl layX_ok (Nat.le_of_ble_eq_true rfl) rfl ?_
  intro X hXl hXq hXz hC hQ
  subst hXl; subst hXq; subst hXz
  unfold f_X4_workOut_q159 at hf
  refine go_keys (L1 := [(15901, (S.1 15901))]) (L2 := []) (L3 := [(160, (S.2.2.1 160))]) (L4 := []) (L5 := [(160, (S.2.2.2.2 160))]) [15901] [] [160] [] [160] rfl rfl rfl rfl rfl ?_
  refine go_aload_n (pc' := 1) hC dX4_workOut_0 rfl rfl ?_
  refine go_aload_n (pc' := 2) hC dX4_workOut_1 rfl rfl ?_
  refine go_getq (pc' := 5) hC 159 0 layX_159 rfl rfl inlX4 (Nat.le_of_ble_eq_true rfl) mw_175 rfl dX4_workOut_2 rfl ?_
  refine go_getq (pc' := 8) hC 106 1 layX_106 rfl rfl inlX8 (Nat.le_of_ble_eq_true rfl) mw_832 rfl dX4_workOut_5 rfl ?_
  refine go_geti (v := (S.1 11700)) (pc' := 11) hC 117 0 layX_117 rfl rfl inlX10 (Nat.le_of_ble_eq_true rfl) mw_833 rfl dX4_workOut_8 rfl rfl ?_
  refine go_bipush (pc' := 13) hC dX4_workOut_11 kb_9 rfl ?_
  refine go_mmin (pc' := 16) hC dX4_workOut_13 mw_834 (Nat.le_of_ble_eq_true rfl) (Nat.le_of_ble_eq_true rfl) (Nat.le_of_ble_eq_true rfl) (Nat.le_of_ble_eq_true rfl) rfl ?_
  refine go_namei (fun x1 hx => ?_)
  have hf := lz_r hx hf
  clear hx
  refine go_puti (L1' := [(15901, x1)]) (pc' := 19) hC 159 1 layX_159 rfl rfl inlX4 tyX4_ok nmX4 (Nat.le_of_ble_eq_true rfl) mw_835 rfl rfl rfl rfl dX4_workOut_16 rfl rfl rfl ?_
  refine go_aload_n (pc' := 20) hC dX4_workOut_19 rfl rfl ?_
  refine go_getg (pc' := 23) hC 159 2 layX_159 rfl rfl inlX4 (Nat.le_of_ble_eq_true rfl) mw_174 rfl dX4_workOut_20 rfl ?_
  refine go_aleng (v := Int32.ofNat (S.2.2.2.2 160)) (pc' := 24) hC 160 layX_160 (Nat.le_of_ble_eq_true rfl) rfl rfl dX4_workOut_23 rfl ?_
  refine go_getpow (pc' := 27) hC mw_836 dX4_workOut_24 rfl ?_
  refine go_aload_n (pc' := 28) hC dX4_workOut_27 rfl rfl ?_
  refine go_geti (v := x1) (pc' := 31) hC 159 1 layX_159 rfl rfl inlX4 (Nat.le_of_ble_eq_true rfl) mw_835 rfl dX4_workOut_28 rfl rfl ?_
  obtain ⟨h2, hf⟩ := gd_e hf
  refine go_pow (pc' := 32) hC dX4_workOut_31 (okx_in h2) rfl ?_
  obtain ⟨k49_7, hk49_7, hf⟩ := lk_e4 hf
  have jk49_7 : ∀ (a3 : Nat → Int32) (n4 : Nat) (n5 : Nat) (n6 : Nat) (g : Nat → Nat), k49_7 a3 n4 n5 n6 = some o → Go X layX S 49 [(0, .ref (x_q X 159))] [] g [(15901, x1)] [] [(160, a3)] [] [(160, n4)] n5 n6 := by
    intro a3 n4 n5 n6 g hf
    have hf := hk49_7 a3 n4 n5 n6 hf
    clear hk49_7
    refine go_iconst (pc' := 50) hC dX4_workOut_49 ki_0 rfl ?_
    refine go_istore_n (lc' := [(0, .ref (x_q X 159)), (1, .int (0 : Int32))]) (pc' := 51) hC dX4_workOut_50 (Nat.le_of_ble_eq_true rfl) rfl rfl ?_
    have l51_24 : ∀ (nn : Nat) (x8 : Int32) (a9 : Nat → Int32) (g : Nat → Nat), it2 (f_X4_workOut_q159_L51 S x1 n4 n5 n6) nn x8 a9 = some o → Go X layX S 51 [(0, .ref (x_q X 159)), (1, .int x8)] [] g [(15901, x1)] [] [(160, a9)] [] [(160, n4)] n5 n6 := by
      intro nn
      induction nn with
      | zero =>
        intro x8 a9 g hf
        exact none_no hf
      | succ nn ih =>
        intro x8 a9 g hf
        have hf : f_X4_workOut_q159_L51 S x1 n4 n5 n6 (it2 (f_X4_workOut_q159_L51 S x1 n4 n5 n6) nn) x8 a9 = some o := hf
        generalize it2 (f_X4_workOut_q159_L51 S x1 n4 n5 n6) nn = r10 at ih hf
        unfold f_X4_workOut_q159_L51 at hf
        refine go_iload_n (pc' := 52) hC dX4_workOut_51 rfl rfl ?_
        refine go_getpow (pc' := 55) hC mw_836 dX4_workOut_52 rfl ?_
        refine go_aload_n (pc' := 56) hC dX4_workOut_55 rfl rfl ?_
        refine go_geti (v := x1) (pc' := 59) hC 159 1 layX_159 rfl rfl inlX4 (Nat.le_of_ble_eq_true rfl) mw_835 rfl dX4_workOut_56 rfl rfl ?_
        obtain ⟨h11, hf⟩ := gd_e hf
        refine go_pow (pc' := 60) hC dX4_workOut_59 (okx_in h11) rfl ?_
        refine go_icmp_ge (tgt := 93) (pc' := 63) hC dX4_workOut_60 (by decide) rfl (fun h23 => ?_) (fun h23 => ?_)
        · have hf := ite_t h23 hf
          obtain rfl := Option.some.inj hf
          exact go_vret hC hQ dX4_workOut_93 rfl rfl rfl (fun h => nomatch h) rfl rfl
        · have hf := ite_f h23 hf
          refine go_aload_n (pc' := 64) hC dX4_workOut_63 rfl rfl ?_
          refine go_getg (pc' := 67) hC 159 2 layX_159 rfl rfl inlX4 (Nat.le_of_ble_eq_true rfl) mw_174 rfl dX4_workOut_64 rfl ?_
          refine go_iload_n (pc' := 68) hC dX4_workOut_67 rfl rfl ?_
          refine go_aload_n (pc' := 69) hC dX4_workOut_68 rfl rfl ?_
          refine go_iload_n (pc' := 70) hC dX4_workOut_69 rfl rfl ?_
          obtain ⟨h13, hf⟩ := gd_e hf
          obtain ⟨o12, ho12, hf⟩ := bd_e hf
          refine go_callV0 (pc' := 73) (As := [.int x8]) (st := [.int x8, .ref (g 160)]) (st' := [.int o12, .int x8, .ref (g 160)])   (rc := { frames := 2, cells := 0, slots := 0, locals := 42 }) (b := 159) hC dX4_workOut_70 ⟨mw_837, mw_840, mw_52, yd_yX4_isSure, yp_yX4_isSure, Nat.le_of_ble_eq_true rfl, Nat.le_of_ble_eq_true rfl, (okr_c h13), (okr_s h13)⟩ mw_838 mw_839 layX_159 rfl rfl rfl (Nat.le_of_ble_eq_true rfl) (c_X4_isSure_q159 (x_l X) (x_D X) (x_q X) g (x_cy X) (x_z X) _ x8 o12 ho12) rfl rfl ?_
          obtain ⟨k85_16, hk85_16, hf⟩ := lk_e2 hf
          have jk85_16 : ∀ (x14 : Int32) (x15 : Int32) (g : Nat → Nat), k85_16 x14 x15 = some o → Go X layX S 85 [(0, .ref (x_q X 159)), (1, .int x8)] [.int x14, .int x15, .ref (g 160)] g [(15901, x1)] [] [(160, a9)] [] [(160, n4)] n5 n6 := by
            intro x14 x15 g hf
            have hf := hk85_16 x14 x15 hf
            clear hk85_16
            refine go_i2b (pc' := 86) hC dX4_workOut_85 rfl ?_
            refine go_namei (fun x17 hx => ?_)
            have hf := lz_r hx hf
            clear hx
            obtain ⟨h18, hf⟩ := gd_e hf
            refine go_bastg (f := a9) (pc' := 87) hC 160 layX_160 rfl rfl dX4_workOut_86 (okx_in h18) rfl rfl (fun a19 ha L3' hL => ?_)
            have hf := lz_r ha hf
            clear ha
            obtain rfl : L3' = [(160, a19)] := hL.symm
            refine go_iinc (lc' := [(0, .ref (x_q X 159)), (1, .int (x8 + (1 : Int32)))]) (pc' := 90) hC dX4_workOut_87 rfl ki_1 (Nat.le_of_ble_eq_true rfl) rfl rfl ?_
            refine go_goto (tgt := 51) hC dX4_workOut_90 (by decide) ?_
            exact ih (x8 + (1 : Int32)) a19 g hf
          clear hk85_16
          refine go_if_eq (tgt := 80) (pc' := 76) hC dX4_workOut_73 (by decide) rfl (fun h22 => ?_) (fun h22 => ?_)
          · have hf := ite_t h22 hf
            refine go_aload_n (pc' := 81) hC dX4_workOut_80 rfl rfl ?_
            refine go_iload_n (pc' := 82) hC dX4_workOut_81 rfl rfl ?_
            obtain ⟨h21, hf⟩ := gd_e hf
            obtain ⟨o20, ho20, hf⟩ := bd_e hf
            refine go_callV0 (pc' := 85) (As := [.int x8]) (st := [.int x8, .ref (g 160)]) (st' := [.int o20, .int x8, .ref (g 160)])   (rc := { frames := 2, cells := 0, slots := 0, locals := 43 }) (b := 159) hC dX4_workOut_82 ⟨mw_842, mw_845, mw_52, yd_yX4_leastFrom, yp_yX4_leastFrom, Nat.le_of_ble_eq_true rfl, Nat.le_of_ble_eq_true rfl, (okr_c h21), (okr_s h21)⟩ mw_843 mw_844 layX_159 rfl rfl rfl (Nat.le_of_ble_eq_true rfl) (c_X4_leastFrom_q159 (x_l X) (x_D X) (x_q X) g (x_cy X) (x_z X) _ x8 o20 ho20) rfl rfl ?_
            exact jk85_16 o20 x8 g hf
          · have hf := ite_f h22 hf
            refine go_iconst (pc' := 77) hC dX4_workOut_76 ki_0 rfl ?_
            refine go_goto (tgt := 85) hC dX4_workOut_77 (by decide) ?_
            exact jk85_16 (0 : Int32) x8 g hf
    exact l51_24 fuel (0 : Int32) a3 g hf
  clear hk49_7
  refine go_icmp_ge (tgt := 49) (pc' := 35) hC dX4_workOut_32 (by decide) rfl (fun h28 => ?_) (fun h28 => ?_)
  · have hf := ite_t h28 hf
    exact jk49_7 (S.2.2.1 160) (S.2.2.2.2 160) 0 0 g hf
  · have hf := ite_f h28 hf
    refine go_aload_n (pc' := 36) hC dX4_workOut_35 rfl rfl ?_
    refine go_getpow (pc' := 39) hC mw_836 dX4_workOut_36 rfl ?_
    refine go_aload_n (pc' := 40) hC dX4_workOut_39 rfl rfl ?_
    refine go_geti (v := x1) (pc' := 43) hC 159 1 layX_159 rfl rfl inlX4 (Nat.le_of_ble_eq_true rfl) mw_835 rfl dX4_workOut_40 rfl rfl ?_
    obtain ⟨h25, hf⟩ := gd_e hf
    refine go_pow (pc' := 44) hC dX4_workOut_43 (okx_in h25) rfl ?_
    refine go_namei (fun x26 hx => ?_)
    have hf := lz_r hx hf
    clear hx
    obtain ⟨h27, hf⟩ := gd_e hf
    refine go_growA (L3' := [(160, (fun _ => 0))]) (L5' := [(160, (x26).toNatClampNeg)]) (cells' := 0 + 1) (slots' := 0 + (x26).toNatClampNeg) (pc' := 49) (atype := .byte) hC 159 2 160 layX_159 rfl layX_160 (Or.inr (Or.inl ⟨rfl, rfl⟩)) (by decide +kernel) rfl inlX4 tyX4_ok nmX4 (Nat.le_of_ble_eq_true rfl) mw_174 rfl rfl (fun _ => rfl) (fun _ => rfl) mw_95 rfl dX4_workOut_44 dX4_workOut_46 rfl h27 rfl rfl rfl rfl rfl rfl rfl rfl (fun g => ?_)
    exact jk49_7 (fun _ => 0) ((x26).toNatClampNeg) (0 + 1) (0 + (x26).toNatClampNeg) g hf
theorem dX11_know_0 : decode cX11_know 0 = .ok (.aload_n 0, 1) := by decide +kernel
theorem dX11_know_1 : decode cX11_know 1 = .ok (.iconst 1, 1) := by decide +kernel
theorem dX11_know_2 : decode cX11_know 2 = .ok (.invokevirtual 246, 3) := by decide +kernel
theorem dX11_know_5 : decode cX11_know 5 = .ok (.ifCond .eq 10, 3) := by decide +kernel
theorem dX11_know_8 : decode cX11_know 8 = .ok (.aload_n 0, 1) := by decide +kernel
theorem dX11_know_9 : decode cX11_know 9 = .ok (.getfield 53, 3) := by decide +kernel
theorem dX11_know_12 : decode cX11_know 12 = .ok (.invokevirtual 350, 3) := by decide +kernel
theorem dX11_know_15 : decode cX11_know 15 = .ok (.aload_n 0, 1) := by decide +kernel
theorem dX11_know_16 : decode cX11_know 16 = .ok (.iload_n 1, 1) := by decide +kernel
theorem dX11_know_17 : decode cX11_know 17 = .ok (.iconst 2, 1) := by decide +kernel
theorem dX11_know_18 : decode cX11_know 18 = .ok (.invokevirtual 353, 3) := by decide +kernel
theorem dX11_know_21 : decode cX11_know 21 = .ok (.ifCond .eq 10, 3) := by decide +kernel
theorem dX11_know_24 : decode cX11_know 24 = .ok (.aload_n 0, 1) := by decide +kernel
theorem dX11_know_25 : decode cX11_know 25 = .ok (.getfield 62, 3) := by decide +kernel
theorem dX11_know_28 : decode cX11_know 28 = .ok (.invokevirtual 356, 3) := by decide +kernel
theorem dX11_know_31 : decode cX11_know 31 = .ok (.aload_n 0, 1) := by decide +kernel
theorem dX11_know_32 : decode cX11_know 32 = .ok (.iload_n 1, 1) := by decide +kernel
theorem dX11_know_33 : decode cX11_know 33 = .ok (.iconst 4, 1) := by decide +kernel
theorem dX11_know_34 : decode cX11_know 34 = .ok (.invokevirtual 353, 3) := by decide +kernel
theorem dX11_know_37 : decode cX11_know 37 = .ok (.ifCond .eq 10, 3) := by decide +kernel
theorem dX11_know_40 : decode cX11_know 40 = .ok (.aload_n 0, 1) := by decide +kernel
theorem dX11_know_41 : decode cX11_know 41 = .ok (.getfield 66, 3) := by decide +kernel
theorem dX11_know_44 : decode cX11_know 44 = .ok (.invokevirtual 356, 3) := by decide +kernel
theorem dX11_know_47 : decode cX11_know 47 = .ok (.aload_n 0, 1) := by decide +kernel
theorem dX11_know_48 : decode cX11_know 48 = .ok (.iload_n 1, 1) := by decide +kernel
theorem dX11_know_49 : decode cX11_know 49 = .ok (.bipush 8, 2) := by decide +kernel
theorem dX11_know_51 : decode cX11_know 51 = .ok (.invokevirtual 353, 3) := by decide +kernel
theorem dX11_know_54 : decode cX11_know 54 = .ok (.ifCond .eq 10, 3) := by decide +kernel
theorem dX11_know_57 : decode cX11_know 57 = .ok (.aload_n 0, 1) := by decide +kernel
theorem dX11_know_58 : decode cX11_know 58 = .ok (.getfield 74, 3) := by decide +kernel
theorem dX11_know_61 : decode cX11_know 61 = .ok (.invokevirtual 359, 3) := by decide +kernel
theorem dX11_know_64 : decode cX11_know 64 = .ok (.aload_n 0, 1) := by decide +kernel
theorem dX11_know_65 : decode cX11_know 65 = .ok (.iload_n 1, 1) := by decide +kernel
theorem dX11_know_66 : decode cX11_know 66 = .ok (.bipush 16, 2) := by decide +kernel
theorem dX11_know_68 : decode cX11_know 68 = .ok (.invokevirtual 353, 3) := by decide +kernel
theorem dX11_know_71 : decode cX11_know 71 = .ok (.ifCond .eq 10, 3) := by decide +kernel
theorem dX11_know_74 : decode cX11_know 74 = .ok (.aload_n 0, 1) := by decide +kernel
theorem dX11_know_75 : decode cX11_know 75 = .ok (.getfield 74, 3) := by decide +kernel
theorem dX11_know_78 : decode cX11_know 78 = .ok (.invokevirtual 360, 3) := by decide +kernel
theorem dX11_know_81 : decode cX11_know 81 = .ok (.aload_n 0, 1) := by decide +kernel
theorem dX11_know_82 : decode cX11_know 82 = .ok (.iload_n 1, 1) := by decide +kernel
theorem dX11_know_83 : decode cX11_know 83 = .ok (.bipush 32, 2) := by decide +kernel
theorem dX11_know_85 : decode cX11_know 85 = .ok (.invokevirtual 353, 3) := by decide +kernel
theorem dX11_know_88 : decode cX11_know 88 = .ok (.ifCond .eq 10, 3) := by decide +kernel
theorem dX11_know_91 : decode cX11_know 91 = .ok (.aload_n 0, 1) := by decide +kernel
theorem dX11_know_92 : decode cX11_know 92 = .ok (.getfield 83, 3) := by decide +kernel
theorem dX11_know_95 : decode cX11_know 95 = .ok (.invokevirtual 363, 3) := by decide +kernel
theorem dX11_know_98 : decode cX11_know 98 = .ok (.aload_n 0, 1) := by decide +kernel
theorem dX11_know_99 : decode cX11_know 99 = .ok (.iload_n 1, 1) := by decide +kernel
theorem dX11_know_100 : decode cX11_know 100 = .ok (.sipush 128, 3) := by decide +kernel
theorem dX11_know_103 : decode cX11_know 103 = .ok (.invokevirtual 353, 3) := by decide +kernel
theorem dX11_know_106 : decode cX11_know 106 = .ok (.ifCond .eq 10, 3) := by decide +kernel
theorem dX11_know_109 : decode cX11_know 109 = .ok (.aload_n 0, 1) := by decide +kernel
theorem dX11_know_110 : decode cX11_know 110 = .ok (.getfield 101, 3) := by decide +kernel
theorem dX11_know_113 : decode cX11_know 113 = .ok (.invokevirtual 366, 3) := by decide +kernel
theorem dX11_know_116 : decode cX11_know 116 = .ok (.return_, 1) := by decide +kernel
abbrev o_X11_know : Type := wd_W × Nat × Nat
def f_X11_know (S : wd_W) (p1 : Int32) : Option o_X11_know :=
bd (f_X11_isNew (wd_o S [(7, (S.1 7))] [] [] [] []) (1 : Int32)) fun o1 =>
lk (fun S2 n3 n4 =>
gd (okr n3 n4 0 0 12 140000) <|
bd (f_X11_lacks (wd_o S2 [(7, (S2.1 7))] [] [] [] []) p1 (2 : Int32)) fun o6 =>
lk (fun S8 =>
gd (okr n3 n4 0 0 12 140000) <|
bd (f_X11_lacks (wd_o S8 [(7, (S8.1 7))] [] [] [] []) p1 (4 : Int32)) fun o10 =>
lk (fun S12 =>
gd (okr n3 n4 0 0 12 140000) <|
bd (f_X11_lacks (wd_o S12 [(7, (S12.1 7))] [] [] [] []) p1 (8 : Int32)) fun o14 =>
lk (fun S16 n17 n18 =>
gd (okr n17 n18 0 0 12 140000) <|
bd (f_X11_lacks (wd_o S16 [(7, (S16.1 7))] [] [] [] []) p1 (16 : Int32)) fun o20 =>
lk (fun S22 n23 n24 =>
gd (okr n23 n24 0 0 12 140000) <|
bd (f_X11_lacks (wd_o S22 [(7, (S22.1 7))] [] [] [] []) p1 (32 : Int32)) fun o26 =>
lk (fun S28 n29 n30 =>
gd (okr n29 n30 0 0 12 140000) <|
bd (f_X11_lacks (wd_o S28 [(7, (S28.1 7))] [] [] [] []) p1 (128 : Int32)) fun o32 =>
if o32.1 = 0 then (
some ((wd_o S28 [(7, o32.2)] [] [] [] []), n29, n30)) else (
lz (wd_o S28 [(7, o32.2)] [] [] [] []) fun S35 =>
gd (okr n29 n30 1 20000 12 140000) <|
bd (f_X4_workOut_q159 (wd_o S35 [(15901, (S35.1 15901))] [] [(160, (S35.2.2.1 160))] [] [(160, (S35.2.2.2.2 160))])) fun o34 =>
some ((wd_o S35 [(15901, o34.1)] [] [(160, o34.2.1)] [] [(160, o34.2.2.1)]), n29 + o34.2.2.2.1, n30 + o34.2.2.2.2))) fun k98_31 =>
if o26.1 = 0 then (
k98_31 (wd_o S22 [(7, o26.2)] [] [] [] []) n23 n24) else (
lz (wd_o S22 [(7, o26.2)] [] [] [] []) fun S39 =>
gd (okr n23 n24 1 5000 12 140000) <|
bd (f_X5_compare_q137 (wd_o S39 [] [] [(138, (S39.2.2.1 138))] [] [(138, (S39.2.2.2.2 138))])) fun o38 =>
k98_31 (wd_o S39 [] [] [(138, o38.1)] [] [(138, o38.2.1)]) (n23 + o38.2.2.1) (n24 + o38.2.2.2))) fun k81_25 =>
if o20.1 = 0 then (
k81_25 (wd_o S16 [(7, o20.2)] [] [] [] []) n17 n18) else (
lz (wd_o S16 [(7, o20.2)] [] [] [] []) fun S43 =>
gd (okr n17 n18 1 600 12 140000) <|
bd (f_X0_mendAll_q131 (wd_o S43 [] [] [] [(133, (S43.2.2.2.1 133)), (135, (S43.2.2.2.1 135)), (136, (S43.2.2.2.1 136))] [(133, (S43.2.2.2.2 133))])) fun o42 =>
k81_25 (wd_o S43 [] [] [] [(133, o42.1), (135, o42.2.1), (136, o42.2.2.1)] [(133, o42.2.2.2.1)]) (n17 + o42.2.2.2.2.1) (n18 + o42.2.2.2.2.2))) fun k64_19 =>
if o14.1 = 0 then (
k64_19 (wd_o S12 [(7, o14.2)] [] [] [] []) n3 n4) else (
lz (wd_o S12 [(7, o14.2)] [] [] [] []) fun S47 =>
gd (okr n3 n4 4 20000 12 140000) <|
bd (f_X0_workOut_q131 (wd_o S47 [(13105, (S47.1 13105))] [] [] [(132, (S47.2.2.2.1 132)), (134, (S47.2.2.2.1 134)), (135, (S47.2.2.2.1 135)), (136, (S47.2.2.2.1 136))] [(132, (S47.2.2.2.2 132)), (134, (S47.2.2.2.2 134)), (135, (S47.2.2.2.2 135)), (136, (S47.2.2.2.2 136))])) fun o46 =>
k64_19 (wd_o S47 [(13105, o46.1)] [] [] [(132, o46.2.1), (134, o46.2.2.1), (135, o46.2.2.2.1), (136, o46.2.2.2.2.1)] [(132, o46.2.2.2.2.2.1), (134, o46.2.2.2.2.2.2.1), (135, o46.2.2.2.2.2.2.2.1), (136, o46.2.2.2.2.2.2.2.2.1)]) (n3 + o46.2.2.2.2.2.2.2.2.2.1) (n4 + o46.2.2.2.2.2.2.2.2.2.2))) fun k47_13 =>
if o10.1 = 0 then (
k47_13 (wd_o S8 [(7, o10.2)] [] [] [] [])) else (
lz (wd_o S8 [(7, o10.2)] [] [] [] []) fun S51 =>
gd (okr n3 n4 0 0 12 140000) <|
bd (f_X3_find_q127 (wd_o S51 [(12700, (S51.1 12700)), (12701, (S51.1 12701))] [] [(128, (S51.2.2.1 128))] [(129, (S51.2.2.2.1 129)), (130, (S51.2.2.2.1 130))] [])) fun o50 =>
k47_13 (wd_o S51 [(12700, o50.1), (12701, o50.2.1)] [] [(128, o50.2.2.1)] [(129, o50.2.2.2.1), (130, o50.2.2.2.2)] []))) fun k31_9 =>
if o6.1 = 0 then (
k31_9 (wd_o S2 [(7, o6.2)] [] [] [] [])) else (
lz (wd_o S2 [(7, o6.2)] [] [] [] []) fun S55 =>
gd (okr n3 n4 0 0 12 140000) <|
bd (f_X3_find_q123 (wd_o S55 [(12300, (S55.1 12300)), (12301, (S55.1 12301))] [] [(124, (S55.2.2.1 124))] [(125, (S55.2.2.2.1 125)), (126, (S55.2.2.2.1 126))] [])) fun o54 =>
k31_9 (wd_o S55 [(12300, o54.1), (12301, o54.2.1)] [] [(124, o54.2.2.1)] [(125, o54.2.2.2.1), (126, o54.2.2.2.2)] []))) fun k15_5 =>
if o1.1 = 0 then (
k15_5 (wd_o S [(7, o1.2)] [] [] [] []) 0 0) else (
lz (wd_o S [(7, o1.2)] [] [] [] []) fun S59 =>
bd (f_X8_workOut_q106 (wd_o S59 [(10602, (S59.1 10602)), (10603, (S59.1 10603)), (11100, (S59.1 11100)), (11101, (S59.1 11101)), (11102, (S59.1 11102)), (11103, (S59.1 11103)), (11700, (S59.1 11700))] [] [(109, (S59.2.2.1 109)), (110, (S59.2.2.1 110)), (112, (S59.2.2.1 112)), (113, (S59.2.2.1 113)), (114, (S59.2.2.1 114)), (115, (S59.2.2.1 115)), (118, (S59.2.2.1 118)), (119, (S59.2.2.1 119))] [(107, (S59.2.2.2.1 107)), (108, (S59.2.2.2.1 108))] [(107, (S59.2.2.2.2 107)), (108, (S59.2.2.2.2 108)), (109, (S59.2.2.2.2 109)), (110, (S59.2.2.2.2 110))])) fun o58 =>
k15_5 (wd_o S59 [(10602, o58.1), (10603, o58.2.1), (11100, o58.2.2.1), (11101, o58.2.2.2.1), (11102, o58.2.2.2.2.1), (11103, o58.2.2.2.2.2.1), (11700, o58.2.2.2.2.2.2.1)] [] [(109, o58.2.2.2.2.2.2.2.1), (110, o58.2.2.2.2.2.2.2.2.1), (112, o58.2.2.2.2.2.2.2.2.2.1), (113, o58.2.2.2.2.2.2.2.2.2.2.1), (114, o58.2.2.2.2.2.2.2.2.2.2.2.1), (115, o58.2.2.2.2.2.2.2.2.2.2.2.2.1), (118, o58.2.2.2.2.2.2.2.2.2.2.2.2.2.1), (119, o58.2.2.2.2.2.2.2.2.2.2.2.2.2.2.1)] [(107, o58.2.2.2.2.2.2.2.2.2.2.2.2.2.2.2.1), (108, o58.2.2.2.2.2.2.2.2.2.2.2.2.2.2.2.2.1)] [(107, o58.2.2.2.2.2.2.2.2.2.2.2.2.2.2.2.2.2.1), (108, o58.2.2.2.2.2.2.2.2.2.2.2.2.2.2.2.2.2.2.1), (109, o58.2.2.2.2.2.2.2.2.2.2.2.2.2.2.2.2.2.2.2.1), (110, o58.2.2.2.2.2.2.2.2.2.2.2.2.2.2.2.2.2.2.2.2.1)]) (0 + o58.2.2.2.2.2.2.2.2.2.2.2.2.2.2.2.2.2.2.2.2.2.1) (0 + o58.2.2.2.2.2.2.2.2.2.2.2.2.2.2.2.2.2.2.2.2.2.2))
set_option maxRecDepth 100000 in
set_option maxHeartbeats 4000000 in
theorem c_X11_know (l : Launch) (D : va_G) (q g : Nat → Nat) (cy : Nat → ClassId) (z : (Nat → Nat) × (Nat → Nat) × Nat) (S : wd_W) (p1 : Int32) (o : o_X11_know) (hf : f_X11_know S p1 = some o) : MX layX l yX11_know cX11_know 2 none ({ frames := 4, cells := 12, slots := 140000, locals := 106 } : Room) D q g cy z [.ref (q 0), .int p1] S true (none) o.1 o.2.1 o.2.2 := by
  refine mx_of (own := RX11) (lc := [(0, .ref (q 0)), (1, .int p1)]) (by decide +kernel) rfl layX_ok (Nat.le_of_ble_eq_true rfl) rfl ?_
  intro X hXl hXq hXz hC hQ
  subst hXl; subst hXq; subst hXz
  unfold f_X11_know at hf
  refine go_aload_n (pc' := 1) hC dX11_know_0 rfl rfl ?_
  refine go_iconst (pc' := 2) hC dX11_know_1 ki_1 rfl ?_
  refine go_keys (L1 := [(7, (S.1 7))]) (L2 := []) (L3 := []) (L4 := []) (L5 := []) [7] [] [] [] [] rfl rfl rfl rfl rfl ?_
  obtain ⟨o1, ho1, hf⟩ := bd_e hf
  refine go_callV1 (pc' := 5) (As := [.int (1 : Int32)]) (st := []) (st' := [.int o1.1]) (L1' := [(7, o1.2)]) (L2' := []) (L3' := []) (L4' := []) (L5' := []) (cells' := 0) (slots' := 0)  (b := 0) hC dX11_know_2 ⟨mw_601, mw_604, mw_2, yd_yX11_isNew, yp_yX11_isNew, Nat.le_of_ble_eq_true rfl, Nat.le_of_ble_eq_true rfl, (Nat.le_of_ble_eq_true rfl), (Nat.le_of_ble_eq_true rfl)⟩ mw_602 mw_603 layX_0 rfl rfl rfl (Nat.le_of_ble_eq_true rfl) (c_X11_isNew (x_l X) (x_D X) (x_q X) g (x_cy X) (x_z X) _ (1 : Int32) o1 ho1) rfl rfl rfl rfl rfl rfl rfl rfl rfl rfl rfl rfl rfl rfl ?_
  obtain ⟨k15_5, hk15_5, hf⟩ := lk_e3 hf
  have jk15_5 : ∀ (S2 : wd_W) (n3 : Nat) (n4 : Nat) (g : Nat → Nat), k15_5 S2 n3 n4 = some o → Go X layX S2 15 [(0, .ref (x_q X 0)), (1, .int p1)] [] g [] [] [] [] [] n3 n4 := by
    intro S2 n3 n4 g hf
    have hf := hk15_5 S2 n3 n4 hf
    clear hk15_5
    refine go_aload_n (pc' := 16) hC dX11_know_15 rfl rfl ?_
    refine go_iload_n (pc' := 17) hC dX11_know_16 rfl rfl ?_
    refine go_iconst (pc' := 18) hC dX11_know_17 ki_2 rfl ?_
    refine go_keys (L1 := [(7, (S2.1 7))]) (L2 := []) (L3 := []) (L4 := []) (L5 := []) [7] [] [] [] [] rfl rfl rfl rfl rfl ?_
    obtain ⟨h7, hf⟩ := gd_e hf
    obtain ⟨o6, ho6, hf⟩ := bd_e hf
    refine go_callV1 (pc' := 21) (As := [.int p1, .int (2 : Int32)]) (st := []) (st' := [.int o6.1]) (L1' := [(7, o6.2)]) (L2' := []) (L3' := []) (L4' := []) (L5' := []) (cells' := n3) (slots' := n4) (rc := { frames := 1, cells := 0, slots := 0, locals := 22 }) (b := 0) hC dX11_know_18 ⟨mw_711, mw_714, mw_2, yd_yX11_lacks, yp_yX11_lacks, Nat.le_of_ble_eq_true rfl, Nat.le_of_ble_eq_true rfl, (okr_c h7), (okr_s h7)⟩ mw_712 mw_713 layX_0 rfl rfl rfl (Nat.le_of_ble_eq_true rfl) (c_X11_lacks (x_l X) (x_D X) (x_q X) g (x_cy X) (x_z X) _ p1 (2 : Int32) o6 ho6) rfl rfl rfl rfl rfl rfl rfl rfl rfl rfl rfl rfl rfl rfl ?_
    obtain ⟨k31_9, hk31_9, hf⟩ := lk_e1 hf
    have jk31_9 : ∀ (S8 : wd_W) (g : Nat → Nat), k31_9 S8 = some o → Go X layX S8 31 [(0, .ref (x_q X 0)), (1, .int p1)] [] g [] [] [] [] [] n3 n4 := by
      intro S8 g hf
      have hf := hk31_9 S8 hf
      clear hk31_9
      refine go_aload_n (pc' := 32) hC dX11_know_31 rfl rfl ?_
      refine go_iload_n (pc' := 33) hC dX11_know_32 rfl rfl ?_
      refine go_iconst (pc' := 34) hC dX11_know_33 ki_4 rfl ?_
      refine go_keys (L1 := [(7, (S8.1 7))]) (L2 := []) (L3 := []) (L4 := []) (L5 := []) [7] [] [] [] [] rfl rfl rfl rfl rfl ?_
      obtain ⟨h11, hf⟩ := gd_e hf
      obtain ⟨o10, ho10, hf⟩ := bd_e hf
      refine go_callV1 (pc' := 37) (As := [.int p1, .int (4 : Int32)]) (st := []) (st' := [.int o10.1]) (L1' := [(7, o10.2)]) (L2' := []) (L3' := []) (L4' := []) (L5' := []) (cells' := n3) (slots' := n4) (rc := { frames := 1, cells := 0, slots := 0, locals := 22 }) (b := 0) hC dX11_know_34 ⟨mw_711, mw_714, mw_2, yd_yX11_lacks, yp_yX11_lacks, Nat.le_of_ble_eq_true rfl, Nat.le_of_ble_eq_true rfl, (okr_c h11), (okr_s h11)⟩ mw_712 mw_713 layX_0 rfl rfl rfl (Nat.le_of_ble_eq_true rfl) (c_X11_lacks (x_l X) (x_D X) (x_q X) g (x_cy X) (x_z X) _ p1 (4 : Int32) o10 ho10) rfl rfl rfl rfl rfl rfl rfl rfl rfl rfl rfl rfl rfl rfl ?_
      obtain ⟨k47_13, hk47_13, hf⟩ := lk_e1 hf
      have jk47_13 : ∀ (S12 : wd_W) (g : Nat → Nat), k47_13 S12 = some o → Go X layX S12 47 [(0, .ref (x_q X 0)), (1, .int p1)] [] g [] [] [] [] [] n3 n4 := by
        intro S12 g hf
        have hf := hk47_13 S12 hf
        clear hk47_13
        refine go_aload_n (pc' := 48) hC dX11_know_47 rfl rfl ?_
        refine go_iload_n (pc' := 49) hC dX11_know_48 rfl rfl ?_
        refine go_bipush (pc' := 51) hC dX11_know_49 kb_8 rfl ?_
        refine go_keys (L1 := [(7, (S12.1 7))]) (L2 := []) (L3 := []) (L4 := []) (L5 := []) [7] [] [] [] [] rfl rfl rfl rfl rfl ?_
        obtain ⟨h15, hf⟩ := gd_e hf
        obtain ⟨o14, ho14, hf⟩ := bd_e hf
        refine go_callV1 (pc' := 54) (As := [.int p1, .int (8 : Int32)]) (st := []) (st' := [.int o14.1]) (L1' := [(7, o14.2)]) (L2' := []) (L3' := []) (L4' := []) (L5' := []) (cells' := n3) (slots' := n4) (rc := { frames := 1, cells := 0, slots := 0, locals := 22 }) (b := 0) hC dX11_know_51 ⟨mw_711, mw_714, mw_2, yd_yX11_lacks, yp_yX11_lacks, Nat.le_of_ble_eq_true rfl, Nat.le_of_ble_eq_true rfl, (okr_c h15), (okr_s h15)⟩ mw_712 mw_713 layX_0 rfl rfl rfl (Nat.le_of_ble_eq_true rfl) (c_X11_lacks (x_l X) (x_D X) (x_q X) g (x_cy X) (x_z X) _ p1 (8 : Int32) o14 ho14) rfl rfl rfl rfl rfl rfl rfl rfl rfl rfl rfl rfl rfl rfl ?_
        obtain ⟨k64_19, hk64_19, hf⟩ := lk_e3 hf
        have jk64_19 : ∀ (S16 : wd_W) (n17 : Nat) (n18 : Nat) (g : Nat → Nat), k64_19 S16 n17 n18 = some o → Go X layX S16 64 [(0, .ref (x_q X 0)), (1, .int p1)] [] g [] [] [] [] [] n17 n18 := by
          intro S16 n17 n18 g hf
          have hf := hk64_19 S16 n17 n18 hf
          clear hk64_19
          refine go_aload_n (pc' := 65) hC dX11_know_64 rfl rfl ?_
          refine go_iload_n (pc' := 66) hC dX11_know_65 rfl rfl ?_
          refine go_bipush (pc' := 68) hC dX11_know_66 kb_16 rfl ?_
          refine go_keys (L1 := [(7, (S16.1 7))]) (L2 := []) (L3 := []) (L4 := []) (L5 := []) [7] [] [] [] [] rfl rfl rfl rfl rfl ?_
          obtain ⟨h21, hf⟩ := gd_e hf
          obtain ⟨o20, ho20, hf⟩ := bd_e hf
          refine go_callV1 (pc' := 71) (As := [.int p1, .int (16 : Int32)]) (st := []) (st' := [.int o20.1]) (L1' := [(7, o20.2)]) (L2' := []) (L3' := []) (L4' := []) (L5' := []) (cells' := n17) (slots' := n18) (rc := { frames := 1, cells := 0, slots := 0, locals := 22 }) (b := 0) hC dX11_know_68 ⟨mw_711, mw_714, mw_2, yd_yX11_lacks, yp_yX11_lacks, Nat.le_of_ble_eq_true rfl, Nat.le_of_ble_eq_true rfl, (okr_c h21), (okr_s h21)⟩ mw_712 mw_713 layX_0 rfl rfl rfl (Nat.le_of_ble_eq_true rfl) (c_X11_lacks (x_l X) (x_D X) (x_q X) g (x_cy X) (x_z X) _ p1 (16 : Int32) o20 ho20) rfl rfl rfl rfl rfl rfl rfl rfl rfl rfl rfl rfl rfl rfl ?_
          obtain ⟨k81_25, hk81_25, hf⟩ := lk_e3 hf
          have jk81_25 : ∀ (S22 : wd_W) (n23 : Nat) (n24 : Nat) (g : Nat → Nat), k81_25 S22 n23 n24 = some o → Go X layX S22 81 [(0, .ref (x_q X 0)), (1, .int p1)] [] g [] [] [] [] [] n23 n24 := by
            intro S22 n23 n24 g hf
            have hf := hk81_25 S22 n23 n24 hf
            clear hk81_25
            refine go_aload_n (pc' := 82) hC dX11_know_81 rfl rfl ?_
            refine go_iload_n (pc' := 83) hC dX11_know_82 rfl rfl ?_
            refine go_bipush (pc' := 85) hC dX11_know_83 kb_32 rfl ?_
            refine go_keys (L1 := [(7, (S22.1 7))]) (L2 := []) (L3 := []) (L4 := []) (L5 := []) [7] [] [] [] [] rfl rfl rfl rfl rfl ?_
            obtain ⟨h27, hf⟩ := gd_e hf
            obtain ⟨o26, ho26, hf⟩ := bd_e hf
            refine go_callV1 (pc' := 88) (As := [.int p1, .int (32 : Int32)]) (st := []) (st' := [.int o26.1]) (L1' := [(7, o26.2)]) (L2' := []) (L3' := []) (L4' := []) (L5' := []) (cells' := n23) (slots' := n24) (rc := { frames := 1, cells := 0, slots := 0, locals := 22 }) (b := 0) hC dX11_know_85 ⟨mw_711, mw_714, mw_2, yd_yX11_lacks, yp_yX11_lacks, Nat.le_of_ble_eq_true rfl, Nat.le_of_ble_eq_true rfl, (okr_c h27), (okr_s h27)⟩ mw_712 mw_713 layX_0 rfl rfl rfl (Nat.le_of_ble_eq_true rfl) (c_X11_lacks (x_l X) (x_D X) (x_q X) g (x_cy X) (x_z X) _ p1 (32 : Int32) o26 ho26) rfl rfl rfl rfl rfl rfl rfl rfl rfl rfl rfl rfl rfl rfl ?_
            obtain ⟨k98_31, hk98_31, hf⟩ := lk_e3 hf
            have jk98_31 : ∀ (S28 : wd_W) (n29 : Nat) (n30 : Nat) (g : Nat → Nat), k98_31 S28 n29 n30 = some o → Go X layX S28 98 [(0, .ref (x_q X 0)), (1, .int p1)] [] g [] [] [] [] [] n29 n30 := by
              intro S28 n29 n30 g hf
              have hf := hk98_31 S28 n29 n30 hf
              clear hk98_31
              refine go_aload_n (pc' := 99) hC dX11_know_98 rfl rfl ?_
              refine go_iload_n (pc' := 100) hC dX11_know_99 rfl rfl ?_
              refine go_sipush (pc' := 103) hC dX11_know_100 ks_128 rfl ?_
              refine go_keys (L1 := [(7, (S28.1 7))]) (L2 := []) (L3 := []) (L4 := []) (L5 := []) [7] [] [] [] [] rfl rfl rfl rfl rfl ?_
              obtain ⟨h33, hf⟩ := gd_e hf
              obtain ⟨o32, ho32, hf⟩ := bd_e hf
              refine go_callV1 (pc' := 106) (As := [.int p1, .int (128 : Int32)]) (st := []) (st' := [.int o32.1]) (L1' := [(7, o32.2)]) (L2' := []) (L3' := []) (L4' := []) (L5' := []) (cells' := n29) (slots' := n30) (rc := { frames := 1, cells := 0, slots := 0, locals := 22 }) (b := 0) hC dX11_know_103 ⟨mw_711, mw_714, mw_2, yd_yX11_lacks, yp_yX11_lacks, Nat.le_of_ble_eq_true rfl, Nat.le_of_ble_eq_true rfl, (okr_c h33), (okr_s h33)⟩ mw_712 mw_713 layX_0 rfl rfl rfl (Nat.le_of_ble_eq_true rfl) (c_X11_lacks (x_l X) (x_D X) (x_q X) g (x_cy X) (x_z X) _ p1 (128 : Int32) o32 ho32) rfl rfl rfl rfl rfl rfl rfl rfl rfl rfl rfl rfl rfl rfl ?_
              refine go_if_eq (tgt := 116) (pc' := 109) hC dX11_know_106 (by decide) rfl (fun h37 => ?_) (fun h37 => ?_)
              · have hf := ite_t h37 hf
                obtain rfl := Option.some.inj hf
                exact go_vret hC hQ dX11_know_116 rfl rfl rfl (fun h => nomatch h) rfl rfl
              · have hf := ite_f h37 hf
                refine go_aload_n (pc' := 110) hC dX11_know_109 rfl rfl ?_
                refine go_getq (pc' := 113) hC 0 16 layX_0 rfl rfl inlX11 (Nat.le_of_ble_eq_true rfl) mw_53 rfl dX11_know_110 rfl ?_
                refine go_base (fun S35 hx => ?_)
                have hf := lz_r hx hf
                clear hx
                refine go_keys (L1 := [(15901, (S35.1 15901))]) (L2 := []) (L3 := [(160, (S35.2.2.1 160))]) (L4 := []) (L5 := [(160, (S35.2.2.2.2 160))]) [15901] [] [160] [] [160] rfl rfl rfl rfl rfl ?_
                obtain ⟨h36, hf⟩ := gd_e hf
                obtain ⟨o34, ho34, hf⟩ := bd_e hf
                refine go_callV (pc' := 116) (As := []) (st := []) (st' := []) (L1' := [(15901, o34.1)]) (L2' := []) (L3' := [(160, o34.2.1)]) (L4' := []) (L5' := [(160, o34.2.2.1)]) (cells' := n29 + o34.2.2.2.1) (slots' := n30 + o34.2.2.2.2) (rc := { frames := 3, cells := 1, slots := 20000, locals := 67 }) (b := 159) hC dX11_know_113 ⟨mw_828, mw_831, mw_52, yd_yX4_workOut, yp_yX4_workOut, Nat.le_of_ble_eq_true rfl, Nat.le_of_ble_eq_true rfl, (okr_c h36), (okr_s h36)⟩ mw_829 mw_830 layX_159 rfl rfl rfl (Nat.le_of_ble_eq_true rfl) (c_X4_workOut_q159 (x_l X) (x_D X) (x_q X) g (x_cy X) (x_z X) _  o34 ho34) rfl rfl rfl rfl rfl rfl rfl rfl rfl rfl rfl rfl rfl rfl (fun g _ => ?_)
                obtain rfl := Option.some.inj hf
                exact go_vret hC hQ dX11_know_116 rfl rfl rfl (fun h => nomatch h) rfl rfl
            clear hk98_31
            refine go_if_eq (tgt := 98) (pc' := 91) hC dX11_know_88 (by decide) rfl (fun h41 => ?_) (fun h41 => ?_)
            · have hf := ite_t h41 hf
              refine go_base (fun S9 hS9 => ?_)
              subst hS9
              exact jk98_31 (wd_o S22 [(7, o26.2)] [] [] [] []) n23 n24 g hf
            · have hf := ite_f h41 hf
              refine go_aload_n (pc' := 92) hC dX11_know_91 rfl rfl ?_
              refine go_getq (pc' := 95) hC 0 14 layX_0 rfl rfl inlX11 (Nat.le_of_ble_eq_true rfl) mw_45 rfl dX11_know_92 rfl ?_
              refine go_base (fun S39 hx => ?_)
              have hf := lz_r hx hf
              clear hx
              refine go_keys (L1 := []) (L2 := []) (L3 := [(138, (S39.2.2.1 138))]) (L4 := []) (L5 := [(138, (S39.2.2.2.2 138))]) [] [] [138] [] [138] rfl rfl rfl rfl rfl ?_
              obtain ⟨h40, hf⟩ := gd_e hf
              obtain ⟨o38, ho38, hf⟩ := bd_e hf
              refine go_callV (pc' := 98) (As := []) (st := []) (st' := []) (L1' := []) (L2' := []) (L3' := [(138, o38.1)]) (L4' := []) (L5' := [(138, o38.2.1)]) (cells' := n23 + o38.2.2.1) (slots' := n24 + o38.2.2.2) (rc := { frames := 3, cells := 1, slots := 5000, locals := 73 }) (b := 137) hC dX11_know_95 ⟨mw_813, mw_816, mw_44, yd_yX5_compare, yp_yX5_compare, Nat.le_of_ble_eq_true rfl, Nat.le_of_ble_eq_true rfl, (okr_c h40), (okr_s h40)⟩ mw_814 mw_815 layX_137 rfl rfl rfl (Nat.le_of_ble_eq_true rfl) (c_X5_compare_q137 (x_l X) (x_D X) (x_q X) g (x_cy X) (x_z X) _  o38 ho38) rfl rfl rfl rfl rfl rfl rfl rfl rfl rfl rfl rfl rfl rfl (fun g _ => ?_)
              refine go_base (fun S9 hS9 => ?_)
              subst hS9
              exact jk98_31 (wd_o S39 [] [] [(138, o38.1)] [] [(138, o38.2.1)]) (n23 + o38.2.2.1) (n24 + o38.2.2.2) g hf
          clear hk81_25
          refine go_if_eq (tgt := 81) (pc' := 74) hC dX11_know_71 (by decide) rfl (fun h45 => ?_) (fun h45 => ?_)
          · have hf := ite_t h45 hf
            refine go_base (fun S9 hS9 => ?_)
            subst hS9
            exact jk81_25 (wd_o S16 [(7, o20.2)] [] [] [] []) n17 n18 g hf
          · have hf := ite_f h45 hf
            refine go_aload_n (pc' := 75) hC dX11_know_74 rfl rfl ?_
            refine go_getq (pc' := 78) hC 0 13 layX_0 rfl rfl inlX11 (Nat.le_of_ble_eq_true rfl) mw_41 rfl dX11_know_75 rfl ?_
            refine go_base (fun S43 hx => ?_)
            have hf := lz_r hx hf
            clear hx
            refine go_keys (L1 := []) (L2 := []) (L3 := []) (L4 := [(133, (S43.2.2.2.1 133)), (135, (S43.2.2.2.1 135)), (136, (S43.2.2.2.1 136))]) (L5 := [(133, (S43.2.2.2.2 133))]) [] [] [] [133, 135, 136] [133] rfl rfl rfl rfl rfl ?_
            obtain ⟨h44, hf⟩ := gd_e hf
            obtain ⟨o42, ho42, hf⟩ := bd_e hf
            refine go_callV (pc' := 81) (As := []) (st := []) (st' := []) (L1' := []) (L2' := []) (L3' := []) (L4' := [(133, o42.1), (135, o42.2.1), (136, o42.2.2.1)]) (L5' := [(133, o42.2.2.2.1)]) (cells' := n17 + o42.2.2.2.2.1) (slots' := n18 + o42.2.2.2.2.2) (rc := { frames := 3, cells := 1, slots := 600, locals := 83 }) (b := 131) hC dX11_know_78 ⟨mw_786, mw_789, mw_40, yd_yX0_mendAll, yp_yX0_mendAll, Nat.le_of_ble_eq_true rfl, Nat.le_of_ble_eq_true rfl, (okr_c h44), (okr_s h44)⟩ mw_787 mw_788 layX_131 rfl rfl rfl (Nat.le_of_ble_eq_true rfl) (c_X0_mendAll_q131 (x_l X) (x_D X) (x_q X) g (x_cy X) (x_z X) _  o42 ho42) rfl rfl rfl rfl rfl rfl rfl rfl rfl rfl rfl rfl rfl rfl (fun g _ => ?_)
            refine go_base (fun S9 hS9 => ?_)
            subst hS9
            exact jk81_25 (wd_o S43 [] [] [] [(133, o42.1), (135, o42.2.1), (136, o42.2.2.1)] [(133, o42.2.2.2.1)]) (n17 + o42.2.2.2.2.1) (n18 + o42.2.2.2.2.2) g hf
        clear hk64_19
        refine go_if_eq (tgt := 64) (pc' := 57) hC dX11_know_54 (by decide) rfl (fun h49 => ?_) (fun h49 => ?_)
        · have hf := ite_t h49 hf
          refine go_base (fun S9 hS9 => ?_)
          subst hS9
          exact jk64_19 (wd_o S12 [(7, o14.2)] [] [] [] []) n3 n4 g hf
        · have hf := ite_f h49 hf
          refine go_aload_n (pc' := 58) hC dX11_know_57 rfl rfl ?_
          refine go_getq (pc' := 61) hC 0 13 layX_0 rfl rfl inlX11 (Nat.le_of_ble_eq_true rfl) mw_41 rfl dX11_know_58 rfl ?_
          refine go_base (fun S47 hx => ?_)
          have hf := lz_r hx hf
          clear hx
          refine go_keys (L1 := [(13105, (S47.1 13105))]) (L2 := []) (L3 := []) (L4 := [(132, (S47.2.2.2.1 132)), (134, (S47.2.2.2.1 134)), (135, (S47.2.2.2.1 135)), (136, (S47.2.2.2.1 136))]) (L5 := [(132, (S47.2.2.2.2 132)), (134, (S47.2.2.2.2 134)), (135, (S47.2.2.2.2 135)), (136, (S47.2.2.2.2 136))]) [13105] [] [] [132, 134, 135, 136] [132, 134, 135, 136] rfl rfl rfl rfl rfl ?_
          obtain ⟨h48, hf⟩ := gd_e hf
          obtain ⟨o46, ho46, hf⟩ := bd_e hf
          refine go_callV (pc' := 64) (As := []) (st := []) (st' := []) (L1' := [(13105, o46.1)]) (L2' := []) (L3' := []) (L4' := [(132, o46.2.1), (134, o46.2.2.1), (135, o46.2.2.2.1), (136, o46.2.2.2.2.1)]) (L5' := [(132, o46.2.2.2.2.2.1), (134, o46.2.2.2.2.2.2.1), (135, o46.2.2.2.2.2.2.2.1), (136, o46.2.2.2.2.2.2.2.2.1)]) (cells' := n3 + o46.2.2.2.2.2.2.2.2.2.1) (slots' := n4 + o46.2.2.2.2.2.2.2.2.2.2) (rc := { frames := 3, cells := 4, slots := 20000, locals := 67 }) (b := 131) hC dX11_know_61 ⟨mw_761, mw_764, mw_40, yd_yX0_workOut, yp_yX0_workOut, Nat.le_of_ble_eq_true rfl, Nat.le_of_ble_eq_true rfl, (okr_c h48), (okr_s h48)⟩ mw_762 mw_763 layX_131 rfl rfl rfl (Nat.le_of_ble_eq_true rfl) (c_X0_workOut_q131 (x_l X) (x_D X) (x_q X) g (x_cy X) (x_z X) _  o46 ho46) rfl rfl rfl rfl rfl rfl rfl rfl rfl rfl rfl rfl rfl rfl (fun g _ => ?_)
          refine go_base (fun S9 hS9 => ?_)
          subst hS9
          exact jk64_19 (wd_o S47 [(13105, o46.1)] [] [] [(132, o46.2.1), (134, o46.2.2.1), (135, o46.2.2.2.1), (136, o46.2.2.2.2.1)] [(132, o46.2.2.2.2.2.1), (134, o46.2.2.2.2.2.2.1), (135, o46.2.2.2.2.2.2.2.1), (136, o46.2.2.2.2.2.2.2.2.1)]) (n3 + o46.2.2.2.2.2.2.2.2.2.1) (n4 + o46.2.2.2.2.2.2.2.2.2.2) g hf
      clear hk47_13
      refine go_if_eq (tgt := 47) (pc' := 40) hC dX11_know_37 (by decide) rfl (fun h53 => ?_) (fun h53 => ?_)
      · have hf := ite_t h53 hf
        refine go_base (fun S9 hS9 => ?_)
        subst hS9
        exact jk47_13 (wd_o S8 [(7, o10.2)] [] [] [] []) g hf
      · have hf := ite_f h53 hf
        refine go_aload_n (pc' := 41) hC dX11_know_40 rfl rfl ?_
        refine go_getq (pc' := 44) hC 0 12 layX_0 rfl rfl inlX11 (Nat.le_of_ble_eq_true rfl) mw_37 rfl dX11_know_41 rfl ?_
        refine go_base (fun S51 hx => ?_)
        have hf := lz_r hx hf
        clear hx
        refine go_keys (L1 := [(12700, (S51.1 12700)), (12701, (S51.1 12701))]) (L2 := []) (L3 := [(128, (S51.2.2.1 128))]) (L4 := [(129, (S51.2.2.2.1 129)), (130, (S51.2.2.2.1 130))]) (L5 := []) [12700, 12701] [] [128] [129, 130] [] rfl rfl rfl rfl rfl ?_
        obtain ⟨h52, hf⟩ := gd_e hf
        obtain ⟨o50, ho50, hf⟩ := bd_e hf
        refine go_callV1 (pc' := 47) (As := []) (st := []) (st' := []) (L1' := [(12700, o50.1), (12701, o50.2.1)]) (L2' := []) (L3' := [(128, o50.2.2.1)]) (L4' := [(129, o50.2.2.2.1), (130, o50.2.2.2.2)]) (L5' := []) (cells' := n3) (slots' := n4) (rc := { frames := 3, cells := 0, slots := 0, locals := 65 }) (b := 127) hC dX11_know_44 ⟨mw_715, mw_718, mw_35, yd_yX3_find, yp_yX3_find, Nat.le_of_ble_eq_true rfl, Nat.le_of_ble_eq_true rfl, (okr_c h52), (okr_s h52)⟩ mw_716 mw_717 layX_127 rfl rfl rfl (Nat.le_of_ble_eq_true rfl) (c_X3_find_q127 (x_l X) (x_D X) (x_q X) g (x_cy X) (x_z X) _  o50 ho50) rfl rfl rfl rfl rfl rfl rfl rfl rfl rfl rfl rfl rfl rfl ?_
        refine go_base (fun S9 hS9 => ?_)
        subst hS9
        exact jk47_13 (wd_o S51 [(12700, o50.1), (12701, o50.2.1)] [] [(128, o50.2.2.1)] [(129, o50.2.2.2.1), (130, o50.2.2.2.2)] []) g hf
    clear hk31_9
    refine go_if_eq (tgt := 31) (pc' := 24) hC dX11_know_21 (by decide) rfl (fun h57 => ?_) (fun h57 => ?_)
    · have hf := ite_t h57 hf
      refine go_base (fun S9 hS9 => ?_)
      subst hS9
      exact jk31_9 (wd_o S2 [(7, o6.2)] [] [] [] []) g hf
    · have hf := ite_f h57 hf
      refine go_aload_n (pc' := 25) hC dX11_know_24 rfl rfl ?_
      refine go_getq (pc' := 28) hC 0 11 layX_0 rfl rfl inlX11 (Nat.le_of_ble_eq_true rfl) mw_36 rfl dX11_know_25 rfl ?_
      refine go_base (fun S55 hx => ?_)
      have hf := lz_r hx hf
      clear hx
      refine go_keys (L1 := [(12300, (S55.1 12300)), (12301, (S55.1 12301))]) (L2 := []) (L3 := [(124, (S55.2.2.1 124))]) (L4 := [(125, (S55.2.2.2.1 125)), (126, (S55.2.2.2.1 126))]) (L5 := []) [12300, 12301] [] [124] [125, 126] [] rfl rfl rfl rfl rfl ?_
      obtain ⟨h56, hf⟩ := gd_e hf
      obtain ⟨o54, ho54, hf⟩ := bd_e hf
      refine go_callV1 (pc' := 31) (As := []) (st := []) (st' := []) (L1' := [(12300, o54.1), (12301, o54.2.1)]) (L2' := []) (L3' := [(124, o54.2.2.1)]) (L4' := [(125, o54.2.2.2.1), (126, o54.2.2.2.2)]) (L5' := []) (cells' := n3) (slots' := n4) (rc := { frames := 3, cells := 0, slots := 0, locals := 65 }) (b := 123) hC dX11_know_28 ⟨mw_715, mw_718, mw_35, yd_yX3_find, yp_yX3_find, Nat.le_of_ble_eq_true rfl, Nat.le_of_ble_eq_true rfl, (okr_c h56), (okr_s h56)⟩ mw_716 mw_717 layX_123 rfl rfl rfl (Nat.le_of_ble_eq_true rfl) (c_X3_find_q123 (x_l X) (x_D X) (x_q X) g (x_cy X) (x_z X) _  o54 ho54) rfl rfl rfl rfl rfl rfl rfl rfl rfl rfl rfl rfl rfl rfl ?_
      refine go_base (fun S9 hS9 => ?_)
      subst hS9
      exact jk31_9 (wd_o S55 [(12300, o54.1), (12301, o54.2.1)] [] [(124, o54.2.2.1)] [(125, o54.2.2.2.1), (126, o54.2.2.2.2)] []) g hf
  clear hk15_5
  refine go_if_eq (tgt := 15) (pc' := 8) hC dX11_know_5 (by decide) rfl (fun h60 => ?_) (fun h60 => ?_)
  · have hf := ite_t h60 hf
    refine go_base (fun S9 hS9 => ?_)
    subst hS9
    exact jk15_5 (wd_o S [(7, o1.2)] [] [] [] []) 0 0 g hf
  · have hf := ite_f h60 hf
    refine go_aload_n (pc' := 9) hC dX11_know_8 rfl rfl ?_
    refine go_getq (pc' := 12) hC 0 10 layX_0 rfl rfl inlX11 (Nat.le_of_ble_eq_true rfl) mw_32 rfl dX11_know_9 rfl ?_
    refine go_base (fun S59 hx => ?_)
    have hf := lz_r hx hf
    clear hx
    refine go_keys (L1 := [(10602, (S59.1 10602)), (10603, (S59.1 10603)), (11100, (S59.1 11100)), (11101, (S59.1 11101)), (11102, (S59.1 11102)), (11103, (S59.1 11103)), (11700, (S59.1 11700))]) (L2 := []) (L3 := [(109, (S59.2.2.1 109)), (110, (S59.2.2.1 110)), (112, (S59.2.2.1 112)), (113, (S59.2.2.1 113)), (114, (S59.2.2.1 114)), (115, (S59.2.2.1 115)), (118, (S59.2.2.1 118)), (119, (S59.2.2.1 119))]) (L4 := [(107, (S59.2.2.2.1 107)), (108, (S59.2.2.2.1 108))]) (L5 := [(107, (S59.2.2.2.2 107)), (108, (S59.2.2.2.2 108)), (109, (S59.2.2.2.2 109)), (110, (S59.2.2.2.2 110))]) [10602, 10603, 11100, 11101, 11102, 11103, 11700] [] [109, 110, 112, 113, 114, 115, 118, 119] [107, 108] [107, 108, 109, 110] rfl rfl rfl rfl rfl ?_
    obtain ⟨o58, ho58, hf⟩ := bd_e hf
    refine go_callV (pc' := 15) (As := []) (st := []) (st' := []) (L1' := [(10602, o58.1), (10603, o58.2.1), (11100, o58.2.2.1), (11101, o58.2.2.2.1), (11102, o58.2.2.2.2.1), (11103, o58.2.2.2.2.2.1), (11700, o58.2.2.2.2.2.2.1)]) (L2' := []) (L3' := [(109, o58.2.2.2.2.2.2.2.1), (110, o58.2.2.2.2.2.2.2.2.1), (112, o58.2.2.2.2.2.2.2.2.2.1), (113, o58.2.2.2.2.2.2.2.2.2.2.1), (114, o58.2.2.2.2.2.2.2.2.2.2.2.1), (115, o58.2.2.2.2.2.2.2.2.2.2.2.2.1), (118, o58.2.2.2.2.2.2.2.2.2.2.2.2.2.1), (119, o58.2.2.2.2.2.2.2.2.2.2.2.2.2.2.1)]) (L4' := [(107, o58.2.2.2.2.2.2.2.2.2.2.2.2.2.2.2.1), (108, o58.2.2.2.2.2.2.2.2.2.2.2.2.2.2.2.2.1)]) (L5' := [(107, o58.2.2.2.2.2.2.2.2.2.2.2.2.2.2.2.2.2.1), (108, o58.2.2.2.2.2.2.2.2.2.2.2.2.2.2.2.2.2.2.1), (109, o58.2.2.2.2.2.2.2.2.2.2.2.2.2.2.2.2.2.2.2.1), (110, o58.2.2.2.2.2.2.2.2.2.2.2.2.2.2.2.2.2.2.2.2.1)]) (cells' := 0 + o58.2.2.2.2.2.2.2.2.2.2.2.2.2.2.2.2.2.2.2.2.2.1) (slots' := 0 + o58.2.2.2.2.2.2.2.2.2.2.2.2.2.2.2.2.2.2.2.2.2.2)  (b := 106) hC dX11_know_12 ⟨mw_605, mw_608, mw_31, yd_yX8_workOut, yp_yX8_workOut, Nat.le_of_ble_eq_true rfl, Nat.le_of_ble_eq_true rfl, (Nat.le_of_ble_eq_true rfl), (Nat.le_of_ble_eq_true rfl)⟩ mw_606 mw_607 layX_106 rfl rfl rfl (Nat.le_of_ble_eq_true rfl) (c_X8_workOut_q106 (x_l X) (x_D X) (x_q X) g (x_cy X) (x_z X) _  o58 ho58) rfl rfl rfl rfl rfl rfl rfl rfl rfl rfl rfl rfl rfl rfl (fun g _ => ?_)
    refine go_base (fun S9 hS9 => ?_)
    subst hS9
    exact jk15_5 (wd_o S59 [(10602, o58.1), (10603, o58.2.1), (11100, o58.2.2.1), (11101, o58.2.2.2.1), (11102, o58.2.2.2.2.1), (11103, o58.2.2.2.2.2.1), (11700, o58.2.2.2.2.2.2.1)] [] [(109, o58.2.2.2.2.2.2.2.1), (110, o58.2.2.2.2.2.2.2.2.1), (112, o58.2.2.2.2.2.2.2.2.2.1), (113, o58.2.2.2.2.2.2.2.2.2.2.1), (114, o58.2.2.2.2.2.2.2.2.2.2.2.1), (115, o58.2.2.2.2.2.2.2.2.2.2.2.2.1), (118, o58.2.2.2.2.2.2.2.2.2.2.2.2.2.1), (119, o58.2.2.2.2.2.2.2.2.2.2.2.2.2.2.1)] [(107, o58.2.2.2.2.2.2.2.2.2.2.2.2.2.2.2.1), (108, o58.2.2.2.2.2.2.2.2.2.2.2.2.2.2.2.2.1)] [(107, o58.2.2.2.2.2.2.2.2.2.2.2.2.2.2.2.2.2.1), (108, o58.2.2.2.2.2.2.2.2.2.2.2.2.2.2.2.2.2.2.1), (109, o58.2.2.2.2.2.2.2.2.2.2.2.2.2.2.2.2.2.2.2.1), (110, o58.2.2.2.2.2.2.2.2.2.2.2.2.2.2.2.2.2.2.2.2.1)]) (0 + o58.2.2.2.2.2.2.2.2.2.2.2.2.2.2.2.2.2.2.2.2.2.1) (0 + o58.2.2.2.2.2.2.2.2.2.2.2.2.2.2.2.2.2.2.2.2.2.2) g hf
theorem dX11_knownSets_0 : decode cX11_knownSets 0 = .ok (.aload_n 0, 1) := by decide +kernel
theorem dX11_knownSets_1 : decode cX11_knownSets 1 = .ok (.iconst 1, 1) := by decide +kernel
theorem dX11_knownSets_2 : decode cX11_knownSets 2 = .ok (.invokevirtual 233, 3) := by decide +kernel
theorem dX11_knownSets_5 : decode cX11_knownSets 5 = .ok (.aload_n 0, 1) := by decide +kernel
theorem dX11_knownSets_6 : decode cX11_knownSets 6 = .ok (.getfield 53, 3) := by decide +kernel
theorem dX11_knownSets_9 : decode cX11_knownSets 9 = .ok (.areturn, 1) := by decide +kernel
abbrev o_X11_knownSets : Type := wd_W × Nat × Nat
def f_X11_knownSets (S : wd_W) : Option o_X11_knownSets :=
bd (f_X11_know (wd_o S [] [] [] [] []) (1 : Int32)) fun o1 =>
some (o1.1, 0 + o1.2.1, 0 + o1.2.2)
set_option maxRecDepth 100000 in
set_option maxHeartbeats 4000000 in
theorem c_X11_knownSets (l : Launch) (D : va_G) (q g : Nat → Nat) (cy : Nat → ClassId) (z : (Nat → Nat) × (Nat → Nat) × Nat) (S : wd_W) (o : o_X11_knownSets) (hf : f_X11_knownSets S = some o) : MX layX l yX11_knownSets cX11_knownSets 1 (some (.object "LetterThrough$Sets")) ({ frames := 5, cells := 12, slots := 140000, locals := 127 } : Room) D q g cy z [.ref (q 0)] S true (some (.ref (q 106))) o.1 o.2.1 o.2.2 := by
  refine mx_of (own := RX11) (lc := [(0, .ref (q 0))]) (by decide +kernel) rfl layX_ok (Nat.le_of_ble_eq_true rfl) rfl ?_
  intro X hXl hXq hXz hC hQ
  subst hXl; subst hXq; subst hXz
  unfold f_X11_knownSets at hf
  refine go_aload_n (pc' := 1) hC dX11_knownSets_0 rfl rfl ?_
  refine go_iconst (pc' := 2) hC dX11_knownSets_1 ki_1 rfl ?_
  obtain ⟨o1, ho1, hf⟩ := bd_e hf
  refine go_callVw (pc' := 5) (As := [.int (1 : Int32)]) (st := []) (st' := [])  (cells' := 0 + o1.2.1) (slots' := 0 + o1.2.2)  (b := 0) hC dX11_knownSets_2 ⟨mw_597, mw_600, mw_2, yd_yX11_know, yp_yX11_know, Nat.le_of_ble_eq_true rfl, Nat.le_of_ble_eq_true rfl, (Nat.le_of_ble_eq_true rfl), (Nat.le_of_ble_eq_true rfl)⟩ mw_598 mw_599 layX_0 rfl rfl rfl (Nat.le_of_ble_eq_true rfl) (c_X11_know (x_l X) (x_D X) (x_q X) g (x_cy X) (x_z X) _ (1 : Int32) o1 ho1) rfl rfl rfl rfl (fun g _ => ?_)
  refine go_aload_n (pc' := 6) hC dX11_knownSets_5 rfl rfl ?_
  refine go_getq (pc' := 9) hC 0 10 layX_0 rfl rfl inlX11 (Nat.le_of_ble_eq_true rfl) mw_32 rfl dX11_knownSets_6 rfl ?_
  obtain rfl := Option.some.inj hf
  exact go_aret hC hQ dX11_knownSets_9 rfl rfl rfl (fun h => nomatch h) rfl rfl
theorem dX11_so_0 : decode cX11_so 0 = .ok (.iload_n 1, 1) := by decide +kernel
theorem dX11_so_1 : decode cX11_so 1 = .ok (.ifCond .lt 15, 3) := by decide +kernel
theorem dX11_so_4 : decode cX11_so 4 = .ok (.iload_n 1, 1) := by decide +kernel
theorem dX11_so_5 : decode cX11_so 5 = .ok (.aload_n 0, 1) := by decide +kernel
theorem dX11_so_6 : decode cX11_so 6 = .ok (.getfield 25, 3) := by decide +kernel
theorem dX11_so_9 : decode cX11_so 9 = .ok (.invokevirtual 129, 3) := by decide +kernel
theorem dX11_so_12 : decode cX11_so 12 = .ok (.ishr, 1) := by decide +kernel
theorem dX11_so_13 : decode cX11_so 13 = .ok (.ifCond .eq 5, 3) := by decide +kernel
theorem dX11_so_16 : decode cX11_so 16 = .ok (.iconst (-1), 1) := by decide +kernel
theorem dX11_so_17 : decode cX11_so 17 = .ok (.ireturn, 1) := by decide +kernel
theorem dX11_so_18 : decode cX11_so 18 = .ok (.aload_n 0, 1) := by decide +kernel
theorem dX11_so_19 : decode cX11_so 19 = .ok (.invokevirtual 171, 3) := by decide +kernel
theorem dX11_so_22 : decode cX11_so 22 = .ok (.iload_n 1, 1) := by decide +kernel
theorem dX11_so_23 : decode cX11_so 23 = .ok (.invokevirtual 175, 3) := by decide +kernel
theorem dX11_so_26 : decode cX11_so 26 = .ok (.ifCond .eq 7, 3) := by decide +kernel
theorem dX11_so_29 : decode cX11_so 29 = .ok (.iconst 1, 1) := by decide +kernel
theorem dX11_so_30 : decode cX11_so 30 = .ok (.goto 4, 3) := by decide +kernel
theorem dX11_so_33 : decode cX11_so 33 = .ok (.iconst 0, 1) := by decide +kernel
theorem dX11_so_34 : decode cX11_so 34 = .ok (.ireturn, 1) := by decide +kernel
abbrev o_X11_so : Type := Int32 × wd_W × Nat × Nat
def f_X11_so (S : wd_W) (p1 : Int32) : Option o_X11_so :=
if p1 < 0 then (
some ((-1 : Int32), S, 0, 0)) else (
bd (f_X2_things_q16 (wd_o S [] [] [] [] [])) fun o1 =>
if (p1 >>> (o1 &&& 31)) = 0 then (
bd (f_X11_knownSets (wd_o S [] [] [] [] [])) fun o2 =>
gd (okr (0 + o2.2.1) (0 + o2.2.2) 0 0 40 500000) <|
bd (f_X8_isThrough_q106 (wd_o o2.1 [] [] [] [] []) p1) fun o3 =>
if o3 = 0 then (
some ((0 : Int32), o2.1, 0 + o2.2.1, 0 + o2.2.2)) else (
some ((1 : Int32), o2.1, 0 + o2.2.1, 0 + o2.2.2))) else (
some ((-1 : Int32), S, 0, 0)))
set_option maxRecDepth 100000 in
set_option maxHeartbeats 4000000 in
theorem c_X11_so (l : Launch) (D : va_G) (q g : Nat → Nat) (cy : Nat → ClassId) (z : (Nat → Nat) × (Nat → Nat) × Nat) (S : wd_W) (p1 : Int32) (o : o_X11_so) (hf : f_X11_so S p1 = some o) : MX layX l yX11_so cX11_so 2 (some .int) ({ frames := 6, cells := 40, slots := 500000, locals := 147 } : Room) D q g cy z [.ref (q 0), .int p1] S true (some (.int o.1)) o.2.1 o.2.2.1 o.2.2.2 := by
  refine mx_of (own := RX11) (lc := [(0, .ref (q 0)), (1, .int p1)]) (by decide +kernel) rfl layX_ok (Nat.le_of_ble_eq_true rfl) rfl ?_
  intro X hXl hXq hXz hC hQ
  subst hXl; subst hXq; subst hXz
  unfold f_X11_so at hf
  refine go_iload_n (pc' := 1) hC dX11_so_0 rfl rfl ?_
  refine go_if_lt (tgt := 16) (pc' := 4) hC dX11_so_1 (by decide) rfl (fun h7 => ?_) (fun h7 => ?_)
  · have hf := ite_t h7 hf
    refine go_iconst (pc' := 17) hC dX11_so_16 ki_m1 rfl ?_
    obtain rfl := Option.some.inj hf
    exact go_iret hC hQ dX11_so_17 rfl rfl rfl rfl (fun h => nomatch h) rfl rfl
  · have hf := ite_f h7 hf
    refine go_iload_n (pc' := 5) hC dX11_so_4 rfl rfl ?_
    refine go_aload_n (pc' := 6) hC dX11_so_5 rfl rfl ?_
    refine go_getq (pc' := 9) hC 0 2 layX_0 rfl rfl inlX11 (Nat.le_of_ble_eq_true rfl) mw_20 rfl dX11_so_6 rfl ?_
    obtain ⟨o1, ho1, hf⟩ := bd_e hf
    refine go_callV0 (pc' := 12) (As := []) (st := [.int p1]) (st' := [.int o1, .int p1])    (b := 16) hC dX11_so_9 ⟨mw_484, mw_418, mw_14, yd_yX2_things, yp_yX2_things, Nat.le_of_ble_eq_true rfl, Nat.le_of_ble_eq_true rfl, (Nat.le_of_ble_eq_true rfl), (Nat.le_of_ble_eq_true rfl)⟩ mw_416 mw_417 layX_16 rfl rfl rfl (Nat.le_of_ble_eq_true rfl) (c_X2_things_q16 (x_l X) (x_D X) (x_q X) g (x_cy X) (x_z X) _  o1 ho1) rfl rfl ?_
    refine go_ishr (pc' := 13) hC dX11_so_12 rfl ?_
    refine go_if_eq (tgt := 18) (pc' := 16) hC dX11_so_13 (by decide) rfl (fun h6 => ?_) (fun h6 => ?_)
    · have hf := ite_t h6 hf
      refine go_aload_n (pc' := 19) hC dX11_so_18 rfl rfl ?_
      obtain ⟨o2, ho2, hf⟩ := bd_e hf
      refine go_callVw (pc' := 22) (As := []) (st := []) (st' := [.ref (x_q X 106)])  (cells' := 0 + o2.2.1) (slots' := 0 + o2.2.2)  (b := 0) hC dX11_so_19 ⟨mw_593, mw_596, mw_2, yd_yX11_knownSets, yp_yX11_knownSets, Nat.le_of_ble_eq_true rfl, Nat.le_of_ble_eq_true rfl, (Nat.le_of_ble_eq_true rfl), (Nat.le_of_ble_eq_true rfl)⟩ mw_594 mw_595 layX_0 rfl rfl rfl (Nat.le_of_ble_eq_true rfl) (c_X11_knownSets (x_l X) (x_D X) (x_q X) g (x_cy X) (x_z X) _  o2 ho2) rfl rfl rfl rfl (fun g _ => ?_)
      refine go_iload_n (pc' := 23) hC dX11_so_22 rfl rfl ?_
      obtain ⟨h4, hf⟩ := gd_e hf
      obtain ⟨o3, ho3, hf⟩ := bd_e hf
      refine go_callV0 (pc' := 26) (As := [.int p1]) (st := []) (st' := [.int o3])   (rc := { frames := 1, cells := 0, slots := 0, locals := 21 }) (b := 106) hC dX11_so_23 ⟨mw_851, mw_734, mw_31, yd_yX8_isThrough, yp_yX8_isThrough, Nat.le_of_ble_eq_true rfl, Nat.le_of_ble_eq_true rfl, (okr_c h4), (okr_s h4)⟩ mw_732 mw_733 layX_106 rfl rfl rfl (Nat.le_of_ble_eq_true rfl) (c_X8_isThrough_q106 (x_l X) (x_D X) (x_q X) g (x_cy X) (x_z X) _ p1 o3 ho3) rfl rfl ?_
      refine go_if_eq (tgt := 33) (pc' := 29) hC dX11_so_26 (by decide) rfl (fun h5 => ?_) (fun h5 => ?_)
      · have hf := ite_t h5 hf
        refine go_iconst (pc' := 34) hC dX11_so_33 ki_0 rfl ?_
        obtain rfl := Option.some.inj hf
        exact go_iret hC hQ dX11_so_34 rfl rfl rfl rfl (fun h => nomatch h) rfl rfl
      · have hf := ite_f h5 hf
        refine go_iconst (pc' := 30) hC dX11_so_29 ki_1 rfl ?_
        refine go_goto (tgt := 34) hC dX11_so_30 (by decide) ?_
        obtain rfl := Option.some.inj hf
        exact go_iret hC hQ dX11_so_34 rfl rfl rfl rfl (fun h => nomatch h) rfl rfl
    · have hf := ite_f h6 hf
      refine go_iconst (pc' := 17) hC dX11_so_16 ki_m1 rfl ?_
      obtain rfl := Option.some.inj hf
      exact go_iret hC hQ dX11_so_17 rfl rfl rfl rfl (fun h => nomatch h) rfl rfl
theorem dX8_power_0 : decode cX8_power 0 = .ok (.lconst 1, 1) := by decide +kernel
theorem dX8_power_1 : decode cX8_power 1 = .ok (.iconst 4, 1) := by decide +kernel
theorem dX8_power_2 : decode cX8_power 2 = .ok (.iload_n 0, 1) := by decide +kernel
theorem dX8_power_3 : decode cX8_power 3 = .ok (.imul, 1) := by decide +kernel
theorem dX8_power_4 : decode cX8_power 4 = .ok (.lshl, 1) := by decide +kernel
theorem dX8_power_5 : decode cX8_power 5 = .ok (.lreturn, 1) := by decide +kernel
abbrev o_X8_power : Type := Int64
def f_X8_power (p1 : Int32) : Option o_X8_power :=
some ((1 : Int64) <<< (((4 : Int32) * p1).toInt64 &&& 63))
set_option maxRecDepth 100000 in
set_option maxHeartbeats 4000000 in
theorem c_X8_power (l : Launch) (D : va_G) (q g : Nat → Nat) (cy : Nat → ClassId) (z : (Nat → Nat) × (Nat → Nat) × Nat) (S : wd_W) (p1 : Int32) (o : o_X8_power) (hf : f_X8_power p1 = some o) : MX layX l yX8_power cX8_power 1 (some .long) ({ frames := 0, cells := 0, slots := 0, locals := 0 } : Room) D q g cy z [.int p1] S false (some (.long o)) (wd_o S [] [] [] [] []) 0 0 := by
  refine mx_of (own := RX8) (lc := [(0, .int p1)]) (by decide +kernel) rfl layX_ok (Nat.le_of_ble_eq_true rfl) rfl ?_
  intro X hXl hXq hXz hC hQ
  subst hXl; subst hXq; subst hXz
  unfold f_X8_power at hf
  refine go_lconst (pc' := 1) hC dX8_power_0 kl_1 rfl ?_
  refine go_iconst (pc' := 2) hC dX8_power_1 ki_4 rfl ?_
  refine go_iload_n (pc' := 3) hC dX8_power_2 rfl rfl ?_
  refine go_imul (pc' := 4) hC dX8_power_3 rfl ?_
  refine go_lshl (pc' := 5) hC dX8_power_4 rfl ?_
  obtain rfl := Option.some.inj hf
  exact go_lret hC hQ dX8_power_5 rfl rfl rfl (fun _ => rfl) rfl rfl
theorem dX8_throughIn_0 : decode cX8_throughIn 0 = .ok (.lconst 0, 1) := by decide +kernel
theorem dX8_throughIn_1 : decode cX8_throughIn 1 = .ok (.lstore_n 3, 1) := by decide +kernel
theorem dX8_throughIn_2 : decode cX8_throughIn 2 = .ok (.iconst 0, 1) := by decide +kernel
theorem dX8_throughIn_3 : decode cX8_throughIn 3 = .ok (.istore 5, 2) := by decide +kernel
theorem dX8_throughIn_5 : decode cX8_throughIn 5 = .ok (.iload 5, 2) := by decide +kernel
theorem dX8_throughIn_7 : decode cX8_throughIn 7 = .ok (.aload_n 0, 1) := by decide +kernel
theorem dX8_throughIn_8 : decode cX8_throughIn 8 = .ok (.getfield 64, 3) := by decide +kernel
theorem dX8_throughIn_11 : decode cX8_throughIn 11 = .ok (.if_icmp .ge 36, 3) := by decide +kernel
theorem dX8_throughIn_14 : decode cX8_throughIn 14 = .ok (.iload 5, 2) := by decide +kernel
theorem dX8_throughIn_16 : decode cX8_throughIn 16 = .ok (.iload_n 1, 1) := by decide +kernel
theorem dX8_throughIn_17 : decode cX8_throughIn 17 = .ok (.iand, 1) := by decide +kernel
theorem dX8_throughIn_18 : decode cX8_throughIn 18 = .ok (.iload_n 2, 1) := by decide +kernel
theorem dX8_throughIn_19 : decode cX8_throughIn 19 = .ok (.if_icmp .ne 22, 3) := by decide +kernel
theorem dX8_throughIn_22 : decode cX8_throughIn 22 = .ok (.aload_n 0, 1) := by decide +kernel
theorem dX8_throughIn_23 : decode cX8_throughIn 23 = .ok (.iload 5, 2) := by decide +kernel
theorem dX8_throughIn_25 : decode cX8_throughIn 25 = .ok (.invokevirtual 103, 3) := by decide +kernel
theorem dX8_throughIn_28 : decode cX8_throughIn 28 = .ok (.ifCond .eq 13, 3) := by decide +kernel
theorem dX8_throughIn_31 : decode cX8_throughIn 31 = .ok (.lload_n 3, 1) := by decide +kernel
theorem dX8_throughIn_32 : decode cX8_throughIn 32 = .ok (.aload_n 0, 1) := by decide +kernel
theorem dX8_throughIn_33 : decode cX8_throughIn 33 = .ok (.getfield 9, 3) := by decide +kernel
theorem dX8_throughIn_36 : decode cX8_throughIn 36 = .ok (.iload 5, 2) := by decide +kernel
theorem dX8_throughIn_38 : decode cX8_throughIn 38 = .ok (.laload, 1) := by decide +kernel
theorem dX8_throughIn_39 : decode cX8_throughIn 39 = .ok (.ladd, 1) := by decide +kernel
theorem dX8_throughIn_40 : decode cX8_throughIn 40 = .ok (.lstore_n 3, 1) := by decide +kernel
theorem dX8_throughIn_41 : decode cX8_throughIn 41 = .ok (.iinc 5 1, 3) := by decide +kernel
theorem dX8_throughIn_44 : decode cX8_throughIn 44 = .ok (.goto (-39), 3) := by decide +kernel
theorem dX8_throughIn_47 : decode cX8_throughIn 47 = .ok (.lload_n 3, 1) := by decide +kernel
theorem dX8_throughIn_48 : decode cX8_throughIn 48 = .ok (.lreturn, 1) := by decide +kernel
abbrev o_X8_throughIn_q106 : Type := Int64
def f_X8_throughIn_q106_L5 (S : wd_W) (p1 : Int32) (p2 : Int32) (r3 : (Int64) → (Int32) → (Option o_X8_throughIn_q106)) (x1 : Int64) (x2 : Int32) : Option o_X8_throughIn_q106 :=
if (S.1 10602) ≤ x2 then (
some x1) else (
lk (fun x4 =>
r3 x4 (x2 + (1 : Int32))) fun k41_5 =>
if (x2 &&& p1) = p2 then (
bd (f_X8_isThrough_q106 (wd_o S [] [] [] [] []) x2) fun o6 =>
if o6 = 0 then (
k41_5 x1) else (
gd (okx x2 (S.2.2.2.2 107)) <|
lz (x1 + ((S.2.2.2.1 107) x2.toNatClampNeg)) fun x8 =>
k41_5 x8)) else (
k41_5 x1))
def f_X8_throughIn_q106 (S : wd_W) (p1 : Int32) (p2 : Int32) : Option o_X8_throughIn_q106 :=
it2 (f_X8_throughIn_q106_L5 S p1 p2) fuel (0 : Int64) (0 : Int32)
set_option maxRecDepth 100000 in
set_option maxHeartbeats 4000000 in
theorem c_X8_throughIn_q106 (l : Launch) (D : va_G) (q g : Nat → Nat) (cy : Nat → ClassId) (z : (Nat → Nat) × (Nat → Nat) × Nat) (S : wd_W) (p1 : Int32) (p2 : Int32) (o : o_X8_throughIn_q106) (hf : f_X8_throughIn_q106 S p1 p2 = some o) : MX layX l yX8_throughIn cX8_throughIn 6 (some .long) ({ frames := 2, cells := 0, slots := 0, locals := 42 } : Room) D q g cy z [.ref (q 106), .int p1, .int p2] S false (some (.long o)) (wd_o S [] [] [] [] []) 0 0 := by
  refine mx_of (own := RX8) (lc := [(0, .ref (q 106)), (1, .int p1), (2, .int p2)]) (by decide +kernel) rfl layX_ok (Nat.le_of_ble_eq_true rfl) rfl ?_
  intro X hXl hXq hXz hC hQ
  subst hXl; subst hXq; subst hXz
  unfold f_X8_throughIn_q106 at hf
  refine go_lconst (pc' := 1) hC dX8_throughIn_0 kl_0 rfl ?_
  refine go_lstore_n (lc' := [(0, .ref (x_q X 106)), (1, .int p1), (2, .int p2), (3, .long (0 : Int64))]) (pc' := 2) hC dX8_throughIn_1 (Nat.le_of_ble_eq_true rfl) rfl rfl ?_
  refine go_iconst (pc' := 3) hC dX8_throughIn_2 ki_0 rfl ?_
  refine go_istore (lc' := [(0, .ref (x_q X 106)), (1, .int p1), (2, .int p2), (3, .long (0 : Int64)), (5, .int (0 : Int32))]) (pc' := 5) hC dX8_throughIn_3 (Nat.le_of_ble_eq_true rfl) rfl rfl ?_
  have l5_12 : ∀ (nn : Nat) (x1 : Int64) (x2 : Int32), it2 (f_X8_throughIn_q106_L5 S p1 p2) nn x1 x2 = some o → Go X layX S 5 [(0, .ref (x_q X 106)), (1, .int p1), (2, .int p2), (3, .long x1), (5, .int x2)] [] g [] [] [] [] [] 0 0 := by
    intro nn
    induction nn with
    | zero =>
      intro x1 x2 hf
      exact none_no hf
    | succ nn ih =>
      intro x1 x2 hf
      have hf : f_X8_throughIn_q106_L5 S p1 p2 (it2 (f_X8_throughIn_q106_L5 S p1 p2) nn) x1 x2 = some o := hf
      generalize it2 (f_X8_throughIn_q106_L5 S p1 p2) nn = r3 at ih hf
      unfold f_X8_throughIn_q106_L5 at hf
      refine go_iload (pc' := 7) hC dX8_throughIn_5 rfl rfl ?_
      refine go_aload_n (pc' := 8) hC dX8_throughIn_7 rfl rfl ?_
      refine go_geti (v := (S.1 10602)) (pc' := 11) hC 106 2 layX_106 rfl rfl inlX8 (Nat.le_of_ble_eq_true rfl) mw_610 rfl dX8_throughIn_8 rfl rfl ?_
      refine go_icmp_ge (tgt := 47) (pc' := 14) hC dX8_throughIn_11 (by decide) rfl (fun h11 => ?_) (fun h11 => ?_)
      · have hf := ite_t h11 hf
        refine go_lload_n (pc' := 48) hC dX8_throughIn_47 rfl rfl ?_
        obtain rfl := Option.some.inj hf
        exact go_lret hC hQ dX8_throughIn_48 rfl rfl rfl (fun _ => rfl) rfl rfl
      · have hf := ite_f h11 hf
        refine go_iload (pc' := 16) hC dX8_throughIn_14 rfl rfl ?_
        refine go_iload_n (pc' := 17) hC dX8_throughIn_16 rfl rfl ?_
        refine go_iand (pc' := 18) hC dX8_throughIn_17 rfl ?_
        refine go_iload_n (pc' := 19) hC dX8_throughIn_18 rfl rfl ?_
        obtain ⟨k41_5, hk41_5, hf⟩ := lk_e1 hf
        have jk41_5 : ∀ (x4 : Int64), k41_5 x4 = some o → Go X layX S 41 [(0, .ref (x_q X 106)), (1, .int p1), (2, .int p2), (3, .long x4), (5, .int x2)] [] g [] [] [] [] [] 0 0 := by
          intro x4 hf
          have hf := hk41_5 x4 hf
          clear hk41_5
          refine go_iinc (lc' := [(0, .ref (x_q X 106)), (1, .int p1), (2, .int p2), (3, .long x4), (5, .int (x2 + (1 : Int32)))]) (pc' := 44) hC dX8_throughIn_41 rfl ki_1 (Nat.le_of_ble_eq_true rfl) rfl rfl ?_
          refine go_goto (tgt := 5) hC dX8_throughIn_44 (by decide) ?_
          exact ih x4 (x2 + (1 : Int32)) hf
        clear hk41_5
        refine go_icmp_ne (tgt := 41) (pc' := 22) hC dX8_throughIn_19 (by decide) rfl (fun h10 => ?_) (fun h10 => ?_)
        · have hf := ite_f h10 hf
          exact jk41_5 x1 hf
        · have hf := ite_t h10 hf
          refine go_aload_n (pc' := 23) hC dX8_throughIn_22 rfl rfl ?_
          refine go_iload (pc' := 25) hC dX8_throughIn_23 rfl rfl ?_
          obtain ⟨o6, ho6, hf⟩ := bd_e hf
          refine go_callV0 (pc' := 28) (As := [.int x2]) (st := []) (st' := [.int o6])    (b := 106) hC dX8_throughIn_25 ⟨mw_914, mw_734, mw_31, yd_yX8_isThrough, yp_yX8_isThrough, Nat.le_of_ble_eq_true rfl, Nat.le_of_ble_eq_true rfl, (Nat.le_of_ble_eq_true rfl), (Nat.le_of_ble_eq_true rfl)⟩ mw_732 mw_733 layX_106 rfl rfl rfl (Nat.le_of_ble_eq_true rfl) (c_X8_isThrough_q106 (x_l X) (x_D X) (x_q X) g (x_cy X) (x_z X) _ x2 o6 ho6) rfl rfl ?_
          refine go_if_eq (tgt := 41) (pc' := 31) hC dX8_throughIn_28 (by decide) rfl (fun h9 => ?_) (fun h9 => ?_)
          · have hf := ite_t h9 hf
            exact jk41_5 x1 hf
          · have hf := ite_f h9 hf
            refine go_lload_n (pc' := 32) hC dX8_throughIn_31 rfl rfl ?_
            refine go_aload_n (pc' := 33) hC dX8_throughIn_32 rfl rfl ?_
            refine go_getg (pc' := 36) hC 106 4 layX_106 rfl rfl inlX8 (Nat.le_of_ble_eq_true rfl) mw_92 rfl dX8_throughIn_33 rfl ?_
            refine go_iload (pc' := 38) hC dX8_throughIn_36 rfl rfl ?_
            obtain ⟨h7, hf⟩ := gd_e hf
            refine go_laldg (f := (S.2.2.2.1 107)) (pc' := 39) hC 107 layX_107 rfl rfl dX8_throughIn_38 (okx_in h7) rfl ?_
            refine go_ladd (pc' := 40) hC dX8_throughIn_39 rfl ?_
            refine go_namel (fun x8 hx => ?_)
            have hf := lz_r hx hf
            clear hx
            refine go_lstore_n (lc' := [(0, .ref (x_q X 106)), (1, .int p1), (2, .int p2), (3, .long x8), (5, .int x2)]) (pc' := 41) hC dX8_throughIn_40 (Nat.le_of_ble_eq_true rfl) rfl rfl ?_
            exact jk41_5 x8 hf
  exact l5_12 fuel (0 : Int64) (0 : Int32) hf
theorem dX11_chance_0 : decode cX11_chance 0 = .ok (.iload_n 1, 1) := by decide +kernel
theorem dX11_chance_1 : decode cX11_chance 1 = .ok (.lookupswitch 48 #[(0, 27), (1, 37)], 27) := by decide +kernel
theorem dX11_chance_28 : decode cX11_chance 28 = .ok (.aload_n 0, 1) := by decide +kernel
theorem dX11_chance_29 : decode cX11_chance 29 = .ok (.invokevirtual 171, 3) := by decide +kernel
theorem dX11_chance_32 : decode cX11_chance 32 = .ok (.iconst 0, 1) := by decide +kernel
theorem dX11_chance_33 : decode cX11_chance 33 = .ok (.iconst 0, 1) := by decide +kernel
theorem dX11_chance_34 : decode cX11_chance 34 = .ok (.invokevirtual 178, 3) := by decide +kernel
theorem dX11_chance_37 : decode cX11_chance 37 = .ok (.lreturn, 1) := by decide +kernel
theorem dX11_chance_38 : decode cX11_chance 38 = .ok (.aload_n 0, 1) := by decide +kernel
theorem dX11_chance_39 : decode cX11_chance 39 = .ok (.getfield 25, 3) := by decide +kernel
theorem dX11_chance_42 : decode cX11_chance 42 = .ok (.invokevirtual 129, 3) := by decide +kernel
theorem dX11_chance_45 : decode cX11_chance 45 = .ok (.invokestatic 182, 3) := by decide +kernel
theorem dX11_chance_48 : decode cX11_chance 48 = .ok (.lreturn, 1) := by decide +kernel
theorem dX11_chance_49 : decode cX11_chance 49 = .ok (.ldc2_w 186, 3) := by decide +kernel
theorem dX11_chance_52 : decode cX11_chance 52 = .ok (.lreturn, 1) := by decide +kernel
abbrev o_X11_chance : Type := Int64 × wd_W × Nat × Nat
def f_X11_chance (S : wd_W) (p1 : Int32) : Option o_X11_chance :=
if p1 = (0 : Int32) then (
bd (f_X11_knownSets (wd_o S [] [] [] [] [])) fun o1 =>
gd (okr (0 + o1.2.1) (0 + o1.2.2) 0 0 40 500000) <|
bd (f_X8_throughIn_q106 (wd_o o1.1 [] [] [] [] []) (0 : Int32) (0 : Int32)) fun o2 =>
some (o2, o1.1, 0 + o1.2.1, 0 + o1.2.2)) else (
if p1 = (1 : Int32) then (
bd (f_X2_things_q16 (wd_o S [] [] [] [] [])) fun o5 =>
bd (f_X8_power o5) fun o6 =>
some (o6, S, 0, 0)) else (
some ((-1 : Int64), S, 0, 0)))
set_option maxRecDepth 100000 in
set_option maxHeartbeats 4000000 in
theorem c_X11_chance (l : Launch) (D : va_G) (q g : Nat → Nat) (cy : Nat → ClassId) (z : (Nat → Nat) × (Nat → Nat) × Nat) (S : wd_W) (p1 : Int32) (o : o_X11_chance) (hf : f_X11_chance S p1 = some o) : MX layX l yX11_chance cX11_chance 2 (some .long) ({ frames := 6, cells := 40, slots := 500000, locals := 147 } : Room) D q g cy z [.ref (q 0), .int p1] S true (some (.long o.1)) o.2.1 o.2.2.1 o.2.2.2 := by
  refine mx_of (own := RX11) (lc := [(0, .ref (q 0)), (1, .int p1)]) (by decide +kernel) rfl layX_ok (Nat.le_of_ble_eq_true rfl) rfl ?_
  intro X hXl hXq hXz hC hQ
  subst hXl; subst hXq; subst hXz
  unfold f_X11_chance at hf
  refine go_iload_n (pc' := 1) hC dX11_chance_0 rfl rfl ?_
  by_cases h4 : p1 = (0 : Int32)
  · have hf := ite_t h4 hf
    refine go_lkIn' (v := (0 : Int32)) (tgt := 28) hC dX11_chance_1 h4 kt_0 (by decide) rfl (by decide) ?_
    refine go_aload_n (pc' := 29) hC dX11_chance_28 rfl rfl ?_
    obtain ⟨o1, ho1, hf⟩ := bd_e hf
    refine go_callVw (pc' := 32) (As := []) (st := []) (st' := [.ref (x_q X 106)])  (cells' := 0 + o1.2.1) (slots' := 0 + o1.2.2)  (b := 0) hC dX11_chance_29 ⟨mw_593, mw_596, mw_2, yd_yX11_knownSets, yp_yX11_knownSets, Nat.le_of_ble_eq_true rfl, Nat.le_of_ble_eq_true rfl, (Nat.le_of_ble_eq_true rfl), (Nat.le_of_ble_eq_true rfl)⟩ mw_594 mw_595 layX_0 rfl rfl rfl (Nat.le_of_ble_eq_true rfl) (c_X11_knownSets (x_l X) (x_D X) (x_q X) g (x_cy X) (x_z X) _  o1 ho1) rfl rfl rfl rfl (fun g _ => ?_)
    refine go_iconst (pc' := 33) hC dX11_chance_32 ki_0 rfl ?_
    refine go_iconst (pc' := 34) hC dX11_chance_33 ki_0 rfl ?_
    obtain ⟨h3, hf⟩ := gd_e hf
    obtain ⟨o2, ho2, hf⟩ := bd_e hf
    refine go_callV0 (pc' := 37) (As := [.int (0 : Int32), .int (0 : Int32)]) (st := []) (st' := [.long o2])   (rc := { frames := 2, cells := 0, slots := 0, locals := 42 }) (b := 106) hC dX11_chance_34 ⟨mw_910, mw_913, mw_31, yd_yX8_throughIn, yp_yX8_throughIn, Nat.le_of_ble_eq_true rfl, Nat.le_of_ble_eq_true rfl, (okr_c h3), (okr_s h3)⟩ mw_911 mw_912 layX_106 rfl rfl rfl (Nat.le_of_ble_eq_true rfl) (c_X8_throughIn_q106 (x_l X) (x_D X) (x_q X) g (x_cy X) (x_z X) _ (0 : Int32) (0 : Int32) o2 ho2) rfl rfl ?_
    obtain rfl := Option.some.inj hf
    exact go_lret hC hQ dX11_chance_37 rfl rfl rfl (fun h => nomatch h) rfl rfl
  · have hf := ite_f h4 hf
    by_cases h7 : p1 = (1 : Int32)
    · have hf := ite_t h7 hf
      refine go_lkIn' (v := (1 : Int32)) (tgt := 38) hC dX11_chance_1 h7 kt_1 (by decide) rfl (by decide) ?_
      refine go_aload_n (pc' := 39) hC dX11_chance_38 rfl rfl ?_
      refine go_getq (pc' := 42) hC 0 2 layX_0 rfl rfl inlX11 (Nat.le_of_ble_eq_true rfl) mw_20 rfl dX11_chance_39 rfl ?_
      obtain ⟨o5, ho5, hf⟩ := bd_e hf
      refine go_callV0 (pc' := 45) (As := []) (st := []) (st' := [.int o5])    (b := 16) hC dX11_chance_42 ⟨mw_484, mw_418, mw_14, yd_yX2_things, yp_yX2_things, Nat.le_of_ble_eq_true rfl, Nat.le_of_ble_eq_true rfl, (Nat.le_of_ble_eq_true rfl), (Nat.le_of_ble_eq_true rfl)⟩ mw_416 mw_417 layX_16 rfl rfl rfl (Nat.le_of_ble_eq_true rfl) (c_X2_things_q16 (x_l X) (x_D X) (x_q X) g (x_cy X) (x_z X) _  o5 ho5) rfl rfl ?_
      obtain ⟨o6, ho6, hf⟩ := bd_e hf
      refine go_callS0 (pc' := 48) (As := [.int o5]) (st := []) (st' := [.long o6])    hC dX11_chance_45 ⟨mw_915, mw_917, mw_31, yd_yX8_power, yp_yX8_power, Nat.le_of_ble_eq_true rfl, Nat.le_of_ble_eq_true rfl, (Nat.le_of_ble_eq_true rfl), (Nat.le_of_ble_eq_true rfl)⟩ mw_916 rfl rfl (Nat.le_of_ble_eq_true rfl) (c_X8_power (x_l X) (x_D X) (x_q X) g (x_cy X) (x_z X) _ o5 o6 ho6) rfl rfl ?_
      obtain rfl := Option.some.inj hf
      exact go_lret hC hQ dX11_chance_48 rfl rfl rfl (fun h => nomatch h) rfl rfl
    · have hf := ite_f h7 hf
      refine go_lookup (tgt := 49) (off := 48) hC dX11_chance_1 (by decide) ?_ (by decide) ?_
      · show Op.lookupswitch.offset [(0, 27), (1, 37)] 48 _ = _
        rw [lv_osw h4 kt_0, lv_osw h7 kt_1]; rfl
      · refine go_ldc2 (pc' := 52) hC dX11_chance_49 mw_909 rfl ?_
        obtain rfl := Option.some.inj hf
        exact go_lret hC hQ dX11_chance_52 rfl rfl rfl (fun h => nomatch h) rfl rfl
theorem dX11_isThing_0 : decode cX11_isThing 0 = .ok (.iload_n 1, 1) := by decide +kernel
theorem dX11_isThing_1 : decode cX11_isThing 1 = .ok (.ifCond .lt 18, 3) := by decide +kernel
theorem dX11_isThing_4 : decode cX11_isThing 4 = .ok (.iload_n 1, 1) := by decide +kernel
theorem dX11_isThing_5 : decode cX11_isThing 5 = .ok (.aload_n 0, 1) := by decide +kernel
theorem dX11_isThing_6 : decode cX11_isThing 6 = .ok (.getfield 25, 3) := by decide +kernel
theorem dX11_isThing_9 : decode cX11_isThing 9 = .ok (.invokevirtual 129, 3) := by decide +kernel
theorem dX11_isThing_12 : decode cX11_isThing 12 = .ok (.if_icmp .ge 7, 3) := by decide +kernel
theorem dX11_isThing_15 : decode cX11_isThing 15 = .ok (.iconst 1, 1) := by decide +kernel
theorem dX11_isThing_16 : decode cX11_isThing 16 = .ok (.goto 4, 3) := by decide +kernel
theorem dX11_isThing_19 : decode cX11_isThing 19 = .ok (.iconst 0, 1) := by decide +kernel
theorem dX11_isThing_20 : decode cX11_isThing 20 = .ok (.ireturn, 1) := by decide +kernel
abbrev o_X11_isThing : Type := Int32
def f_X11_isThing (S : wd_W) (p1 : Int32) : Option o_X11_isThing :=
if p1 < 0 then (
some (0 : Int32)) else (
bd (f_X2_things_q16 (wd_o S [] [] [] [] [])) fun o1 =>
if o1 ≤ p1 then (
some (0 : Int32)) else (
some (1 : Int32)))
set_option maxRecDepth 100000 in
set_option maxHeartbeats 4000000 in
theorem c_X11_isThing (l : Launch) (D : va_G) (q g : Nat → Nat) (cy : Nat → ClassId) (z : (Nat → Nat) × (Nat → Nat) × Nat) (S : wd_W) (p1 : Int32) (o : o_X11_isThing) (hf : f_X11_isThing S p1 = some o) : MX layX l yX11_isThing cX11_isThing 2 (some .boolean) ({ frames := 1, cells := 0, slots := 0, locals := 20 } : Room) D q g cy z [.ref (q 0), .int p1] S false (some (.int o)) (wd_o S [] [] [] [] []) 0 0 := by
  refine mx_of (own := RX11) (lc := [(0, .ref (q 0)), (1, .int p1)]) (by decide +kernel) rfl layX_ok (Nat.le_of_ble_eq_true rfl) rfl ?_
  intro X hXl hXq hXz hC hQ
  subst hXl; subst hXq; subst hXz
  unfold f_X11_isThing at hf
  refine go_iload_n (pc' := 1) hC dX11_isThing_0 rfl rfl ?_
  refine go_if_lt (tgt := 19) (pc' := 4) hC dX11_isThing_1 (by decide) rfl (fun h3 => ?_) (fun h3 => ?_)
  · have hf := ite_t h3 hf
    refine go_iconst (pc' := 20) hC dX11_isThing_19 ki_0 rfl ?_
    obtain rfl := Option.some.inj hf
    exact go_iret hC hQ dX11_isThing_20 rfl rfl rfl rfl (fun _ => rfl) rfl rfl
  · have hf := ite_f h3 hf
    refine go_iload_n (pc' := 5) hC dX11_isThing_4 rfl rfl ?_
    refine go_aload_n (pc' := 6) hC dX11_isThing_5 rfl rfl ?_
    refine go_getq (pc' := 9) hC 0 2 layX_0 rfl rfl inlX11 (Nat.le_of_ble_eq_true rfl) mw_20 rfl dX11_isThing_6 rfl ?_
    obtain ⟨o1, ho1, hf⟩ := bd_e hf
    refine go_callV0 (pc' := 12) (As := []) (st := [.int p1]) (st' := [.int o1, .int p1])    (b := 16) hC dX11_isThing_9 ⟨mw_484, mw_418, mw_14, yd_yX2_things, yp_yX2_things, Nat.le_of_ble_eq_true rfl, Nat.le_of_ble_eq_true rfl, (Nat.le_of_ble_eq_true rfl), (Nat.le_of_ble_eq_true rfl)⟩ mw_416 mw_417 layX_16 rfl rfl rfl (Nat.le_of_ble_eq_true rfl) (c_X2_things_q16 (x_l X) (x_D X) (x_q X) g (x_cy X) (x_z X) _  o1 ho1) rfl rfl ?_
    refine go_icmp_ge (tgt := 19) (pc' := 15) hC dX11_isThing_12 (by decide) rfl (fun h2 => ?_) (fun h2 => ?_)
    · have hf := ite_t h2 hf
      refine go_iconst (pc' := 20) hC dX11_isThing_19 ki_0 rfl ?_
      obtain rfl := Option.some.inj hf
      exact go_iret hC hQ dX11_isThing_20 rfl rfl rfl rfl (fun _ => rfl) rfl rfl
    · have hf := ite_f h2 hf
      refine go_iconst (pc' := 16) hC dX11_isThing_15 ki_1 rfl ?_
      refine go_goto (tgt := 20) hC dX11_isThing_16 (by decide) ?_
      obtain rfl := Option.some.inj hf
      exact go_iret hC hQ dX11_isThing_20 rfl rfl rfl rfl (fun _ => rfl) rfl rfl
theorem dX8_given_0 : decode cX8_given 0 = .ok (.iconst 1, 1) := by decide +kernel
theorem dX8_given_1 : decode cX8_given 1 = .ok (.iload_n 1, 1) := by decide +kernel
theorem dX8_given_2 : decode cX8_given 2 = .ok (.ishl, 1) := by decide +kernel
theorem dX8_given_3 : decode cX8_given 3 = .ok (.istore_n 3, 1) := by decide +kernel
theorem dX8_given_4 : decode cX8_given 4 = .ok (.lconst 0, 1) := by decide +kernel
theorem dX8_given_5 : decode cX8_given 5 = .ok (.lstore 4, 2) := by decide +kernel
theorem dX8_given_7 : decode cX8_given 7 = .ok (.iconst 0, 1) := by decide +kernel
theorem dX8_given_8 : decode cX8_given 8 = .ok (.istore 6, 2) := by decide +kernel
theorem dX8_given_10 : decode cX8_given 10 = .ok (.iload 6, 2) := by decide +kernel
theorem dX8_given_12 : decode cX8_given 12 = .ok (.aload_n 0, 1) := by decide +kernel
theorem dX8_given_13 : decode cX8_given 13 = .ok (.getfield 64, 3) := by decide +kernel
theorem dX8_given_16 : decode cX8_given 16 = .ok (.if_icmp .ge 58, 3) := by decide +kernel
theorem dX8_given_19 : decode cX8_given 19 = .ok (.iload 6, 2) := by decide +kernel
theorem dX8_given_21 : decode cX8_given 21 = .ok (.iload_n 3, 1) := by decide +kernel
theorem dX8_given_22 : decode cX8_given 22 = .ok (.iand, 1) := by decide +kernel
theorem dX8_given_23 : decode cX8_given 23 = .ok (.ifCond .ne 45, 3) := by decide +kernel
theorem dX8_given_26 : decode cX8_given 26 = .ok (.aload_n 0, 1) := by decide +kernel
theorem dX8_given_27 : decode cX8_given 27 = .ok (.iload_n 2, 1) := by decide +kernel
theorem dX8_given_28 : decode cX8_given 28 = .ok (.ifCond .eq 10, 3) := by decide +kernel
theorem dX8_given_31 : decode cX8_given 31 = .ok (.iload 6, 2) := by decide +kernel
theorem dX8_given_33 : decode cX8_given 33 = .ok (.iload_n 3, 1) := by decide +kernel
theorem dX8_given_34 : decode cX8_given 34 = .ok (.ior, 1) := by decide +kernel
theorem dX8_given_35 : decode cX8_given 35 = .ok (.goto 5, 3) := by decide +kernel
theorem dX8_given_38 : decode cX8_given 38 = .ok (.iload 6, 2) := by decide +kernel
theorem dX8_given_40 : decode cX8_given 40 = .ok (.invokevirtual 103, 3) := by decide +kernel
theorem dX8_given_43 : decode cX8_given 43 = .ok (.ifCond .eq 25, 3) := by decide +kernel
theorem dX8_given_46 : decode cX8_given 46 = .ok (.lload 4, 2) := by decide +kernel
theorem dX8_given_48 : decode cX8_given 48 = .ok (.aload_n 0, 1) := by decide +kernel
theorem dX8_given_49 : decode cX8_given 49 = .ok (.getfield 9, 3) := by decide +kernel
theorem dX8_given_52 : decode cX8_given 52 = .ok (.iload 6, 2) := by decide +kernel
theorem dX8_given_54 : decode cX8_given 54 = .ok (.laload, 1) := by decide +kernel
theorem dX8_given_55 : decode cX8_given 55 = .ok (.aload_n 0, 1) := by decide +kernel
theorem dX8_given_56 : decode cX8_given 56 = .ok (.getfield 9, 3) := by decide +kernel
theorem dX8_given_59 : decode cX8_given 59 = .ok (.iload 6, 2) := by decide +kernel
theorem dX8_given_61 : decode cX8_given 61 = .ok (.iload_n 3, 1) := by decide +kernel
theorem dX8_given_62 : decode cX8_given 62 = .ok (.ior, 1) := by decide +kernel
theorem dX8_given_63 : decode cX8_given 63 = .ok (.laload, 1) := by decide +kernel
theorem dX8_given_64 : decode cX8_given 64 = .ok (.ladd, 1) := by decide +kernel
theorem dX8_given_65 : decode cX8_given 65 = .ok (.ladd, 1) := by decide +kernel
theorem dX8_given_66 : decode cX8_given 66 = .ok (.lstore 4, 2) := by decide +kernel
theorem dX8_given_68 : decode cX8_given 68 = .ok (.iinc 6 1, 3) := by decide +kernel
theorem dX8_given_71 : decode cX8_given 71 = .ok (.goto (-61), 3) := by decide +kernel
theorem dX8_given_74 : decode cX8_given 74 = .ok (.lload 4, 2) := by decide +kernel
theorem dX8_given_76 : decode cX8_given 76 = .ok (.ldc2_w 47, 3) := by decide +kernel
theorem dX8_given_79 : decode cX8_given 79 = .ok (.ldiv, 1) := by decide +kernel
theorem dX8_given_80 : decode cX8_given 80 = .ok (.lreturn, 1) := by decide +kernel
abbrev o_X8_given_q106 : Type := Int64
def f_X8_given_q106_L10 (S : wd_W) (p2 : Int32) (x1 : Int32) (k74_3 : (Int64) → (Option o_X8_given_q106)) (r6 : (Int64) → (Int32) → (Option o_X8_given_q106)) (x4 : Int64) (x5 : Int32) : Option o_X8_given_q106 :=
if (S.1 10602) ≤ x5 then (
k74_3 x4) else (
lk (fun x7 =>
r6 x7 (x5 + (1 : Int32))) fun k68_8 =>
if (x5 &&& x1) = 0 then (
lk (fun x9 =>
bd (f_X8_isThrough_q106 (wd_o S [] [] [] [] []) x9) fun o11 =>
if o11 = 0 then (
k68_8 x4) else (
gd (okx x5 (S.2.2.2.2 107)) <|
gd (okx (x5 ||| x1) (S.2.2.2.2 107)) <|
lz (x4 + (((S.2.2.2.1 107) x5.toNatClampNeg) + ((S.2.2.2.1 107) (x5 ||| x1).toNatClampNeg))) fun x14 =>
k68_8 x14)) fun k40_10 =>
if p2 = 0 then (
k40_10 x5) else (
k40_10 (x5 ||| x1))) else (
k68_8 x4))
def f_X8_given_q106 (S : wd_W) (p1 : Int32) (p2 : Int32) : Option o_X8_given_q106 :=
lz ((1 : Int32) <<< (p1 &&& 31)) fun x1 =>
lk (fun x2 =>
some (x2 / (16 : Int64))) fun k74_3 =>
it2 (f_X8_given_q106_L10 S p2 x1 k74_3) fuel (0 : Int64) (0 : Int32)
set_option maxRecDepth 100000 in
set_option maxHeartbeats 4000000 in
theorem c_X8_given_q106 (l : Launch) (D : va_G) (q g : Nat → Nat) (cy : Nat → ClassId) (z : (Nat → Nat) × (Nat → Nat) × Nat) (S : wd_W) (p1 : Int32) (p2 : Int32) (o : o_X8_given_q106) (hf : f_X8_given_q106 S p1 p2 = some o) : MX layX l yX8_given cX8_given 7 (some .long) ({ frames := 2, cells := 0, slots := 0, locals := 42 } : Room) D q g cy z [.ref (q 106), .int p1, .int p2] S false (some (.long o)) (wd_o S [] [] [] [] []) 0 0 := by
  refine mx_of (own := RX8) (lc := [(0, .ref (q 106)), (1, .int p1), (2, .int p2)]) (by decide +kernel) rfl layX_ok (Nat.le_of_ble_eq_true rfl) rfl ?_
  intro X hXl hXq hXz hC hQ
  subst hXl; subst hXq; subst hXz
  unfold f_X8_given_q106 at hf
  refine go_iconst (pc' := 1) hC dX8_given_0 ki_1 rfl ?_
  refine go_iload_n (pc' := 2) hC dX8_given_1 rfl rfl ?_
  refine go_ishl (pc' := 3) hC dX8_given_2 rfl ?_
  refine go_namei (fun x1 hx => ?_)
  have hf := lz_r hx hf
  clear hx
  refine go_istore_n (lc' := [(0, .ref (x_q X 106)), (1, .int p1), (2, .int p2), (3, .int x1)]) (pc' := 4) hC dX8_given_3 (Nat.le_of_ble_eq_true rfl) rfl rfl ?_
  refine go_lconst (pc' := 5) hC dX8_given_4 kl_0 rfl ?_
  refine go_lstore (lc' := [(0, .ref (x_q X 106)), (1, .int p1), (2, .int p2), (3, .int x1), (4, .long (0 : Int64))]) (pc' := 7) hC dX8_given_5 (Nat.le_of_ble_eq_true rfl) rfl rfl ?_
  refine go_iconst (pc' := 8) hC dX8_given_7 ki_0 rfl ?_
  refine go_istore (lc' := [(0, .ref (x_q X 106)), (1, .int p1), (2, .int p2), (3, .int x1), (4, .long (0 : Int64)), (6, .int (0 : Int32))]) (pc' := 10) hC dX8_given_8 (Nat.le_of_ble_eq_true rfl) rfl rfl ?_
  obtain ⟨k74_3, hk74_3, hf⟩ := lk_e1 hf
  have jk74_3 : ∀ (x2 : Int64), k74_3 x2 = some o → Go X layX S 74 [(4, .long x2)] [] g [] [] [] [] [] 0 0 := by
    intro x2 hf
    have hf := hk74_3 x2 hf
    clear hk74_3
    refine go_lload (pc' := 76) hC dX8_given_74 rfl rfl ?_
    refine go_ldc2 (pc' := 79) hC dX8_given_76 mw_951 rfl ?_
    refine go_ldiv (pc' := 80) hC dX8_given_79 (by decide) rfl ?_
    obtain rfl := Option.some.inj hf
    exact go_lret hC hQ dX8_given_80 rfl rfl rfl (fun _ => rfl) rfl rfl
  clear hk74_3
  have l10_19 : ∀ (nn : Nat) (x4 : Int64) (x5 : Int32), it2 (f_X8_given_q106_L10 S p2 x1 k74_3) nn x4 x5 = some o → Go X layX S 10 [(0, .ref (x_q X 106)), (2, .int p2), (3, .int x1), (4, .long x4), (6, .int x5)] [] g [] [] [] [] [] 0 0 := by
    intro nn
    induction nn with
    | zero =>
      intro x4 x5 hf
      exact none_no hf
    | succ nn ih =>
      intro x4 x5 hf
      have hf : f_X8_given_q106_L10 S p2 x1 k74_3 (it2 (f_X8_given_q106_L10 S p2 x1 k74_3) nn) x4 x5 = some o := hf
      generalize it2 (f_X8_given_q106_L10 S p2 x1 k74_3) nn = r6 at ih hf
      unfold f_X8_given_q106_L10 at hf
      refine go_iload (pc' := 12) hC dX8_given_10 rfl rfl ?_
      refine go_aload_n (pc' := 13) hC dX8_given_12 rfl rfl ?_
      refine go_geti (v := (S.1 10602)) (pc' := 16) hC 106 2 layX_106 rfl rfl inlX8 (Nat.le_of_ble_eq_true rfl) mw_610 rfl dX8_given_13 rfl rfl ?_
      refine go_icmp_ge (tgt := 74) (pc' := 19) hC dX8_given_16 (by decide) rfl (fun h18 => ?_) (fun h18 => ?_)
      · have hf := ite_t h18 hf
        refine go_sub [4] rfl ?_
        exact jk74_3 x4 hf
      · have hf := ite_f h18 hf
        refine go_iload (pc' := 21) hC dX8_given_19 rfl rfl ?_
        refine go_iload_n (pc' := 22) hC dX8_given_21 rfl rfl ?_
        refine go_iand (pc' := 23) hC dX8_given_22 rfl ?_
        obtain ⟨k68_8, hk68_8, hf⟩ := lk_e1 hf
        have jk68_8 : ∀ (x7 : Int64), k68_8 x7 = some o → Go X layX S 68 [(0, .ref (x_q X 106)), (2, .int p2), (3, .int x1), (4, .long x7), (6, .int x5)] [] g [] [] [] [] [] 0 0 := by
          intro x7 hf
          have hf := hk68_8 x7 hf
          clear hk68_8
          refine go_iinc (lc' := [(0, .ref (x_q X 106)), (2, .int p2), (3, .int x1), (4, .long x7), (6, .int (x5 + (1 : Int32)))]) (pc' := 71) hC dX8_given_68 rfl ki_1 (Nat.le_of_ble_eq_true rfl) rfl rfl ?_
          refine go_goto (tgt := 10) hC dX8_given_71 (by decide) ?_
          exact ih x7 (x5 + (1 : Int32)) hf
        clear hk68_8
        refine go_if_ne (tgt := 68) (pc' := 26) hC dX8_given_23 (by decide) rfl (fun h17 => ?_) (fun h17 => ?_)
        · have hf := ite_f h17 hf
          exact jk68_8 x4 hf
        · have hf := ite_t h17 hf
          refine go_aload_n (pc' := 27) hC dX8_given_26 rfl rfl ?_
          refine go_iload_n (pc' := 28) hC dX8_given_27 rfl rfl ?_
          obtain ⟨k40_10, hk40_10, hf⟩ := lk_e1 hf
          have jk40_10 : ∀ (x9 : Int32), k40_10 x9 = some o → Go X layX S 40 [(0, .ref (x_q X 106)), (2, .int p2), (3, .int x1), (4, .long x4), (6, .int x5)] [.int x9, .ref (x_q X 106)] g [] [] [] [] [] 0 0 := by
            intro x9 hf
            have hf := hk40_10 x9 hf
            clear hk40_10
            obtain ⟨o11, ho11, hf⟩ := bd_e hf
            refine go_callV0 (pc' := 43) (As := [.int x9]) (st := []) (st' := [.int o11])    (b := 106) hC dX8_given_40 ⟨mw_914, mw_734, mw_31, yd_yX8_isThrough, yp_yX8_isThrough, Nat.le_of_ble_eq_true rfl, Nat.le_of_ble_eq_true rfl, (Nat.le_of_ble_eq_true rfl), (Nat.le_of_ble_eq_true rfl)⟩ mw_732 mw_733 layX_106 rfl rfl rfl (Nat.le_of_ble_eq_true rfl) (c_X8_isThrough_q106 (x_l X) (x_D X) (x_q X) g (x_cy X) (x_z X) _ x9 o11 ho11) rfl rfl ?_
            refine go_if_eq (tgt := 68) (pc' := 46) hC dX8_given_43 (by decide) rfl (fun h15 => ?_) (fun h15 => ?_)
            · have hf := ite_t h15 hf
              exact jk68_8 x4 hf
            · have hf := ite_f h15 hf
              refine go_lload (pc' := 48) hC dX8_given_46 rfl rfl ?_
              refine go_aload_n (pc' := 49) hC dX8_given_48 rfl rfl ?_
              refine go_getg (pc' := 52) hC 106 4 layX_106 rfl rfl inlX8 (Nat.le_of_ble_eq_true rfl) mw_92 rfl dX8_given_49 rfl ?_
              refine go_iload (pc' := 54) hC dX8_given_52 rfl rfl ?_
              obtain ⟨h12, hf⟩ := gd_e hf
              refine go_laldg (f := (S.2.2.2.1 107)) (pc' := 55) hC 107 layX_107 rfl rfl dX8_given_54 (okx_in h12) rfl ?_
              refine go_aload_n (pc' := 56) hC dX8_given_55 rfl rfl ?_
              refine go_getg (pc' := 59) hC 106 4 layX_106 rfl rfl inlX8 (Nat.le_of_ble_eq_true rfl) mw_92 rfl dX8_given_56 rfl ?_
              refine go_iload (pc' := 61) hC dX8_given_59 rfl rfl ?_
              refine go_iload_n (pc' := 62) hC dX8_given_61 rfl rfl ?_
              refine go_ior (pc' := 63) hC dX8_given_62 rfl ?_
              obtain ⟨h13, hf⟩ := gd_e hf
              refine go_laldg (f := (S.2.2.2.1 107)) (pc' := 64) hC 107 layX_107 rfl rfl dX8_given_63 (okx_in h13) rfl ?_
              refine go_ladd (pc' := 65) hC dX8_given_64 rfl ?_
              refine go_ladd (pc' := 66) hC dX8_given_65 rfl ?_
              refine go_namel (fun x14 hx => ?_)
              have hf := lz_r hx hf
              clear hx
              refine go_lstore (lc' := [(0, .ref (x_q X 106)), (2, .int p2), (3, .int x1), (4, .long x14), (6, .int x5)]) (pc' := 68) hC dX8_given_66 (Nat.le_of_ble_eq_true rfl) rfl rfl ?_
              exact jk68_8 x14 hf
          clear hk40_10
          refine go_if_eq (tgt := 38) (pc' := 31) hC dX8_given_28 (by decide) rfl (fun h16 => ?_) (fun h16 => ?_)
          · have hf := ite_t h16 hf
            refine go_iload (pc' := 40) hC dX8_given_38 rfl rfl ?_
            exact jk40_10 x5 hf
          · have hf := ite_f h16 hf
            refine go_iload (pc' := 33) hC dX8_given_31 rfl rfl ?_
            refine go_iload_n (pc' := 34) hC dX8_given_33 rfl rfl ?_
            refine go_ior (pc' := 35) hC dX8_given_34 rfl ?_
            refine go_goto (tgt := 40) hC dX8_given_35 (by decide) ?_
            exact jk40_10 (x5 ||| x1) hf
  refine go_sub [0, 2, 3, 4, 6] rfl ?_
  exact l10_19 fuel (0 : Int64) (0 : Int32) hf
