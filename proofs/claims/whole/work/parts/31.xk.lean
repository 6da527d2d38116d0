theorem dX5_lookFirst_0 : decode cX5_lookFirst 0 = .ok (.aload_n 0, 1) := by decide +kernel
theorem dX5_lookFirst_1 : decode cX5_lookFirst 1 = .ok (.iconst 0, 1) := by decide +kernel
theorem dX5_lookFirst_2 : decode cX5_lookFirst 2 = .ok (.invokevirtual 78, 3) := by decide +kernel
theorem dX5_lookFirst_5 : decode cX5_lookFirst 5 = .ok (.lstore_n 1, 1) := by decide +kernel
theorem dX5_lookFirst_6 : decode cX5_lookFirst 6 = .ok (.lload_n 1, 1) := by decide +kernel
theorem dX5_lookFirst_7 : decode cX5_lookFirst 7 = .ok (.lconst 0, 1) := by decide +kernel
theorem dX5_lookFirst_8 : decode cX5_lookFirst 8 = .ok (.lcmp, 1) := by decide +kernel
theorem dX5_lookFirst_9 : decode cX5_lookFirst 9 = .ok (.ifCond .ne 5, 3) := by decide +kernel
theorem dX5_lookFirst_12 : decode cX5_lookFirst 12 = .ok (.iconst (-1), 1) := by decide +kernel
theorem dX5_lookFirst_13 : decode cX5_lookFirst 13 = .ok (.ireturn, 1) := by decide +kernel
theorem dX5_lookFirst_14 : decode cX5_lookFirst 14 = .ok (.iconst (-1), 1) := by decide +kernel
theorem dX5_lookFirst_15 : decode cX5_lookFirst 15 = .ok (.istore_n 3, 1) := by decide +kernel
theorem dX5_lookFirst_16 : decode cX5_lookFirst 16 = .ok (.lconst 0, 1) := by decide +kernel
theorem dX5_lookFirst_17 : decode cX5_lookFirst 17 = .ok (.lstore 4, 2) := by decide +kernel
theorem dX5_lookFirst_19 : decode cX5_lookFirst 19 = .ok (.iconst 0, 1) := by decide +kernel
theorem dX5_lookFirst_20 : decode cX5_lookFirst 20 = .ok (.istore 6, 2) := by decide +kernel
theorem dX5_lookFirst_22 : decode cX5_lookFirst 22 = .ok (.iload 6, 2) := by decide +kernel
theorem dX5_lookFirst_24 : decode cX5_lookFirst 24 = .ok (.aload_n 0, 1) := by decide +kernel
theorem dX5_lookFirst_25 : decode cX5_lookFirst 25 = .ok (.getfield 30, 3) := by decide +kernel
theorem dX5_lookFirst_28 : decode cX5_lookFirst 28 = .ok (.getfield 82, 3) := by decide +kernel
theorem dX5_lookFirst_31 : decode cX5_lookFirst 31 = .ok (.getfield 86, 3) := by decide +kernel
theorem dX5_lookFirst_34 : decode cX5_lookFirst 34 = .ok (.if_icmp .ge 48, 3) := by decide +kernel
theorem dX5_lookFirst_37 : decode cX5_lookFirst 37 = .ok (.ldc2_w 91, 3) := by decide +kernel
theorem dX5_lookFirst_40 : decode cX5_lookFirst 40 = .ok (.aload_n 0, 1) := by decide +kernel
theorem dX5_lookFirst_41 : decode cX5_lookFirst 41 = .ok (.iconst 1, 1) := by decide +kernel
theorem dX5_lookFirst_42 : decode cX5_lookFirst 42 = .ok (.iload 6, 2) := by decide +kernel
theorem dX5_lookFirst_44 : decode cX5_lookFirst 44 = .ok (.ishl, 1) := by decide +kernel
theorem dX5_lookFirst_45 : decode cX5_lookFirst 45 = .ok (.invokevirtual 78, 3) := by decide +kernel
theorem dX5_lookFirst_48 : decode cX5_lookFirst 48 = .ok (.lmul, 1) := by decide +kernel
theorem dX5_lookFirst_49 : decode cX5_lookFirst 49 = .ok (.lload_n 1, 1) := by decide +kernel
theorem dX5_lookFirst_50 : decode cX5_lookFirst 50 = .ok (.lsub, 1) := by decide +kernel
theorem dX5_lookFirst_51 : decode cX5_lookFirst 51 = .ok (.invokestatic 93, 3) := by decide +kernel
theorem dX5_lookFirst_54 : decode cX5_lookFirst 54 = .ok (.lstore 7, 2) := by decide +kernel
theorem dX5_lookFirst_56 : decode cX5_lookFirst 56 = .ok (.iload_n 3, 1) := by decide +kernel
theorem dX5_lookFirst_57 : decode cX5_lookFirst 57 = .ok (.iconst (-1), 1) := by decide +kernel
theorem dX5_lookFirst_58 : decode cX5_lookFirst 58 = .ok (.if_icmp .eq 11, 3) := by decide +kernel
theorem dX5_lookFirst_61 : decode cX5_lookFirst 61 = .ok (.lload 7, 2) := by decide +kernel
theorem dX5_lookFirst_63 : decode cX5_lookFirst 63 = .ok (.lload 4, 2) := by decide +kernel
theorem dX5_lookFirst_65 : decode cX5_lookFirst 65 = .ok (.lcmp, 1) := by decide +kernel
theorem dX5_lookFirst_66 : decode cX5_lookFirst 66 = .ok (.ifCond .ge 10, 3) := by decide +kernel
theorem dX5_lookFirst_69 : decode cX5_lookFirst 69 = .ok (.iload 6, 2) := by decide +kernel
theorem dX5_lookFirst_71 : decode cX5_lookFirst 71 = .ok (.istore_n 3, 1) := by decide +kernel
theorem dX5_lookFirst_72 : decode cX5_lookFirst 72 = .ok (.lload 7, 2) := by decide +kernel
theorem dX5_lookFirst_74 : decode cX5_lookFirst 74 = .ok (.lstore 4, 2) := by decide +kernel
theorem dX5_lookFirst_76 : decode cX5_lookFirst 76 = .ok (.iinc 6 1, 3) := by decide +kernel
theorem dX5_lookFirst_79 : decode cX5_lookFirst 79 = .ok (.goto (-57), 3) := by decide +kernel
theorem dX5_lookFirst_82 : decode cX5_lookFirst 82 = .ok (.iload_n 3, 1) := by decide +kernel
theorem dX5_lookFirst_83 : decode cX5_lookFirst 83 = .ok (.ireturn, 1) := by decide +kernel
abbrev o_X5_lookFirst_q137 : Type := Int32
def f_X5_lookFirst_q137_L22 (S : wd_W) (o1 : o_X5_agreeing_q137) (r5 : (Int32) → (Int64) → (Int32) → (Option o_X5_lookFirst_q137)) (x2 : Int32) (x3 : Int64) (x4 : Int32) : Option o_X5_lookFirst_q137 :=
if (S.1 11700) ≤ x4 then (
some x2) else (
bd (f_X5_agreeing_q137 (wd_o S [] [] [] [] []) ((1 : Int32) <<< (x4 &&& 31))) fun o6 =>
lz ((if 0 < (((2 : Int64) * o6) - o1) then (((2 : Int64) * o6) - o1) else -(((2 : Int64) * o6) - o1))) fun x7 =>
lk (fun x8 x9 =>
r5 x8 x9 (x4 + (1 : Int32))) fun k76_10 =>
lk (k76_10 x4 x7) fun k69_11 =>
if x2 = (-1 : Int32) then (
k69_11) else (
if x3 ≤ x7 then (
k76_10 x2 x3) else (
k69_11)))
def f_X5_lookFirst_q137 (S : wd_W) : Option o_X5_lookFirst_q137 :=
bd (f_X5_agreeing_q137 (wd_o S [] [] [] [] []) (0 : Int32)) fun o1 =>
if o1 = (0 : Int64) then (
some (-1 : Int32)) else (
it3 (f_X5_lookFirst_q137_L22 S o1) fuel (-1 : Int32) (0 : Int64) (0 : Int32))
set_option maxRecDepth 100000 in
set_option maxHeartbeats 4000000 in
theorem c_X5_lookFirst_q137 (l : Launch) (D : va_G) (q g : Nat → Nat) (cy : Nat → ClassId) (z : (Nat → Nat) × (Nat → Nat) × Nat) (S : wd_W) (o : o_X5_lookFirst_q137) (hf : f_X5_lookFirst_q137 S = some o) : MX layX l yX5_lookFirst cX5_lookFirst 9 (some .int) ({ frames := 2, cells := 0, slots := 0, locals := 45 } : Room) D q g cy z [.ref (q 137)] S false (some (.int o)) (wd_o S [] [] [] [] []) 0 0 := by
  refine mx_of (own := RX5) (lc := [(0, .ref (q 137))]) (by decide +kernel) rfl layX_ok (Nat.le_of_ble_eq_true rfl) rfl ?_
  intro X hXl hXq hXz hC hQ
  subst hXl; subst hXq; subst hXz
  unfold f_X5_lookFirst_q137 at hf
  refine go_aload_n (pc' := 1) hC dX5_lookFirst_0 rfl rfl ?_
  refine go_iconst (pc' := 2) hC dX5_lookFirst_1 ki_0 rfl ?_
  obtain ⟨o1, ho1, hf⟩ := bd_e hf
  refine go_callV0 (pc' := 5) (As := [.int (0 : Int32)]) (st := []) (st' := [.long o1])    (b := 137) hC dX5_lookFirst_2 ⟨mw_1295, mw_1264, mw_44, yd_yX5_agreeing, yp_yX5_agreeing, Nat.le_of_ble_eq_true rfl, Nat.le_of_ble_eq_true rfl, (Nat.le_of_ble_eq_true rfl), (Nat.le_of_ble_eq_true rfl)⟩ mw_1262 mw_1263 layX_137 rfl rfl rfl (Nat.le_of_ble_eq_true rfl) (c_X5_agreeing_q137 (x_l X) (x_D X) (x_q X) g (x_cy X) (x_z X) _ (0 : Int32) o1 ho1) rfl rfl ?_
  refine go_lstore_n (lc' := [(0, .ref (x_q X 137)), (1, .long o1)]) (pc' := 6) hC dX5_lookFirst_5 (Nat.le_of_ble_eq_true rfl) rfl rfl ?_
  refine go_lload_n (pc' := 7) hC dX5_lookFirst_6 rfl rfl ?_
  refine go_lconst (pc' := 8) hC dX5_lookFirst_7 kl_0 rfl ?_
  refine go_lcmp (pc' := 9) hC dX5_lookFirst_8 rfl ?_
  refine go_if_ne (tgt := 14) (pc' := 12) hC dX5_lookFirst_9 (by decide) rfl (fun h16 => ?_) (fun h16 => ?_)
  · have hf := ite_f (mt lg_eq.mpr h16) hf
    refine go_iconst (pc' := 15) hC dX5_lookFirst_14 ki_m1 rfl ?_
    refine go_istore_n (lc' := [(0, .ref (x_q X 137)), (1, .long o1), (3, .int (-1 : Int32))]) (pc' := 16) hC dX5_lookFirst_15 (Nat.le_of_ble_eq_true rfl) rfl rfl ?_
    refine go_lconst (pc' := 17) hC dX5_lookFirst_16 kl_0 rfl ?_
    refine go_lstore (lc' := [(0, .ref (x_q X 137)), (1, .long o1), (3, .int (-1 : Int32)), (4, .long (0 : Int64))]) (pc' := 19) hC dX5_lookFirst_17 (Nat.le_of_ble_eq_true rfl) rfl rfl ?_
    refine go_iconst (pc' := 20) hC dX5_lookFirst_19 ki_0 rfl ?_
    refine go_istore (lc' := [(0, .ref (x_q X 137)), (1, .long o1), (3, .int (-1 : Int32)), (4, .long (0 : Int64)), (6, .int (0 : Int32))]) (pc' := 22) hC dX5_lookFirst_20 (Nat.le_of_ble_eq_true rfl) rfl rfl ?_
    have l22_15 : ∀ (nn : Nat) (x2 : Int32) (x3 : Int64) (x4 : Int32), it3 (f_X5_lookFirst_q137_L22 S o1) nn x2 x3 x4 = some o → Go X layX S 22 [(0, .ref (x_q X 137)), (1, .long o1), (3, .int x2), (4, .long x3), (6, .int x4)] [] g [] [] [] [] [] 0 0 := by
      intro nn
      induction nn with
      | zero =>
        intro x2 x3 x4 hf
        exact none_no hf
      | succ nn ih =>
        intro x2 x3 x4 hf
        have hf : f_X5_lookFirst_q137_L22 S o1 (it3 (f_X5_lookFirst_q137_L22 S o1) nn) x2 x3 x4 = some o := hf
        generalize it3 (f_X5_lookFirst_q137_L22 S o1) nn = r5 at ih hf
        unfold f_X5_lookFirst_q137_L22 at hf
        refine go_iload (pc' := 24) hC dX5_lookFirst_22 rfl rfl ?_
        refine go_aload_n (pc' := 25) hC dX5_lookFirst_24 rfl rfl ?_
        refine go_getq (pc' := 28) hC 137 1 layX_137 rfl rfl inlX5 (Nat.le_of_ble_eq_true rfl) mw_156 rfl dX5_lookFirst_25 rfl ?_
        refine go_getq (pc' := 31) hC 106 1 layX_106 rfl rfl inlX8 (Nat.le_of_ble_eq_true rfl) mw_1289 rfl dX5_lookFirst_28 rfl ?_
        refine go_geti (v := (S.1 11700)) (pc' := 34) hC 117 0 layX_117 rfl rfl inlX10 (Nat.le_of_ble_eq_true rfl) mw_1290 rfl dX5_lookFirst_31 rfl rfl ?_
        refine go_icmp_ge (tgt := 82) (pc' := 37) hC dX5_lookFirst_34 (by decide) rfl (fun h14 => ?_) (fun h14 => ?_)
        · have hf := ite_t h14 hf
          refine go_iload_n (pc' := 83) hC dX5_lookFirst_82 rfl rfl ?_
          obtain rfl := Option.some.inj hf
          exact go_iret hC hQ dX5_lookFirst_83 rfl rfl rfl rfl (fun _ => rfl) rfl rfl
        · have hf := ite_f h14 hf
          refine go_ldc2 (pc' := 40) hC dX5_lookFirst_37 mw_1291 rfl ?_
          refine go_aload_n (pc' := 41) hC dX5_lookFirst_40 rfl rfl ?_
          refine go_iconst (pc' := 42) hC dX5_lookFirst_41 ki_1 rfl ?_
          refine go_iload (pc' := 44) hC dX5_lookFirst_42 rfl rfl ?_
          refine go_ishl (pc' := 45) hC dX5_lookFirst_44 rfl ?_
          obtain ⟨o6, ho6, hf⟩ := bd_e hf
          refine go_callV0 (pc' := 48) (As := [.int ((1 : Int32) <<< (x4 &&& 31))]) (st := [.long (2 : Int64)]) (st' := [.long o6, .long (2 : Int64)])    (b := 137) hC dX5_lookFirst_45 ⟨mw_1295, mw_1264, mw_44, yd_yX5_agreeing, yp_yX5_agreeing, Nat.le_of_ble_eq_true rfl, Nat.le_of_ble_eq_true rfl, (Nat.le_of_ble_eq_true rfl), (Nat.le_of_ble_eq_true rfl)⟩ mw_1262 mw_1263 layX_137 rfl rfl rfl (Nat.le_of_ble_eq_true rfl) (c_X5_agreeing_q137 (x_l X) (x_D X) (x_q X) g (x_cy X) (x_z X) _ ((1 : Int32) <<< (x4 &&& 31)) o6 ho6) rfl rfl ?_
          refine go_lmul (pc' := 49) hC dX5_lookFirst_48 rfl ?_
          refine go_lload_n (pc' := 50) hC dX5_lookFirst_49 rfl rfl ?_
          refine go_lsub (pc' := 51) hC dX5_lookFirst_50 rfl ?_
          refine go_mabs (pc' := 54) hC dX5_lookFirst_51 mw_1292 (Nat.le_of_ble_eq_true rfl) (Nat.le_of_ble_eq_true rfl) (Nat.le_of_ble_eq_true rfl) (Nat.le_of_ble_eq_true rfl) rfl ?_
          refine go_namel (fun x7 hx => ?_)
          have hf := lz_r hx hf
          clear hx
          refine go_lstore (lc' := [(0, .ref (x_q X 137)), (1, .long o1), (3, .int x2), (4, .long x3), (6, .int x4), (7, .long x7)]) (pc' := 56) hC dX5_lookFirst_54 (Nat.le_of_ble_eq_true rfl) rfl rfl ?_
          refine go_iload_n (pc' := 57) hC dX5_lookFirst_56 rfl rfl ?_
          refine go_iconst (pc' := 58) hC dX5_lookFirst_57 ki_m1 rfl ?_
          obtain ⟨k76_10, hk76_10, hf⟩ := lk_e2 hf
          have jk76_10 : ∀ (x8 : Int32) (x9 : Int64), k76_10 x8 x9 = some o → Go X layX S 76 [(0, .ref (x_q X 137)), (1, .long o1), (3, .int x8), (4, .long x9), (6, .int x4)] [] g [] [] [] [] [] 0 0 := by
            intro x8 x9 hf
            have hf := hk76_10 x8 x9 hf
            clear hk76_10
            refine go_iinc (lc' := [(0, .ref (x_q X 137)), (1, .long o1), (3, .int x8), (4, .long x9), (6, .int (x4 + (1 : Int32)))]) (pc' := 79) hC dX5_lookFirst_76 rfl ki_1 (Nat.le_of_ble_eq_true rfl) rfl rfl ?_
            refine go_goto (tgt := 22) hC dX5_lookFirst_79 (by decide) ?_
            exact ih x8 x9 (x4 + (1 : Int32)) hf
          clear hk76_10
          obtain ⟨k69_11, hk69_11, hf⟩ := lk_e0 hf
          have jk69_11 : ∀ (_ : Unit), k69_11 = some o → Go X layX S 69 [(0, .ref (x_q X 137)), (1, .long o1), (6, .int x4), (7, .long x7)] [] g [] [] [] [] [] 0 0 := by
            intro _ hf
            have hf := hk69_11 hf
            clear hk69_11
            refine go_iload (pc' := 71) hC dX5_lookFirst_69 rfl rfl ?_
            refine go_istore_n (lc' := [(0, .ref (x_q X 137)), (1, .long o1), (3, .int x4), (6, .int x4), (7, .long x7)]) (pc' := 72) hC dX5_lookFirst_71 (Nat.le_of_ble_eq_true rfl) rfl rfl ?_
            refine go_lload (pc' := 74) hC dX5_lookFirst_72 rfl rfl ?_
            refine go_lstore (lc' := [(0, .ref (x_q X 137)), (1, .long o1), (3, .int x4), (4, .long x7), (6, .int x4), (7, .long x7)]) (pc' := 76) hC dX5_lookFirst_74 (Nat.le_of_ble_eq_true rfl) rfl rfl ?_
            refine go_sub [0, 1, 3, 4, 6] rfl ?_
            exact jk76_10 x4 x7 hf
          clear hk69_11
          refine go_icmp_eq (tgt := 69) (pc' := 61) hC dX5_lookFirst_58 (by decide) rfl (fun h13 => ?_) (fun h13 => ?_)
          · have hf := ite_t h13 hf
            refine go_sub [0, 1, 6, 7] rfl ?_
            exact jk69_11 () hf
          · have hf := ite_f h13 hf
            refine go_lload (pc' := 63) hC dX5_lookFirst_61 rfl rfl ?_
            refine go_lload (pc' := 65) hC dX5_lookFirst_63 rfl rfl ?_
            refine go_lcmp (pc' := 66) hC dX5_lookFirst_65 rfl ?_
            refine go_if_ge (tgt := 76) (pc' := 69) hC dX5_lookFirst_66 (by decide) rfl (fun h12 => ?_) (fun h12 => ?_)
            · have hf := ite_t (lg_ge.mp h12) hf
              refine go_sub [0, 1, 3, 4, 6] rfl ?_
              exact jk76_10 x2 x3 hf
            · have hf := ite_f (mt lg_ge.mpr h12) hf
              refine go_sub [0, 1, 6, 7] rfl ?_
              exact jk69_11 () hf
    exact l22_15 fuel (-1 : Int32) (0 : Int64) (0 : Int32) hf
  · have hf := ite_t (lg_eq.mp h16) hf
    refine go_iconst (pc' := 13) hC dX5_lookFirst_12 ki_m1 rfl ?_
    obtain rfl := Option.some.inj hf
    exact go_iret hC hQ dX5_lookFirst_13 rfl rfl rfl rfl (fun _ => rfl) rfl rfl
theorem dX11_look_0 : decode cX11_look 0 = .ok (.aload_n 0, 1) := by decide +kernel
theorem dX11_look_1 : decode cX11_look 1 = .ok (.invokevirtual 285, 3) := by decide +kernel
theorem dX11_look_4 : decode cX11_look 4 = .ok (.invokevirtual 292, 3) := by decide +kernel
theorem dX11_look_7 : decode cX11_look 7 = .ok (.ireturn, 1) := by decide +kernel
abbrev o_X11_look : Type := Int32 × wd_W × Nat × Nat
def f_X11_look (S : wd_W) : Option o_X11_look :=
bd (f_X11_knownMail (wd_o S [] [] [] [] [])) fun o1 =>
gd (okr (0 + o1.2.1) (0 + o1.2.2) 0 0 40 500000) <|
bd (f_X5_lookFirst_q137 (wd_o o1.1 [] [] [] [] [])) fun o2 =>
some (o2, o1.1, 0 + o1.2.1, 0 + o1.2.2)
set_option maxRecDepth 100000 in
set_option maxHeartbeats 4000000 in
theorem c_X11_look (l : Launch) (D : va_G) (q g : Nat → Nat) (cy : Nat → ClassId) (z : (Nat → Nat) × (Nat → Nat) × Nat) (S : wd_W) (o : o_X11_look) (hf : f_X11_look S = some o) : MX layX l yX11_look cX11_look 1 (some .int) ({ frames := 6, cells := 40, slots := 500000, locals := 147 } : Room) D q g cy z [.ref (q 0)] S true (some (.int o.1)) o.2.1 o.2.2.1 o.2.2.2 := by
  refine mx_of (own := RX11) (lc := [(0, .ref (q 0))]) (by decide +kernel) rfl layX_ok (Nat.le_of_ble_eq_true rfl) rfl ?_
  intro X hXl hXq hXz hC hQ
  subst hXl; subst hXq; subst hXz
  unfold f_X11_look at hf
  refine go_aload_n (pc' := 1) hC dX11_look_0 rfl rfl ?_
  obtain ⟨o1, ho1, hf⟩ := bd_e hf
  refine go_callVw (pc' := 4) (As := []) (st := []) (st' := [.ref (x_q X 137)])  (cells' := 0 + o1.2.1) (slots' := 0 + o1.2.2)  (b := 0) hC dX11_look_1 ⟨mw_1257, mw_1260, mw_2, yd_yX11_knownMail, yp_yX11_knownMail, Nat.le_of_ble_eq_true rfl, Nat.le_of_ble_eq_true rfl, (Nat.le_of_ble_eq_true rfl), (Nat.le_of_ble_eq_true rfl)⟩ mw_1258 mw_1259 layX_0 rfl rfl rfl (Nat.le_of_ble_eq_true rfl) (c_X11_knownMail (x_l X) (x_D X) (x_q X) g (x_cy X) (x_z X) _  o1 ho1) rfl rfl rfl rfl (fun g _ => ?_)
  obtain ⟨h3, hf⟩ := gd_e hf
  obtain ⟨o2, ho2, hf⟩ := bd_e hf
  refine go_callV0 (pc' := 7) (As := []) (st := []) (st' := [.int o2])   (rc := { frames := 2, cells := 0, slots := 0, locals := 45 }) (b := 137) hC dX11_look_4 ⟨mw_1285, mw_1288, mw_44, yd_yX5_lookFirst, yp_yX5_lookFirst, Nat.le_of_ble_eq_true rfl, Nat.le_of_ble_eq_true rfl, (okr_c h3), (okr_s h3)⟩ mw_1286 mw_1287 layX_137 rfl rfl rfl (Nat.le_of_ble_eq_true rfl) (c_X5_lookFirst_q137 (x_l X) (x_D X) (x_q X) g (x_cy X) (x_z X) _  o2 ho2) rfl rfl ?_
  obtain rfl := Option.some.inj hf
  exact go_iret hC hQ dX11_look_7 rfl rfl rfl rfl (fun h => nomatch h) rfl rfl
theorem dX5_isFor_0 : decode cX5_isFor 0 = .ok (.aload_n 0, 1) := by decide +kernel
theorem dX5_isFor_1 : decode cX5_isFor 1 = .ok (.getfield 15, 3) := by decide +kernel
theorem dX5_isFor_4 : decode cX5_isFor 4 = .ok (.iload_n 1, 1) := by decide +kernel
theorem dX5_isFor_5 : decode cX5_isFor 5 = .ok (.if_icmp .ne 15, 3) := by decide +kernel
theorem dX5_isFor_8 : decode cX5_isFor 8 = .ok (.aload_n 0, 1) := by decide +kernel
theorem dX5_isFor_9 : decode cX5_isFor 9 = .ok (.getfield 19, 3) := by decide +kernel
theorem dX5_isFor_12 : decode cX5_isFor 12 = .ok (.iload_n 2, 1) := by decide +kernel
theorem dX5_isFor_13 : decode cX5_isFor 13 = .ok (.if_icmp .ne 7, 3) := by decide +kernel
theorem dX5_isFor_16 : decode cX5_isFor 16 = .ok (.iconst 1, 1) := by decide +kernel
theorem dX5_isFor_17 : decode cX5_isFor 17 = .ok (.goto 4, 3) := by decide +kernel
theorem dX5_isFor_20 : decode cX5_isFor 20 = .ok (.iconst 0, 1) := by decide +kernel
theorem dX5_isFor_21 : decode cX5_isFor 21 = .ok (.ireturn, 1) := by decide +kernel
abbrev o_X5_isFor_q137 : Type := Int32
def f_X5_isFor_q137 (S : wd_W) (p1 : Int32) (p2 : Int32) : Option o_X5_isFor_q137 :=
if (S.1 13703) = p1 then (
if (S.1 13704) = p2 then (
some (1 : Int32)) else (
some (0 : Int32))) else (
some (0 : Int32))
set_option maxRecDepth 100000 in
set_option maxHeartbeats 4000000 in
theorem c_X5_isFor_q137 (l : Launch) (D : va_G) (q g : Nat → Nat) (cy : Nat → ClassId) (z : (Nat → Nat) × (Nat → Nat) × Nat) (S : wd_W) (p1 : Int32) (p2 : Int32) (o : o_X5_isFor_q137) (hf : f_X5_isFor_q137 S p1 p2 = some o) : MX layX l yX5_isFor cX5_isFor 3 (some .boolean) ({ frames := 0, cells := 0, slots := 0, locals := 0 } : Room) D q g cy z [.ref (q 137), .int p1, .int p2] S false (some (.int o)) (wd_o S [] [] [] [] []) 0 0 := by
  refine mx_of (own := RX5) (lc := [(0, .ref (q 137)), (1, .int p1), (2, .int p2)]) (by decide +kernel) rfl layX_ok (Nat.le_of_ble_eq_true rfl) rfl ?_
  intro X hXl hXq hXz hC hQ
  subst hXl; subst hXq; subst hXz
  unfold f_X5_isFor_q137 at hf
  refine go_aload_n (pc' := 1) hC dX5_isFor_0 rfl rfl ?_
  refine go_geti (v := (S.1 13703)) (pc' := 4) hC 137 3 layX_137 rfl rfl inlX5 (Nat.le_of_ble_eq_true rfl) mw_152 rfl dX5_isFor_1 rfl rfl ?_
  refine go_iload_n (pc' := 5) hC dX5_isFor_4 rfl rfl ?_
  refine go_icmp_ne (tgt := 20) (pc' := 8) hC dX5_isFor_5 (by decide) rfl (fun h2 => ?_) (fun h2 => ?_)
  · have hf := ite_f h2 hf
    refine go_iconst (pc' := 21) hC dX5_isFor_20 ki_0 rfl ?_
    obtain rfl := Option.some.inj hf
    exact go_iret hC hQ dX5_isFor_21 rfl rfl rfl rfl (fun _ => rfl) rfl rfl
  · have hf := ite_t h2 hf
    refine go_aload_n (pc' := 9) hC dX5_isFor_8 rfl rfl ?_
    refine go_geti (v := (S.1 13704)) (pc' := 12) hC 137 4 layX_137 rfl rfl inlX5 (Nat.le_of_ble_eq_true rfl) mw_153 rfl dX5_isFor_9 rfl rfl ?_
    refine go_iload_n (pc' := 13) hC dX5_isFor_12 rfl rfl ?_
    refine go_icmp_ne (tgt := 20) (pc' := 16) hC dX5_isFor_13 (by decide) rfl (fun h1 => ?_) (fun h1 => ?_)
    · have hf := ite_f h1 hf
      refine go_iconst (pc' := 21) hC dX5_isFor_20 ki_0 rfl ?_
      obtain rfl := Option.some.inj hf
      exact go_iret hC hQ dX5_isFor_21 rfl rfl rfl rfl (fun _ => rfl) rfl rfl
    · have hf := ite_t h1 hf
      refine go_iconst (pc' := 17) hC dX5_isFor_16 ki_1 rfl ?_
      refine go_goto (tgt := 21) hC dX5_isFor_17 (by decide) ?_
      obtain rfl := Option.some.inj hf
      exact go_iret hC hQ dX5_isFor_21 rfl rfl rfl rfl (fun _ => rfl) rfl rfl
abbrev o_J7_fill_d0a16_q139 : Type := (Nat → Int64)
def f_J7_fill_d0a16_q139_L6 (p1 : Int64) (r3 : (Int32) → (Nat → Int64) → (Option o_J7_fill_d0a16_q139)) (x1 : Int32) (a2 : Nat → Int64) : Option o_J7_fill_d0a16_q139 :=
if (100 : Int32) ≤ x1 then (
some a2) else (
gd (okx x1 100) <|
lz (vp_updL a2 x1.toNatClampNeg p1) fun a5 =>
r3 (x1 + (1 : Int32)) a5)
def f_J7_fill_d0a16_q139 (S : wd_W) (p1 : Int64) : Option o_J7_fill_d0a16_q139 :=
it2 (f_J7_fill_d0a16_q139_L6 p1) fuel (0 : Int32) (S.2.2.2.1 139)
set_option maxRecDepth 100000 in
set_option maxHeartbeats 4000000 in
theorem c_J7_fill_d0a16_q139 (l : Launch) (D : va_G) (q g : Nat → Nat) (cy : Nat → ClassId) (z : (Nat → Nat) × (Nat → Nat) × Nat) (S : wd_W) (p1 : Int64) (o : o_J7_fill_d0a16_q139) (hf : f_J7_fill_d0a16_q139 S p1 = some o) : MX layX l yJ7_fill_d0a16 cJ7_fill_d0a16 5 none ({ frames := 0, cells := 0, slots := 0, locals := 0 } : Room) D q g cy z [.ref (q 139), .long p1] S false (none) (wd_o S [] [] [] [(139, o)] []) 0 0 := by
  refine mx_of (own := RJ7) (lc := [(0, .ref (q 139)), (1, .long p1)]) (by decide +kernel) rfl layX_ok (Nat.le_of_ble_eq_true rfl) rfl ?_
  intro X hXl hXq hXz hC hQ
  subst hXl; subst hXq; subst hXz
  unfold f_J7_fill_d0a16_q139 at hf
  refine go_keys (L1 := []) (L2 := []) (L3 := []) (L4 := [(139, (S.2.2.2.1 139))]) (L5 := []) [] [] [] [139] [] rfl rfl rfl rfl rfl ?_
  refine go_iconst (pc' := 1) hC dJ7_fill_d0a16_0 ki_0 rfl ?_
  refine go_istore_n (lc' := [(0, .ref (x_q X 139)), (1, .long p1), (3, .int (0 : Int32))]) (pc' := 2) hC dJ7_fill_d0a16_1 (Nat.le_of_ble_eq_true rfl) rfl rfl ?_
  refine go_aload_n (pc' := 3) hC dJ7_fill_d0a16_2 rfl rfl ?_
  refine go_alen (v := (100 : Int32)) (pc' := 4) hC 139 layX_139 rfl (Nat.le_of_ble_eq_true rfl) kn_100 dJ7_fill_d0a16_3 rfl ?_
  refine go_istore (lc' := [(0, .ref (x_q X 139)), (1, .long p1), (3, .int (0 : Int32)), (4, .int (100 : Int32))]) (pc' := 6) hC dJ7_fill_d0a16_4 (Nat.le_of_ble_eq_true rfl) rfl rfl ?_
  have l6_7 : ∀ (nn : Nat) (x1 : Int32) (a2 : Nat → Int64), it2 (f_J7_fill_d0a16_q139_L6 p1) nn x1 a2 = some o → Go X layX S 6 [(0, .ref (x_q X 139)), (1, .long p1), (3, .int x1), (4, .int (100 : Int32))] [] g [] [] [] [(139, a2)] [] 0 0 := by
    intro nn
    induction nn with
    | zero =>
      intro x1 a2 hf
      exact none_no hf
    | succ nn ih =>
      intro x1 a2 hf
      have hf : f_J7_fill_d0a16_q139_L6 p1 (it2 (f_J7_fill_d0a16_q139_L6 p1) nn) x1 a2 = some o := hf
      generalize it2 (f_J7_fill_d0a16_q139_L6 p1) nn = r3 at ih hf
      unfold f_J7_fill_d0a16_q139_L6 at hf
      refine go_iload_n (pc' := 7) hC dJ7_fill_d0a16_6 rfl rfl ?_
      refine go_iload (pc' := 9) hC dJ7_fill_d0a16_7 rfl rfl ?_
      refine go_icmp_ge (tgt := 22) (pc' := 12) hC dJ7_fill_d0a16_9 (by decide) rfl (fun h6 => ?_) (fun h6 => ?_)
      · have hf := ite_t h6 hf
        obtain rfl := Option.some.inj hf
        exact go_vret hC hQ dJ7_fill_d0a16_22 rfl rfl rfl (fun _ => rfl) rfl rfl
      · have hf := ite_f h6 hf
        refine go_aload_n (pc' := 13) hC dJ7_fill_d0a16_12 rfl rfl ?_
        refine go_iload_n (pc' := 14) hC dJ7_fill_d0a16_13 rfl rfl ?_
        refine go_lload_n (pc' := 15) hC dJ7_fill_d0a16_14 rfl rfl ?_
        obtain ⟨h4, hf⟩ := gd_e hf
        refine go_last (f := a2) (pc' := 16) hC 139 layX_139 rfl rfl dJ7_fill_d0a16_15 (okx_in h4) rfl rfl (fun a5 ha L4' hL => ?_)
        have hf := lz_r ha hf
        clear ha
        obtain rfl : L4' = [(139, a5)] := hL.symm
        refine go_iinc (lc' := [(0, .ref (x_q X 139)), (1, .long p1), (3, .int (x1 + (1 : Int32))), (4, .int (100 : Int32))]) (pc' := 19) hC dJ7_fill_d0a16_16 rfl ki_1 (Nat.le_of_ble_eq_true rfl) rfl rfl ?_
        refine go_goto (tgt := 6) hC dJ7_fill_d0a16_19 (by decide) ?_
        exact ih (x1 + (1 : Int32)) a5 hf
  exact l6_7 fuel (0 : Int32) (S.2.2.2.1 139) hf
theorem dX5_travel_0 : decode cX5_travel 0 = .ok (.aload_n 0, 1) := by decide +kernel
theorem dX5_travel_1 : decode cX5_travel 1 = .ok (.iload_n 1, 1) := by decide +kernel
theorem dX5_travel_2 : decode cX5_travel 2 = .ok (.putfield 15, 3) := by decide +kernel
theorem dX5_travel_5 : decode cX5_travel 5 = .ok (.aload_n 0, 1) := by decide +kernel
theorem dX5_travel_6 : decode cX5_travel 6 = .ok (.iload_n 2, 1) := by decide +kernel
theorem dX5_travel_7 : decode cX5_travel 7 = .ok (.putfield 19, 3) := by decide +kernel
theorem dX5_travel_10 : decode cX5_travel 10 = .ok (.aload_n 0, 1) := by decide +kernel
theorem dX5_travel_11 : decode cX5_travel 11 = .ok (.getfield 22, 3) := by decide +kernel
theorem dX5_travel_14 : decode cX5_travel 14 = .ok (.lconst 0, 1) := by decide +kernel
theorem dX5_travel_15 : decode cX5_travel 15 = .ok (.invokestatic 99, 3) := by decide +kernel
theorem dX5_travel_18 : decode cX5_travel 18 = .ok (.iconst 0, 1) := by decide +kernel
theorem dX5_travel_19 : decode cX5_travel 19 = .ok (.istore_n 3, 1) := by decide +kernel
theorem dX5_travel_20 : decode cX5_travel 20 = .ok (.iload_n 3, 1) := by decide +kernel
theorem dX5_travel_21 : decode cX5_travel 21 = .ok (.aload_n 0, 1) := by decide +kernel
theorem dX5_travel_22 : decode cX5_travel 22 = .ok (.getfield 30, 3) := by decide +kernel
theorem dX5_travel_25 : decode cX5_travel 25 = .ok (.getfield 34, 3) := by decide +kernel
theorem dX5_travel_28 : decode cX5_travel 28 = .ok (.if_icmp .gt 50, 3) := by decide +kernel
theorem dX5_travel_31 : decode cX5_travel 31 = .ok (.aload_n 0, 1) := by decide +kernel
theorem dX5_travel_32 : decode cX5_travel 32 = .ok (.getfield 30, 3) := by decide +kernel
theorem dX5_travel_35 : decode cX5_travel 35 = .ok (.getfield 48, 3) := by decide +kernel
theorem dX5_travel_38 : decode cX5_travel 38 = .ok (.iload_n 1, 1) := by decide +kernel
theorem dX5_travel_39 : decode cX5_travel 39 = .ok (.iload_n 2, 1) := by decide +kernel
theorem dX5_travel_40 : decode cX5_travel 40 = .ok (.iload_n 3, 1) := by decide +kernel
theorem dX5_travel_41 : decode cX5_travel 41 = .ok (.invokevirtual 105, 3) := by decide +kernel
theorem dX5_travel_44 : decode cX5_travel 44 = .ok (.istore 4, 2) := by decide +kernel
theorem dX5_travel_46 : decode cX5_travel 46 = .ok (.iload 4, 2) := by decide +kernel
theorem dX5_travel_48 : decode cX5_travel 48 = .ok (.bipush 99, 2) := by decide +kernel
theorem dX5_travel_50 : decode cX5_travel 50 = .ok (.if_icmp .gt 22, 3) := by decide +kernel
theorem dX5_travel_53 : decode cX5_travel 53 = .ok (.aload_n 0, 1) := by decide +kernel
theorem dX5_travel_54 : decode cX5_travel 54 = .ok (.getfield 22, 3) := by decide +kernel
theorem dX5_travel_57 : decode cX5_travel 57 = .ok (.iload 4, 2) := by decide +kernel
theorem dX5_travel_59 : decode cX5_travel 59 = .ok (.dup2, 1) := by decide +kernel
theorem dX5_travel_60 : decode cX5_travel 60 = .ok (.laload, 1) := by decide +kernel
theorem dX5_travel_61 : decode cX5_travel 61 = .ok (.aload_n 0, 1) := by decide +kernel
theorem dX5_travel_62 : decode cX5_travel 62 = .ok (.getfield 30, 3) := by decide +kernel
theorem dX5_travel_65 : decode cX5_travel 65 = .ok (.getfield 109, 3) := by decide +kernel
theorem dX5_travel_68 : decode cX5_travel 68 = .ok (.iload_n 3, 1) := by decide +kernel
theorem dX5_travel_69 : decode cX5_travel 69 = .ok (.laload, 1) := by decide +kernel
theorem dX5_travel_70 : decode cX5_travel 70 = .ok (.ladd, 1) := by decide +kernel
theorem dX5_travel_71 : decode cX5_travel 71 = .ok (.lastore, 1) := by decide +kernel
theorem dX5_travel_72 : decode cX5_travel 72 = .ok (.iinc 3 1, 3) := by decide +kernel
theorem dX5_travel_75 : decode cX5_travel 75 = .ok (.goto (-55), 3) := by decide +kernel
theorem dX5_travel_78 : decode cX5_travel 78 = .ok (.return_, 1) := by decide +kernel
abbrev o_X5_travel_q137 : Type := Int32 × Int32 × (Nat → Int32) × (Nat → Int64)
def f_X5_travel_q137_L20 (S : wd_W) (p1 : Int32) (p2 : Int32) (r5 : (Int32) → (Nat → Int32) → (Nat → Int64) → (Option o_X5_travel_q137)) (x2 : Int32) (a3 : Nat → Int32) (a4 : Nat → Int64) : Option o_X5_travel_q137 :=
if (S.1 10603) < x2 then (
some (p1, p2, a3, a4)) else (
bd (f_X7_daysBetween_q111 (wd_o S [(13703, p1), (13704, p2)] [] [(115, a3)] [(139, a4)] []) p1 p2 x2) fun o6 =>
lk (fun a7 =>
r5 (x2 + (1 : Int32)) o6.2 a7) fun k72_8 =>
if (99 : Int32) < o6.1 then (
k72_8 a4) else (
gd (okx o6.1 100) <|
gd (okx x2 (S.2.2.2.2 108)) <|
lz ((a4 o6.1.toNatClampNeg) + ((S.2.2.2.1 108) x2.toNatClampNeg)) fun x11 =>
gd (okx o6.1 100) <|
lz (vp_updL a4 o6.1.toNatClampNeg x11) fun a13 =>
k72_8 a13))
def f_X5_travel_q137 (S : wd_W) (p1 : Int32) (p2 : Int32) : Option o_X5_travel_q137 :=
bd (f_J7_fill_d0a16_q139 (wd_o S [(13703, p1), (13704, p2)] [] [(115, (S.2.2.1 115))] [(139, (S.2.2.2.1 139))] []) (0 : Int64)) fun o1 =>
it3 (f_X5_travel_q137_L20 S p1 p2) fuel (0 : Int32) (S.2.2.1 115) o1
set_option maxRecDepth 100000 in
set_option maxHeartbeats 4000000 in
theorem c_X5_travel_q137 (l : Launch) (D : va_G) (q g : Nat → Nat) (cy : Nat → ClassId) (z : (Nat → Nat) × (Nat → Nat) × Nat) (S : wd_W) (p1 : Int32) (p2 : Int32) (o : o_X5_travel_q137) (hf : f_X5_travel_q137 S p1 p2 = some o) : MX layX l yX5_travel cX5_travel 5 none ({ frames := 2, cells := 0, slots := 0, locals := 50 } : Room) D q g cy z [.ref (q 137), .int p1, .int p2] S false (none) (wd_o S [(13703, o.1), (13704, o.2.1)] [] [(115, o.2.2.1)] [(139, o.2.2.2)] []) 0 0 := by
  refine mx_of (own := RX5) (lc := [(0, .ref (q 137)), (1, .int p1), (2, .int p2)]) (by decide +kernel) rfl layX_ok (Nat.le_of_ble_eq_true rfl) rfl ?_
  intro X hXl hXq hXz hC hQ
  subst hXl; subst hXq; subst hXz
  unfold f_X5_travel_q137 at hf
  refine go_keys (L1 := [(13703, (S.1 13703)), (13704, (S.1 13704))]) (L2 := []) (L3 := [(115, (S.2.2.1 115))]) (L4 := [(139, (S.2.2.2.1 139))]) (L5 := []) [13703, 13704] [] [115] [139] [] rfl rfl rfl rfl rfl ?_
  refine go_aload_n (pc' := 1) hC dX5_travel_0 rfl rfl ?_
  refine go_iload_n (pc' := 2) hC dX5_travel_1 rfl rfl ?_
  refine go_puti (L1' := [(13703, p1), (13704, (S.1 13704))]) (pc' := 5) hC 137 3 layX_137 rfl rfl inlX5 tyX5_ok nmX5 (Nat.le_of_ble_eq_true rfl) mw_152 rfl rfl rfl rfl dX5_travel_2 rfl rfl rfl ?_
  refine go_aload_n (pc' := 6) hC dX5_travel_5 rfl rfl ?_
  refine go_iload_n (pc' := 7) hC dX5_travel_6 rfl rfl ?_
  refine go_puti (L1' := [(13703, p1), (13704, p2)]) (pc' := 10) hC 137 4 layX_137 rfl rfl inlX5 tyX5_ok nmX5 (Nat.le_of_ble_eq_true rfl) mw_153 rfl rfl rfl rfl dX5_travel_7 rfl rfl rfl ?_
  refine go_aload_n (pc' := 11) hC dX5_travel_10 rfl rfl ?_
  refine go_getq (pc' := 14) hC 137 5 layX_137 rfl rfl inlX5 (Nat.le_of_ble_eq_true rfl) mw_154 rfl dX5_travel_11 rfl ?_
  refine go_lconst (pc' := 15) hC dX5_travel_14 kl_0 rfl ?_
  obtain ⟨o1, ho1, hf⟩ := bd_e hf
  refine go_callS1 (pc' := 18) (As := [.ref (x_q X 139), .long (0 : Int64)]) (st := []) (st' := []) (L1' := [(13703, p1), (13704, p2)]) (L2' := []) (L3' := [(115, (S.2.2.1 115))]) (L4' := [(139, o1)]) (L5' := []) (cells' := 0) (slots' := 0)  hC dX5_travel_15 ⟨mw_1317, mw_706, mw_687, yd_yJ7_fill_d0a16, yp_yJ7_fill_d0a16, Nat.le_of_ble_eq_true rfl, Nat.le_of_ble_eq_true rfl, (Nat.le_of_ble_eq_true rfl), (Nat.le_of_ble_eq_true rfl)⟩ mw_705 rfl rfl (Nat.le_of_ble_eq_true rfl) (c_J7_fill_d0a16_q139 (x_l X) (x_D X) (x_q X) g (x_cy X) (x_z X) _ (0 : Int64) o1 ho1) rfl rfl rfl rfl rfl rfl rfl rfl rfl rfl rfl rfl rfl rfl ?_
  refine go_iconst (pc' := 19) hC dX5_travel_18 ki_0 rfl ?_
  refine go_istore_n (lc' := [(0, .ref (x_q X 137)), (1, .int p1), (2, .int p2), (3, .int (0 : Int32))]) (pc' := 20) hC dX5_travel_19 (Nat.le_of_ble_eq_true rfl) rfl rfl ?_
  have l20_16 : ∀ (nn : Nat) (x2 : Int32) (a3 : Nat → Int32) (a4 : Nat → Int64), it3 (f_X5_travel_q137_L20 S p1 p2) nn x2 a3 a4 = some o → Go X layX S 20 [(0, .ref (x_q X 137)), (1, .int p1), (2, .int p2), (3, .int x2)] [] g [(13703, p1), (13704, p2)] [] [(115, a3)] [(139, a4)] [] 0 0 := by
    intro nn
    induction nn with
    | zero =>
      intro x2 a3 a4 hf
      exact none_no hf
    | succ nn ih =>
      intro x2 a3 a4 hf
      have hf : f_X5_travel_q137_L20 S p1 p2 (it3 (f_X5_travel_q137_L20 S p1 p2) nn) x2 a3 a4 = some o := hf
      generalize it3 (f_X5_travel_q137_L20 S p1 p2) nn = r5 at ih hf
      unfold f_X5_travel_q137_L20 at hf
      refine go_iload_n (pc' := 21) hC dX5_travel_20 rfl rfl ?_
      refine go_aload_n (pc' := 22) hC dX5_travel_21 rfl rfl ?_
      refine go_getq (pc' := 25) hC 137 1 layX_137 rfl rfl inlX5 (Nat.le_of_ble_eq_true rfl) mw_156 rfl dX5_travel_22 rfl ?_
      refine go_geti (v := (S.1 10603)) (pc' := 28) hC 106 3 layX_106 rfl rfl inlX8 (Nat.le_of_ble_eq_true rfl) mw_817 rfl dX5_travel_25 rfl rfl ?_
      refine go_icmp_gt (tgt := 78) (pc' := 31) hC dX5_travel_28 (by decide) rfl (fun h15 => ?_) (fun h15 => ?_)
      · have hf := ite_t h15 hf
        obtain rfl := Option.some.inj hf
        exact go_vret hC hQ dX5_travel_78 rfl rfl rfl (fun _ => rfl) rfl rfl
      · have hf := ite_f h15 hf
        refine go_aload_n (pc' := 32) hC dX5_travel_31 rfl rfl ?_
        refine go_getq (pc' := 35) hC 137 1 layX_137 rfl rfl inlX5 (Nat.le_of_ble_eq_true rfl) mw_156 rfl dX5_travel_32 rfl ?_
        refine go_getq (pc' := 38) hC 106 0 layX_106 rfl rfl inlX8 (Nat.le_of_ble_eq_true rfl) mw_823 rfl dX5_travel_35 rfl ?_
        refine go_iload_n (pc' := 39) hC dX5_travel_38 rfl rfl ?_
        refine go_iload_n (pc' := 40) hC dX5_travel_39 rfl rfl ?_
        refine go_iload_n (pc' := 41) hC dX5_travel_40 rfl rfl ?_
        obtain ⟨o6, ho6, hf⟩ := bd_e hf
        refine go_callV1 (pc' := 44) (As := [.int p1, .int p2, .int x2]) (st := []) (st' := [.int o6.1]) (L1' := [(13703, p1), (13704, p2)]) (L2' := []) (L3' := [(115, o6.2)]) (L4' := [(139, a4)]) (L5' := []) (cells' := 0) (slots' := 0)  (b := 111) hC dX5_travel_41 ⟨mw_1318, mw_684, mw_99, yd_yX7_daysBetween, yp_yX7_daysBetween, Nat.le_of_ble_eq_true rfl, Nat.le_of_ble_eq_true rfl, (Nat.le_of_ble_eq_true rfl), (Nat.le_of_ble_eq_true rfl)⟩ mw_682 mw_683 layX_111 rfl rfl rfl (Nat.le_of_ble_eq_true rfl) (c_X7_daysBetween_q111 (x_l X) (x_D X) (x_q X) g (x_cy X) (x_z X) _ p1 p2 x2 o6 ho6) rfl rfl rfl rfl rfl rfl rfl rfl rfl rfl rfl rfl rfl rfl ?_
        refine go_istore (lc' := [(0, .ref (x_q X 137)), (1, .int p1), (2, .int p2), (3, .int x2), (4, .int o6.1)]) (pc' := 46) hC dX5_travel_44 (Nat.le_of_ble_eq_true rfl) rfl rfl ?_
        refine go_iload (pc' := 48) hC dX5_travel_46 rfl rfl ?_
        refine go_bipush (pc' := 50) hC dX5_travel_48 kb_99 rfl ?_
        obtain ⟨k72_8, hk72_8, hf⟩ := lk_e1 hf
        have jk72_8 : ∀ (a7 : Nat → Int64), k72_8 a7 = some o → Go X layX S 72 [(0, .ref (x_q X 137)), (1, .int p1), (2, .int p2), (3, .int x2)] [] g [(13703, p1), (13704, p2)] [] [(115, o6.2)] [(139, a7)] [] 0 0 := by
          intro a7 hf
          have hf := hk72_8 a7 hf
          clear hk72_8
          refine go_iinc (lc' := [(0, .ref (x_q X 137)), (1, .int p1), (2, .int p2), (3, .int (x2 + (1 : Int32)))]) (pc' := 75) hC dX5_travel_72 rfl ki_1 (Nat.le_of_ble_eq_true rfl) rfl rfl ?_
          refine go_goto (tgt := 20) hC dX5_travel_75 (by decide) ?_
          exact ih (x2 + (1 : Int32)) o6.2 a7 hf
        clear hk72_8
        refine go_icmp_gt (tgt := 72) (pc' := 53) hC dX5_travel_50 (by decide) rfl (fun h14 => ?_) (fun h14 => ?_)
        · have hf := ite_t h14 hf
          refine go_sub [0, 1, 2, 3] rfl ?_
          exact jk72_8 a4 hf
        · have hf := ite_f h14 hf
          refine go_aload_n (pc' := 54) hC dX5_travel_53 rfl rfl ?_
          refine go_getq (pc' := 57) hC 137 5 layX_137 rfl rfl inlX5 (Nat.le_of_ble_eq_true rfl) mw_154 rfl dX5_travel_54 rfl ?_
          refine go_iload (pc' := 59) hC dX5_travel_57 rfl rfl ?_
          refine go_dup2 (pc' := 60) hC dX5_travel_59 rfl rfl rfl ?_
          obtain ⟨h9, hf⟩ := gd_e hf
          refine go_lald (f := a4) (pc' := 61) hC 139 layX_139 rfl rfl dX5_travel_60 (okx_in h9) rfl ?_
          refine go_aload_n (pc' := 62) hC dX5_travel_61 rfl rfl ?_
          refine go_getq (pc' := 65) hC 137 1 layX_137 rfl rfl inlX5 (Nat.le_of_ble_eq_true rfl) mw_156 rfl dX5_travel_62 rfl ?_
          refine go_getg (pc' := 68) hC 106 5 layX_106 rfl rfl inlX8 (Nat.le_of_ble_eq_true rfl) mw_1316 rfl dX5_travel_65 rfl ?_
          refine go_iload_n (pc' := 69) hC dX5_travel_68 rfl rfl ?_
          obtain ⟨h10, hf⟩ := gd_e hf
          refine go_laldg (f := (S.2.2.2.1 108)) (pc' := 70) hC 108 layX_108 rfl rfl dX5_travel_69 (okx_in h10) rfl ?_
          refine go_ladd (pc' := 71) hC dX5_travel_70 rfl ?_
          refine go_namel (fun x11 hx => ?_)
          have hf := lz_r hx hf
          clear hx
          obtain ⟨h12, hf⟩ := gd_e hf
          refine go_last (f := a4) (pc' := 72) hC 139 layX_139 rfl rfl dX5_travel_71 (okx_in h12) rfl rfl (fun a13 ha L4' hL => ?_)
          have hf := lz_r ha hf
          clear ha
          obtain rfl : L4' = [(139, a13)] := hL.symm
          refine go_sub [0, 1, 2, 3] rfl ?_
          exact jk72_8 a13 hf
  exact l20_16 fuel (0 : Int32) (S.2.2.1 115) o1 hf
theorem dX11_knownDays_0 : decode cX11_knownDays 0 = .ok (.aload_n 0, 1) := by decide +kernel
theorem dX11_knownDays_1 : decode cX11_knownDays 1 = .ok (.iconst 1, 1) := by decide +kernel
theorem dX11_knownDays_2 : decode cX11_knownDays 2 = .ok (.invokevirtual 233, 3) := by decide +kernel
theorem dX11_knownDays_5 : decode cX11_knownDays 5 = .ok (.aload_n 0, 1) := by decide +kernel
theorem dX11_knownDays_6 : decode cX11_knownDays 6 = .ok (.sipush 256, 3) := by decide +kernel
theorem dX11_knownDays_9 : decode cX11_knownDays 9 = .ok (.invokevirtual 246, 3) := by decide +kernel
theorem dX11_knownDays_12 : decode cX11_knownDays 12 = .ok (.ifCond .ne 15, 3) := by decide +kernel
theorem dX11_knownDays_15 : decode cX11_knownDays 15 = .ok (.aload_n 0, 1) := by decide +kernel
theorem dX11_knownDays_16 : decode cX11_knownDays 16 = .ok (.getfield 83, 3) := by decide +kernel
theorem dX11_knownDays_19 : decode cX11_knownDays 19 = .ok (.iload_n 1, 1) := by decide +kernel
theorem dX11_knownDays_20 : decode cX11_knownDays 20 = .ok (.iload_n 2, 1) := by decide +kernel
theorem dX11_knownDays_21 : decode cX11_knownDays 21 = .ok (.invokevirtual 367, 3) := by decide +kernel
theorem dX11_knownDays_24 : decode cX11_knownDays 24 = .ok (.ifCond .ne 12, 3) := by decide +kernel
theorem dX11_knownDays_27 : decode cX11_knownDays 27 = .ok (.aload_n 0, 1) := by decide +kernel
theorem dX11_knownDays_28 : decode cX11_knownDays 28 = .ok (.getfield 83, 3) := by decide +kernel
theorem dX11_knownDays_31 : decode cX11_knownDays 31 = .ok (.iload_n 1, 1) := by decide +kernel
theorem dX11_knownDays_32 : decode cX11_knownDays 32 = .ok (.iload_n 2, 1) := by decide +kernel
theorem dX11_knownDays_33 : decode cX11_knownDays 33 = .ok (.invokevirtual 370, 3) := by decide +kernel
theorem dX11_knownDays_36 : decode cX11_knownDays 36 = .ok (.aload_n 0, 1) := by decide +kernel
theorem dX11_knownDays_37 : decode cX11_knownDays 37 = .ok (.getfield 83, 3) := by decide +kernel
theorem dX11_knownDays_40 : decode cX11_knownDays 40 = .ok (.areturn, 1) := by decide +kernel
abbrev o_X11_knownDays : Type := wd_W × Nat × Nat
def f_X11_knownDays (S : wd_W) (p1 : Int32) (p2 : Int32) : Option o_X11_knownDays :=
bd (f_X11_know (wd_o S [] [] [] [] []) (1 : Int32)) fun o1 =>
gd (okr (0 + o1.2.1) (0 + o1.2.2) 0 0 12 140000) <|
bd (f_X11_isNew (wd_o o1.1 [(7, (o1.1.1 7))] [] [] [] []) (256 : Int32)) fun o2 =>
lk (fun S4 =>
some (S4, 0 + o1.2.1, 0 + o1.2.2)) fun k36_5 =>
lk (lz (wd_o o1.1 [(7, o2.2)] [] [] [] []) fun S8 =>
gd (okr (0 + o1.2.1) (0 + o1.2.2) 0 0 12 140000) <|
bd (f_X5_travel_q137 (wd_o S8 [(13703, (S8.1 13703)), (13704, (S8.1 13704))] [] [(115, (S8.2.2.1 115))] [(139, (S8.2.2.2.1 139))] []) p1 p2) fun o7 =>
k36_5 (wd_o S8 [(13703, o7.1), (13704, o7.2.1)] [] [(115, o7.2.2.1)] [(139, o7.2.2.2)] [])) fun k27_6 =>
if o2.1 = 0 then (
gd (okr (0 + o1.2.1) (0 + o1.2.2) 0 0 12 140000) <|
bd (f_X5_isFor_q137 (wd_o o1.1 [(7, o2.2)] [] [] [] []) p1 p2) fun o10 =>
if o10 = 0 then (
k27_6) else (
k36_5 (wd_o o1.1 [(7, o2.2)] [] [] [] []))) else (
k27_6)
set_option maxRecDepth 100000 in
set_option maxHeartbeats 4000000 in
theorem c_X11_knownDays (l : Launch) (D : va_G) (q g : Nat → Nat) (cy : Nat → ClassId) (z : (Nat → Nat) × (Nat → Nat) × Nat) (S : wd_W) (p1 : Int32) (p2 : Int32) (o : o_X11_knownDays) (hf : f_X11_knownDays S p1 p2 = some o) : MX layX l yX11_knownDays cX11_knownDays 3 (some (.object "LetterThrough$Mail")) ({ frames := 5, cells := 12, slots := 140000, locals := 127 } : Room) D q g cy z [.ref (q 0), .int p1, .int p2] S true (some (.ref (q 137))) o.1 o.2.1 o.2.2 := by
  refine mx_of (own := RX11) (lc := [(0, .ref (q 0)), (1, .int p1), (2, .int p2)]) (by decide +kernel) rfl layX_ok (Nat.le_of_ble_eq_true rfl) rfl ?_
  intro X hXl hXq hXz hC hQ
  subst hXl; subst hXq; subst hXz
  unfold f_X11_knownDays at hf
  refine go_aload_n (pc' := 1) hC dX11_knownDays_0 rfl rfl ?_
  refine go_iconst (pc' := 2) hC dX11_knownDays_1 ki_1 rfl ?_
  obtain ⟨o1, ho1, hf⟩ := bd_e hf
  refine go_callVw (pc' := 5) (As := [.int (1 : Int32)]) (st := []) (st' := [])  (cells' := 0 + o1.2.1) (slots' := 0 + o1.2.2)  (b := 0) hC dX11_knownDays_2 ⟨mw_597, mw_600, mw_2, yd_yX11_know, yp_yX11_know, Nat.le_of_ble_eq_true rfl, Nat.le_of_ble_eq_true rfl, (Nat.le_of_ble_eq_true rfl), (Nat.le_of_ble_eq_true rfl)⟩ mw_598 mw_599 layX_0 rfl rfl rfl (Nat.le_of_ble_eq_true rfl) (c_X11_know (x_l X) (x_D X) (x_q X) g (x_cy X) (x_z X) _ (1 : Int32) o1 ho1) rfl rfl rfl rfl (fun g _ => ?_)
  refine go_aload_n (pc' := 6) hC dX11_knownDays_5 rfl rfl ?_
  refine go_sipush (pc' := 9) hC dX11_knownDays_6 ks_256 rfl ?_
  refine go_keys (L1 := [(7, (o1.1.1 7))]) (L2 := []) (L3 := []) (L4 := []) (L5 := []) [7] [] [] [] [] rfl rfl rfl rfl rfl ?_
  obtain ⟨h3, hf⟩ := gd_e hf
  obtain ⟨o2, ho2, hf⟩ := bd_e hf
  refine go_callV1 (pc' := 12) (As := [.int (256 : Int32)]) (st := []) (st' := [.int o2.1]) (L1' := [(7, o2.2)]) (L2' := []) (L3' := []) (L4' := []) (L5' := []) (cells' := 0 + o1.2.1) (slots' := 0 + o1.2.2) (rc := { frames := 0, cells := 0, slots := 0, locals := 0 }) (b := 0) hC dX11_knownDays_9 ⟨mw_601, mw_604, mw_2, yd_yX11_isNew, yp_yX11_isNew, Nat.le_of_ble_eq_true rfl, Nat.le_of_ble_eq_true rfl, (okr_c h3), (okr_s h3)⟩ mw_602 mw_603 layX_0 rfl rfl rfl (Nat.le_of_ble_eq_true rfl) (c_X11_isNew (x_l X) (x_D X) (x_q X) g (x_cy X) (x_z X) _ (256 : Int32) o2 ho2) rfl rfl rfl rfl rfl rfl rfl rfl rfl rfl rfl rfl rfl rfl ?_
  obtain ⟨k36_5, hk36_5, hf⟩ := lk_e1 hf
  have jk36_5 : ∀ (S4 : wd_W) (g : Nat → Nat), k36_5 S4 = some o → Go X layX S4 36 [(0, .ref (x_q X 0))] [] g [] [] [] [] [] (0 + o1.2.1) (0 + o1.2.2) := by
    intro S4 g hf
    have hf := hk36_5 S4 hf
    clear hk36_5
    refine go_aload_n (pc' := 37) hC dX11_knownDays_36 rfl rfl ?_
    refine go_getq (pc' := 40) hC 0 14 layX_0 rfl rfl inlX11 (Nat.le_of_ble_eq_true rfl) mw_45 rfl dX11_knownDays_37 rfl ?_
    obtain rfl := Option.some.inj hf
    exact go_aret hC hQ dX11_knownDays_40 rfl rfl rfl (fun h => nomatch h) rfl rfl
  clear hk36_5
  obtain ⟨k27_6, hk27_6, hf⟩ := lk_e0 hf
  have jk27_6 : ∀ (_ : Unit) (g : Nat → Nat), k27_6 = some o → Go X layX o1.1 27 [(0, .ref (x_q X 0)), (1, .int p1), (2, .int p2)] [] g [(7, o2.2)] [] [] [] [] (0 + o1.2.1) (0 + o1.2.2) := by
    intro _ g hf
    have hf := hk27_6 hf
    clear hk27_6
    refine go_aload_n (pc' := 28) hC dX11_knownDays_27 rfl rfl ?_
    refine go_getq (pc' := 31) hC 0 14 layX_0 rfl rfl inlX11 (Nat.le_of_ble_eq_true rfl) mw_45 rfl dX11_knownDays_28 rfl ?_
    refine go_iload_n (pc' := 32) hC dX11_knownDays_31 rfl rfl ?_
    refine go_iload_n (pc' := 33) hC dX11_knownDays_32 rfl rfl ?_
    refine go_base (fun S8 hx => ?_)
    have hf := lz_r hx hf
    clear hx
    refine go_keys (L1 := [(13703, (S8.1 13703)), (13704, (S8.1 13704))]) (L2 := []) (L3 := [(115, (S8.2.2.1 115))]) (L4 := [(139, (S8.2.2.2.1 139))]) (L5 := []) [13703, 13704] [] [115] [139] [] rfl rfl rfl rfl rfl ?_
    obtain ⟨h9, hf⟩ := gd_e hf
    obtain ⟨o7, ho7, hf⟩ := bd_e hf
    refine go_callV1 (pc' := 36) (As := [.int p1, .int p2]) (st := []) (st' := []) (L1' := [(13703, o7.1), (13704, o7.2.1)]) (L2' := []) (L3' := [(115, o7.2.2.1)]) (L4' := [(139, o7.2.2.2)]) (L5' := []) (cells' := 0 + o1.2.1) (slots' := 0 + o1.2.2) (rc := { frames := 2, cells := 0, slots := 0, locals := 50 }) (b := 137) hC dX11_knownDays_33 ⟨mw_1312, mw_1315, mw_44, yd_yX5_travel, yp_yX5_travel, Nat.le_of_ble_eq_true rfl, Nat.le_of_ble_eq_true rfl, (okr_c h9), (okr_s h9)⟩ mw_1313 mw_1314 layX_137 rfl rfl rfl (Nat.le_of_ble_eq_true rfl) (c_X5_travel_q137 (x_l X) (x_D X) (x_q X) g (x_cy X) (x_z X) _ p1 p2 o7 ho7) rfl rfl rfl rfl rfl rfl rfl rfl rfl rfl rfl rfl rfl rfl ?_
    refine go_sub [0] rfl ?_
    refine go_base (fun S9 hS9 => ?_)
    subst hS9
    exact jk36_5 (wd_o S8 [(13703, o7.1), (13704, o7.2.1)] [] [(115, o7.2.2.1)] [(139, o7.2.2.2)] []) g hf
  clear hk27_6
  refine go_if_ne (tgt := 27) (pc' := 15) hC dX11_knownDays_12 (by decide) rfl (fun h13 => ?_) (fun h13 => ?_)
  · have hf := ite_f h13 hf
    exact jk27_6 () g hf
  · have hf := ite_t h13 hf
    refine go_aload_n (pc' := 16) hC dX11_knownDays_15 rfl rfl ?_
    refine go_getq (pc' := 19) hC 0 14 layX_0 rfl rfl inlX11 (Nat.le_of_ble_eq_true rfl) mw_45 rfl dX11_knownDays_16 rfl ?_
    refine go_iload_n (pc' := 20) hC dX11_knownDays_19 rfl rfl ?_
    refine go_iload_n (pc' := 21) hC dX11_knownDays_20 rfl rfl ?_
    obtain ⟨h11, hf⟩ := gd_e hf
    obtain ⟨o10, ho10, hf⟩ := bd_e hf
    refine go_callV0 (pc' := 24) (As := [.int p1, .int p2]) (st := []) (st' := [.int o10])   (rc := { frames := 0, cells := 0, slots := 0, locals := 0 }) (b := 137) hC dX11_knownDays_21 ⟨mw_1308, mw_1311, mw_44, yd_yX5_isFor, yp_yX5_isFor, Nat.le_of_ble_eq_true rfl, Nat.le_of_ble_eq_true rfl, (okr_c h11), (okr_s h11)⟩ mw_1309 mw_1310 layX_137 rfl rfl rfl (Nat.le_of_ble_eq_true rfl) (c_X5_isFor_q137 (x_l X) (x_D X) (x_q X) g (x_cy X) (x_z X) _ p1 p2 o10 ho10) rfl rfl ?_
    refine go_if_ne (tgt := 36) (pc' := 27) hC dX11_knownDays_24 (by decide) rfl (fun h12 => ?_) (fun h12 => ?_)
    · have hf := ite_f h12 hf
      refine go_sub [0] rfl ?_
      refine go_base (fun S9 hS9 => ?_)
      subst hS9
      exact jk36_5 (wd_o o1.1 [(7, o2.2)] [] [] [] []) g hf
    · have hf := ite_t h12 hf
      exact jk27_6 () g hf
theorem dX5_cameWithin_0 : decode cX5_cameWithin 0 = .ok (.lconst 0, 1) := by decide +kernel
theorem dX5_cameWithin_1 : decode cX5_cameWithin 1 = .ok (.lstore_n 2, 1) := by decide +kernel
theorem dX5_cameWithin_2 : decode cX5_cameWithin 2 = .ok (.iconst 0, 1) := by decide +kernel
theorem dX5_cameWithin_3 : decode cX5_cameWithin 3 = .ok (.istore 4, 2) := by decide +kernel
theorem dX5_cameWithin_5 : decode cX5_cameWithin 5 = .ok (.iload 4, 2) := by decide +kernel
theorem dX5_cameWithin_7 : decode cX5_cameWithin 7 = .ok (.iload_n 1, 1) := by decide +kernel
theorem dX5_cameWithin_8 : decode cX5_cameWithin 8 = .ok (.if_icmp .gt 26, 3) := by decide +kernel
theorem dX5_cameWithin_11 : decode cX5_cameWithin 11 = .ok (.iload 4, 2) := by decide +kernel
theorem dX5_cameWithin_13 : decode cX5_cameWithin 13 = .ok (.bipush 99, 2) := by decide +kernel
theorem dX5_cameWithin_15 : decode cX5_cameWithin 15 = .ok (.if_icmp .gt 19, 3) := by decide +kernel
theorem dX5_cameWithin_18 : decode cX5_cameWithin 18 = .ok (.lload_n 2, 1) := by decide +kernel
theorem dX5_cameWithin_19 : decode cX5_cameWithin 19 = .ok (.aload_n 0, 1) := by decide +kernel
theorem dX5_cameWithin_20 : decode cX5_cameWithin 20 = .ok (.getfield 22, 3) := by decide +kernel
theorem dX5_cameWithin_23 : decode cX5_cameWithin 23 = .ok (.iload 4, 2) := by decide +kernel
theorem dX5_cameWithin_25 : decode cX5_cameWithin 25 = .ok (.laload, 1) := by decide +kernel
theorem dX5_cameWithin_26 : decode cX5_cameWithin 26 = .ok (.ladd, 1) := by decide +kernel
theorem dX5_cameWithin_27 : decode cX5_cameWithin 27 = .ok (.lstore_n 2, 1) := by decide +kernel
theorem dX5_cameWithin_28 : decode cX5_cameWithin 28 = .ok (.iinc 4 1, 3) := by decide +kernel
theorem dX5_cameWithin_31 : decode cX5_cameWithin 31 = .ok (.goto (-26), 3) := by decide +kernel
theorem dX5_cameWithin_34 : decode cX5_cameWithin 34 = .ok (.lload_n 2, 1) := by decide +kernel
theorem dX5_cameWithin_35 : decode cX5_cameWithin 35 = .ok (.lreturn, 1) := by decide +kernel
abbrev o_X5_cameWithin_q137 : Type := Int64
def f_X5_cameWithin_q137_L5 (S : wd_W) (p1 : Int32) (r3 : (Int64) → (Int32) → (Option o_X5_cameWithin_q137)) (x1 : Int64) (x2 : Int32) : Option o_X5_cameWithin_q137 :=
if p1 < x2 then (
some x1) else (
if (99 : Int32) < x2 then (
some x1) else (
gd (okx x2 100) <|
lz (x1 + ((S.2.2.2.1 139) x2.toNatClampNeg)) fun x5 =>
r3 x5 (x2 + (1 : Int32))))
def f_X5_cameWithin_q137 (S : wd_W) (p1 : Int32) : Option o_X5_cameWithin_q137 :=
it2 (f_X5_cameWithin_q137_L5 S p1) fuel (0 : Int64) (0 : Int32)
set_option maxRecDepth 100000 in
set_option maxHeartbeats 4000000 in
theorem c_X5_cameWithin_q137 (l : Launch) (D : va_G) (q g : Nat → Nat) (cy : Nat → ClassId) (z : (Nat → Nat) × (Nat → Nat) × Nat) (S : wd_W) (p1 : Int32) (o : o_X5_cameWithin_q137) (hf : f_X5_cameWithin_q137 S p1 = some o) : MX layX l yX5_cameWithin cX5_cameWithin 5 (some .long) ({ frames := 0, cells := 0, slots := 0, locals := 0 } : Room) D q g cy z [.ref (q 137), .int p1] S false (some (.long o)) (wd_o S [] [] [] [] []) 0 0 := by
  refine mx_of (own := RX5) (lc := [(0, .ref (q 137)), (1, .int p1)]) (by decide +kernel) rfl layX_ok (Nat.le_of_ble_eq_true rfl) rfl ?_
  intro X hXl hXq hXz hC hQ
  subst hXl; subst hXq; subst hXz
  unfold f_X5_cameWithin_q137 at hf
  refine go_lconst (pc' := 1) hC dX5_cameWithin_0 kl_0 rfl ?_
  refine go_lstore_n (lc' := [(0, .ref (x_q X 137)), (1, .int p1), (2, .long (0 : Int64))]) (pc' := 2) hC dX5_cameWithin_1 (Nat.le_of_ble_eq_true rfl) rfl rfl ?_
  refine go_iconst (pc' := 3) hC dX5_cameWithin_2 ki_0 rfl ?_
  refine go_istore (lc' := [(0, .ref (x_q X 137)), (1, .int p1), (2, .long (0 : Int64)), (4, .int (0 : Int32))]) (pc' := 5) hC dX5_cameWithin_3 (Nat.le_of_ble_eq_true rfl) rfl rfl ?_
  have l5_8 : ∀ (nn : Nat) (x1 : Int64) (x2 : Int32), it2 (f_X5_cameWithin_q137_L5 S p1) nn x1 x2 = some o → Go X layX S 5 [(0, .ref (x_q X 137)), (1, .int p1), (2, .long x1), (4, .int x2)] [] g [] [] [] [] [] 0 0 := by
    intro nn
    induction nn with
    | zero =>
      intro x1 x2 hf
      exact none_no hf
    | succ nn ih =>
      intro x1 x2 hf
      have hf : f_X5_cameWithin_q137_L5 S p1 (it2 (f_X5_cameWithin_q137_L5 S p1) nn) x1 x2 = some o := hf
      generalize it2 (f_X5_cameWithin_q137_L5 S p1) nn = r3 at ih hf
      unfold f_X5_cameWithin_q137_L5 at hf
      refine go_iload (pc' := 7) hC dX5_cameWithin_5 rfl rfl ?_
      refine go_iload_n (pc' := 8) hC dX5_cameWithin_7 rfl rfl ?_
      refine go_icmp_gt (tgt := 34) (pc' := 11) hC dX5_cameWithin_8 (by decide) rfl (fun h7 => ?_) (fun h7 => ?_)
      · have hf := ite_t h7 hf
        refine go_lload_n (pc' := 35) hC dX5_cameWithin_34 rfl rfl ?_
        obtain rfl := Option.some.inj hf
        exact go_lret hC hQ dX5_cameWithin_35 rfl rfl rfl (fun _ => rfl) rfl rfl
      · have hf := ite_f h7 hf
        refine go_iload (pc' := 13) hC dX5_cameWithin_11 rfl rfl ?_
        refine go_bipush (pc' := 15) hC dX5_cameWithin_13 kb_99 rfl ?_
        refine go_icmp_gt (tgt := 34) (pc' := 18) hC dX5_cameWithin_15 (by decide) rfl (fun h6 => ?_) (fun h6 => ?_)
        · have hf := ite_t h6 hf
          refine go_lload_n (pc' := 35) hC dX5_cameWithin_34 rfl rfl ?_
          obtain rfl := Option.some.inj hf
          exact go_lret hC hQ dX5_cameWithin_35 rfl rfl rfl (fun _ => rfl) rfl rfl
        · have hf := ite_f h6 hf
          refine go_lload_n (pc' := 19) hC dX5_cameWithin_18 rfl rfl ?_
          refine go_aload_n (pc' := 20) hC dX5_cameWithin_19 rfl rfl ?_
          refine go_getq (pc' := 23) hC 137 5 layX_137 rfl rfl inlX5 (Nat.le_of_ble_eq_true rfl) mw_154 rfl dX5_cameWithin_20 rfl ?_
          refine go_iload (pc' := 25) hC dX5_cameWithin_23 rfl rfl ?_
          obtain ⟨h4, hf⟩ := gd_e hf
          refine go_lald (f := (S.2.2.2.1 139)) (pc' := 26) hC 139 layX_139 rfl rfl dX5_cameWithin_25 (okx_in h4) rfl ?_
          refine go_ladd (pc' := 27) hC dX5_cameWithin_26 rfl ?_
          refine go_namel (fun x5 hx => ?_)
          have hf := lz_r hx hf
          clear hx
          refine go_lstore_n (lc' := [(0, .ref (x_q X 137)), (1, .int p1), (2, .long x5), (4, .int x2)]) (pc' := 28) hC dX5_cameWithin_27 (Nat.le_of_ble_eq_true rfl) rfl rfl ?_
          refine go_iinc (lc' := [(0, .ref (x_q X 137)), (1, .int p1), (2, .long x5), (4, .int (x2 + (1 : Int32)))]) (pc' := 31) hC dX5_cameWithin_28 rfl ki_1 (Nat.le_of_ble_eq_true rfl) rfl rfl ?_
          refine go_goto (tgt := 5) hC dX5_cameWithin_31 (by decide) ?_
          exact ih x5 (x2 + (1 : Int32)) hf
  exact l5_8 fuel (0 : Int64) (0 : Int32) hf
theorem dX11_within_0 : decode cX11_within 0 = .ok (.aload_n 0, 1) := by decide +kernel
theorem dX11_within_1 : decode cX11_within 1 = .ok (.iload_n 1, 1) := by decide +kernel
theorem dX11_within_2 : decode cX11_within 2 = .ok (.iload_n 2, 1) := by decide +kernel
theorem dX11_within_3 : decode cX11_within 3 = .ok (.invokevirtual 274, 3) := by decide +kernel
theorem dX11_within_6 : decode cX11_within 6 = .ok (.ifCond .eq 13, 3) := by decide +kernel
theorem dX11_within_9 : decode cX11_within 9 = .ok (.iload_n 3, 1) := by decide +kernel
theorem dX11_within_10 : decode cX11_within 10 = .ok (.ifCond .lt 9, 3) := by decide +kernel
theorem dX11_within_13 : decode cX11_within 13 = .ok (.iload_n 3, 1) := by decide +kernel
theorem dX11_within_14 : decode cX11_within 14 = .ok (.bipush 99, 2) := by decide +kernel
theorem dX11_within_16 : decode cX11_within 16 = .ok (.if_icmp .le 7, 3) := by decide +kernel
theorem dX11_within_19 : decode cX11_within 19 = .ok (.ldc2_w 186, 3) := by decide +kernel
theorem dX11_within_22 : decode cX11_within 22 = .ok (.lreturn, 1) := by decide +kernel
theorem dX11_within_23 : decode cX11_within 23 = .ok (.aload_n 0, 1) := by decide +kernel
theorem dX11_within_24 : decode cX11_within 24 = .ok (.iload_n 1, 1) := by decide +kernel
theorem dX11_within_25 : decode cX11_within 25 = .ok (.iload_n 2, 1) := by decide +kernel
theorem dX11_within_26 : decode cX11_within 26 = .ok (.invokevirtual 295, 3) := by decide +kernel
theorem dX11_within_29 : decode cX11_within 29 = .ok (.iload_n 3, 1) := by decide +kernel
theorem dX11_within_30 : decode cX11_within 30 = .ok (.invokevirtual 299, 3) := by decide +kernel
theorem dX11_within_33 : decode cX11_within 33 = .ok (.lreturn, 1) := by decide +kernel
abbrev o_X11_within : Type := Int64 × wd_W × Nat × Nat
def f_X11_within (S : wd_W) (p1 : Int32) (p2 : Int32) (p3 : Int32) : Option o_X11_within :=
bd (f_X11_isPair (wd_o S [] [] [] [] []) p1 p2) fun o1 =>
if o1 = 0 then (
some ((-1 : Int64), S, 0, 0)) else (
if p3 < 0 then (
some ((-1 : Int64), S, 0, 0)) else (
if p3 ≤ (99 : Int32) then (
bd (f_X11_knownDays (wd_o S [] [] [] [] []) p1 p2) fun o2 =>
gd (okr (0 + o2.2.1) (0 + o2.2.2) 0 0 40 500000) <|
bd (f_X5_cameWithin_q137 (wd_o o2.1 [] [] [] [] []) p3) fun o3 =>
some (o3, o2.1, 0 + o2.2.1, 0 + o2.2.2)) else (
some ((-1 : Int64), S, 0, 0))))
set_option maxRecDepth 100000 in
set_option maxHeartbeats 4000000 in
theorem c_X11_within (l : Launch) (D : va_G) (q g : Nat → Nat) (cy : Nat → ClassId) (z : (Nat → Nat) × (Nat → Nat) × Nat) (S : wd_W) (p1 : Int32) (p2 : Int32) (p3 : Int32) (o : o_X11_within) (hf : f_X11_within S p1 p2 p3 = some o) : MX layX l yX11_within cX11_within 4 (some .long) ({ frames := 6, cells := 40, slots := 500000, locals := 149 } : Room) D q g cy z [.ref (q 0), .int p1, .int p2, .int p3] S true (some (.long o.1)) o.2.1 o.2.2.1 o.2.2.2 := by
  refine mx_of (own := RX11) (lc := [(0, .ref (q 0)), (1, .int p1), (2, .int p2), (3, .int p3)]) (by decide +kernel) rfl layX_ok (Nat.le_of_ble_eq_true rfl) rfl ?_
  intro X hXl hXq hXz hC hQ
  subst hXl; subst hXq; subst hXz
  unfold f_X11_within at hf
  refine go_aload_n (pc' := 1) hC dX11_within_0 rfl rfl ?_
  refine go_iload_n (pc' := 2) hC dX11_within_1 rfl rfl ?_
  refine go_iload_n (pc' := 3) hC dX11_within_2 rfl rfl ?_
  obtain ⟨o1, ho1, hf⟩ := bd_e hf
  refine go_callV0 (pc' := 6) (As := [.int p1, .int p2]) (st := []) (st' := [.int o1])    (b := 0) hC dX11_within_3 ⟨mw_1237, mw_1240, mw_2, yd_yX11_isPair, yp_yX11_isPair, Nat.le_of_ble_eq_true rfl, Nat.le_of_ble_eq_true rfl, (Nat.le_of_ble_eq_true rfl), (Nat.le_of_ble_eq_true rfl)⟩ mw_1238 mw_1239 layX_0 rfl rfl rfl (Nat.le_of_ble_eq_true rfl) (c_X11_isPair (x_l X) (x_D X) (x_q X) g (x_cy X) (x_z X) _ p1 p2 o1 ho1) rfl rfl ?_
  refine go_if_eq (tgt := 19) (pc' := 9) hC dX11_within_6 (by decide) rfl (fun h7 => ?_) (fun h7 => ?_)
  · have hf := ite_t h7 hf
    refine go_ldc2 (pc' := 22) hC dX11_within_19 mw_909 rfl ?_
    obtain rfl := Option.some.inj hf
    exact go_lret hC hQ dX11_within_22 rfl rfl rfl (fun h => nomatch h) rfl rfl
  · have hf := ite_f h7 hf
    refine go_iload_n (pc' := 10) hC dX11_within_9 rfl rfl ?_
    refine go_if_lt (tgt := 19) (pc' := 13) hC dX11_within_10 (by decide) rfl (fun h6 => ?_) (fun h6 => ?_)
    · have hf := ite_t h6 hf
      refine go_ldc2 (pc' := 22) hC dX11_within_19 mw_909 rfl ?_
      obtain rfl := Option.some.inj hf
      exact go_lret hC hQ dX11_within_22 rfl rfl rfl (fun h => nomatch h) rfl rfl
    · have hf := ite_f h6 hf
      refine go_iload_n (pc' := 14) hC dX11_within_13 rfl rfl ?_
      refine go_bipush (pc' := 16) hC dX11_within_14 kb_99 rfl ?_
      refine go_icmp_le (tgt := 23) (pc' := 19) hC dX11_within_16 (by decide) rfl (fun h5 => ?_) (fun h5 => ?_)
      · have hf := ite_t h5 hf
        refine go_aload_n (pc' := 24) hC dX11_within_23 rfl rfl ?_
        refine go_iload_n (pc' := 25) hC dX11_within_24 rfl rfl ?_
        refine go_iload_n (pc' := 26) hC dX11_within_25 rfl rfl ?_
        obtain ⟨o2, ho2, hf⟩ := bd_e hf
        refine go_callVw (pc' := 29) (As := [.int p1, .int p2]) (st := []) (st' := [.ref (x_q X 137)])  (cells' := 0 + o2.2.1) (slots' := 0 + o2.2.2)  (b := 0) hC dX11_within_26 ⟨mw_1304, mw_1307, mw_2, yd_yX11_knownDays, yp_yX11_knownDays, Nat.le_of_ble_eq_true rfl, Nat.le_of_ble_eq_true rfl, (Nat.le_of_ble_eq_true rfl), (Nat.le_of_ble_eq_true rfl)⟩ mw_1305 mw_1306 layX_0 rfl rfl rfl (Nat.le_of_ble_eq_true rfl) (c_X11_knownDays (x_l X) (x_D X) (x_q X) g (x_cy X) (x_z X) _ p1 p2 o2 ho2) rfl rfl rfl rfl (fun g _ => ?_)
        refine go_iload_n (pc' := 30) hC dX11_within_29 rfl rfl ?_
        obtain ⟨h4, hf⟩ := gd_e hf
        obtain ⟨o3, ho3, hf⟩ := bd_e hf
        refine go_callV0 (pc' := 33) (As := [.int p3]) (st := []) (st' := [.long o3])   (rc := { frames := 0, cells := 0, slots := 0, locals := 0 }) (b := 137) hC dX11_within_30 ⟨mw_1319, mw_1322, mw_44, yd_yX5_cameWithin, yp_yX5_cameWithin, Nat.le_of_ble_eq_true rfl, Nat.le_of_ble_eq_true rfl, (okr_c h4), (okr_s h4)⟩ mw_1320 mw_1321 layX_137 rfl rfl rfl (Nat.le_of_ble_eq_true rfl) (c_X5_cameWithin_q137 (x_l X) (x_D X) (x_q X) g (x_cy X) (x_z X) _ p3 o3 ho3) rfl rfl ?_
        obtain rfl := Option.some.inj hf
        exact go_lret hC hQ dX11_within_33 rfl rfl rfl (fun h => nomatch h) rfl rfl
      · have hf := ite_f h5 hf
        refine go_ldc2 (pc' := 22) hC dX11_within_19 mw_909 rfl ?_
        obtain rfl := Option.some.inj hf
        exact go_lret hC hQ dX11_within_22 rfl rfl rfl (fun h => nomatch h) rfl rfl
theorem dX11_soon_0 : decode cX11_soon 0 = .ok (.aload_n 0, 1) := by decide +kernel
theorem dX11_soon_1 : decode cX11_soon 1 = .ok (.iload_n 1, 1) := by decide +kernel
theorem dX11_soon_2 : decode cX11_soon 2 = .ok (.iload_n 2, 1) := by decide +kernel
theorem dX11_soon_3 : decode cX11_soon 3 = .ok (.invokevirtual 274, 3) := by decide +kernel
theorem dX11_soon_6 : decode cX11_soon 6 = .ok (.ifCond .eq 13, 3) := by decide +kernel
theorem dX11_soon_9 : decode cX11_soon 9 = .ok (.iload_n 3, 1) := by decide +kernel
theorem dX11_soon_10 : decode cX11_soon 10 = .ok (.ifCond .lt 9, 3) := by decide +kernel
theorem dX11_soon_13 : decode cX11_soon 13 = .ok (.iload_n 3, 1) := by decide +kernel
theorem dX11_soon_14 : decode cX11_soon 14 = .ok (.bipush 16, 2) := by decide +kernel
theorem dX11_soon_16 : decode cX11_soon 16 = .ok (.if_icmp .le 5, 3) := by decide +kernel
theorem dX11_soon_19 : decode cX11_soon 19 = .ok (.iconst (-1), 1) := by decide +kernel
theorem dX11_soon_20 : decode cX11_soon 20 = .ok (.ireturn, 1) := by decide +kernel
theorem dX11_soon_21 : decode cX11_soon 21 = .ok (.aload_n 0, 1) := by decide +kernel
theorem dX11_soon_22 : decode cX11_soon 22 = .ok (.iload_n 1, 1) := by decide +kernel
theorem dX11_soon_23 : decode cX11_soon 23 = .ok (.iload_n 2, 1) := by decide +kernel
theorem dX11_soon_24 : decode cX11_soon 24 = .ok (.invokevirtual 295, 3) := by decide +kernel
theorem dX11_soon_27 : decode cX11_soon 27 = .ok (.astore 4, 2) := by decide +kernel
theorem dX11_soon_29 : decode cX11_soon 29 = .ok (.iconst 1, 1) := by decide +kernel
theorem dX11_soon_30 : decode cX11_soon 30 = .ok (.istore 5, 2) := by decide +kernel
theorem dX11_soon_32 : decode cX11_soon 32 = .ok (.iload 5, 2) := by decide +kernel
theorem dX11_soon_34 : decode cX11_soon 34 = .ok (.bipush 99, 2) := by decide +kernel
theorem dX11_soon_36 : decode cX11_soon 36 = .ok (.if_icmp .gt 33, 3) := by decide +kernel
theorem dX11_soon_39 : decode cX11_soon 39 = .ok (.aload 4, 2) := by decide +kernel
theorem dX11_soon_41 : decode cX11_soon 41 = .ok (.iload 5, 2) := by decide +kernel
theorem dX11_soon_43 : decode cX11_soon 43 = .ok (.invokevirtual 299, 3) := by decide +kernel
theorem dX11_soon_46 : decode cX11_soon 46 = .ok (.iload_n 3, 1) := by decide +kernel
theorem dX11_soon_47 : decode cX11_soon 47 = .ok (.aload_n 0, 1) := by decide +kernel
theorem dX11_soon_48 : decode cX11_soon 48 = .ok (.getfield 25, 3) := by decide +kernel
theorem dX11_soon_51 : decode cX11_soon 51 = .ok (.invokevirtual 129, 3) := by decide +kernel
theorem dX11_soon_54 : decode cX11_soon 54 = .ok (.invokestatic 302, 3) := by decide +kernel
theorem dX11_soon_57 : decode cX11_soon 57 = .ok (.ifCond .eq 6, 3) := by decide +kernel
theorem dX11_soon_60 : decode cX11_soon 60 = .ok (.iload 5, 2) := by decide +kernel
theorem dX11_soon_62 : decode cX11_soon 62 = .ok (.ireturn, 1) := by decide +kernel
theorem dX11_soon_63 : decode cX11_soon 63 = .ok (.iinc 5 1, 3) := by decide +kernel
theorem dX11_soon_66 : decode cX11_soon 66 = .ok (.goto (-34), 3) := by decide +kernel
theorem dX11_soon_69 : decode cX11_soon 69 = .ok (.bipush (-2), 2) := by decide +kernel
theorem dX11_soon_71 : decode cX11_soon 71 = .ok (.ireturn, 1) := by decide +kernel
abbrev o_X11_soon : Type := Int32 × wd_W × Nat × Nat
def f_X11_soon_L32 (p3 : Int32) (o2 : o_X11_knownDays) (r4 : (Int32) → (Option o_X11_soon)) (x3 : Int32) : Option o_X11_soon :=
if (99 : Int32) < x3 then (
some ((-2 : Int32), o2.1, 0 + o2.2.1, 0 + o2.2.2)) else (
gd (okr (0 + o2.2.1) (0 + o2.2.2) 0 0 40 500000) <|
bd (f_X5_cameWithin_q137 (wd_o o2.1 [] [] [] [] []) x3) fun o5 =>
gd (okr (0 + o2.2.1) (0 + o2.2.2) 0 0 40 500000) <|
bd (f_X2_things_q16 (wd_o o2.1 [] [] [] [] [])) fun o7 =>
gd (okr (0 + o2.2.1) (0 + o2.2.2) 0 0 40 500000) <|
bd (f_X8_isSixteenths o5 p3 o7) fun o9 =>
if o9 = 0 then (
r4 (x3 + (1 : Int32))) else (
some (x3, o2.1, 0 + o2.2.1, 0 + o2.2.2)))
def f_X11_soon (S : wd_W) (p1 : Int32) (p2 : Int32) (p3 : Int32) : Option o_X11_soon :=
bd (f_X11_isPair (wd_o S [] [] [] [] []) p1 p2) fun o1 =>
if o1 = 0 then (
some ((-1 : Int32), S, 0, 0)) else (
if p3 < 0 then (
some ((-1 : Int32), S, 0, 0)) else (
if p3 ≤ (16 : Int32) then (
bd (f_X11_knownDays (wd_o S [] [] [] [] []) p1 p2) fun o2 =>
it1 (f_X11_soon_L32 p3 o2) fuel (1 : Int32)) else (
some ((-1 : Int32), S, 0, 0))))
set_option maxRecDepth 100000 in
set_option maxHeartbeats 4000000 in
theorem c_X11_soon (l : Launch) (D : va_G) (q g : Nat → Nat) (cy : Nat → ClassId) (z : (Nat → Nat) × (Nat → Nat) × Nat) (S : wd_W) (p1 : Int32) (p2 : Int32) (p3 : Int32) (o : o_X11_soon) (hf : f_X11_soon S p1 p2 p3 = some o) : MX layX l yX11_soon cX11_soon 6 (some .int) ({ frames := 6, cells := 40, slots := 500000, locals := 149 } : Room) D q g cy z [.ref (q 0), .int p1, .int p2, .int p3] S true (some (.int o.1)) o.2.1 o.2.2.1 o.2.2.2 := by
  refine mx_of (own := RX11) (lc := [(0, .ref (q 0)), (1, .int p1), (2, .int p2), (3, .int p3)]) (by decide +kernel) rfl layX_ok (Nat.le_of_ble_eq_true rfl) rfl ?_
  intro X hXl hXq hXz hC hQ
  subst hXl; subst hXq; subst hXz
  unfold f_X11_soon at hf
  refine go_aload_n (pc' := 1) hC dX11_soon_0 rfl rfl ?_
  refine go_iload_n (pc' := 2) hC dX11_soon_1 rfl rfl ?_
  refine go_iload_n (pc' := 3) hC dX11_soon_2 rfl rfl ?_
  obtain ⟨o1, ho1, hf⟩ := bd_e hf
  refine go_callV0 (pc' := 6) (As := [.int p1, .int p2]) (st := []) (st' := [.int o1])    (b := 0) hC dX11_soon_3 ⟨mw_1237, mw_1240, mw_2, yd_yX11_isPair, yp_yX11_isPair, Nat.le_of_ble_eq_true rfl, Nat.le_of_ble_eq_true rfl, (Nat.le_of_ble_eq_true rfl), (Nat.le_of_ble_eq_true rfl)⟩ mw_1238 mw_1239 layX_0 rfl rfl rfl (Nat.le_of_ble_eq_true rfl) (c_X11_isPair (x_l X) (x_D X) (x_q X) g (x_cy X) (x_z X) _ p1 p2 o1 ho1) rfl rfl ?_
  refine go_if_eq (tgt := 19) (pc' := 9) hC dX11_soon_6 (by decide) rfl (fun h16 => ?_) (fun h16 => ?_)
  · have hf := ite_t h16 hf
    refine go_iconst (pc' := 20) hC dX11_soon_19 ki_m1 rfl ?_
    obtain rfl := Option.some.inj hf
    exact go_iret hC hQ dX11_soon_20 rfl rfl rfl rfl (fun h => nomatch h) rfl rfl
  · have hf := ite_f h16 hf
    refine go_iload_n (pc' := 10) hC dX11_soon_9 rfl rfl ?_
    refine go_if_lt (tgt := 19) (pc' := 13) hC dX11_soon_10 (by decide) rfl (fun h15 => ?_) (fun h15 => ?_)
    · have hf := ite_t h15 hf
      refine go_iconst (pc' := 20) hC dX11_soon_19 ki_m1 rfl ?_
      obtain rfl := Option.some.inj hf
      exact go_iret hC hQ dX11_soon_20 rfl rfl rfl rfl (fun h => nomatch h) rfl rfl
    · have hf := ite_f h15 hf
      refine go_iload_n (pc' := 14) hC dX11_soon_13 rfl rfl ?_
      refine go_bipush (pc' := 16) hC dX11_soon_14 kb_16 rfl ?_
      refine go_icmp_le (tgt := 21) (pc' := 19) hC dX11_soon_16 (by decide) rfl (fun h14 => ?_) (fun h14 => ?_)
      · have hf := ite_t h14 hf
        refine go_aload_n (pc' := 22) hC dX11_soon_21 rfl rfl ?_
        refine go_iload_n (pc' := 23) hC dX11_soon_22 rfl rfl ?_
        refine go_iload_n (pc' := 24) hC dX11_soon_23 rfl rfl ?_
        obtain ⟨o2, ho2, hf⟩ := bd_e hf
        refine go_callVw (pc' := 27) (As := [.int p1, .int p2]) (st := []) (st' := [.ref (x_q X 137)])  (cells' := 0 + o2.2.1) (slots' := 0 + o2.2.2)  (b := 0) hC dX11_soon_24 ⟨mw_1304, mw_1307, mw_2, yd_yX11_knownDays, yp_yX11_knownDays, Nat.le_of_ble_eq_true rfl, Nat.le_of_ble_eq_true rfl, (Nat.le_of_ble_eq_true rfl), (Nat.le_of_ble_eq_true rfl)⟩ mw_1305 mw_1306 layX_0 rfl rfl rfl (Nat.le_of_ble_eq_true rfl) (c_X11_knownDays (x_l X) (x_D X) (x_q X) g (x_cy X) (x_z X) _ p1 p2 o2 ho2) rfl rfl rfl rfl (fun g _ => ?_)
        refine go_astore (lc' := [(0, .ref (x_q X 0)), (1, .int p1), (2, .int p2), (3, .int p3), (4, .ref (x_q X 137))]) (pc' := 29) hC dX11_soon_27 (Nat.le_of_ble_eq_true rfl) rfl rfl ?_
        refine go_iconst (pc' := 30) hC dX11_soon_29 ki_1 rfl ?_
        refine go_istore (lc' := [(0, .ref (x_q X 0)), (1, .int p1), (2, .int p2), (3, .int p3), (4, .ref (x_q X 137)), (5, .int (1 : Int32))]) (pc' := 32) hC dX11_soon_30 (Nat.le_of_ble_eq_true rfl) rfl rfl ?_
        have l32_13 : ∀ (nn : Nat) (x3 : Int32) (g : Nat → Nat), it1 (f_X11_soon_L32 p3 o2) nn x3 = some o → Go X layX o2.1 32 [(0, .ref (x_q X 0)), (3, .int p3), (4, .ref (x_q X 137)), (5, .int x3)] [] g [] [] [] [] [] (0 + o2.2.1) (0 + o2.2.2) := by
          intro nn
          induction nn with
          | zero =>
            intro x3 g hf
            exact none_no hf
          | succ nn ih =>
            intro x3 g hf
            have hf : f_X11_soon_L32 p3 o2 (it1 (f_X11_soon_L32 p3 o2) nn) x3 = some o := hf
            generalize it1 (f_X11_soon_L32 p3 o2) nn = r4 at ih hf
            unfold f_X11_soon_L32 at hf
            refine go_iload (pc' := 34) hC dX11_soon_32 rfl rfl ?_
            refine go_bipush (pc' := 36) hC dX11_soon_34 kb_99 rfl ?_
            refine go_icmp_gt (tgt := 69) (pc' := 39) hC dX11_soon_36 (by decide) rfl (fun h12 => ?_) (fun h12 => ?_)
            · have hf := ite_t h12 hf
              refine go_bipush (pc' := 71) hC dX11_soon_69 kb_m2 rfl ?_
              obtain rfl := Option.some.inj hf
              exact go_iret hC hQ dX11_soon_71 rfl rfl rfl rfl (fun h => nomatch h) rfl rfl
            · have hf := ite_f h12 hf
              refine go_aload (pc' := 41) hC dX11_soon_39 rfl rfl ?_
              refine go_iload (pc' := 43) hC dX11_soon_41 rfl rfl ?_
              obtain ⟨h6, hf⟩ := gd_e hf
              obtain ⟨o5, ho5, hf⟩ := bd_e hf
              refine go_callV0 (pc' := 46) (As := [.int x3]) (st := []) (st' := [.long o5])   (rc := { frames := 0, cells := 0, slots := 0, locals := 0 }) (b := 137) hC dX11_soon_43 ⟨mw_1319, mw_1322, mw_44, yd_yX5_cameWithin, yp_yX5_cameWithin, Nat.le_of_ble_eq_true rfl, Nat.le_of_ble_eq_true rfl, (okr_c h6), (okr_s h6)⟩ mw_1320 mw_1321 layX_137 rfl rfl rfl (Nat.le_of_ble_eq_true rfl) (c_X5_cameWithin_q137 (x_l X) (x_D X) (x_q X) g (x_cy X) (x_z X) _ x3 o5 ho5) rfl rfl ?_
              refine go_iload_n (pc' := 47) hC dX11_soon_46 rfl rfl ?_
              refine go_aload_n (pc' := 48) hC dX11_soon_47 rfl rfl ?_
              refine go_getq (pc' := 51) hC 0 2 layX_0 rfl rfl inlX11 (Nat.le_of_ble_eq_true rfl) mw_20 rfl dX11_soon_48 rfl ?_
              obtain ⟨h8, hf⟩ := gd_e hf
              obtain ⟨o7, ho7, hf⟩ := bd_e hf
              refine go_callV0 (pc' := 54) (As := []) (st := [.int p3, .long o5]) (st' := [.int o7, .int p3, .long o5])   (rc := { frames := 0, cells := 0, slots := 0, locals := 0 }) (b := 16) hC dX11_soon_51 ⟨mw_484, mw_418, mw_14, yd_yX2_things, yp_yX2_things, Nat.le_of_ble_eq_true rfl, Nat.le_of_ble_eq_true rfl, (okr_c h8), (okr_s h8)⟩ mw_416 mw_417 layX_16 rfl rfl rfl (Nat.le_of_ble_eq_true rfl) (c_X2_things_q16 (x_l X) (x_D X) (x_q X) g (x_cy X) (x_z X) _  o7 ho7) rfl rfl ?_
              obtain ⟨h10, hf⟩ := gd_e hf
              obtain ⟨o9, ho9, hf⟩ := bd_e hf
              refine go_callS0 (pc' := 57) (As := [.long o5, .int p3, .int o7]) (st := []) (st' := [.int o9])   (rc := { frames := 1, cells := 0, slots := 0, locals := 20 }) hC dX11_soon_54 ⟨mw_1336, mw_1195, mw_31, yd_yX8_isSixteenths, yp_yX8_isSixteenths, Nat.le_of_ble_eq_true rfl, Nat.le_of_ble_eq_true rfl, (okr_c h10), (okr_s h10)⟩ mw_1194 rfl rfl (Nat.le_of_ble_eq_true rfl) (c_X8_isSixteenths (x_l X) (x_D X) (x_q X) g (x_cy X) (x_z X) _ o5 p3 o7 o9 ho9) rfl rfl ?_
              refine go_if_eq (tgt := 63) (pc' := 60) hC dX11_soon_57 (by decide) rfl (fun h11 => ?_) (fun h11 => ?_)
              · have hf := ite_t h11 hf
                refine go_iinc (lc' := [(0, .ref (x_q X 0)), (3, .int p3), (4, .ref (x_q X 137)), (5, .int (x3 + (1 : Int32)))]) (pc' := 66) hC dX11_soon_63 rfl ki_1 (Nat.le_of_ble_eq_true rfl) rfl rfl ?_
                refine go_goto (tgt := 32) hC dX11_soon_66 (by decide) ?_
                exact ih (x3 + (1 : Int32)) g hf
              · have hf := ite_f h11 hf
                refine go_iload (pc' := 62) hC dX11_soon_60 rfl rfl ?_
                obtain rfl := Option.some.inj hf
                exact go_iret hC hQ dX11_soon_62 rfl rfl rfl rfl (fun h => nomatch h) rfl rfl
        refine go_sub [0, 3, 4, 5] rfl ?_
        exact l32_13 fuel (1 : Int32) g hf
      · have hf := ite_f h14 hf
        refine go_iconst (pc' := 20) hC dX11_soon_19 ki_m1 rfl ?_
        obtain rfl := Option.some.inj hf
        exact go_iret hC hQ dX11_soon_20 rfl rfl rfl rfl (fun h => nomatch h) rfl rfl
theorem dX8_drawn_0 : decode cX8_drawn 0 = .ok (.iload_n 1, 1) := by decide +kernel
theorem dX8_drawn_1 : decode cX8_drawn 1 = .ok (.i2l, 1) := by decide +kernel
theorem dX8_drawn_2 : decode cX8_drawn 2 = .ok (.lstore_n 3, 1) := by decide +kernel
theorem dX8_drawn_3 : decode cX8_drawn 3 = .ok (.iconst 0, 1) := by decide +kernel
theorem dX8_drawn_4 : decode cX8_drawn 4 = .ok (.istore 5, 2) := by decide +kernel
theorem dX8_drawn_6 : decode cX8_drawn 6 = .ok (.iconst 0, 1) := by decide +kernel
theorem dX8_drawn_7 : decode cX8_drawn 7 = .ok (.istore 6, 2) := by decide +kernel
theorem dX8_drawn_9 : decode cX8_drawn 9 = .ok (.iload 6, 2) := by decide +kernel
theorem dX8_drawn_11 : decode cX8_drawn 11 = .ok (.iload_n 2, 1) := by decide +kernel
theorem dX8_drawn_12 : decode cX8_drawn 12 = .ok (.if_icmp .ge 92, 3) := by decide +kernel
theorem dX8_drawn_15 : decode cX8_drawn 15 = .ok (.iconst 0, 1) := by decide +kernel
theorem dX8_drawn_16 : decode cX8_drawn 16 = .ok (.istore 7, 2) := by decide +kernel
theorem dX8_drawn_18 : decode cX8_drawn 18 = .ok (.iconst 0, 1) := by decide +kernel
theorem dX8_drawn_19 : decode cX8_drawn 19 = .ok (.istore 8, 2) := by decide +kernel
theorem dX8_drawn_21 : decode cX8_drawn 21 = .ok (.iload 8, 2) := by decide +kernel
theorem dX8_drawn_23 : decode cX8_drawn 23 = .ok (.aload_n 0, 1) := by decide +kernel
theorem dX8_drawn_24 : decode cX8_drawn 24 = .ok (.getfield 40, 3) := by decide +kernel
theorem dX8_drawn_27 : decode cX8_drawn 27 = .ok (.getfield 60, 3) := by decide +kernel
theorem dX8_drawn_30 : decode cX8_drawn 30 = .ok (.if_icmp .ge 56, 3) := by decide +kernel
theorem dX8_drawn_33 : decode cX8_drawn 33 = .ok (.lload_n 3, 1) := by decide +kernel
theorem dX8_drawn_34 : decode cX8_drawn 34 = .ok (.ldc2_w 115, 3) := by decide +kernel
theorem dX8_drawn_37 : decode cX8_drawn 37 = .ok (.lmul, 1) := by decide +kernel
theorem dX8_drawn_38 : decode cX8_drawn 38 = .ok (.ldc2_w 117, 3) := by decide +kernel
theorem dX8_drawn_41 : decode cX8_drawn 41 = .ok (.ladd, 1) := by decide +kernel
theorem dX8_drawn_42 : decode cX8_drawn 42 = .ok (.ldc2_w 119, 3) := by decide +kernel
theorem dX8_drawn_45 : decode cX8_drawn 45 = .ok (.lrem, 1) := by decide +kernel
theorem dX8_drawn_46 : decode cX8_drawn 46 = .ok (.lstore_n 3, 1) := by decide +kernel
theorem dX8_drawn_47 : decode cX8_drawn 47 = .ok (.lload_n 3, 1) := by decide +kernel
theorem dX8_drawn_48 : decode cX8_drawn 48 = .ok (.ldc2_w 121, 3) := by decide +kernel
theorem dX8_drawn_51 : decode cX8_drawn 51 = .ok (.ldiv, 1) := by decide +kernel
theorem dX8_drawn_52 : decode cX8_drawn 52 = .ok (.ldc2_w 47, 3) := by decide +kernel
theorem dX8_drawn_55 : decode cX8_drawn 55 = .ok (.lrem, 1) := by decide +kernel
theorem dX8_drawn_56 : decode cX8_drawn 56 = .ok (.aload_n 0, 1) := by decide +kernel
theorem dX8_drawn_57 : decode cX8_drawn 57 = .ok (.getfield 40, 3) := by decide +kernel
theorem dX8_drawn_60 : decode cX8_drawn 60 = .ok (.getfield 93, 3) := by decide +kernel
theorem dX8_drawn_63 : decode cX8_drawn 63 = .ok (.iload 8, 2) := by decide +kernel
theorem dX8_drawn_65 : decode cX8_drawn 65 = .ok (.iaload, 1) := by decide +kernel
theorem dX8_drawn_66 : decode cX8_drawn 66 = .ok (.i2l, 1) := by decide +kernel
theorem dX8_drawn_67 : decode cX8_drawn 67 = .ok (.lcmp, 1) := by decide +kernel
theorem dX8_drawn_68 : decode cX8_drawn 68 = .ok (.ifCond .ge 12, 3) := by decide +kernel
theorem dX8_drawn_71 : decode cX8_drawn 71 = .ok (.iload 7, 2) := by decide +kernel
theorem dX8_drawn_73 : decode cX8_drawn 73 = .ok (.iconst 1, 1) := by decide +kernel
theorem dX8_drawn_74 : decode cX8_drawn 74 = .ok (.iload 8, 2) := by decide +kernel
theorem dX8_drawn_76 : decode cX8_drawn 76 = .ok (.ishl, 1) := by decide +kernel
theorem dX8_drawn_77 : decode cX8_drawn 77 = .ok (.ior, 1) := by decide +kernel
theorem dX8_drawn_78 : decode cX8_drawn 78 = .ok (.istore 7, 2) := by decide +kernel
theorem dX8_drawn_80 : decode cX8_drawn 80 = .ok (.iinc 8 1, 3) := by decide +kernel
theorem dX8_drawn_83 : decode cX8_drawn 83 = .ok (.goto (-62), 3) := by decide +kernel
theorem dX8_drawn_86 : decode cX8_drawn 86 = .ok (.aload_n 0, 1) := by decide +kernel
theorem dX8_drawn_87 : decode cX8_drawn 87 = .ok (.iload 7, 2) := by decide +kernel
theorem dX8_drawn_89 : decode cX8_drawn 89 = .ok (.invokevirtual 103, 3) := by decide +kernel
theorem dX8_drawn_92 : decode cX8_drawn 92 = .ok (.ifCond .eq 6, 3) := by decide +kernel
theorem dX8_drawn_95 : decode cX8_drawn 95 = .ok (.iinc 5 1, 3) := by decide +kernel
theorem dX8_drawn_98 : decode cX8_drawn 98 = .ok (.iinc 6 1, 3) := by decide +kernel
theorem dX8_drawn_101 : decode cX8_drawn 101 = .ok (.goto (-92), 3) := by decide +kernel
theorem dX8_drawn_104 : decode cX8_drawn 104 = .ok (.iload 5, 2) := by decide +kernel
theorem dX8_drawn_106 : decode cX8_drawn 106 = .ok (.ireturn, 1) := by decide +kernel
abbrev o_X8_drawn_q106 : Type := Int32
def f_X8_drawn_q106_L21 (S : wd_W) (k86_8 : (Int64) → (Int32) → (Option o_X8_drawn_q106)) (r16 : (Int64) → (Int32) → (Int32) → (Option o_X8_drawn_q106)) (x13 : Int64) (x14 : Int32) (x15 : Int32) : Option o_X8_drawn_q106 :=
if (S.1 11700) ≤ x15 then (
k86_8 x13 x14) else (
lz (((x13 * (1103515245 : Int64)) + (12345 : Int64)) - ((x13 * (1103515245 : Int64)) + (12345 : Int64)) / (2147483648 : Int64) * (2147483648 : Int64)) fun x17 =>
gd (okx x15 15) <|
lk (fun x19 =>
r16 x17 x19 (x15 + (1 : Int32))) fun k80_20 =>
if (((S.2.2.1 118) x15.toNatClampNeg).toInt64) ≤ ((x17 / (65536 : Int64)) - (x17 / (65536 : Int64)) / (16 : Int64) * (16 : Int64)) then (
k80_20 x14) else (
lz (x14 ||| ((1 : Int32) <<< (x15 &&& 31))) fun x21 =>
k80_20 x21))
def f_X8_drawn_q106_L9 (S : wd_W) (p2 : Int32) (r5 : (Int64) → (Int32) → (Int32) → (Option o_X8_drawn_q106)) (x2 : Int64) (x3 : Int32) (x4 : Int32) : Option o_X8_drawn_q106 :=
if p2 ≤ x4 then (
some x3) else (
lk (fun x6 x7 =>
bd (f_X8_isThrough_q106 (wd_o S [] [] [] [] []) x7) fun o9 =>
lk (fun x10 =>
r5 x6 x10 (x4 + (1 : Int32))) fun k98_11 =>
if o9 = 0 then (
k98_11 x3) else (
k98_11 (x3 + (1 : Int32)))) fun k86_8 =>
it3 (f_X8_drawn_q106_L21 S k86_8) fuel x2 (0 : Int32) (0 : Int32))
def f_X8_drawn_q106 (S : wd_W) (p1 : Int32) (p2 : Int32) : Option o_X8_drawn_q106 :=
lz (p1.toInt64) fun x1 =>
it3 (f_X8_drawn_q106_L9 S p2) fuel x1 (0 : Int32) (0 : Int32)
set_option maxRecDepth 100000 in
set_option maxHeartbeats 4000000 in
theorem c_X8_drawn_q106 (l : Launch) (D : va_G) (q g : Nat → Nat) (cy : Nat → ClassId) (z : (Nat → Nat) × (Nat → Nat) × Nat) (S : wd_W) (p1 : Int32) (p2 : Int32) (o : o_X8_drawn_q106) (hf : f_X8_drawn_q106 S p1 p2 = some o) : MX layX l yX8_drawn cX8_drawn 9 (some .int) ({ frames := 2, cells := 0, slots := 0, locals := 42 } : Room) D q g cy z [.ref (q 106), .int p1, .int p2] S false (some (.int o)) (wd_o S [] [] [] [] []) 0 0 := by
  refine mx_of (own := RX8) (lc := [(0, .ref (q 106)), (1, .int p1), (2, .int p2)]) (by decide +kernel) rfl layX_ok (Nat.le_of_ble_eq_true rfl) rfl ?_
  intro X hXl hXq hXz hC hQ
  subst hXl; subst hXq; subst hXz
  unfold f_X8_drawn_q106 at hf
  refine go_iload_n (pc' := 1) hC dX8_drawn_0 rfl rfl ?_
  refine go_i2l (pc' := 2) hC dX8_drawn_1 rfl ?_
  refine go_namel (fun x1 hx => ?_)
  have hf := lz_r hx hf
  clear hx
  refine go_lstore_n (lc' := [(0, .ref (x_q X 106)), (1, .int p1), (2, .int p2), (3, .long x1)]) (pc' := 3) hC dX8_drawn_2 (Nat.le_of_ble_eq_true rfl) rfl rfl ?_
  refine go_iconst (pc' := 4) hC dX8_drawn_3 ki_0 rfl ?_
  refine go_istore (lc' := [(0, .ref (x_q X 106)), (1, .int p1), (2, .int p2), (3, .long x1), (5, .int (0 : Int32))]) (pc' := 6) hC dX8_drawn_4 (Nat.le_of_ble_eq_true rfl) rfl rfl ?_
  refine go_iconst (pc' := 7) hC dX8_drawn_6 ki_0 rfl ?_
  refine go_istore (lc' := [(0, .ref (x_q X 106)), (1, .int p1), (2, .int p2), (3, .long x1), (5, .int (0 : Int32)), (6, .int (0 : Int32))]) (pc' := 9) hC dX8_drawn_7 (Nat.le_of_ble_eq_true rfl) rfl rfl ?_
  have l9_26 : ∀ (nn : Nat) (x2 : Int64) (x3 : Int32) (x4 : Int32), it3 (f_X8_drawn_q106_L9 S p2) nn x2 x3 x4 = some o → Go X layX S 9 [(0, .ref (x_q X 106)), (2, .int p2), (3, .long x2), (5, .int x3), (6, .int x4)] [] g [] [] [] [] [] 0 0 := by
    intro nn
    induction nn with
    | zero =>
      intro x2 x3 x4 hf
      exact none_no hf
    | succ nn ih =>
      intro x2 x3 x4 hf
      have hf : f_X8_drawn_q106_L9 S p2 (it3 (f_X8_drawn_q106_L9 S p2) nn) x2 x3 x4 = some o := hf
      generalize it3 (f_X8_drawn_q106_L9 S p2) nn = r5 at ih hf
      unfold f_X8_drawn_q106_L9 at hf
      refine go_iload (pc' := 11) hC dX8_drawn_9 rfl rfl ?_
      refine go_iload_n (pc' := 12) hC dX8_drawn_11 rfl rfl ?_
      refine go_icmp_ge (tgt := 104) (pc' := 15) hC dX8_drawn_12 (by decide) rfl (fun h25 => ?_) (fun h25 => ?_)
      · have hf := ite_t h25 hf
        refine go_iload (pc' := 106) hC dX8_drawn_104 rfl rfl ?_
        obtain rfl := Option.some.inj hf
        exact go_iret hC hQ dX8_drawn_106 rfl rfl rfl rfl (fun _ => rfl) rfl rfl
      · have hf := ite_f h25 hf
        refine go_iconst (pc' := 16) hC dX8_drawn_15 ki_0 rfl ?_
        refine go_istore (lc' := [(0, .ref (x_q X 106)), (2, .int p2), (3, .long x2), (5, .int x3), (6, .int x4), (7, .int (0 : Int32))]) (pc' := 18) hC dX8_drawn_16 (Nat.le_of_ble_eq_true rfl) rfl rfl ?_
        refine go_iconst (pc' := 19) hC dX8_drawn_18 ki_0 rfl ?_
        refine go_istore (lc' := [(0, .ref (x_q X 106)), (2, .int p2), (3, .long x2), (5, .int x3), (6, .int x4), (7, .int (0 : Int32)), (8, .int (0 : Int32))]) (pc' := 21) hC dX8_drawn_19 (Nat.le_of_ble_eq_true rfl) rfl rfl ?_
        obtain ⟨k86_8, hk86_8, hf⟩ := lk_e2 hf
        have jk86_8 : ∀ (x6 : Int64) (x7 : Int32), k86_8 x6 x7 = some o → Go X layX S 86 [(0, .ref (x_q X 106)), (2, .int p2), (3, .long x6), (5, .int x3), (6, .int x4), (7, .int x7)] [] g [] [] [] [] [] 0 0 := by
          intro x6 x7 hf
          have hf := hk86_8 x6 x7 hf
          clear hk86_8
          refine go_aload_n (pc' := 87) hC dX8_drawn_86 rfl rfl ?_
          refine go_iload (pc' := 89) hC dX8_drawn_87 rfl rfl ?_
          obtain ⟨o9, ho9, hf⟩ := bd_e hf
          refine go_callV0 (pc' := 92) (As := [.int x7]) (st := []) (st' := [.int o9])    (b := 106) hC dX8_drawn_89 ⟨mw_914, mw_734, mw_31, yd_yX8_isThrough, yp_yX8_isThrough, Nat.le_of_ble_eq_true rfl, Nat.le_of_ble_eq_true rfl, (Nat.le_of_ble_eq_true rfl), (Nat.le_of_ble_eq_true rfl)⟩ mw_732 mw_733 layX_106 rfl rfl rfl (Nat.le_of_ble_eq_true rfl) (c_X8_isThrough_q106 (x_l X) (x_D X) (x_q X) g (x_cy X) (x_z X) _ x7 o9 ho9) rfl rfl ?_
          obtain ⟨k98_11, hk98_11, hf⟩ := lk_e1 hf
          have jk98_11 : ∀ (x10 : Int32), k98_11 x10 = some o → Go X layX S 98 [(0, .ref (x_q X 106)), (2, .int p2), (3, .long x6), (5, .int x10), (6, .int x4)] [] g [] [] [] [] [] 0 0 := by
            intro x10 hf
            have hf := hk98_11 x10 hf
            clear hk98_11
            refine go_iinc (lc' := [(0, .ref (x_q X 106)), (2, .int p2), (3, .long x6), (5, .int x10), (6, .int (x4 + (1 : Int32)))]) (pc' := 101) hC dX8_drawn_98 rfl ki_1 (Nat.le_of_ble_eq_true rfl) rfl rfl ?_
            refine go_goto (tgt := 9) hC dX8_drawn_101 (by decide) ?_
            exact ih x6 x10 (x4 + (1 : Int32)) hf
          clear hk98_11
          refine go_if_eq (tgt := 98) (pc' := 95) hC dX8_drawn_92 (by decide) rfl (fun h12 => ?_) (fun h12 => ?_)
          · have hf := ite_t h12 hf
            refine go_sub [0, 2, 3, 5, 6] rfl ?_
            exact jk98_11 x3 hf
          · have hf := ite_f h12 hf
            refine go_iinc (lc' := [(0, .ref (x_q X 106)), (2, .int p2), (3, .long x6), (5, .int (x3 + (1 : Int32))), (6, .int x4), (7, .int x7)]) (pc' := 98) hC dX8_drawn_95 rfl ki_1 (Nat.le_of_ble_eq_true rfl) rfl rfl ?_
            refine go_sub [0, 2, 3, 5, 6] rfl ?_
            exact jk98_11 (x3 + (1 : Int32)) hf
        clear hk86_8
        have l21_24 : ∀ (nn : Nat) (x13 : Int64) (x14 : Int32) (x15 : Int32), it3 (f_X8_drawn_q106_L21 S k86_8) nn x13 x14 x15 = some o → Go X layX S 21 [(0, .ref (x_q X 106)), (2, .int p2), (3, .long x13), (5, .int x3), (6, .int x4), (7, .int x14), (8, .int x15)] [] g [] [] [] [] [] 0 0 := by
          intro nn
          induction nn with
          | zero =>
            intro x13 x14 x15 hf
            exact none_no hf
          | succ nn ih =>
            intro x13 x14 x15 hf
            have hf : f_X8_drawn_q106_L21 S k86_8 (it3 (f_X8_drawn_q106_L21 S k86_8) nn) x13 x14 x15 = some o := hf
            generalize it3 (f_X8_drawn_q106_L21 S k86_8) nn = r16 at ih hf
            unfold f_X8_drawn_q106_L21 at hf
            refine go_iload (pc' := 23) hC dX8_drawn_21 rfl rfl ?_
            refine go_aload_n (pc' := 24) hC dX8_drawn_23 rfl rfl ?_
            refine go_getq (pc' := 27) hC 106 1 layX_106 rfl rfl inlX8 (Nat.le_of_ble_eq_true rfl) mw_104 rfl dX8_drawn_24 rfl ?_
            refine go_geti (v := (S.1 11700)) (pc' := 30) hC 117 0 layX_117 rfl rfl inlX10 (Nat.le_of_ble_eq_true rfl) mw_609 rfl dX8_drawn_27 rfl rfl ?_
            refine go_icmp_ge (tgt := 86) (pc' := 33) hC dX8_drawn_30 (by decide) rfl (fun h23 => ?_) (fun h23 => ?_)
            · have hf := ite_t h23 hf
              refine go_sub [0, 2, 3, 5, 6, 7] rfl ?_
              exact jk86_8 x13 x14 hf
            · have hf := ite_f h23 hf
              refine go_lload_n (pc' := 34) hC dX8_drawn_33 rfl rfl ?_
              refine go_ldc2 (pc' := 37) hC dX8_drawn_34 mw_1349 rfl ?_
              refine go_lmul (pc' := 38) hC dX8_drawn_37 rfl ?_
              refine go_ldc2 (pc' := 41) hC dX8_drawn_38 mw_1350 rfl ?_
              refine go_ladd (pc' := 42) hC dX8_drawn_41 rfl ?_
              refine go_ldc2 (pc' := 45) hC dX8_drawn_42 mw_1351 rfl ?_
              refine go_lrem (pc' := 46) hC dX8_drawn_45 (by decide) rfl ?_
              refine go_namel (fun x17 hx => ?_)
              have hf := lz_r hx hf
              clear hx
              refine go_lstore_n (lc' := [(0, .ref (x_q X 106)), (2, .int p2), (3, .long x17), (5, .int x3), (6, .int x4), (7, .int x14), (8, .int x15)]) (pc' := 47) hC dX8_drawn_46 (Nat.le_of_ble_eq_true rfl) rfl rfl ?_
              refine go_lload_n (pc' := 48) hC dX8_drawn_47 rfl rfl ?_
              refine go_ldc2 (pc' := 51) hC dX8_drawn_48 mw_1352 rfl ?_
              refine go_ldiv (pc' := 52) hC dX8_drawn_51 (by decide) rfl ?_
              refine go_ldc2 (pc' := 55) hC dX8_drawn_52 mw_951 rfl ?_
              refine go_lrem (pc' := 56) hC dX8_drawn_55 (by decide) rfl ?_
              refine go_aload_n (pc' := 57) hC dX8_drawn_56 rfl rfl ?_
              refine go_getq (pc' := 60) hC 106 1 layX_106 rfl rfl inlX8 (Nat.le_of_ble_eq_true rfl) mw_104 rfl dX8_drawn_57 rfl ?_
              refine go_getq (pc' := 63) hC 117 1 layX_117 rfl rfl inlX10 (Nat.le_of_ble_eq_true rfl) mw_702 rfl dX8_drawn_60 rfl ?_
              refine go_iload (pc' := 65) hC dX8_drawn_63 rfl rfl ?_
              obtain ⟨h18, hf⟩ := gd_e hf
              refine go_iald (f := (S.2.2.1 118)) (pc' := 66) hC 118 layX_118 rfl rfl dX8_drawn_65 (okx_in h18) rfl ?_
              refine go_i2l (pc' := 67) hC dX8_drawn_66 rfl ?_
              refine go_lcmp (pc' := 68) hC dX8_drawn_67 rfl ?_
              obtain ⟨k80_20, hk80_20, hf⟩ := lk_e1 hf
              have jk80_20 : ∀ (x19 : Int32), k80_20 x19 = some o → Go X layX S 80 [(0, .ref (x_q X 106)), (2, .int p2), (3, .long x17), (5, .int x3), (6, .int x4), (7, .int x19), (8, .int x15)] [] g [] [] [] [] [] 0 0 := by
                intro x19 hf
                have hf := hk80_20 x19 hf
                clear hk80_20
                refine go_iinc (lc' := [(0, .ref (x_q X 106)), (2, .int p2), (3, .long x17), (5, .int x3), (6, .int x4), (7, .int x19), (8, .int (x15 + (1 : Int32)))]) (pc' := 83) hC dX8_drawn_80 rfl ki_1 (Nat.le_of_ble_eq_true rfl) rfl rfl ?_
                refine go_goto (tgt := 21) hC dX8_drawn_83 (by decide) ?_
                exact ih x17 x19 (x15 + (1 : Int32)) hf
              clear hk80_20
              refine go_if_ge (tgt := 80) (pc' := 71) hC dX8_drawn_68 (by decide) rfl (fun h22 => ?_) (fun h22 => ?_)
              · have hf := ite_t (lg_ge.mp h22) hf
                exact jk80_20 x14 hf
              · have hf := ite_f (mt lg_ge.mpr h22) hf
                refine go_iload (pc' := 73) hC dX8_drawn_71 rfl rfl ?_
                refine go_iconst (pc' := 74) hC dX8_drawn_73 ki_1 rfl ?_
                refine go_iload (pc' := 76) hC dX8_drawn_74 rfl rfl ?_
                refine go_ishl (pc' := 77) hC dX8_drawn_76 rfl ?_
                refine go_ior (pc' := 78) hC dX8_drawn_77 rfl ?_
                refine go_namei (fun x21 hx => ?_)
                have hf := lz_r hx hf
                clear hx
                refine go_istore (lc' := [(0, .ref (x_q X 106)), (2, .int p2), (3, .long x17), (5, .int x3), (6, .int x4), (7, .int x21), (8, .int x15)]) (pc' := 80) hC dX8_drawn_78 (Nat.le_of_ble_eq_true rfl) rfl rfl ?_
                exact jk80_20 x21 hf
        exact l21_24 fuel x2 (0 : Int32) (0 : Int32) hf
  refine go_sub [0, 2, 3, 5, 6] rfl ?_
  exact l9_26 fuel x1 (0 : Int32) (0 : Int32) hf
theorem dX11_draw_0 : decode cX11_draw 0 = .ok (.iload_n 1, 1) := by decide +kernel
theorem dX11_draw_1 : decode cX11_draw 1 = .ok (.ifCond .lt 15, 3) := by decide +kernel
theorem dX11_draw_4 : decode cX11_draw 4 = .ok (.iload_n 2, 1) := by decide +kernel
theorem dX11_draw_5 : decode cX11_draw 5 = .ok (.iconst 1, 1) := by decide +kernel
theorem dX11_draw_6 : decode cX11_draw 6 = .ok (.if_icmp .lt 10, 3) := by decide +kernel
theorem dX11_draw_9 : decode cX11_draw 9 = .ok (.iload_n 2, 1) := by decide +kernel
theorem dX11_draw_10 : decode cX11_draw 10 = .ok (.sipush 1000, 3) := by decide +kernel
theorem dX11_draw_13 : decode cX11_draw 13 = .ok (.if_icmp .le 5, 3) := by decide +kernel
theorem dX11_draw_16 : decode cX11_draw 16 = .ok (.iconst (-1), 1) := by decide +kernel
theorem dX11_draw_17 : decode cX11_draw 17 = .ok (.ireturn, 1) := by decide +kernel
theorem dX11_draw_18 : decode cX11_draw 18 = .ok (.aload_n 0, 1) := by decide +kernel
theorem dX11_draw_19 : decode cX11_draw 19 = .ok (.invokevirtual 171, 3) := by decide +kernel
theorem dX11_draw_22 : decode cX11_draw 22 = .ok (.iload_n 1, 1) := by decide +kernel
theorem dX11_draw_23 : decode cX11_draw 23 = .ok (.iload_n 2, 1) := by decide +kernel
theorem dX11_draw_24 : decode cX11_draw 24 = .ok (.invokevirtual 306, 3) := by decide +kernel
theorem dX11_draw_27 : decode cX11_draw 27 = .ok (.ireturn, 1) := by decide +kernel
abbrev o_X11_draw : Type := Int32 × wd_W × Nat × Nat
def f_X11_draw (S : wd_W) (p1 : Int32) (p2 : Int32) : Option o_X11_draw :=
if p1 < 0 then (
some ((-1 : Int32), S, 0, 0)) else (
if p2 < (1 : Int32) then (
some ((-1 : Int32), S, 0, 0)) else (
if p2 ≤ (1000 : Int32) then (
bd (f_X11_knownSets (wd_o S [] [] [] [] [])) fun o1 =>
gd (okr (0 + o1.2.1) (0 + o1.2.2) 0 0 40 500000) <|
bd (f_X8_drawn_q106 (wd_o o1.1 [] [] [] [] []) p1 p2) fun o2 =>
some (o2, o1.1, 0 + o1.2.1, 0 + o1.2.2)) else (
some ((-1 : Int32), S, 0, 0))))
set_option maxRecDepth 100000 in
set_option maxHeartbeats 4000000 in
theorem c_X11_draw (l : Launch) (D : va_G) (q g : Nat → Nat) (cy : Nat → ClassId) (z : (Nat → Nat) × (Nat → Nat) × Nat) (S : wd_W) (p1 : Int32) (p2 : Int32) (o : o_X11_draw) (hf : f_X11_draw S p1 p2 = some o) : MX layX l yX11_draw cX11_draw 3 (some .int) ({ frames := 6, cells := 40, slots := 500000, locals := 147 } : Room) D q g cy z [.ref (q 0), .int p1, .int p2] S true (some (.int o.1)) o.2.1 o.2.2.1 o.2.2.2 := by
  refine mx_of (own := RX11) (lc := [(0, .ref (q 0)), (1, .int p1), (2, .int p2)]) (by decide +kernel) rfl layX_ok (Nat.le_of_ble_eq_true rfl) rfl ?_
  intro X hXl hXq hXz hC hQ
  subst hXl; subst hXq; subst hXz
  unfold f_X11_draw at hf
  refine go_iload_n (pc' := 1) hC dX11_draw_0 rfl rfl ?_
  refine go_if_lt (tgt := 16) (pc' := 4) hC dX11_draw_1 (by decide) rfl (fun h6 => ?_) (fun h6 => ?_)
  · have hf := ite_t h6 hf
    refine go_iconst (pc' := 17) hC dX11_draw_16 ki_m1 rfl ?_
    obtain rfl := Option.some.inj hf
    exact go_iret hC hQ dX11_draw_17 rfl rfl rfl rfl (fun h => nomatch h) rfl rfl
  · have hf := ite_f h6 hf
    refine go_iload_n (pc' := 5) hC dX11_draw_4 rfl rfl ?_
    refine go_iconst (pc' := 6) hC dX11_draw_5 ki_1 rfl ?_
    refine go_icmp_lt (tgt := 16) (pc' := 9) hC dX11_draw_6 (by decide) rfl (fun h5 => ?_) (fun h5 => ?_)
    · have hf := ite_t h5 hf
      refine go_iconst (pc' := 17) hC dX11_draw_16 ki_m1 rfl ?_
      obtain rfl := Option.some.inj hf
      exact go_iret hC hQ dX11_draw_17 rfl rfl rfl rfl (fun h => nomatch h) rfl rfl
    · have hf := ite_f h5 hf
      refine go_iload_n (pc' := 10) hC dX11_draw_9 rfl rfl ?_
      refine go_sipush (pc' := 13) hC dX11_draw_10 ks_1000 rfl ?_
      refine go_icmp_le (tgt := 18) (pc' := 16) hC dX11_draw_13 (by decide) rfl (fun h4 => ?_) (fun h4 => ?_)
      · have hf := ite_t h4 hf
        refine go_aload_n (pc' := 19) hC dX11_draw_18 rfl rfl ?_
        obtain ⟨o1, ho1, hf⟩ := bd_e hf
        refine go_callVw (pc' := 22) (As := []) (st := []) (st' := [.ref (x_q X 106)])  (cells' := 0 + o1.2.1) (slots' := 0 + o1.2.2)  (b := 0) hC dX11_draw_19 ⟨mw_593, mw_596, mw_2, yd_yX11_knownSets, yp_yX11_knownSets, Nat.le_of_ble_eq_true rfl, Nat.le_of_ble_eq_true rfl, (Nat.le_of_ble_eq_true rfl), (Nat.le_of_ble_eq_true rfl)⟩ mw_594 mw_595 layX_0 rfl rfl rfl (Nat.le_of_ble_eq_true rfl) (c_X11_knownSets (x_l X) (x_D X) (x_q X) g (x_cy X) (x_z X) _  o1 ho1) rfl rfl rfl rfl (fun g _ => ?_)
        refine go_iload_n (pc' := 23) hC dX11_draw_22 rfl rfl ?_
        refine go_iload_n (pc' := 24) hC dX11_draw_23 rfl rfl ?_
        obtain ⟨h3, hf⟩ := gd_e hf
        obtain ⟨o2, ho2, hf⟩ := bd_e hf
        refine go_callV0 (pc' := 27) (As := [.int p1, .int p2]) (st := []) (st' := [.int o2])   (rc := { frames := 2, cells := 0, slots := 0, locals := 42 }) (b := 106) hC dX11_draw_24 ⟨mw_1345, mw_1348, mw_31, yd_yX8_drawn, yp_yX8_drawn, Nat.le_of_ble_eq_true rfl, Nat.le_of_ble_eq_true rfl, (okr_c h3), (okr_s h3)⟩ mw_1346 mw_1347 layX_106 rfl rfl rfl (Nat.le_of_ble_eq_true rfl) (c_X8_drawn_q106 (x_l X) (x_D X) (x_q X) g (x_cy X) (x_z X) _ p1 p2 o2 ho2) rfl rfl ?_
        obtain rfl := Option.some.inj hf
        exact go_iret hC hQ dX11_draw_27 rfl rfl rfl rfl (fun h => nomatch h) rfl rfl
      · have hf := ite_f h4 hf
        refine go_iconst (pc' := 17) hC dX11_draw_16 ki_m1 rfl ?_
        obtain rfl := Option.some.inj hf
        exact go_iret hC hQ dX11_draw_17 rfl rfl rfl rfl (fun h => nomatch h) rfl rfl
abbrev o_J7_fill_53178_q116 : Type := (Nat → Int32)
def f_J7_fill_53178_q116_L5 (p1 : Int32) (r3 : (Int32) → (Nat → Int32) → (Option o_J7_fill_53178_q116)) (x1 : Int32) (a2 : Nat → Int32) : Option o_J7_fill_53178_q116 :=
if (10 : Int32) ≤ x1 then (
some a2) else (
gd (okx x1 10) <|
lz (upd a2 x1.toNatClampNeg p1) fun a5 =>
r3 (x1 + (1 : Int32)) a5)
def f_J7_fill_53178_q116 (S : wd_W) (p1 : Int32) : Option o_J7_fill_53178_q116 :=
it2 (f_J7_fill_53178_q116_L5 p1) fuel (0 : Int32) (S.2.2.1 116)
set_option maxRecDepth 100000 in
set_option maxHeartbeats 4000000 in
theorem c_J7_fill_53178_q116 (l : Launch) (D : va_G) (q g : Nat → Nat) (cy : Nat → ClassId) (z : (Nat → Nat) × (Nat → Nat) × Nat) (S : wd_W) (p1 : Int32) (o : o_J7_fill_53178_q116) (hf : f_J7_fill_53178_q116 S p1 = some o) : MX layX l yJ7_fill_53178 cJ7_fill_53178 4 none ({ frames := 0, cells := 0, slots := 0, locals := 0 } : Room) D q g cy z [.ref (q 116), .int p1] S false (none) (wd_o S [] [] [(116, o)] [] []) 0 0 := by
  refine mx_of (own := RJ7) (lc := [(0, .ref (q 116)), (1, .int p1)]) (by decide +kernel) rfl layX_ok (Nat.le_of_ble_eq_true rfl) rfl ?_
  intro X hXl hXq hXz hC hQ
  subst hXl; subst hXq; subst hXz
  unfold f_J7_fill_53178_q116 at hf
  refine go_keys (L1 := []) (L2 := []) (L3 := [(116, (S.2.2.1 116))]) (L4 := []) (L5 := []) [] [] [116] [] [] rfl rfl rfl rfl rfl ?_
  refine go_iconst (pc' := 1) hC dJ7_fill_53178_0 ki_0 rfl ?_
  refine go_istore_n (lc' := [(0, .ref (x_q X 116)), (1, .int p1), (2, .int (0 : Int32))]) (pc' := 2) hC dJ7_fill_53178_1 (Nat.le_of_ble_eq_true rfl) rfl rfl ?_
  refine go_aload_n (pc' := 3) hC dJ7_fill_53178_2 rfl rfl ?_
  refine go_alen (v := (10 : Int32)) (pc' := 4) hC 116 layX_116 rfl (Nat.le_of_ble_eq_true rfl) kn_10 dJ7_fill_53178_3 rfl ?_
  refine go_istore_n (lc' := [(0, .ref (x_q X 116)), (1, .int p1), (2, .int (0 : Int32)), (3, .int (10 : Int32))]) (pc' := 5) hC dJ7_fill_53178_4 (Nat.le_of_ble_eq_true rfl) rfl rfl ?_
  have l5_7 : ∀ (nn : Nat) (x1 : Int32) (a2 : Nat → Int32), it2 (f_J7_fill_53178_q116_L5 p1) nn x1 a2 = some o → Go X layX S 5 [(0, .ref (x_q X 116)), (1, .int p1), (2, .int x1), (3, .int (10 : Int32))] [] g [] [] [(116, a2)] [] [] 0 0 := by
    intro nn
    induction nn with
    | zero =>
      intro x1 a2 hf
      exact none_no hf
    | succ nn ih =>
      intro x1 a2 hf
      have hf : f_J7_fill_53178_q116_L5 p1 (it2 (f_J7_fill_53178_q116_L5 p1) nn) x1 a2 = some o := hf
      generalize it2 (f_J7_fill_53178_q116_L5 p1) nn = r3 at ih hf
      unfold f_J7_fill_53178_q116_L5 at hf
      refine go_iload_n (pc' := 6) hC dJ7_fill_53178_5 rfl rfl ?_
      refine go_iload_n (pc' := 7) hC dJ7_fill_53178_6 rfl rfl ?_
      refine go_icmp_ge (tgt := 20) (pc' := 10) hC dJ7_fill_53178_7 (by decide) rfl (fun h6 => ?_) (fun h6 => ?_)
      · have hf := ite_t h6 hf
        obtain rfl := Option.some.inj hf
        exact go_vret hC hQ dJ7_fill_53178_20 rfl rfl rfl (fun _ => rfl) rfl rfl
      · have hf := ite_f h6 hf
        refine go_aload_n (pc' := 11) hC dJ7_fill_53178_10 rfl rfl ?_
        refine go_iload_n (pc' := 12) hC dJ7_fill_53178_11 rfl rfl ?_
        refine go_iload_n (pc' := 13) hC dJ7_fill_53178_12 rfl rfl ?_
        obtain ⟨h4, hf⟩ := gd_e hf
        refine go_iast (f := a2) (pc' := 14) hC 116 layX_116 rfl rfl dJ7_fill_53178_13 (okx_in h4) rfl rfl (fun a5 ha L3' hL => ?_)
        have hf := lz_r ha hf
        clear ha
        obtain rfl : L3' = [(116, a5)] := hL.symm
        refine go_iinc (lc' := [(0, .ref (x_q X 116)), (1, .int p1), (2, .int (x1 + (1 : Int32))), (3, .int (10 : Int32))]) (pc' := 17) hC dJ7_fill_53178_14 rfl ki_1 (Nat.le_of_ble_eq_true rfl) rfl rfl ?_
        refine go_goto (tgt := 5) hC dJ7_fill_53178_17 (by decide) ?_
        exact ih (x1 + (1 : Int32)) a5 hf
  exact l5_7 fuel (0 : Int32) (S.2.2.1 116) hf
theorem dX7_joinAt_0 : decode cX7_joinAt 0 = .ok (.aload_n 0, 1) := by decide +kernel
theorem dX7_joinAt_1 : decode cX7_joinAt 1 = .ok (.getfield 24, 3) := by decide +kernel
theorem dX7_joinAt_4 : decode cX7_joinAt 4 = .ok (.iload_n 1, 1) := by decide +kernel
theorem dX7_joinAt_5 : decode cX7_joinAt 5 = .ok (.iaload, 1) := by decide +kernel
theorem dX7_joinAt_6 : decode cX7_joinAt 6 = .ok (.istore_n 2, 1) := by decide +kernel
theorem dX7_joinAt_7 : decode cX7_joinAt 7 = .ok (.iload_n 2, 1) := by decide +kernel
theorem dX7_joinAt_8 : decode cX7_joinAt 8 = .ok (.invokestatic 91, 3) := by decide +kernel
theorem dX7_joinAt_11 : decode cX7_joinAt 11 = .ok (.iconst 2, 1) := by decide +kernel
theorem dX7_joinAt_12 : decode cX7_joinAt 12 = .ok (.if_icmp .le 4, 3) := by decide +kernel
theorem dX7_joinAt_15 : decode cX7_joinAt 15 = .ok (.return_, 1) := by decide +kernel
theorem dX7_joinAt_16 : decode cX7_joinAt 16 = .ok (.aload_n 0, 1) := by decide +kernel
theorem dX7_joinAt_17 : decode cX7_joinAt 17 = .ok (.getfield 24, 3) := by decide +kernel
theorem dX7_joinAt_20 : decode cX7_joinAt 20 = .ok (.iload_n 1, 1) := by decide +kernel
theorem dX7_joinAt_21 : decode cX7_joinAt 21 = .ok (.iconst 0, 1) := by decide +kernel
theorem dX7_joinAt_22 : decode cX7_joinAt 22 = .ok (.iastore, 1) := by decide +kernel
theorem dX7_joinAt_23 : decode cX7_joinAt 23 = .ok (.iconst 0, 1) := by decide +kernel
theorem dX7_joinAt_24 : decode cX7_joinAt 24 = .ok (.istore_n 3, 1) := by decide +kernel
theorem dX7_joinAt_25 : decode cX7_joinAt 25 = .ok (.iload_n 3, 1) := by decide +kernel
theorem dX7_joinAt_26 : decode cX7_joinAt 26 = .ok (.aload_n 0, 1) := by decide +kernel
theorem dX7_joinAt_27 : decode cX7_joinAt 27 = .ok (.getfield 37, 3) := by decide +kernel
theorem dX7_joinAt_30 : decode cX7_joinAt 30 = .ok (.if_icmp .ge 41, 3) := by decide +kernel
theorem dX7_joinAt_33 : decode cX7_joinAt 33 = .ok (.iload_n 2, 1) := by decide +kernel
theorem dX7_joinAt_34 : decode cX7_joinAt 34 = .ok (.iload_n 3, 1) := by decide +kernel
theorem dX7_joinAt_35 : decode cX7_joinAt 35 = .ok (.ishr, 1) := by decide +kernel
theorem dX7_joinAt_36 : decode cX7_joinAt 36 = .ok (.iconst 1, 1) := by decide +kernel
theorem dX7_joinAt_37 : decode cX7_joinAt 37 = .ok (.iand, 1) := by decide +kernel
theorem dX7_joinAt_38 : decode cX7_joinAt 38 = .ok (.ifCond .eq 27, 3) := by decide +kernel
theorem dX7_joinAt_41 : decode cX7_joinAt 41 = .ok (.aload_n 0, 1) := by decide +kernel
theorem dX7_joinAt_42 : decode cX7_joinAt 42 = .ok (.getfield 24, 3) := by decide +kernel
theorem dX7_joinAt_45 : decode cX7_joinAt 45 = .ok (.iload_n 3, 1) := by decide +kernel
theorem dX7_joinAt_46 : decode cX7_joinAt 46 = .ok (.aload_n 0, 1) := by decide +kernel
theorem dX7_joinAt_47 : decode cX7_joinAt 47 = .ok (.getfield 24, 3) := by decide +kernel
theorem dX7_joinAt_50 : decode cX7_joinAt 50 = .ok (.iload_n 3, 1) := by decide +kernel
theorem dX7_joinAt_51 : decode cX7_joinAt 51 = .ok (.iaload, 1) := by decide +kernel
theorem dX7_joinAt_52 : decode cX7_joinAt 52 = .ok (.iload_n 2, 1) := by decide +kernel
theorem dX7_joinAt_53 : decode cX7_joinAt 53 = .ok (.ior, 1) := by decide +kernel
theorem dX7_joinAt_54 : decode cX7_joinAt 54 = .ok (.iconst 1, 1) := by decide +kernel
theorem dX7_joinAt_55 : decode cX7_joinAt 55 = .ok (.iload_n 1, 1) := by decide +kernel
theorem dX7_joinAt_56 : decode cX7_joinAt 56 = .ok (.ishl, 1) := by decide +kernel
theorem dX7_joinAt_57 : decode cX7_joinAt 57 = .ok (.iconst 1, 1) := by decide +kernel
theorem dX7_joinAt_58 : decode cX7_joinAt 58 = .ok (.iload_n 3, 1) := by decide +kernel
theorem dX7_joinAt_59 : decode cX7_joinAt 59 = .ok (.ishl, 1) := by decide +kernel
theorem dX7_joinAt_60 : decode cX7_joinAt 60 = .ok (.ior, 1) := by decide +kernel
theorem dX7_joinAt_61 : decode cX7_joinAt 61 = .ok (.iconst (-1), 1) := by decide +kernel
theorem dX7_joinAt_62 : decode cX7_joinAt 62 = .ok (.ixor, 1) := by decide +kernel
theorem dX7_joinAt_63 : decode cX7_joinAt 63 = .ok (.iand, 1) := by decide +kernel
theorem dX7_joinAt_64 : decode cX7_joinAt 64 = .ok (.iastore, 1) := by decide +kernel
theorem dX7_joinAt_65 : decode cX7_joinAt 65 = .ok (.iinc 3 1, 3) := by decide +kernel
theorem dX7_joinAt_68 : decode cX7_joinAt 68 = .ok (.goto (-43), 3) := by decide +kernel
theorem dX7_joinAt_71 : decode cX7_joinAt 71 = .ok (.return_, 1) := by decide +kernel
abbrev o_X7_joinAt_q111 : Type := (Nat → Int32)
def f_X7_joinAt_q111_L25 (S : wd_W) (p1 : Int32) (x2 : Int32) (r8 : (Int32) → (Nat → Int32) → (Option o_X7_joinAt_q111)) (x6 : Int32) (a7 : Nat → Int32) : Option o_X7_joinAt_q111 :=
if (S.1 11103) ≤ x6 then (
some a7) else (
lk (fun a9 =>
r8 (x6 + (1 : Int32)) a9) fun k65_10 =>
if ((x2 >>> (x6 &&& 31)) &&& (1 : Int32)) = 0 then (
k65_10 a7) else (
gd (okx x6 10) <|
lz (((a7 x6.toNatClampNeg) ||| x2) &&& ((((1 : Int32) <<< (p1 &&& 31)) ||| ((1 : Int32) <<< (x6 &&& 31))) ^^^ (-1 : Int32))) fun x12 =>
gd (okx x6 10) <|
lz (upd a7 x6.toNatClampNeg x12) fun a14 =>
k65_10 a14))
def f_X7_joinAt_q111 (S : wd_W) (p1 : Int32) : Option o_X7_joinAt_q111 :=
gd (okx p1 10) <|
lz ((S.2.2.1 116) p1.toNatClampNeg) fun x2 =>
bd (f_J6_bitCount_0f7a4 x2) fun o3 =>
if o3 ≤ (2 : Int32) then (
gd (okx p1 10) <|
lz (upd (S.2.2.1 116) p1.toNatClampNeg (0 : Int32)) fun a5 =>
it2 (f_X7_joinAt_q111_L25 S p1 x2) fuel (0 : Int32) a5) else (
some (S.2.2.1 116))
set_option maxRecDepth 100000 in
set_option maxHeartbeats 4000000 in
theorem c_X7_joinAt_q111 (l : Launch) (D : va_G) (q g : Nat → Nat) (cy : Nat → ClassId) (z : (Nat → Nat) × (Nat → Nat) × Nat) (S : wd_W) (p1 : Int32) (o : o_X7_joinAt_q111) (hf : f_X7_joinAt_q111 S p1 = some o) : MX layX l yX7_joinAt cX7_joinAt 4 none ({ frames := 1, cells := 0, slots := 0, locals := 20 } : Room) D q g cy z [.ref (q 111), .int p1] S false (none) (wd_o S [] [] [(116, o)] [] []) 0 0 := by
  refine mx_of (own := RX7) (lc := [(0, .ref (q 111)), (1, .int p1)]) (by decide +kernel) rfl layX_ok (Nat.le_of_ble_eq_true rfl) rfl ?_
  intro X hXl hXq hXz hC hQ
  subst hXl; subst hXq; subst hXz
  unfold f_X7_joinAt_q111 at hf
  refine go_keys (L1 := []) (L2 := []) (L3 := [(116, (S.2.2.1 116))]) (L4 := []) (L5 := []) [] [] [116] [] [] rfl rfl rfl rfl rfl ?_
  refine go_aload_n (pc' := 1) hC dX7_joinAt_0 rfl rfl ?_
  refine go_getq (pc' := 4) hC 111 9 layX_111 rfl rfl inlX7 (Nat.le_of_ble_eq_true rfl) mw_114 rfl dX7_joinAt_1 rfl ?_
  refine go_iload_n (pc' := 5) hC dX7_joinAt_4 rfl rfl ?_
  obtain ⟨h1, hf⟩ := gd_e hf
  refine go_iald (f := (S.2.2.1 116)) (pc' := 6) hC 116 layX_116 rfl rfl dX7_joinAt_5 (okx_in h1) rfl ?_
  refine go_namei (fun x2 hx => ?_)
  have hf := lz_r hx hf
  clear hx
  refine go_istore_n (lc' := [(0, .ref (x_q X 111)), (1, .int p1), (2, .int x2)]) (pc' := 7) hC dX7_joinAt_6 (Nat.le_of_ble_eq_true rfl) rfl rfl ?_
  refine go_iload_n (pc' := 8) hC dX7_joinAt_7 rfl rfl ?_
  obtain ⟨o3, ho3, hf⟩ := bd_e hf
  refine go_callS0 (pc' := 11) (As := [.int x2]) (st := []) (st' := [.int o3])    hC dX7_joinAt_8 ⟨mw_674, mw_677, mw_676, yd_yJ6_bitCount_0f7a4, yp_yJ6_bitCount_0f7a4, Nat.le_of_ble_eq_true rfl, Nat.le_of_ble_eq_true rfl, (Nat.le_of_ble_eq_true rfl), (Nat.le_of_ble_eq_true rfl)⟩ mw_675 rfl rfl (Nat.le_of_ble_eq_true rfl) (c_J6_bitCount_0f7a4 (x_l X) (x_D X) (x_q X) g (x_cy X) (x_z X) _ x2 o3 ho3) rfl rfl ?_
  refine go_iconst (pc' := 12) hC dX7_joinAt_11 ki_2 rfl ?_
  refine go_icmp_le (tgt := 16) (pc' := 15) hC dX7_joinAt_12 (by decide) rfl (fun h18 => ?_) (fun h18 => ?_)
  · have hf := ite_t h18 hf
    refine go_aload_n (pc' := 17) hC dX7_joinAt_16 rfl rfl ?_
    refine go_getq (pc' := 20) hC 111 9 layX_111 rfl rfl inlX7 (Nat.le_of_ble_eq_true rfl) mw_114 rfl dX7_joinAt_17 rfl ?_
    refine go_iload_n (pc' := 21) hC dX7_joinAt_20 rfl rfl ?_
    refine go_iconst (pc' := 22) hC dX7_joinAt_21 ki_0 rfl ?_
    obtain ⟨h4, hf⟩ := gd_e hf
    refine go_iast (f := (S.2.2.1 116)) (pc' := 23) hC 116 layX_116 rfl rfl dX7_joinAt_22 (okx_in h4) rfl rfl (fun a5 ha L3' hL => ?_)
    have hf := lz_r ha hf
    clear ha
    obtain rfl : L3' = [(116, a5)] := hL.symm
    refine go_iconst (pc' := 24) hC dX7_joinAt_23 ki_0 rfl ?_
    refine go_istore_n (lc' := [(0, .ref (x_q X 111)), (1, .int p1), (2, .int x2), (3, .int (0 : Int32))]) (pc' := 25) hC dX7_joinAt_24 (Nat.le_of_ble_eq_true rfl) rfl rfl ?_
    have l25_17 : ∀ (nn : Nat) (x6 : Int32) (a7 : Nat → Int32), it2 (f_X7_joinAt_q111_L25 S p1 x2) nn x6 a7 = some o → Go X layX S 25 [(0, .ref (x_q X 111)), (1, .int p1), (2, .int x2), (3, .int x6)] [] g [] [] [(116, a7)] [] [] 0 0 := by
      intro nn
      induction nn with
      | zero =>
        intro x6 a7 hf
        exact none_no hf
      | succ nn ih =>
        intro x6 a7 hf
        have hf : f_X7_joinAt_q111_L25 S p1 x2 (it2 (f_X7_joinAt_q111_L25 S p1 x2) nn) x6 a7 = some o := hf
        generalize it2 (f_X7_joinAt_q111_L25 S p1 x2) nn = r8 at ih hf
        unfold f_X7_joinAt_q111_L25 at hf
        refine go_iload_n (pc' := 26) hC dX7_joinAt_25 rfl rfl ?_
        refine go_aload_n (pc' := 27) hC dX7_joinAt_26 rfl rfl ?_
        refine go_geti (v := (S.1 11103)) (pc' := 30) hC 111 3 layX_111 rfl rfl inlX7 (Nat.le_of_ble_eq_true rfl) mw_618 rfl dX7_joinAt_27 rfl rfl ?_
        refine go_icmp_ge (tgt := 71) (pc' := 33) hC dX7_joinAt_30 (by decide) rfl (fun h16 => ?_) (fun h16 => ?_)
        · have hf := ite_t h16 hf
          obtain rfl := Option.some.inj hf
          exact go_vret hC hQ dX7_joinAt_71 rfl rfl rfl (fun _ => rfl) rfl rfl
        · have hf := ite_f h16 hf
          refine go_iload_n (pc' := 34) hC dX7_joinAt_33 rfl rfl ?_
          refine go_iload_n (pc' := 35) hC dX7_joinAt_34 rfl rfl ?_
          refine go_ishr (pc' := 36) hC dX7_joinAt_35 rfl ?_
          refine go_iconst (pc' := 37) hC dX7_joinAt_36 ki_1 rfl ?_
          refine go_iand (pc' := 38) hC dX7_joinAt_37 rfl ?_
          obtain ⟨k65_10, hk65_10, hf⟩ := lk_e1 hf
          have jk65_10 : ∀ (a9 : Nat → Int32), k65_10 a9 = some o → Go X layX S 65 [(0, .ref (x_q X 111)), (1, .int p1), (2, .int x2), (3, .int x6)] [] g [] [] [(116, a9)] [] [] 0 0 := by
            intro a9 hf
            have hf := hk65_10 a9 hf
            clear hk65_10
            refine go_iinc (lc' := [(0, .ref (x_q X 111)), (1, .int p1), (2, .int x2), (3, .int (x6 + (1 : Int32)))]) (pc' := 68) hC dX7_joinAt_65 rfl ki_1 (Nat.le_of_ble_eq_true rfl) rfl rfl ?_
            refine go_goto (tgt := 25) hC dX7_joinAt_68 (by decide) ?_
            exact ih (x6 + (1 : Int32)) a9 hf
          clear hk65_10
          refine go_if_eq (tgt := 65) (pc' := 41) hC dX7_joinAt_38 (by decide) rfl (fun h15 => ?_) (fun h15 => ?_)
          · have hf := ite_t h15 hf
            exact jk65_10 a7 hf
          · have hf := ite_f h15 hf
            refine go_aload_n (pc' := 42) hC dX7_joinAt_41 rfl rfl ?_
            refine go_getq (pc' := 45) hC 111 9 layX_111 rfl rfl inlX7 (Nat.le_of_ble_eq_true rfl) mw_114 rfl dX7_joinAt_42 rfl ?_
            refine go_iload_n (pc' := 46) hC dX7_joinAt_45 rfl rfl ?_
            refine go_aload_n (pc' := 47) hC dX7_joinAt_46 rfl rfl ?_
            refine go_getq (pc' := 50) hC 111 9 layX_111 rfl rfl inlX7 (Nat.le_of_ble_eq_true rfl) mw_114 rfl dX7_joinAt_47 rfl ?_
            refine go_iload_n (pc' := 51) hC dX7_joinAt_50 rfl rfl ?_
            obtain ⟨h11, hf⟩ := gd_e hf
            refine go_iald (f := a7) (pc' := 52) hC 116 layX_116 rfl rfl dX7_joinAt_51 (okx_in h11) rfl ?_
            refine go_iload_n (pc' := 53) hC dX7_joinAt_52 rfl rfl ?_
            refine go_ior (pc' := 54) hC dX7_joinAt_53 rfl ?_
            refine go_iconst (pc' := 55) hC dX7_joinAt_54 ki_1 rfl ?_
            refine go_iload_n (pc' := 56) hC dX7_joinAt_55 rfl rfl ?_
            refine go_ishl (pc' := 57) hC dX7_joinAt_56 rfl ?_
            refine go_iconst (pc' := 58) hC dX7_joinAt_57 ki_1 rfl ?_
            refine go_iload_n (pc' := 59) hC dX7_joinAt_58 rfl rfl ?_
            refine go_ishl (pc' := 60) hC dX7_joinAt_59 rfl ?_
            refine go_ior (pc' := 61) hC dX7_joinAt_60 rfl ?_
            refine go_iconst (pc' := 62) hC dX7_joinAt_61 ki_m1 rfl ?_
            refine go_ixor (pc' := 63) hC dX7_joinAt_62 rfl ?_
            refine go_iand (pc' := 64) hC dX7_joinAt_63 rfl ?_
            refine go_namei (fun x12 hx => ?_)
            have hf := lz_r hx hf
            clear hx
            obtain ⟨h13, hf⟩ := gd_e hf
            refine go_iast (f := a7) (pc' := 65) hC 116 layX_116 rfl rfl dX7_joinAt_64 (okx_in h13) rfl rfl (fun a14 ha L3' hL => ?_)
            have hf := lz_r ha hf
            clear ha
            obtain rfl : L3' = [(116, a14)] := hL.symm
            exact jk65_10 a14 hf
    exact l25_17 fuel (0 : Int32) a5 hf
  · have hf := ite_f h18 hf
    obtain rfl := Option.some.inj hf
    exact go_vret hC hQ dX7_joinAt_15 rfl rfl rfl (fun _ => rfl) rfl rfl
theorem dX7_joinedFor_0 : decode cX7_joinedFor 0 = .ok (.aload_n 0, 1) := by decide +kernel
theorem dX7_joinedFor_1 : decode cX7_joinedFor 1 = .ok (.getfield 24, 3) := by decide +kernel
theorem dX7_joinedFor_4 : decode cX7_joinedFor 4 = .ok (.iconst 0, 1) := by decide +kernel
theorem dX7_joinedFor_5 : decode cX7_joinedFor 5 = .ok (.invokestatic 74, 3) := by decide +kernel
theorem dX7_joinedFor_8 : decode cX7_joinedFor 8 = .ok (.iconst 0, 1) := by decide +kernel
theorem dX7_joinedFor_9 : decode cX7_joinedFor 9 = .ok (.istore_n 3, 1) := by decide +kernel
theorem dX7_joinedFor_10 : decode cX7_joinedFor 10 = .ok (.iload_n 3, 1) := by decide +kernel
theorem dX7_joinedFor_11 : decode cX7_joinedFor 11 = .ok (.aload_n 0, 1) := by decide +kernel
theorem dX7_joinedFor_12 : decode cX7_joinedFor 12 = .ok (.getfield 41, 3) := by decide +kernel
theorem dX7_joinedFor_15 : decode cX7_joinedFor 15 = .ok (.if_icmp .ge 65, 3) := by decide +kernel
theorem dX7_joinedFor_18 : decode cX7_joinedFor 18 = .ok (.aload_n 0, 1) := by decide +kernel
theorem dX7_joinedFor_19 : decode cX7_joinedFor 19 = .ok (.getfield 24, 3) := by decide +kernel
theorem dX7_joinedFor_22 : decode cX7_joinedFor 22 = .ok (.aload_n 0, 1) := by decide +kernel
theorem dX7_joinedFor_23 : decode cX7_joinedFor 23 = .ok (.getfield 27, 3) := by decide +kernel
theorem dX7_joinedFor_26 : decode cX7_joinedFor 26 = .ok (.getfield 52, 3) := by decide +kernel
theorem dX7_joinedFor_29 : decode cX7_joinedFor 29 = .ok (.iload_n 3, 1) := by decide +kernel
theorem dX7_joinedFor_30 : decode cX7_joinedFor 30 = .ok (.iaload, 1) := by decide +kernel
theorem dX7_joinedFor_31 : decode cX7_joinedFor 31 = .ok (.dup2, 1) := by decide +kernel
theorem dX7_joinedFor_32 : decode cX7_joinedFor 32 = .ok (.iaload, 1) := by decide +kernel
theorem dX7_joinedFor_33 : decode cX7_joinedFor 33 = .ok (.iconst 1, 1) := by decide +kernel
theorem dX7_joinedFor_34 : decode cX7_joinedFor 34 = .ok (.aload_n 0, 1) := by decide +kernel
theorem dX7_joinedFor_35 : decode cX7_joinedFor 35 = .ok (.getfield 27, 3) := by decide +kernel
theorem dX7_joinedFor_38 : decode cX7_joinedFor 38 = .ok (.getfield 55, 3) := by decide +kernel
theorem dX7_joinedFor_41 : decode cX7_joinedFor 41 = .ok (.iload_n 3, 1) := by decide +kernel
theorem dX7_joinedFor_42 : decode cX7_joinedFor 42 = .ok (.iaload, 1) := by decide +kernel
theorem dX7_joinedFor_43 : decode cX7_joinedFor 43 = .ok (.ishl, 1) := by decide +kernel
theorem dX7_joinedFor_44 : decode cX7_joinedFor 44 = .ok (.ior, 1) := by decide +kernel
theorem dX7_joinedFor_45 : decode cX7_joinedFor 45 = .ok (.iastore, 1) := by decide +kernel
theorem dX7_joinedFor_46 : decode cX7_joinedFor 46 = .ok (.aload_n 0, 1) := by decide +kernel
theorem dX7_joinedFor_47 : decode cX7_joinedFor 47 = .ok (.getfield 24, 3) := by decide +kernel
theorem dX7_joinedFor_50 : decode cX7_joinedFor 50 = .ok (.aload_n 0, 1) := by decide +kernel
theorem dX7_joinedFor_51 : decode cX7_joinedFor 51 = .ok (.getfield 27, 3) := by decide +kernel
theorem dX7_joinedFor_54 : decode cX7_joinedFor 54 = .ok (.getfield 55, 3) := by decide +kernel
theorem dX7_joinedFor_57 : decode cX7_joinedFor 57 = .ok (.iload_n 3, 1) := by decide +kernel
theorem dX7_joinedFor_58 : decode cX7_joinedFor 58 = .ok (.iaload, 1) := by decide +kernel
theorem dX7_joinedFor_59 : decode cX7_joinedFor 59 = .ok (.dup2, 1) := by decide +kernel
theorem dX7_joinedFor_60 : decode cX7_joinedFor 60 = .ok (.iaload, 1) := by decide +kernel
theorem dX7_joinedFor_61 : decode cX7_joinedFor 61 = .ok (.iconst 1, 1) := by decide +kernel
theorem dX7_joinedFor_62 : decode cX7_joinedFor 62 = .ok (.aload_n 0, 1) := by decide +kernel
theorem dX7_joinedFor_63 : decode cX7_joinedFor 63 = .ok (.getfield 27, 3) := by decide +kernel
theorem dX7_joinedFor_66 : decode cX7_joinedFor 66 = .ok (.getfield 52, 3) := by decide +kernel
theorem dX7_joinedFor_69 : decode cX7_joinedFor 69 = .ok (.iload_n 3, 1) := by decide +kernel
theorem dX7_joinedFor_70 : decode cX7_joinedFor 70 = .ok (.iaload, 1) := by decide +kernel
theorem dX7_joinedFor_71 : decode cX7_joinedFor 71 = .ok (.ishl, 1) := by decide +kernel
theorem dX7_joinedFor_72 : decode cX7_joinedFor 72 = .ok (.ior, 1) := by decide +kernel
theorem dX7_joinedFor_73 : decode cX7_joinedFor 73 = .ok (.iastore, 1) := by decide +kernel
theorem dX7_joinedFor_74 : decode cX7_joinedFor 74 = .ok (.iinc 3 1, 3) := by decide +kernel
theorem dX7_joinedFor_77 : decode cX7_joinedFor 77 = .ok (.goto (-67), 3) := by decide +kernel
theorem dX7_joinedFor_80 : decode cX7_joinedFor 80 = .ok (.iconst 0, 1) := by decide +kernel
theorem dX7_joinedFor_81 : decode cX7_joinedFor 81 = .ok (.istore_n 3, 1) := by decide +kernel
theorem dX7_joinedFor_82 : decode cX7_joinedFor 82 = .ok (.iload_n 3, 1) := by decide +kernel
theorem dX7_joinedFor_83 : decode cX7_joinedFor 83 = .ok (.aload_n 0, 1) := by decide +kernel
theorem dX7_joinedFor_84 : decode cX7_joinedFor 84 = .ok (.getfield 41, 3) := by decide +kernel
theorem dX7_joinedFor_87 : decode cX7_joinedFor 87 = .ok (.if_icmp .gt 45, 3) := by decide +kernel
theorem dX7_joinedFor_90 : decode cX7_joinedFor 90 = .ok (.iconst 0, 1) := by decide +kernel
theorem dX7_joinedFor_91 : decode cX7_joinedFor 91 = .ok (.istore 4, 2) := by decide +kernel
theorem dX7_joinedFor_93 : decode cX7_joinedFor 93 = .ok (.iload 4, 2) := by decide +kernel
theorem dX7_joinedFor_95 : decode cX7_joinedFor 95 = .ok (.aload_n 0, 1) := by decide +kernel
theorem dX7_joinedFor_96 : decode cX7_joinedFor 96 = .ok (.getfield 37, 3) := by decide +kernel
theorem dX7_joinedFor_99 : decode cX7_joinedFor 99 = .ok (.if_icmp .ge 27, 3) := by decide +kernel
theorem dX7_joinedFor_102 : decode cX7_joinedFor 102 = .ok (.iload 4, 2) := by decide +kernel
theorem dX7_joinedFor_104 : decode cX7_joinedFor 104 = .ok (.iload_n 1, 1) := by decide +kernel
theorem dX7_joinedFor_105 : decode cX7_joinedFor 105 = .ok (.if_icmp .eq 15, 3) := by decide +kernel
theorem dX7_joinedFor_108 : decode cX7_joinedFor 108 = .ok (.iload 4, 2) := by decide +kernel
theorem dX7_joinedFor_110 : decode cX7_joinedFor 110 = .ok (.iload_n 2, 1) := by decide +kernel
theorem dX7_joinedFor_111 : decode cX7_joinedFor 111 = .ok (.if_icmp .eq 9, 3) := by decide +kernel
theorem dX7_joinedFor_114 : decode cX7_joinedFor 114 = .ok (.aload_n 0, 1) := by decide +kernel
theorem dX7_joinedFor_115 : decode cX7_joinedFor 115 = .ok (.iload 4, 2) := by decide +kernel
theorem dX7_joinedFor_117 : decode cX7_joinedFor 117 = .ok (.invokevirtual 107, 3) := by decide +kernel
theorem dX7_joinedFor_120 : decode cX7_joinedFor 120 = .ok (.iinc 4 1, 3) := by decide +kernel
theorem dX7_joinedFor_123 : decode cX7_joinedFor 123 = .ok (.goto (-30), 3) := by decide +kernel
theorem dX7_joinedFor_126 : decode cX7_joinedFor 126 = .ok (.iinc 3 1, 3) := by decide +kernel
theorem dX7_joinedFor_129 : decode cX7_joinedFor 129 = .ok (.goto (-47), 3) := by decide +kernel
theorem dX7_joinedFor_132 : decode cX7_joinedFor 132 = .ok (.iconst 0, 1) := by decide +kernel
theorem dX7_joinedFor_133 : decode cX7_joinedFor 133 = .ok (.istore_n 3, 1) := by decide +kernel
theorem dX7_joinedFor_134 : decode cX7_joinedFor 134 = .ok (.iconst 0, 1) := by decide +kernel
theorem dX7_joinedFor_135 : decode cX7_joinedFor 135 = .ok (.istore 4, 2) := by decide +kernel
theorem dX7_joinedFor_137 : decode cX7_joinedFor 137 = .ok (.iload 4, 2) := by decide +kernel
theorem dX7_joinedFor_139 : decode cX7_joinedFor 139 = .ok (.aload_n 0, 1) := by decide +kernel
theorem dX7_joinedFor_140 : decode cX7_joinedFor 140 = .ok (.getfield 37, 3) := by decide +kernel
theorem dX7_joinedFor_143 : decode cX7_joinedFor 143 = .ok (.if_icmp .ge 22, 3) := by decide +kernel
theorem dX7_joinedFor_146 : decode cX7_joinedFor 146 = .ok (.iload_n 3, 1) := by decide +kernel
theorem dX7_joinedFor_147 : decode cX7_joinedFor 147 = .ok (.aload_n 0, 1) := by decide +kernel
theorem dX7_joinedFor_148 : decode cX7_joinedFor 148 = .ok (.getfield 24, 3) := by decide +kernel
theorem dX7_joinedFor_151 : decode cX7_joinedFor 151 = .ok (.iload 4, 2) := by decide +kernel
theorem dX7_joinedFor_153 : decode cX7_joinedFor 153 = .ok (.iaload, 1) := by decide +kernel
theorem dX7_joinedFor_154 : decode cX7_joinedFor 154 = .ok (.invokestatic 91, 3) := by decide +kernel
theorem dX7_joinedFor_157 : decode cX7_joinedFor 157 = .ok (.iadd, 1) := by decide +kernel
theorem dX7_joinedFor_158 : decode cX7_joinedFor 158 = .ok (.istore_n 3, 1) := by decide +kernel
theorem dX7_joinedFor_159 : decode cX7_joinedFor 159 = .ok (.iinc 4 1, 3) := by decide +kernel
theorem dX7_joinedFor_162 : decode cX7_joinedFor 162 = .ok (.goto (-25), 3) := by decide +kernel
theorem dX7_joinedFor_165 : decode cX7_joinedFor 165 = .ok (.iload_n 3, 1) := by decide +kernel
theorem dX7_joinedFor_166 : decode cX7_joinedFor 166 = .ok (.iconst 2, 1) := by decide +kernel
theorem dX7_joinedFor_167 : decode cX7_joinedFor 167 = .ok (.idiv, 1) := by decide +kernel
theorem dX7_joinedFor_168 : decode cX7_joinedFor 168 = .ok (.ireturn, 1) := by decide +kernel
abbrev o_X7_joinedFor_q111 : Type := Int32 × (Nat → Int32)
def f_X7_joinedFor_q111_L137 (S : wd_W) (a4 : Nat → Int32) (k165_7 : (Int32) → (Option o_X7_joinedFor_q111)) (r10 : (Int32) → (Int32) → (Option o_X7_joinedFor_q111)) (x8 : Int32) (x9 : Int32) : Option o_X7_joinedFor_q111 :=
if (S.1 11103) ≤ x9 then (
k165_7 x8) else (
gd (okx x9 10) <|
bd (f_J6_bitCount_0f7a4 (a4 x9.toNatClampNeg)) fun o12 =>
lz (x8 + o12) fun x13 =>
r10 x13 (x9 + (1 : Int32)))
def f_X7_joinedFor_q111_L93 (S : wd_W) (p1 : Int32) (p2 : Int32) (k126_20 : (Nat → Int32) → (Option o_X7_joinedFor_q111)) (r23 : (Int32) → (Nat → Int32) → (Option o_X7_joinedFor_q111)) (x21 : Int32) (a22 : Nat → Int32) : Option o_X7_joinedFor_q111 :=
if (S.1 11103) ≤ x21 then (
k126_20 a22) else (
lk (fun a24 =>
r23 (x21 + (1 : Int32)) a24) fun k120_25 =>
if x21 = p1 then (
k120_25 a22) else (
if x21 = p2 then (
k120_25 a22) else (
bd (f_X7_joinAt_q111 (wd_o S [] [] [(116, a22)] [] []) x21) fun o26 =>
k120_25 o26)))
def f_X7_joinedFor_q111_L82 (S : wd_W) (p1 : Int32) (p2 : Int32) (k132_5 : (Nat → Int32) → (Option o_X7_joinedFor_q111)) (r18 : (Int32) → (Nat → Int32) → (Option o_X7_joinedFor_q111)) (x16 : Int32) (a17 : Nat → Int32) : Option o_X7_joinedFor_q111 :=
if (S.1 11100) < x16 then (
k132_5 a17) else (
lk (fun a19 =>
r18 (x16 + (1 : Int32)) a19) fun k126_20 =>
it2 (f_X7_joinedFor_q111_L93 S p1 p2 k126_20) fuel (0 : Int32) a17)
def f_X7_joinedFor_q111_L10 (S : wd_W) (k80_3 : (Nat → Int32) → (Option o_X7_joinedFor_q111)) (r35 : (Int32) → (Nat → Int32) → (Option o_X7_joinedFor_q111)) (x33 : Int32) (a34 : Nat → Int32) : Option o_X7_joinedFor_q111 :=
if (S.1 11100) ≤ x33 then (
k80_3 a34) else (
gd (okx x33 13) <|
gd (okx ((S.2.2.1 17) x33.toNatClampNeg) 10) <|
gd (okx x33 13) <|
lz ((a34 ((S.2.2.1 17) x33.toNatClampNeg).toNatClampNeg) ||| ((1 : Int32) <<< (((S.2.2.1 18) x33.toNatClampNeg) &&& 31))) fun x39 =>
gd (okx ((S.2.2.1 17) x33.toNatClampNeg) 10) <|
lz (upd a34 ((S.2.2.1 17) x33.toNatClampNeg).toNatClampNeg x39) fun a41 =>
gd (okx x33 13) <|
gd (okx ((S.2.2.1 18) x33.toNatClampNeg) 10) <|
gd (okx x33 13) <|
lz ((a41 ((S.2.2.1 18) x33.toNatClampNeg).toNatClampNeg) ||| ((1 : Int32) <<< (((S.2.2.1 17) x33.toNatClampNeg) &&& 31))) fun x45 =>
gd (okx ((S.2.2.1 18) x33.toNatClampNeg) 10) <|
lz (upd a41 ((S.2.2.1 18) x33.toNatClampNeg).toNatClampNeg x45) fun a47 =>
r35 (x33 + (1 : Int32)) a47)
def f_X7_joinedFor_q111 (S : wd_W) (p1 : Int32) (p2 : Int32) : Option o_X7_joinedFor_q111 :=
bd (f_J7_fill_53178_q116 (wd_o S [] [] [(116, (S.2.2.1 116))] [] []) (0 : Int32)) fun o1 =>
lk (fun a2 =>
lk (fun a4 =>
lk (fun x6 =>
some (x6 / (2 : Int32), a4)) fun k165_7 =>
it2 (f_X7_joinedFor_q111_L137 S a4 k165_7) fuel (0 : Int32) (0 : Int32)) fun k132_5 =>
it2 (f_X7_joinedFor_q111_L82 S p1 p2 k132_5) fuel (0 : Int32) a2) fun k80_3 =>
it2 (f_X7_joinedFor_q111_L10 S k80_3) fuel (0 : Int32) o1
set_option maxRecDepth 100000 in
set_option maxHeartbeats 4000000 in
theorem c_X7_joinedFor_q111 (l : Launch) (D : va_G) (q g : Nat → Nat) (cy : Nat → ClassId) (z : (Nat → Nat) × (Nat → Nat) × Nat) (S : wd_W) (p1 : Int32) (p2 : Int32) (o : o_X7_joinedFor_q111) (hf : f_X7_joinedFor_q111 S p1 p2 = some o) : MX layX l yX7_joinedFor cX7_joinedFor 5 (some .int) ({ frames := 2, cells := 0, slots := 0, locals := 43 } : Room) D q g cy z [.ref (q 111), .int p1, .int p2] S false (some (.int o.1)) (wd_o S [] [] [(116, o.2)] [] []) 0 0 := by
  refine mx_of (own := RX7) (lc := [(0, .ref (q 111)), (1, .int p1), (2, .int p2)]) (by decide +kernel) rfl layX_ok (Nat.le_of_ble_eq_true rfl) rfl ?_
  intro X hXl hXq hXz hC hQ
  subst hXl; subst hXq; subst hXz
  unfold f_X7_joinedFor_q111 at hf
  refine go_keys (L1 := []) (L2 := []) (L3 := [(116, (S.2.2.1 116))]) (L4 := []) (L5 := []) [] [] [116] [] [] rfl rfl rfl rfl rfl ?_
  refine go_aload_n (pc' := 1) hC dX7_joinedFor_0 rfl rfl ?_
  refine go_getq (pc' := 4) hC 111 9 layX_111 rfl rfl inlX7 (Nat.le_of_ble_eq_true rfl) mw_114 rfl dX7_joinedFor_1 rfl ?_
  refine go_iconst (pc' := 5) hC dX7_joinedFor_4 ki_0 rfl ?_
  obtain ⟨o1, ho1, hf⟩ := bd_e hf
  refine go_callS1 (pc' := 8) (As := [.ref (x_q X 116), .int (0 : Int32)]) (st := []) (st' := []) (L1' := []) (L2' := []) (L3' := [(116, o1)]) (L4' := []) (L5' := []) (cells' := 0) (slots' := 0)  hC dX7_joinedFor_5 ⟨mw_685, mw_688, mw_687, yd_yJ7_fill_53178, yp_yJ7_fill_53178, Nat.le_of_ble_eq_true rfl, Nat.le_of_ble_eq_true rfl, (Nat.le_of_ble_eq_true rfl), (Nat.le_of_ble_eq_true rfl)⟩ mw_686 rfl rfl (Nat.le_of_ble_eq_true rfl) (c_J7_fill_53178_q116 (x_l X) (x_D X) (x_q X) g (x_cy X) (x_z X) _ (0 : Int32) o1 ho1) rfl rfl rfl rfl rfl rfl rfl rfl rfl rfl rfl rfl rfl rfl ?_
  refine go_iconst (pc' := 9) hC dX7_joinedFor_8 ki_0 rfl ?_
  refine go_istore_n (lc' := [(0, .ref (x_q X 111)), (1, .int p1), (2, .int p2), (3, .int (0 : Int32))]) (pc' := 10) hC dX7_joinedFor_9 (Nat.le_of_ble_eq_true rfl) rfl rfl ?_
  obtain ⟨k80_3, hk80_3, hf⟩ := lk_e1 hf
  have jk80_3 : ∀ (a2 : Nat → Int32), k80_3 a2 = some o → Go X layX S 80 [(0, .ref (x_q X 111)), (1, .int p1), (2, .int p2)] [] g [] [] [(116, a2)] [] [] 0 0 := by
    intro a2 hf
    have hf := hk80_3 a2 hf
    clear hk80_3
    refine go_iconst (pc' := 81) hC dX7_joinedFor_80 ki_0 rfl ?_
    refine go_istore_n (lc' := [(0, .ref (x_q X 111)), (1, .int p1), (2, .int p2), (3, .int (0 : Int32))]) (pc' := 82) hC dX7_joinedFor_81 (Nat.le_of_ble_eq_true rfl) rfl rfl ?_
    obtain ⟨k132_5, hk132_5, hf⟩ := lk_e1 hf
    have jk132_5 : ∀ (a4 : Nat → Int32), k132_5 a4 = some o → Go X layX S 132 [(0, .ref (x_q X 111))] [] g [] [] [(116, a4)] [] [] 0 0 := by
      intro a4 hf
      have hf := hk132_5 a4 hf
      clear hk132_5
      refine go_iconst (pc' := 133) hC dX7_joinedFor_132 ki_0 rfl ?_
      refine go_istore_n (lc' := [(0, .ref (x_q X 111)), (3, .int (0 : Int32))]) (pc' := 134) hC dX7_joinedFor_133 (Nat.le_of_ble_eq_true rfl) rfl rfl ?_
      refine go_iconst (pc' := 135) hC dX7_joinedFor_134 ki_0 rfl ?_
      refine go_istore (lc' := [(0, .ref (x_q X 111)), (3, .int (0 : Int32)), (4, .int (0 : Int32))]) (pc' := 137) hC dX7_joinedFor_135 (Nat.le_of_ble_eq_true rfl) rfl rfl ?_
      obtain ⟨k165_7, hk165_7, hf⟩ := lk_e1 hf
      have jk165_7 : ∀ (x6 : Int32), k165_7 x6 = some o → Go X layX S 165 [(3, .int x6)] [] g [] [] [(116, a4)] [] [] 0 0 := by
        intro x6 hf
        have hf := hk165_7 x6 hf
        clear hk165_7
        refine go_iload_n (pc' := 166) hC dX7_joinedFor_165 rfl rfl ?_
        refine go_iconst (pc' := 167) hC dX7_joinedFor_166 ki_2 rfl ?_
        refine go_idiv (pc' := 168) hC dX7_joinedFor_167 (by decide) rfl ?_
        obtain rfl := Option.some.inj hf
        exact go_iret hC hQ dX7_joinedFor_168 rfl rfl rfl rfl (fun _ => rfl) rfl rfl
      clear hk165_7
      have l137_15 : ∀ (nn : Nat) (x8 : Int32) (x9 : Int32), it2 (f_X7_joinedFor_q111_L137 S a4 k165_7) nn x8 x9 = some o → Go X layX S 137 [(0, .ref (x_q X 111)), (3, .int x8), (4, .int x9)] [] g [] [] [(116, a4)] [] [] 0 0 := by
        intro nn
        induction nn with
        | zero =>
          intro x8 x9 hf
          exact none_no hf
        | succ nn ih =>
          intro x8 x9 hf
          have hf : f_X7_joinedFor_q111_L137 S a4 k165_7 (it2 (f_X7_joinedFor_q111_L137 S a4 k165_7) nn) x8 x9 = some o := hf
          generalize it2 (f_X7_joinedFor_q111_L137 S a4 k165_7) nn = r10 at ih hf
          unfold f_X7_joinedFor_q111_L137 at hf
          refine go_iload (pc' := 139) hC dX7_joinedFor_137 rfl rfl ?_
          refine go_aload_n (pc' := 140) hC dX7_joinedFor_139 rfl rfl ?_
          refine go_geti (v := (S.1 11103)) (pc' := 143) hC 111 3 layX_111 rfl rfl inlX7 (Nat.le_of_ble_eq_true rfl) mw_618 rfl dX7_joinedFor_140 rfl rfl ?_
          refine go_icmp_ge (tgt := 165) (pc' := 146) hC dX7_joinedFor_143 (by decide) rfl (fun h14 => ?_) (fun h14 => ?_)
          · have hf := ite_t h14 hf
            refine go_sub [3] rfl ?_
            exact jk165_7 x8 hf
          · have hf := ite_f h14 hf
            refine go_iload_n (pc' := 147) hC dX7_joinedFor_146 rfl rfl ?_
            refine go_aload_n (pc' := 148) hC dX7_joinedFor_147 rfl rfl ?_
            refine go_getq (pc' := 151) hC 111 9 layX_111 rfl rfl inlX7 (Nat.le_of_ble_eq_true rfl) mw_114 rfl dX7_joinedFor_148 rfl ?_
            refine go_iload (pc' := 153) hC dX7_joinedFor_151 rfl rfl ?_
            obtain ⟨h11, hf⟩ := gd_e hf
            refine go_iald (f := a4) (pc' := 154) hC 116 layX_116 rfl rfl dX7_joinedFor_153 (okx_in h11) rfl ?_
            obtain ⟨o12, ho12, hf⟩ := bd_e hf
            refine go_callS0 (pc' := 157) (As := [.int (a4 x9.toNatClampNeg)]) (st := [.int x8]) (st' := [.int o12, .int x8])    hC dX7_joinedFor_154 ⟨mw_674, mw_677, mw_676, yd_yJ6_bitCount_0f7a4, yp_yJ6_bitCount_0f7a4, Nat.le_of_ble_eq_true rfl, Nat.le_of_ble_eq_true rfl, (Nat.le_of_ble_eq_true rfl), (Nat.le_of_ble_eq_true rfl)⟩ mw_675 rfl rfl (Nat.le_of_ble_eq_true rfl) (c_J6_bitCount_0f7a4 (x_l X) (x_D X) (x_q X) g (x_cy X) (x_z X) _ (a4 x9.toNatClampNeg) o12 ho12) rfl rfl ?_
            refine go_iadd (pc' := 158) hC dX7_joinedFor_157 rfl ?_
            refine go_namei (fun x13 hx => ?_)
            have hf := lz_r hx hf
            clear hx
            refine go_istore_n (lc' := [(0, .ref (x_q X 111)), (3, .int x13), (4, .int x9)]) (pc' := 159) hC dX7_joinedFor_158 (Nat.le_of_ble_eq_true rfl) rfl rfl ?_
            refine go_iinc (lc' := [(0, .ref (x_q X 111)), (3, .int x13), (4, .int (x9 + (1 : Int32)))]) (pc' := 162) hC dX7_joinedFor_159 rfl ki_1 (Nat.le_of_ble_eq_true rfl) rfl rfl ?_
            refine go_goto (tgt := 137) hC dX7_joinedFor_162 (by decide) ?_
            exact ih x13 (x9 + (1 : Int32)) hf
      exact l137_15 fuel (0 : Int32) (0 : Int32) hf
    clear hk132_5
    have l82_32 : ∀ (nn : Nat) (x16 : Int32) (a17 : Nat → Int32), it2 (f_X7_joinedFor_q111_L82 S p1 p2 k132_5) nn x16 a17 = some o → Go X layX S 82 [(0, .ref (x_q X 111)), (1, .int p1), (2, .int p2), (3, .int x16)] [] g [] [] [(116, a17)] [] [] 0 0 := by
      intro nn
      induction nn with
      | zero =>
        intro x16 a17 hf
        exact none_no hf
      | succ nn ih =>
        intro x16 a17 hf
        have hf : f_X7_joinedFor_q111_L82 S p1 p2 k132_5 (it2 (f_X7_joinedFor_q111_L82 S p1 p2 k132_5) nn) x16 a17 = some o := hf
        generalize it2 (f_X7_joinedFor_q111_L82 S p1 p2 k132_5) nn = r18 at ih hf
        unfold f_X7_joinedFor_q111_L82 at hf
        refine go_iload_n (pc' := 83) hC dX7_joinedFor_82 rfl rfl ?_
        refine go_aload_n (pc' := 84) hC dX7_joinedFor_83 rfl rfl ?_
        refine go_geti (v := (S.1 11100)) (pc' := 87) hC 111 0 layX_111 rfl rfl inlX7 (Nat.le_of_ble_eq_true rfl) mw_620 rfl dX7_joinedFor_84 rfl rfl ?_
        refine go_icmp_gt (tgt := 132) (pc' := 90) hC dX7_joinedFor_87 (by decide) rfl (fun h31 => ?_) (fun h31 => ?_)
        · have hf := ite_t h31 hf
          refine go_sub [0] rfl ?_
          exact jk132_5 a17 hf
        · have hf := ite_f h31 hf
          refine go_iconst (pc' := 91) hC dX7_joinedFor_90 ki_0 rfl ?_
          refine go_istore (lc' := [(0, .ref (x_q X 111)), (1, .int p1), (2, .int p2), (3, .int x16), (4, .int (0 : Int32))]) (pc' := 93) hC dX7_joinedFor_91 (Nat.le_of_ble_eq_true rfl) rfl rfl ?_
          obtain ⟨k126_20, hk126_20, hf⟩ := lk_e1 hf
          have jk126_20 : ∀ (a19 : Nat → Int32), k126_20 a19 = some o → Go X layX S 126 [(0, .ref (x_q X 111)), (1, .int p1), (2, .int p2), (3, .int x16)] [] g [] [] [(116, a19)] [] [] 0 0 := by
            intro a19 hf
            have hf := hk126_20 a19 hf
            clear hk126_20
            refine go_iinc (lc' := [(0, .ref (x_q X 111)), (1, .int p1), (2, .int p2), (3, .int (x16 + (1 : Int32)))]) (pc' := 129) hC dX7_joinedFor_126 rfl ki_1 (Nat.le_of_ble_eq_true rfl) rfl rfl ?_
            refine go_goto (tgt := 82) hC dX7_joinedFor_129 (by decide) ?_
            exact ih (x16 + (1 : Int32)) a19 hf
          clear hk126_20
          have l93_30 : ∀ (nn : Nat) (x21 : Int32) (a22 : Nat → Int32), it2 (f_X7_joinedFor_q111_L93 S p1 p2 k126_20) nn x21 a22 = some o → Go X layX S 93 [(0, .ref (x_q X 111)), (1, .int p1), (2, .int p2), (3, .int x16), (4, .int x21)] [] g [] [] [(116, a22)] [] [] 0 0 := by
            intro nn
            induction nn with
            | zero =>
              intro x21 a22 hf
              exact none_no hf
            | succ nn ih =>
              intro x21 a22 hf
              have hf : f_X7_joinedFor_q111_L93 S p1 p2 k126_20 (it2 (f_X7_joinedFor_q111_L93 S p1 p2 k126_20) nn) x21 a22 = some o := hf
              generalize it2 (f_X7_joinedFor_q111_L93 S p1 p2 k126_20) nn = r23 at ih hf
              unfold f_X7_joinedFor_q111_L93 at hf
              refine go_iload (pc' := 95) hC dX7_joinedFor_93 rfl rfl ?_
              refine go_aload_n (pc' := 96) hC dX7_joinedFor_95 rfl rfl ?_
              refine go_geti (v := (S.1 11103)) (pc' := 99) hC 111 3 layX_111 rfl rfl inlX7 (Nat.le_of_ble_eq_true rfl) mw_618 rfl dX7_joinedFor_96 rfl rfl ?_
              refine go_icmp_ge (tgt := 126) (pc' := 102) hC dX7_joinedFor_99 (by decide) rfl (fun h29 => ?_) (fun h29 => ?_)
              · have hf := ite_t h29 hf
                refine go_sub [0, 1, 2, 3] rfl ?_
                exact jk126_20 a22 hf
              · have hf := ite_f h29 hf
                refine go_iload (pc' := 104) hC dX7_joinedFor_102 rfl rfl ?_
                refine go_iload_n (pc' := 105) hC dX7_joinedFor_104 rfl rfl ?_
                obtain ⟨k120_25, hk120_25, hf⟩ := lk_e1 hf
                have jk120_25 : ∀ (a24 : Nat → Int32), k120_25 a24 = some o → Go X layX S 120 [(0, .ref (x_q X 111)), (1, .int p1), (2, .int p2), (3, .int x16), (4, .int x21)] [] g [] [] [(116, a24)] [] [] 0 0 := by
                  intro a24 hf
                  have hf := hk120_25 a24 hf
                  clear hk120_25
                  refine go_iinc (lc' := [(0, .ref (x_q X 111)), (1, .int p1), (2, .int p2), (3, .int x16), (4, .int (x21 + (1 : Int32)))]) (pc' := 123) hC dX7_joinedFor_120 rfl ki_1 (Nat.le_of_ble_eq_true rfl) rfl rfl ?_
                  refine go_goto (tgt := 93) hC dX7_joinedFor_123 (by decide) ?_
                  exact ih (x21 + (1 : Int32)) a24 hf
                clear hk120_25
                refine go_icmp_eq (tgt := 120) (pc' := 108) hC dX7_joinedFor_105 (by decide) rfl (fun h28 => ?_) (fun h28 => ?_)
                · have hf := ite_t h28 hf
                  exact jk120_25 a22 hf
                · have hf := ite_f h28 hf
                  refine go_iload (pc' := 110) hC dX7_joinedFor_108 rfl rfl ?_
                  refine go_iload_n (pc' := 111) hC dX7_joinedFor_110 rfl rfl ?_
                  refine go_icmp_eq (tgt := 120) (pc' := 114) hC dX7_joinedFor_111 (by decide) rfl (fun h27 => ?_) (fun h27 => ?_)
                  · have hf := ite_t h27 hf
                    exact jk120_25 a22 hf
                  · have hf := ite_f h27 hf
                    refine go_aload_n (pc' := 115) hC dX7_joinedFor_114 rfl rfl ?_
                    refine go_iload (pc' := 117) hC dX7_joinedFor_115 rfl rfl ?_
                    obtain ⟨o26, ho26, hf⟩ := bd_e hf
                    refine go_callV1 (pc' := 120) (As := [.int x21]) (st := []) (st' := []) (L1' := []) (L2' := []) (L3' := [(116, o26)]) (L4' := []) (L5' := []) (cells' := 0) (slots' := 0)  (b := 111) hC dX7_joinedFor_117 ⟨mw_1371, mw_1374, mw_99, yd_yX7_joinAt, yp_yX7_joinAt, Nat.le_of_ble_eq_true rfl, Nat.le_of_ble_eq_true rfl, (Nat.le_of_ble_eq_true rfl), (Nat.le_of_ble_eq_true rfl)⟩ mw_1372 mw_1373 layX_111 rfl rfl rfl (Nat.le_of_ble_eq_true rfl) (c_X7_joinAt_q111 (x_l X) (x_D X) (x_q X) g (x_cy X) (x_z X) _ x21 o26 ho26) rfl rfl rfl rfl rfl rfl rfl rfl rfl rfl rfl rfl rfl rfl ?_
                    exact jk120_25 o26 hf
          exact l93_30 fuel (0 : Int32) a17 hf
    exact l82_32 fuel (0 : Int32) a2 hf
  clear hk80_3
  have l10_49 : ∀ (nn : Nat) (x33 : Int32) (a34 : Nat → Int32), it2 (f_X7_joinedFor_q111_L10 S k80_3) nn x33 a34 = some o → Go X layX S 10 [(0, .ref (x_q X 111)), (1, .int p1), (2, .int p2), (3, .int x33)] [] g [] [] [(116, a34)] [] [] 0 0 := by
    intro nn
    induction nn with
    | zero =>
      intro x33 a34 hf
      exact none_no hf
    | succ nn ih =>
      intro x33 a34 hf
      have hf : f_X7_joinedFor_q111_L10 S k80_3 (it2 (f_X7_joinedFor_q111_L10 S k80_3) nn) x33 a34 = some o := hf
      generalize it2 (f_X7_joinedFor_q111_L10 S k80_3) nn = r35 at ih hf
      unfold f_X7_joinedFor_q111_L10 at hf
      refine go_iload_n (pc' := 11) hC dX7_joinedFor_10 rfl rfl ?_
      refine go_aload_n (pc' := 12) hC dX7_joinedFor_11 rfl rfl ?_
      refine go_geti (v := (S.1 11100)) (pc' := 15) hC 111 0 layX_111 rfl rfl inlX7 (Nat.le_of_ble_eq_true rfl) mw_620 rfl dX7_joinedFor_12 rfl rfl ?_
      refine go_icmp_ge (tgt := 80) (pc' := 18) hC dX7_joinedFor_15 (by decide) rfl (fun h48 => ?_) (fun h48 => ?_)
      · have hf := ite_t h48 hf
        refine go_sub [0, 1, 2] rfl ?_
        exact jk80_3 a34 hf
      · have hf := ite_f h48 hf
        refine go_aload_n (pc' := 19) hC dX7_joinedFor_18 rfl rfl ?_
        refine go_getq (pc' := 22) hC 111 9 layX_111 rfl rfl inlX7 (Nat.le_of_ble_eq_true rfl) mw_114 rfl dX7_joinedFor_19 rfl ?_
        refine go_aload_n (pc' := 23) hC dX7_joinedFor_22 rfl rfl ?_
        refine go_getq (pc' := 26) hC 111 4 layX_111 rfl rfl inlX7 (Nat.le_of_ble_eq_true rfl) mw_115 rfl dX7_joinedFor_23 rfl ?_
        refine go_getq (pc' := 29) hC 16 2 layX_16 rfl rfl inlX2 (Nat.le_of_ble_eq_true rfl) mw_623 rfl dX7_joinedFor_26 rfl ?_
        refine go_iload_n (pc' := 30) hC dX7_joinedFor_29 rfl rfl ?_
        obtain ⟨h36, hf⟩ := gd_e hf
        refine go_iald (f := (S.2.2.1 17)) (pc' := 31) hC 17 layX_17 rfl rfl dX7_joinedFor_30 (okx_in h36) rfl ?_
        refine go_dup2 (pc' := 32) hC dX7_joinedFor_31 rfl rfl rfl ?_
        obtain ⟨h37, hf⟩ := gd_e hf
        refine go_iald (f := a34) (pc' := 33) hC 116 layX_116 rfl rfl dX7_joinedFor_32 (okx_in h37) rfl ?_
        refine go_iconst (pc' := 34) hC dX7_joinedFor_33 ki_1 rfl ?_
        refine go_aload_n (pc' := 35) hC dX7_joinedFor_34 rfl rfl ?_
        refine go_getq (pc' := 38) hC 111 4 layX_111 rfl rfl inlX7 (Nat.le_of_ble_eq_true rfl) mw_115 rfl dX7_joinedFor_35 rfl ?_
        refine go_getq (pc' := 41) hC 16 3 layX_16 rfl rfl inlX2 (Nat.le_of_ble_eq_true rfl) mw_624 rfl dX7_joinedFor_38 rfl ?_
        refine go_iload_n (pc' := 42) hC dX7_joinedFor_41 rfl rfl ?_
        obtain ⟨h38, hf⟩ := gd_e hf
        refine go_iald (f := (S.2.2.1 18)) (pc' := 43) hC 18 layX_18 rfl rfl dX7_joinedFor_42 (okx_in h38) rfl ?_
        refine go_ishl (pc' := 44) hC dX7_joinedFor_43 rfl ?_
        refine go_ior (pc' := 45) hC dX7_joinedFor_44 rfl ?_
        refine go_namei (fun x39 hx => ?_)
        have hf := lz_r hx hf
        clear hx
        obtain ⟨h40, hf⟩ := gd_e hf
        refine go_iast (f := a34) (pc' := 46) hC 116 layX_116 rfl rfl dX7_joinedFor_45 (okx_in h40) rfl rfl (fun a41 ha L3' hL => ?_)
        have hf := lz_r ha hf
        clear ha
        obtain rfl : L3' = [(116, a41)] := hL.symm
        refine go_aload_n (pc' := 47) hC dX7_joinedFor_46 rfl rfl ?_
        refine go_getq (pc' := 50) hC 111 9 layX_111 rfl rfl inlX7 (Nat.le_of_ble_eq_true rfl) mw_114 rfl dX7_joinedFor_47 rfl ?_
        refine go_aload_n (pc' := 51) hC dX7_joinedFor_50 rfl rfl ?_
        refine go_getq (pc' := 54) hC 111 4 layX_111 rfl rfl inlX7 (Nat.le_of_ble_eq_true rfl) mw_115 rfl dX7_joinedFor_51 rfl ?_
        refine go_getq (pc' := 57) hC 16 3 layX_16 rfl rfl inlX2 (Nat.le_of_ble_eq_true rfl) mw_624 rfl dX7_joinedFor_54 rfl ?_
        refine go_iload_n (pc' := 58) hC dX7_joinedFor_57 rfl rfl ?_
        obtain ⟨h42, hf⟩ := gd_e hf
        refine go_iald (f := (S.2.2.1 18)) (pc' := 59) hC 18 layX_18 rfl rfl dX7_joinedFor_58 (okx_in h42) rfl ?_
        refine go_dup2 (pc' := 60) hC dX7_joinedFor_59 rfl rfl rfl ?_
        obtain ⟨h43, hf⟩ := gd_e hf
        refine go_iald (f := a41) (pc' := 61) hC 116 layX_116 rfl rfl dX7_joinedFor_60 (okx_in h43) rfl ?_
        refine go_iconst (pc' := 62) hC dX7_joinedFor_61 ki_1 rfl ?_
        refine go_aload_n (pc' := 63) hC dX7_joinedFor_62 rfl rfl ?_
        refine go_getq (pc' := 66) hC 111 4 layX_111 rfl rfl inlX7 (Nat.le_of_ble_eq_true rfl) mw_115 rfl dX7_joinedFor_63 rfl ?_
        refine go_getq (pc' := 69) hC 16 2 layX_16 rfl rfl inlX2 (Nat.le_of_ble_eq_true rfl) mw_623 rfl dX7_joinedFor_66 rfl ?_
        refine go_iload_n (pc' := 70) hC dX7_joinedFor_69 rfl rfl ?_
        obtain ⟨h44, hf⟩ := gd_e hf
        refine go_iald (f := (S.2.2.1 17)) (pc' := 71) hC 17 layX_17 rfl rfl dX7_joinedFor_70 (okx_in h44) rfl ?_
        refine go_ishl (pc' := 72) hC dX7_joinedFor_71 rfl ?_
        refine go_ior (pc' := 73) hC dX7_joinedFor_72 rfl ?_
        refine go_namei (fun x45 hx => ?_)
        have hf := lz_r hx hf
        clear hx
        obtain ⟨h46, hf⟩ := gd_e hf
        refine go_iast (f := a41) (pc' := 74) hC 116 layX_116 rfl rfl dX7_joinedFor_73 (okx_in h46) rfl rfl (fun a47 ha L3' hL => ?_)
        have hf := lz_r ha hf
        clear ha
        obtain rfl : L3' = [(116, a47)] := hL.symm
        refine go_iinc (lc' := [(0, .ref (x_q X 111)), (1, .int p1), (2, .int p2), (3, .int (x33 + (1 : Int32)))]) (pc' := 77) hC dX7_joinedFor_74 rfl ki_1 (Nat.le_of_ble_eq_true rfl) rfl rfl ?_
        refine go_goto (tgt := 10) hC dX7_joinedFor_77 (by decide) ?_
        exact ih (x33 + (1 : Int32)) a47 hf
  exact l10_49 fuel (0 : Int32) o1 hf
theorem dX11_joined_0 : decode cX11_joined 0 = .ok (.aload_n 0, 1) := by decide +kernel
theorem dX11_joined_1 : decode cX11_joined 1 = .ok (.iload_n 1, 1) := by decide +kernel
theorem dX11_joined_2 : decode cX11_joined 2 = .ok (.iload_n 2, 1) := by decide +kernel
theorem dX11_joined_3 : decode cX11_joined 3 = .ok (.invokevirtual 274, 3) := by decide +kernel
theorem dX11_joined_6 : decode cX11_joined 6 = .ok (.ifCond .eq 18, 3) := by decide +kernel
theorem dX11_joined_9 : decode cX11_joined 9 = .ok (.aload_n 0, 1) := by decide +kernel
theorem dX11_joined_10 : decode cX11_joined 10 = .ok (.invokevirtual 171, 3) := by decide +kernel
theorem dX11_joined_13 : decode cX11_joined 13 = .ok (.getfield 310, 3) := by decide +kernel
theorem dX11_joined_16 : decode cX11_joined 16 = .ok (.iload_n 1, 1) := by decide +kernel
theorem dX11_joined_17 : decode cX11_joined 17 = .ok (.iload_n 2, 1) := by decide +kernel
theorem dX11_joined_18 : decode cX11_joined 18 = .ok (.invokevirtual 314, 3) := by decide +kernel
theorem dX11_joined_21 : decode cX11_joined 21 = .ok (.goto 4, 3) := by decide +kernel
theorem dX11_joined_24 : decode cX11_joined 24 = .ok (.iconst (-1), 1) := by decide +kernel
theorem dX11_joined_25 : decode cX11_joined 25 = .ok (.ireturn, 1) := by decide +kernel
abbrev o_X11_joined : Type := Int32 × wd_W × Nat × Nat
def f_X11_joined (S : wd_W) (p1 : Int32) (p2 : Int32) : Option o_X11_joined :=
bd (f_X11_isPair (wd_o S [] [] [] [] []) p1 p2) fun o1 =>
if o1 = 0 then (
some ((-1 : Int32), S, 0, 0)) else (
bd (f_X11_knownSets (wd_o S [] [] [] [] [])) fun o2 =>
gd (okr (0 + o2.2.1) (0 + o2.2.2) 0 0 40 500000) <|
bd (f_X7_joinedFor_q111 (wd_o o2.1 [] [] [(116, (o2.1.2.2.1 116))] [] []) p1 p2) fun o3 =>
some (o3.1, (wd_o o2.1 [] [] [(116, o3.2)] [] []), 0 + o2.2.1, 0 + o2.2.2))
set_option maxRecDepth 100000 in
set_option maxHeartbeats 4000000 in
theorem c_X11_joined (l : Launch) (D : va_G) (q g : Nat → Nat) (cy : Nat → ClassId) (z : (Nat → Nat) × (Nat → Nat) × Nat) (S : wd_W) (p1 : Int32) (p2 : Int32) (o : o_X11_joined) (hf : f_X11_joined S p1 p2 = some o) : MX layX l yX11_joined cX11_joined 3 (some .int) ({ frames := 6, cells := 40, slots := 500000, locals := 147 } : Room) D q g cy z [.ref (q 0), .int p1, .int p2] S true (some (.int o.1)) o.2.1 o.2.2.1 o.2.2.2 := by
  refine mx_of (own := RX11) (lc := [(0, .ref (q 0)), (1, .int p1), (2, .int p2)]) (by decide +kernel) rfl layX_ok (Nat.le_of_ble_eq_true rfl) rfl ?_
  intro X hXl hXq hXz hC hQ
  subst hXl; subst hXq; subst hXz
  unfold f_X11_joined at hf
  refine go_aload_n (pc' := 1) hC dX11_joined_0 rfl rfl ?_
  refine go_iload_n (pc' := 2) hC dX11_joined_1 rfl rfl ?_
  refine go_iload_n (pc' := 3) hC dX11_joined_2 rfl rfl ?_
  obtain ⟨o1, ho1, hf⟩ := bd_e hf
  refine go_callV0 (pc' := 6) (As := [.int p1, .int p2]) (st := []) (st' := [.int o1])    (b := 0) hC dX11_joined_3 ⟨mw_1237, mw_1240, mw_2, yd_yX11_isPair, yp_yX11_isPair, Nat.le_of_ble_eq_true rfl, Nat.le_of_ble_eq_true rfl, (Nat.le_of_ble_eq_true rfl), (Nat.le_of_ble_eq_true rfl)⟩ mw_1238 mw_1239 layX_0 rfl rfl rfl (Nat.le_of_ble_eq_true rfl) (c_X11_isPair (x_l X) (x_D X) (x_q X) g (x_cy X) (x_z X) _ p1 p2 o1 ho1) rfl rfl ?_
  refine go_if_eq (tgt := 24) (pc' := 9) hC dX11_joined_6 (by decide) rfl (fun h5 => ?_) (fun h5 => ?_)
  · have hf := ite_t h5 hf
    refine go_iconst (pc' := 25) hC dX11_joined_24 ki_m1 rfl ?_
    obtain rfl := Option.some.inj hf
    exact go_iret hC hQ dX11_joined_25 rfl rfl rfl rfl (fun h => nomatch h) rfl rfl
  · have hf := ite_f h5 hf
    refine go_aload_n (pc' := 10) hC dX11_joined_9 rfl rfl ?_
    obtain ⟨o2, ho2, hf⟩ := bd_e hf
    refine go_callVw (pc' := 13) (As := []) (st := []) (st' := [.ref (x_q X 106)])  (cells' := 0 + o2.2.1) (slots' := 0 + o2.2.2)  (b := 0) hC dX11_joined_10 ⟨mw_593, mw_596, mw_2, yd_yX11_knownSets, yp_yX11_knownSets, Nat.le_of_ble_eq_true rfl, Nat.le_of_ble_eq_true rfl, (Nat.le_of_ble_eq_true rfl), (Nat.le_of_ble_eq_true rfl)⟩ mw_594 mw_595 layX_0 rfl rfl rfl (Nat.le_of_ble_eq_true rfl) (c_X11_knownSets (x_l X) (x_D X) (x_q X) g (x_cy X) (x_z X) _  o2 ho2) rfl rfl rfl rfl (fun g _ => ?_)
    refine go_getq (pc' := 16) hC 106 0 layX_106 rfl rfl inlX8 (Nat.le_of_ble_eq_true rfl) mw_1366 rfl dX11_joined_13 rfl ?_
    refine go_iload_n (pc' := 17) hC dX11_joined_16 rfl rfl ?_
    refine go_iload_n (pc' := 18) hC dX11_joined_17 rfl rfl ?_
    refine go_keys (L1 := []) (L2 := []) (L3 := [(116, (o2.1.2.2.1 116))]) (L4 := []) (L5 := []) [] [] [116] [] [] rfl rfl rfl rfl rfl ?_
    obtain ⟨h4, hf⟩ := gd_e hf
    obtain ⟨o3, ho3, hf⟩ := bd_e hf
    refine go_callV1 (pc' := 21) (As := [.int p1, .int p2]) (st := []) (st' := [.int o3.1]) (L1' := []) (L2' := []) (L3' := [(116, o3.2)]) (L4' := []) (L5' := []) (cells' := 0 + o2.2.1) (slots' := 0 + o2.2.2) (rc := { frames := 2, cells := 0, slots := 0, locals := 43 }) (b := 111) hC dX11_joined_18 ⟨mw_1367, mw_1370, mw_99, yd_yX7_joinedFor, yp_yX7_joinedFor, Nat.le_of_ble_eq_true rfl, Nat.le_of_ble_eq_true rfl, (okr_c h4), (okr_s h4)⟩ mw_1368 mw_1369 layX_111 rfl rfl rfl (Nat.le_of_ble_eq_true rfl) (c_X7_joinedFor_q111 (x_l X) (x_D X) (x_q X) g (x_cy X) (x_z X) _ p1 p2 o3 ho3) rfl rfl rfl rfl rfl rfl rfl rfl rfl rfl rfl rfl rfl rfl ?_
    refine go_goto (tgt := 25) hC dX11_joined_21 (by decide) ?_
    obtain rfl := Option.some.inj hf
    exact go_iret hC hQ dX11_joined_25 rfl rfl rfl rfl (fun h => nomatch h) rfl rfl
theorem dX2_thingsApart_0 : decode cX2_thingsApart 0 = .ok (.aload_n 0, 1) := by decide +kernel
theorem dX2_thingsApart_1 : decode cX2_thingsApart 1 = .ok (.getfield 49, 3) := by decide +kernel
theorem dX2_thingsApart_4 : decode cX2_thingsApart 4 = .ok (.aload_n 0, 1) := by decide +kernel
theorem dX2_thingsApart_5 : decode cX2_thingsApart 5 = .ok (.getfield 52, 3) := by decide +kernel
theorem dX2_thingsApart_8 : decode cX2_thingsApart 8 = .ok (.iadd, 1) := by decide +kernel
theorem dX2_thingsApart_9 : decode cX2_thingsApart 9 = .ok (.istore_n 1, 1) := by decide +kernel
theorem dX2_thingsApart_10 : decode cX2_thingsApart 10 = .ok (.iconst 0, 1) := by decide +kernel
theorem dX2_thingsApart_11 : decode cX2_thingsApart 11 = .ok (.istore_n 2, 1) := by decide +kernel
theorem dX2_thingsApart_12 : decode cX2_thingsApart 12 = .ok (.iload_n 2, 1) := by decide +kernel
theorem dX2_thingsApart_13 : decode cX2_thingsApart 13 = .ok (.aload_n 0, 1) := by decide +kernel
theorem dX2_thingsApart_14 : decode cX2_thingsApart 14 = .ok (.getfield 55, 3) := by decide +kernel
theorem dX2_thingsApart_17 : decode cX2_thingsApart 17 = .ok (.if_icmp .ge 31, 3) := by decide +kernel
theorem dX2_thingsApart_20 : decode cX2_thingsApart 20 = .ok (.iload_n 1, 1) := by decide +kernel
theorem dX2_thingsApart_21 : decode cX2_thingsApart 21 = .ok (.aload_n 0, 1) := by decide +kernel
theorem dX2_thingsApart_22 : decode cX2_thingsApart 22 = .ok (.getfield 40, 3) := by decide +kernel
theorem dX2_thingsApart_25 : decode cX2_thingsApart 25 = .ok (.iload_n 2, 1) := by decide +kernel
theorem dX2_thingsApart_26 : decode cX2_thingsApart 26 = .ok (.iaload, 1) := by decide +kernel
theorem dX2_thingsApart_27 : decode cX2_thingsApart 27 = .ok (.invokestatic 87, 3) := by decide +kernel
theorem dX2_thingsApart_30 : decode cX2_thingsApart 30 = .ok (.aload_n 0, 1) := by decide +kernel
theorem dX2_thingsApart_31 : decode cX2_thingsApart 31 = .ok (.getfield 43, 3) := by decide +kernel
theorem dX2_thingsApart_34 : decode cX2_thingsApart 34 = .ok (.iload_n 2, 1) := by decide +kernel
theorem dX2_thingsApart_35 : decode cX2_thingsApart 35 = .ok (.iaload, 1) := by decide +kernel
theorem dX2_thingsApart_36 : decode cX2_thingsApart 36 = .ok (.invokestatic 87, 3) := by decide +kernel
theorem dX2_thingsApart_39 : decode cX2_thingsApart 39 = .ok (.iadd, 1) := by decide +kernel
theorem dX2_thingsApart_40 : decode cX2_thingsApart 40 = .ok (.iadd, 1) := by decide +kernel
theorem dX2_thingsApart_41 : decode cX2_thingsApart 41 = .ok (.istore_n 1, 1) := by decide +kernel
theorem dX2_thingsApart_42 : decode cX2_thingsApart 42 = .ok (.iinc 2 1, 3) := by decide +kernel
theorem dX2_thingsApart_45 : decode cX2_thingsApart 45 = .ok (.goto (-33), 3) := by decide +kernel
theorem dX2_thingsApart_48 : decode cX2_thingsApart 48 = .ok (.iload_n 1, 1) := by decide +kernel
theorem dX2_thingsApart_49 : decode cX2_thingsApart 49 = .ok (.ireturn, 1) := by decide +kernel
abbrev o_X2_thingsApart_q16 : Type := Int32
def f_X2_thingsApart_q16_L12 (S : wd_W) (r4 : (Int32) → (Int32) → (Option o_X2_thingsApart_q16)) (x2 : Int32) (x3 : Int32) : Option o_X2_thingsApart_q16 :=
if (S.1 1610) ≤ x3 then (
some x2) else (
gd (okx x3 3) <|
bd (f_J6_bitCount_0f7a4 ((S.2.2.1 25) x3.toNatClampNeg)) fun o6 =>
gd (okx x3 3) <|
bd (f_J6_bitCount_0f7a4 ((S.2.2.1 26) x3.toNatClampNeg)) fun o8 =>
lz (x2 + (o6 + o8)) fun x9 =>
r4 x9 (x3 + (1 : Int32)))
def f_X2_thingsApart_q16 (S : wd_W) : Option o_X2_thingsApart_q16 :=
lz ((S.1 1601) + (S.1 1607)) fun x1 =>
it2 (f_X2_thingsApart_q16_L12 S) fuel x1 (0 : Int32)
set_option maxRecDepth 100000 in
set_option maxHeartbeats 4000000 in
theorem c_X2_thingsApart_q16 (l : Launch) (D : va_G) (q g : Nat → Nat) (cy : Nat → ClassId) (z : (Nat → Nat) × (Nat → Nat) × Nat) (S : wd_W) (o : o_X2_thingsApart_q16) (hf : f_X2_thingsApart_q16 S = some o) : MX layX l yX2_thingsApart cX2_thingsApart 3 (some .int) ({ frames := 1, cells := 0, slots := 0, locals := 20 } : Room) D q g cy z [.ref (q 16)] S false (some (.int o)) (wd_o S [] [] [] [] []) 0 0 := by
  refine mx_of (own := RX2) (lc := [(0, .ref (q 16))]) (by decide +kernel) rfl layX_ok (Nat.le_of_ble_eq_true rfl) rfl ?_
  intro X hXl hXq hXz hC hQ
  subst hXl; subst hXq; subst hXz
  unfold f_X2_thingsApart_q16 at hf
  refine go_aload_n (pc' := 1) hC dX2_thingsApart_0 rfl rfl ?_
  refine go_geti (v := (S.1 1601)) (pc' := 4) hC 16 1 layX_16 rfl rfl inlX2 (Nat.le_of_ble_eq_true rfl) mw_309 rfl dX2_thingsApart_1 rfl rfl ?_
  refine go_aload_n (pc' := 5) hC dX2_thingsApart_4 rfl rfl ?_
  refine go_geti (v := (S.1 1607)) (pc' := 8) hC 16 7 layX_16 rfl rfl inlX2 (Nat.le_of_ble_eq_true rfl) mw_310 rfl dX2_thingsApart_5 rfl rfl ?_
  refine go_iadd (pc' := 9) hC dX2_thingsApart_8 rfl ?_
  refine go_namei (fun x1 hx => ?_)
  have hf := lz_r hx hf
  clear hx
  refine go_istore_n (lc' := [(0, .ref (x_q X 16)), (1, .int x1)]) (pc' := 10) hC dX2_thingsApart_9 (Nat.le_of_ble_eq_true rfl) rfl rfl ?_
  refine go_iconst (pc' := 11) hC dX2_thingsApart_10 ki_0 rfl ?_
  refine go_istore_n (lc' := [(0, .ref (x_q X 16)), (1, .int x1), (2, .int (0 : Int32))]) (pc' := 12) hC dX2_thingsApart_11 (Nat.le_of_ble_eq_true rfl) rfl rfl ?_
  have l12_11 : ∀ (nn : Nat) (x2 : Int32) (x3 : Int32), it2 (f_X2_thingsApart_q16_L12 S) nn x2 x3 = some o → Go X layX S 12 [(0, .ref (x_q X 16)), (1, .int x2), (2, .int x3)] [] g [] [] [] [] [] 0 0 := by
    intro nn
    induction nn with
    | zero =>
      intro x2 x3 hf
      exact none_no hf
    | succ nn ih =>
      intro x2 x3 hf
      have hf : f_X2_thingsApart_q16_L12 S (it2 (f_X2_thingsApart_q16_L12 S) nn) x2 x3 = some o := hf
      generalize it2 (f_X2_thingsApart_q16_L12 S) nn = r4 at ih hf
      unfold f_X2_thingsApart_q16_L12 at hf
      refine go_iload_n (pc' := 13) hC dX2_thingsApart_12 rfl rfl ?_
      refine go_aload_n (pc' := 14) hC dX2_thingsApart_13 rfl rfl ?_
      refine go_geti (v := (S.1 1610)) (pc' := 17) hC 16 10 layX_16 rfl rfl inlX2 (Nat.le_of_ble_eq_true rfl) mw_311 rfl dX2_thingsApart_14 rfl rfl ?_
      refine go_icmp_ge (tgt := 48) (pc' := 20) hC dX2_thingsApart_17 (by decide) rfl (fun h10 => ?_) (fun h10 => ?_)
      · have hf := ite_t h10 hf
        refine go_iload_n (pc' := 49) hC dX2_thingsApart_48 rfl rfl ?_
        obtain rfl := Option.some.inj hf
        exact go_iret hC hQ dX2_thingsApart_49 rfl rfl rfl rfl (fun _ => rfl) rfl rfl
      · have hf := ite_f h10 hf
        refine go_iload_n (pc' := 21) hC dX2_thingsApart_20 rfl rfl ?_
        refine go_aload_n (pc' := 22) hC dX2_thingsApart_21 rfl rfl ?_
        refine go_getq (pc' := 25) hC 16 12 layX_16 rfl rfl inlX2 (Nat.le_of_ble_eq_true rfl) mw_68 rfl dX2_thingsApart_22 rfl ?_
        refine go_iload_n (pc' := 26) hC dX2_thingsApart_25 rfl rfl ?_
        obtain ⟨h5, hf⟩ := gd_e hf
        refine go_iald (f := (S.2.2.1 25)) (pc' := 27) hC 25 layX_25 rfl rfl dX2_thingsApart_26 (okx_in h5) rfl ?_
        obtain ⟨o6, ho6, hf⟩ := bd_e hf
        refine go_callS0 (pc' := 30) (As := [.int ((S.2.2.1 25) x3.toNatClampNeg)]) (st := [.int x2]) (st' := [.int o6, .int x2])    hC dX2_thingsApart_27 ⟨mw_1404, mw_677, mw_676, yd_yJ6_bitCount_0f7a4, yp_yJ6_bitCount_0f7a4, Nat.le_of_ble_eq_true rfl, Nat.le_of_ble_eq_true rfl, (Nat.le_of_ble_eq_true rfl), (Nat.le_of_ble_eq_true rfl)⟩ mw_675 rfl rfl (Nat.le_of_ble_eq_true rfl) (c_J6_bitCount_0f7a4 (x_l X) (x_D X) (x_q X) g (x_cy X) (x_z X) _ ((S.2.2.1 25) x3.toNatClampNeg) o6 ho6) rfl rfl ?_
        refine go_aload_n (pc' := 31) hC dX2_thingsApart_30 rfl rfl ?_
        refine go_getq (pc' := 34) hC 16 13 layX_16 rfl rfl inlX2 (Nat.le_of_ble_eq_true rfl) mw_69 rfl dX2_thingsApart_31 rfl ?_
        refine go_iload_n (pc' := 35) hC dX2_thingsApart_34 rfl rfl ?_
        obtain ⟨h7, hf⟩ := gd_e hf
        refine go_iald (f := (S.2.2.1 26)) (pc' := 36) hC 26 layX_26 rfl rfl dX2_thingsApart_35 (okx_in h7) rfl ?_
        obtain ⟨o8, ho8, hf⟩ := bd_e hf
        refine go_callS0 (pc' := 39) (As := [.int ((S.2.2.1 26) x3.toNatClampNeg)]) (st := [.int o6, .int x2]) (st' := [.int o8, .int o6, .int x2])    hC dX2_thingsApart_36 ⟨mw_1404, mw_677, mw_676, yd_yJ6_bitCount_0f7a4, yp_yJ6_bitCount_0f7a4, Nat.le_of_ble_eq_true rfl, Nat.le_of_ble_eq_true rfl, (Nat.le_of_ble_eq_true rfl), (Nat.le_of_ble_eq_true rfl)⟩ mw_675 rfl rfl (Nat.le_of_ble_eq_true rfl) (c_J6_bitCount_0f7a4 (x_l X) (x_D X) (x_q X) g (x_cy X) (x_z X) _ ((S.2.2.1 26) x3.toNatClampNeg) o8 ho8) rfl rfl ?_
        refine go_iadd (pc' := 40) hC dX2_thingsApart_39 rfl ?_
        refine go_iadd (pc' := 41) hC dX2_thingsApart_40 rfl ?_
        refine go_namei (fun x9 hx => ?_)
        have hf := lz_r hx hf
        clear hx
        refine go_istore_n (lc' := [(0, .ref (x_q X 16)), (1, .int x9), (2, .int x3)]) (pc' := 42) hC dX2_thingsApart_41 (Nat.le_of_ble_eq_true rfl) rfl rfl ?_
        refine go_iinc (lc' := [(0, .ref (x_q X 16)), (1, .int x9), (2, .int (x3 + (1 : Int32)))]) (pc' := 45) hC dX2_thingsApart_42 rfl ki_1 (Nat.le_of_ble_eq_true rfl) rfl rfl ?_
        refine go_goto (tgt := 12) hC dX2_thingsApart_45 (by decide) ?_
        exact ih x9 (x3 + (1 : Int32)) hf
  exact l12_11 fuel x1 (0 : Int32) hf
abbrev o_X10_put_q120 : Type := Int32 × (Nat → Int32) × (Nat → Int32)
def f_X10_put_q120_L6 (S : wd_W) (p3 : Int32) (k48_2 : (Int32) → (Option o_X10_put_q120)) (r12 : (Int32) → (Int32) → (Option o_X10_put_q120)) (x10 : Int32) (x11 : Int32) : Option o_X10_put_q120 :=
if (S.1 11100) ≤ x11 then (
k48_2 x10) else (
gd (okx x11 13) <|
lk (fun x14 =>
r12 x14 (x11 + (1 : Int32))) fun k42_15 =>
if (((S.2.2.1 112) x11.toNatClampNeg) &&& p3) = 0 then (
k42_15 x10) else (
lz (x10 ||| ((1 : Int32) <<< (x11 &&& 31))) fun x16 =>
k42_15 x16))
def f_X10_put_q120 (S : wd_W) (p1 : Int32) (p2 : Int32) (p3 : Int32) : Option o_X10_put_q120 :=
lk (fun x1 =>
if (15 : Int32) ≤ (S.1 12000) then (
some ((S.1 12000), (S.2.2.1 121), (S.2.2.1 122))) else (
gd (okx (S.1 12000) 15) <|
lz (upd (S.2.2.1 121) (S.1 12000).toNatClampNeg p1) fun a4 =>
lz (x1 ||| (p3 <<< ((12 : Int32) &&& 31))) fun x5 =>
gd (okx (S.1 12000) 15) <|
lz (upd (S.2.2.1 122) (S.1 12000).toNatClampNeg x5) fun a7 =>
lz ((S.1 12000) + (1 : Int32)) fun x8 =>
some (x8, a4, a7))) fun k48_2 =>
it2 (f_X10_put_q120_L6 S p3 k48_2) fuel p2 (0 : Int32)
set_option maxRecDepth 100000 in
set_option maxHeartbeats 4000000 in
theorem c_X10_put_q120 (l : Launch) (D : va_G) (q g : Nat → Nat) (cy : Nat → ClassId) (z : (Nat → Nat) × (Nat → Nat) × Nat) (S : wd_W) (p1 : Int32) (p2 : Int32) (p3 : Int32) (o : o_X10_put_q120) (hf : f_X10_put_q120 S p1 p2 p3 = some o) : MX layX l yX10_put cX10_put 6 none ({ frames := 0, cells := 0, slots := 0, locals := 0 } : Room) D q g cy z [.ref (q 120), .int p1, .int p2, .int p3] S false (none) (wd_o S [(12000, o.1)] [] [(121, o.2.1), (122, o.2.2)] [] []) 0 0 := by
  refine mx_of (own := RX10) (lc := [(0, .ref (q 120)), (1, .int p1), (2, .int p2), (3, .int p3)]) (by decide +kernel) rfl layX_ok (Nat.le_of_ble_eq_true rfl) rfl ?_
  intro X hXl hXq hXz hC hQ
  subst hXl; subst hXq; subst hXz
  unfold f_X10_put_q120 at hf
  refine go_keys (L1 := [(12000, (S.1 12000))]) (L2 := []) (L3 := [(121, (S.2.2.1 121)), (122, (S.2.2.1 122))]) (L4 := []) (L5 := []) [12000] [] [121, 122] [] [] rfl rfl rfl rfl rfl ?_
  refine go_iload_n (pc' := 1) hC dX10_put_0 rfl rfl ?_
  refine go_istore (lc' := [(0, .ref (x_q X 120)), (1, .int p1), (2, .int p2), (3, .int p3), (4, .int p2)]) (pc' := 3) hC dX10_put_1 (Nat.le_of_ble_eq_true rfl) rfl rfl ?_
  refine go_iconst (pc' := 4) hC dX10_put_3 ki_0 rfl ?_
  refine go_istore (lc' := [(0, .ref (x_q X 120)), (1, .int p1), (2, .int p2), (3, .int p3), (4, .int p2), (5, .int (0 : Int32))]) (pc' := 6) hC dX10_put_4 (Nat.le_of_ble_eq_true rfl) rfl rfl ?_
  obtain ⟨k48_2, hk48_2, hf⟩ := lk_e1 hf
  have jk48_2 : ∀ (x1 : Int32), k48_2 x1 = some o → Go X layX S 48 [(0, .ref (x_q X 120)), (1, .int p1), (3, .int p3), (4, .int x1)] [] g [(12000, (S.1 12000))] [] [(121, (S.2.2.1 121)), (122, (S.2.2.1 122))] [] [] 0 0 := by
    intro x1 hf
    have hf := hk48_2 x1 hf
    clear hk48_2
    refine go_aload_n (pc' := 49) hC dX10_put_48 rfl rfl ?_
    refine go_geti (v := (S.1 12000)) (pc' := 52) hC 120 0 layX_120 rfl rfl inlX10 (Nat.le_of_ble_eq_true rfl) mw_637 rfl dX10_put_49 rfl rfl ?_
    refine go_bipush (pc' := 54) hC dX10_put_52 kb_15 rfl ?_
    refine go_icmp_ge (tgt := 93) (pc' := 57) hC dX10_put_54 (by decide) rfl (fun h9 => ?_) (fun h9 => ?_)
    · have hf := ite_t h9 hf
      obtain rfl := Option.some.inj hf
      exact go_vret hC hQ dX10_put_93 rfl rfl rfl (fun _ => rfl) rfl rfl
    · have hf := ite_f h9 hf
      refine go_aload_n (pc' := 58) hC dX10_put_57 rfl rfl ?_
      refine go_getq (pc' := 61) hC 120 1 layX_120 rfl rfl inlX10 (Nat.le_of_ble_eq_true rfl) mw_120 rfl dX10_put_58 rfl ?_
      refine go_aload_n (pc' := 62) hC dX10_put_61 rfl rfl ?_
      refine go_geti (v := (S.1 12000)) (pc' := 65) hC 120 0 layX_120 rfl rfl inlX10 (Nat.le_of_ble_eq_true rfl) mw_637 rfl dX10_put_62 rfl rfl ?_
      refine go_iload_n (pc' := 66) hC dX10_put_65 rfl rfl ?_
      obtain ⟨h3, hf⟩ := gd_e hf
      refine go_iast (f := (S.2.2.1 121)) (pc' := 67) hC 121 layX_121 rfl rfl dX10_put_66 (okx_in h3) rfl rfl (fun a4 ha L3' hL => ?_)
      have hf := lz_r ha hf
      clear ha
      obtain rfl : L3' = [(121, a4), (122, (S.2.2.1 122))] := hL.symm
      refine go_aload_n (pc' := 68) hC dX10_put_67 rfl rfl ?_
      refine go_getq (pc' := 71) hC 120 2 layX_120 rfl rfl inlX10 (Nat.le_of_ble_eq_true rfl) mw_121 rfl dX10_put_68 rfl ?_
      refine go_aload_n (pc' := 72) hC dX10_put_71 rfl rfl ?_
      refine go_geti (v := (S.1 12000)) (pc' := 75) hC 120 0 layX_120 rfl rfl inlX10 (Nat.le_of_ble_eq_true rfl) mw_637 rfl dX10_put_72 rfl rfl ?_
      refine go_iload (pc' := 77) hC dX10_put_75 rfl rfl ?_
      refine go_iload_n (pc' := 78) hC dX10_put_77 rfl rfl ?_
      refine go_bipush (pc' := 80) hC dX10_put_78 kb_12 rfl ?_
      refine go_ishl (pc' := 81) hC dX10_put_80 rfl ?_
      refine go_ior (pc' := 82) hC dX10_put_81 rfl ?_
      refine go_namei (fun x5 hx => ?_)
      have hf := lz_r hx hf
      clear hx
      obtain ⟨h6, hf⟩ := gd_e hf
      refine go_iast (f := (S.2.2.1 122)) (pc' := 83) hC 122 layX_122 rfl rfl dX10_put_82 (okx_in h6) rfl rfl (fun a7 ha L3' hL => ?_)
      have hf := lz_r ha hf
      clear ha
      obtain rfl : L3' = [(121, a4), (122, a7)] := hL.symm
      refine go_aload_n (pc' := 84) hC dX10_put_83 rfl rfl ?_
      refine go_dup (pc' := 85) hC dX10_put_84 rfl rfl ?_
      refine go_geti (v := (S.1 12000)) (pc' := 88) hC 120 0 layX_120 rfl rfl inlX10 (Nat.le_of_ble_eq_true rfl) mw_637 rfl dX10_put_85 rfl rfl ?_
      refine go_iconst (pc' := 89) hC dX10_put_88 ki_1 rfl ?_
      refine go_iadd (pc' := 90) hC dX10_put_89 rfl ?_
      refine go_namei (fun x8 hx => ?_)
      have hf := lz_r hx hf
      clear hx
      refine go_puti (L1' := [(12000, x8)]) (pc' := 93) hC 120 0 layX_120 rfl rfl inlX10 tyX10_ok nmX10 (Nat.le_of_ble_eq_true rfl) mw_637 rfl rfl rfl rfl dX10_put_90 rfl rfl rfl ?_
      obtain rfl := Option.some.inj hf
      exact go_vret hC hQ dX10_put_93 rfl rfl rfl (fun _ => rfl) rfl rfl
  clear hk48_2
  have l6_19 : ∀ (nn : Nat) (x10 : Int32) (x11 : Int32), it2 (f_X10_put_q120_L6 S p3 k48_2) nn x10 x11 = some o → Go X layX S 6 [(0, .ref (x_q X 120)), (1, .int p1), (3, .int p3), (4, .int x10), (5, .int x11)] [] g [(12000, (S.1 12000))] [] [(121, (S.2.2.1 121)), (122, (S.2.2.1 122))] [] [] 0 0 := by
    intro nn
    induction nn with
    | zero =>
      intro x10 x11 hf
      exact none_no hf
    | succ nn ih =>
      intro x10 x11 hf
      have hf : f_X10_put_q120_L6 S p3 k48_2 (it2 (f_X10_put_q120_L6 S p3 k48_2) nn) x10 x11 = some o := hf
      generalize it2 (f_X10_put_q120_L6 S p3 k48_2) nn = r12 at ih hf
      unfold f_X10_put_q120_L6 at hf
      refine go_iload (pc' := 8) hC dX10_put_6 rfl rfl ?_
      refine go_aload_n (pc' := 9) hC dX10_put_8 rfl rfl ?_
      refine go_getq (pc' := 12) hC 120 4 layX_120 rfl rfl inlX10 (Nat.le_of_ble_eq_true rfl) mw_123 rfl dX10_put_9 rfl ?_
      refine go_geti (v := (S.1 11100)) (pc' := 15) hC 111 0 layX_111 rfl rfl inlX7 (Nat.le_of_ble_eq_true rfl) mw_651 rfl dX10_put_12 rfl rfl ?_
      refine go_icmp_ge (tgt := 48) (pc' := 18) hC dX10_put_15 (by decide) rfl (fun h18 => ?_) (fun h18 => ?_)
      · have hf := ite_t h18 hf
        refine go_sub [0, 1, 3, 4] rfl ?_
        exact jk48_2 x10 hf
      · have hf := ite_f h18 hf
        refine go_aload_n (pc' := 19) hC dX10_put_18 rfl rfl ?_
        refine go_getq (pc' := 22) hC 120 4 layX_120 rfl rfl inlX10 (Nat.le_of_ble_eq_true rfl) mw_123 rfl dX10_put_19 rfl ?_
        refine go_getq (pc' := 25) hC 111 5 layX_111 rfl rfl inlX7 (Nat.le_of_ble_eq_true rfl) mw_652 rfl dX10_put_22 rfl ?_
        refine go_iload (pc' := 27) hC dX10_put_25 rfl rfl ?_
        obtain ⟨h13, hf⟩ := gd_e hf
        refine go_iald (f := (S.2.2.1 112)) (pc' := 28) hC 112 layX_112 rfl rfl dX10_put_27 (okx_in h13) rfl ?_
        refine go_iload_n (pc' := 29) hC dX10_put_28 rfl rfl ?_
        refine go_iand (pc' := 30) hC dX10_put_29 rfl ?_
        obtain ⟨k42_15, hk42_15, hf⟩ := lk_e1 hf
        have jk42_15 : ∀ (x14 : Int32), k42_15 x14 = some o → Go X layX S 42 [(0, .ref (x_q X 120)), (1, .int p1), (3, .int p3), (4, .int x14), (5, .int x11)] [] g [(12000, (S.1 12000))] [] [(121, (S.2.2.1 121)), (122, (S.2.2.1 122))] [] [] 0 0 := by
          intro x14 hf
          have hf := hk42_15 x14 hf
          clear hk42_15
          refine go_iinc (lc' := [(0, .ref (x_q X 120)), (1, .int p1), (3, .int p3), (4, .int x14), (5, .int (x11 + (1 : Int32)))]) (pc' := 45) hC dX10_put_42 rfl ki_1 (Nat.le_of_ble_eq_true rfl) rfl rfl ?_
          refine go_goto (tgt := 6) hC dX10_put_45 (by decide) ?_
          exact ih x14 (x11 + (1 : Int32)) hf
        clear hk42_15
        refine go_if_eq (tgt := 42) (pc' := 33) hC dX10_put_30 (by decide) rfl (fun h17 => ?_) (fun h17 => ?_)
        · have hf := ite_t h17 hf
          exact jk42_15 x10 hf
        · have hf := ite_f h17 hf
          refine go_iload (pc' := 35) hC dX10_put_33 rfl rfl ?_
          refine go_iconst (pc' := 36) hC dX10_put_35 ki_1 rfl ?_
          refine go_iload (pc' := 38) hC dX10_put_36 rfl rfl ?_
          refine go_ishl (pc' := 39) hC dX10_put_38 rfl ?_
          refine go_ior (pc' := 40) hC dX10_put_39 rfl ?_
          refine go_namei (fun x16 hx => ?_)
          have hf := lz_r hx hf
          clear hx
          refine go_istore (lc' := [(0, .ref (x_q X 120)), (1, .int p1), (3, .int p3), (4, .int x16), (5, .int x11)]) (pc' := 42) hC dX10_put_40 (Nat.le_of_ble_eq_true rfl) rfl rfl ?_
          exact jk42_15 x16 hf
  refine go_sub [0, 1, 3, 4, 5] rfl ?_
  exact l6_19 fuel p2 (0 : Int32) hf
abbrev o_X10_putApart_q120 : Type := Int32 × (Nat → Int32) × (Nat → Int32)
def f_X10_putApart_q120_L38 (S : wd_W) (p1 : Int32) (p3 : Int32) (r9 : (Int32) → (Int32) → (Nat → Int32) → (Nat → Int32) → (Option o_X10_putApart_q120)) (x5 : Int32) (x6 : Int32) (a7 : Nat → Int32) (a8 : Nat → Int32) : Option o_X10_putApart_q120 :=
if (10 : Int32) ≤ x5 then (
some (x6, a7, a8)) else (
lk (fun x10 a11 a12 =>
r9 (x5 + (1 : Int32)) x10 a11 a12) fun k64_13 =>
if ((p3 >>> (x5 &&& 31)) &&& (1 : Int32)) = 0 then (
k64_13 x6 a7 a8) else (
bd (f_X10_put_q120 (wd_o S [(12000, x6)] [] [(121, a7), (122, a8)] [] []) p1 (0 : Int32) ((1 : Int32) <<< (x5 &&& 31))) fun o14 =>
k64_13 o14.1 o14.2.1 o14.2.2))
def f_X10_putApart_q120_L3 (S : wd_W) (p1 : Int32) (p2 : Int32) (k35_4 : (Int32) → (Nat → Int32) → (Nat → Int32) → (Option o_X10_putApart_q120)) (r22 : (Int32) → (Int32) → (Nat → Int32) → (Nat → Int32) → (Option o_X10_putApart_q120)) (x18 : Int32) (x19 : Int32) (a20 : Nat → Int32) (a21 : Nat → Int32) : Option o_X10_putApart_q120 :=
if (12 : Int32) ≤ x18 then (
k35_4 x19 a20 a21) else (
lk (fun x23 a24 a25 =>
r22 (x18 + (1 : Int32)) x23 a24 a25) fun k29_26 =>
if ((p2 >>> (x18 &&& 31)) &&& (1 : Int32)) = 0 then (
k29_26 x19 a20 a21) else (
bd (f_X10_put_q120 (wd_o S [(12000, x19)] [] [(121, a20), (122, a21)] [] []) p1 ((1 : Int32) <<< (x18 &&& 31)) (0 : Int32)) fun o27 =>
k29_26 o27.1 o27.2.1 o27.2.2))
def f_X10_putApart_q120 (S : wd_W) (p1 : Int32) (p2 : Int32) (p3 : Int32) : Option o_X10_putApart_q120 :=
lk (fun x1 a2 a3 =>
it4 (f_X10_putApart_q120_L38 S p1 p3) fuel (0 : Int32) x1 a2 a3) fun k35_4 =>
it4 (f_X10_putApart_q120_L3 S p1 p2 k35_4) fuel (0 : Int32) (S.1 12000) (S.2.2.1 121) (S.2.2.1 122)
set_option maxRecDepth 100000 in
set_option maxHeartbeats 4000000 in
theorem c_X10_putApart_q120 (l : Launch) (D : va_G) (q g : Nat → Nat) (cy : Nat → ClassId) (z : (Nat → Nat) × (Nat → Nat) × Nat) (S : wd_W) (p1 : Int32) (p2 : Int32) (p3 : Int32) (o : o_X10_putApart_q120) (hf : f_X10_putApart_q120 S p1 p2 p3 = some o) : MX layX l yX10_putApart cX10_putApart 5 none ({ frames := 1, cells := 0, slots := 0, locals := 25 } : Room) D q g cy z [.ref (q 120), .int p1, .int p2, .int p3] S false (none) (wd_o S [(12000, o.1)] [] [(121, o.2.1), (122, o.2.2)] [] []) 0 0 := by
  refine mx_of (own := RX10) (lc := [(0, .ref (q 120)), (1, .int p1), (2, .int p2), (3, .int p3)]) (by decide +kernel) rfl layX_ok (Nat.le_of_ble_eq_true rfl) rfl ?_
  intro X hXl hXq hXz hC hQ
  subst hXl; subst hXq; subst hXz
  unfold f_X10_putApart_q120 at hf
  refine go_keys (L1 := [(12000, (S.1 12000))]) (L2 := []) (L3 := [(121, (S.2.2.1 121)), (122, (S.2.2.1 122))]) (L4 := []) (L5 := []) [12000] [] [121, 122] [] [] rfl rfl rfl rfl rfl ?_
  refine go_iconst (pc' := 1) hC dX10_putApart_0 ki_0 rfl ?_
  refine go_istore (lc' := [(0, .ref (x_q X 120)), (1, .int p1), (2, .int p2), (3, .int p3), (4, .int (0 : Int32))]) (pc' := 3) hC dX10_putApart_1 (Nat.le_of_ble_eq_true rfl) rfl rfl ?_
  obtain ⟨k35_4, hk35_4, hf⟩ := lk_e3 hf
  have jk35_4 : ∀ (x1 : Int32) (a2 : Nat → Int32) (a3 : Nat → Int32), k35_4 x1 a2 a3 = some o → Go X layX S 35 [(0, .ref (x_q X 120)), (1, .int p1), (3, .int p3)] [] g [(12000, x1)] [] [(121, a2), (122, a3)] [] [] 0 0 := by
    intro x1 a2 a3 hf
    have hf := hk35_4 x1 a2 a3 hf
    clear hk35_4
    refine go_iconst (pc' := 36) hC dX10_putApart_35 ki_0 rfl ?_
    refine go_istore (lc' := [(0, .ref (x_q X 120)), (1, .int p1), (3, .int p3), (4, .int (0 : Int32))]) (pc' := 38) hC dX10_putApart_36 (Nat.le_of_ble_eq_true rfl) rfl rfl ?_
    have l38_17 : ∀ (nn : Nat) (x5 : Int32) (x6 : Int32) (a7 : Nat → Int32) (a8 : Nat → Int32), it4 (f_X10_putApart_q120_L38 S p1 p3) nn x5 x6 a7 a8 = some o → Go X layX S 38 [(0, .ref (x_q X 120)), (1, .int p1), (3, .int p3), (4, .int x5)] [] g [(12000, x6)] [] [(121, a7), (122, a8)] [] [] 0 0 := by
      intro nn
      induction nn with
      | zero =>
        intro x5 x6 a7 a8 hf
        exact none_no hf
      | succ nn ih =>
        intro x5 x6 a7 a8 hf
        have hf : f_X10_putApart_q120_L38 S p1 p3 (it4 (f_X10_putApart_q120_L38 S p1 p3) nn) x5 x6 a7 a8 = some o := hf
        generalize it4 (f_X10_putApart_q120_L38 S p1 p3) nn = r9 at ih hf
        unfold f_X10_putApart_q120_L38 at hf
        refine go_iload (pc' := 40) hC dX10_putApart_38 rfl rfl ?_
        refine go_bipush (pc' := 42) hC dX10_putApart_40 kb_10 rfl ?_
        refine go_icmp_ge (tgt := 70) (pc' := 45) hC dX10_putApart_42 (by decide) rfl (fun h16 => ?_) (fun h16 => ?_)
        · have hf := ite_t h16 hf
          obtain rfl := Option.some.inj hf
          exact go_vret hC hQ dX10_putApart_70 rfl rfl rfl (fun _ => rfl) rfl rfl
        · have hf := ite_f h16 hf
          refine go_iload_n (pc' := 46) hC dX10_putApart_45 rfl rfl ?_
          refine go_iload (pc' := 48) hC dX10_putApart_46 rfl rfl ?_
          refine go_ishr (pc' := 49) hC dX10_putApart_48 rfl ?_
          refine go_iconst (pc' := 50) hC dX10_putApart_49 ki_1 rfl ?_
          refine go_iand (pc' := 51) hC dX10_putApart_50 rfl ?_
          obtain ⟨k64_13, hk64_13, hf⟩ := lk_e3 hf
          have jk64_13 : ∀ (x10 : Int32) (a11 : Nat → Int32) (a12 : Nat → Int32), k64_13 x10 a11 a12 = some o → Go X layX S 64 [(0, .ref (x_q X 120)), (1, .int p1), (3, .int p3), (4, .int x5)] [] g [(12000, x10)] [] [(121, a11), (122, a12)] [] [] 0 0 := by
            intro x10 a11 a12 hf
            have hf := hk64_13 x10 a11 a12 hf
            clear hk64_13
            refine go_iinc (lc' := [(0, .ref (x_q X 120)), (1, .int p1), (3, .int p3), (4, .int (x5 + (1 : Int32)))]) (pc' := 67) hC dX10_putApart_64 rfl ki_1 (Nat.le_of_ble_eq_true rfl) rfl rfl ?_
            refine go_goto (tgt := 38) hC dX10_putApart_67 (by decide) ?_
            exact ih (x5 + (1 : Int32)) x10 a11 a12 hf
          clear hk64_13
          refine go_if_eq (tgt := 64) (pc' := 54) hC dX10_putApart_51 (by decide) rfl (fun h15 => ?_) (fun h15 => ?_)
          · have hf := ite_t h15 hf
            exact jk64_13 x6 a7 a8 hf
          · have hf := ite_f h15 hf
            refine go_aload_n (pc' := 55) hC dX10_putApart_54 rfl rfl ?_
            refine go_iload_n (pc' := 56) hC dX10_putApart_55 rfl rfl ?_
            refine go_iconst (pc' := 57) hC dX10_putApart_56 ki_0 rfl ?_
            refine go_iconst (pc' := 58) hC dX10_putApart_57 ki_1 rfl ?_
            refine go_iload (pc' := 60) hC dX10_putApart_58 rfl rfl ?_
            refine go_ishl (pc' := 61) hC dX10_putApart_60 rfl ?_
            obtain ⟨o14, ho14, hf⟩ := bd_e hf
            refine go_callV1 (pc' := 64) (As := [.int p1, .int (0 : Int32), .int ((1 : Int32) <<< (x5 &&& 31))]) (st := []) (st' := []) (L1' := [(12000, o14.1)]) (L2' := []) (L3' := [(121, o14.2.1), (122, o14.2.2)]) (L4' := []) (L5' := []) (cells' := 0) (slots' := 0)  (b := 120) hC dX10_putApart_61 ⟨mw_647, mw_650, mw_103, yd_yX10_put, yp_yX10_put, Nat.le_of_ble_eq_true rfl, Nat.le_of_ble_eq_true rfl, (Nat.le_of_ble_eq_true rfl), (Nat.le_of_ble_eq_true rfl)⟩ mw_648 mw_649 layX_120 rfl rfl rfl (Nat.le_of_ble_eq_true rfl) (c_X10_put_q120 (x_l X) (x_D X) (x_q X) g (x_cy X) (x_z X) _ p1 (0 : Int32) ((1 : Int32) <<< (x5 &&& 31)) o14 ho14) rfl rfl rfl rfl rfl rfl rfl rfl rfl rfl rfl rfl rfl rfl ?_
            exact jk64_13 o14.1 o14.2.1 o14.2.2 hf
    exact l38_17 fuel (0 : Int32) x1 a2 a3 hf
  clear hk35_4
  have l3_30 : ∀ (nn : Nat) (x18 : Int32) (x19 : Int32) (a20 : Nat → Int32) (a21 : Nat → Int32), it4 (f_X10_putApart_q120_L3 S p1 p2 k35_4) nn x18 x19 a20 a21 = some o → Go X layX S 3 [(0, .ref (x_q X 120)), (1, .int p1), (2, .int p2), (3, .int p3), (4, .int x18)] [] g [(12000, x19)] [] [(121, a20), (122, a21)] [] [] 0 0 := by
    intro nn
    induction nn with
    | zero =>
      intro x18 x19 a20 a21 hf
      exact none_no hf
    | succ nn ih =>
      intro x18 x19 a20 a21 hf
      have hf : f_X10_putApart_q120_L3 S p1 p2 k35_4 (it4 (f_X10_putApart_q120_L3 S p1 p2 k35_4) nn) x18 x19 a20 a21 = some o := hf
      generalize it4 (f_X10_putApart_q120_L3 S p1 p2 k35_4) nn = r22 at ih hf
      unfold f_X10_putApart_q120_L3 at hf
      refine go_iload (pc' := 5) hC dX10_putApart_3 rfl rfl ?_
      refine go_bipush (pc' := 7) hC dX10_putApart_5 kb_12 rfl ?_
      refine go_icmp_ge (tgt := 35) (pc' := 10) hC dX10_putApart_7 (by decide) rfl (fun h29 => ?_) (fun h29 => ?_)
      · have hf := ite_t h29 hf
        refine go_sub [0, 1, 3] rfl ?_
        exact jk35_4 x19 a20 a21 hf
      · have hf := ite_f h29 hf
        refine go_iload_n (pc' := 11) hC dX10_putApart_10 rfl rfl ?_
        refine go_iload (pc' := 13) hC dX10_putApart_11 rfl rfl ?_
        refine go_ishr (pc' := 14) hC dX10_putApart_13 rfl ?_
        refine go_iconst (pc' := 15) hC dX10_putApart_14 ki_1 rfl ?_
        refine go_iand (pc' := 16) hC dX10_putApart_15 rfl ?_
        obtain ⟨k29_26, hk29_26, hf⟩ := lk_e3 hf
        have jk29_26 : ∀ (x23 : Int32) (a24 : Nat → Int32) (a25 : Nat → Int32), k29_26 x23 a24 a25 = some o → Go X layX S 29 [(0, .ref (x_q X 120)), (1, .int p1), (2, .int p2), (3, .int p3), (4, .int x18)] [] g [(12000, x23)] [] [(121, a24), (122, a25)] [] [] 0 0 := by
          intro x23 a24 a25 hf
          have hf := hk29_26 x23 a24 a25 hf
          clear hk29_26
          refine go_iinc (lc' := [(0, .ref (x_q X 120)), (1, .int p1), (2, .int p2), (3, .int p3), (4, .int (x18 + (1 : Int32)))]) (pc' := 32) hC dX10_putApart_29 rfl ki_1 (Nat.le_of_ble_eq_true rfl) rfl rfl ?_
          refine go_goto (tgt := 3) hC dX10_putApart_32 (by decide) ?_
          exact ih (x18 + (1 : Int32)) x23 a24 a25 hf
        clear hk29_26
        refine go_if_eq (tgt := 29) (pc' := 19) hC dX10_putApart_16 (by decide) rfl (fun h28 => ?_) (fun h28 => ?_)
        · have hf := ite_t h28 hf
          exact jk29_26 x19 a20 a21 hf
        · have hf := ite_f h28 hf
          refine go_aload_n (pc' := 20) hC dX10_putApart_19 rfl rfl ?_
          refine go_iload_n (pc' := 21) hC dX10_putApart_20 rfl rfl ?_
          refine go_iconst (pc' := 22) hC dX10_putApart_21 ki_1 rfl ?_
          refine go_iload (pc' := 24) hC dX10_putApart_22 rfl rfl ?_
          refine go_ishl (pc' := 25) hC dX10_putApart_24 rfl ?_
          refine go_iconst (pc' := 26) hC dX10_putApart_25 ki_0 rfl ?_
          obtain ⟨o27, ho27, hf⟩ := bd_e hf
          refine go_callV1 (pc' := 29) (As := [.int p1, .int ((1 : Int32) <<< (x18 &&& 31)), .int (0 : Int32)]) (st := []) (st' := []) (L1' := [(12000, o27.1)]) (L2' := []) (L3' := [(121, o27.2.1), (122, o27.2.2)]) (L4' := []) (L5' := []) (cells' := 0) (slots' := 0)  (b := 120) hC dX10_putApart_26 ⟨mw_647, mw_650, mw_103, yd_yX10_put, yp_yX10_put, Nat.le_of_ble_eq_true rfl, Nat.le_of_ble_eq_true rfl, (Nat.le_of_ble_eq_true rfl), (Nat.le_of_ble_eq_true rfl)⟩ mw_648 mw_649 layX_120 rfl rfl rfl (Nat.le_of_ble_eq_true rfl) (c_X10_put_q120 (x_l X) (x_D X) (x_q X) g (x_cy X) (x_z X) _ p1 ((1 : Int32) <<< (x18 &&& 31)) (0 : Int32) o27 ho27) rfl rfl rfl rfl rfl rfl rfl rfl rfl rfl rfl rfl rfl rfl ?_
          exact jk29_26 o27.1 o27.2.1 o27.2.2 hf
  exact l3_30 fuel (0 : Int32) (S.1 12000) (S.2.2.1 121) (S.2.2.1 122) hf
