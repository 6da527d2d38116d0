theorem dX1_tryAll_0 : decode cX1_tryAll 0 = .ok (.aload_n 0, 1) := by decide +kernel
theorem dX1_tryAll_1 : decode cX1_tryAll 1 = .ok (.getfield 27, 3) := by decide +kernel
theorem dX1_tryAll_4 : decode cX1_tryAll 4 = .ok (.arraylength, 1) := by decide +kernel
theorem dX1_tryAll_5 : decode cX1_tryAll 5 = .ok (.aload_n 0, 1) := by decide +kernel
theorem dX1_tryAll_6 : decode cX1_tryAll 6 = .ok (.getfield 34, 3) := by decide +kernel
theorem dX1_tryAll_9 : decode cX1_tryAll 9 = .ok (.getfield 38, 3) := by decide +kernel
theorem dX1_tryAll_12 : decode cX1_tryAll 12 = .ok (.if_icmp .gt 18, 3) := by decide +kernel
theorem dX1_tryAll_15 : decode cX1_tryAll 15 = .ok (.aload_n 0, 1) := by decide +kernel
theorem dX1_tryAll_16 : decode cX1_tryAll 16 = .ok (.aload_n 0, 1) := by decide +kernel
theorem dX1_tryAll_17 : decode cX1_tryAll 17 = .ok (.getfield 34, 3) := by decide +kernel
theorem dX1_tryAll_20 : decode cX1_tryAll 20 = .ok (.getfield 38, 3) := by decide +kernel
theorem dX1_tryAll_23 : decode cX1_tryAll 23 = .ok (.iconst 1, 1) := by decide +kernel
theorem dX1_tryAll_24 : decode cX1_tryAll 24 = .ok (.iadd, 1) := by decide +kernel
theorem dX1_tryAll_25 : decode cX1_tryAll 25 = .ok (.newarray .byte, 2) := by decide +kernel
theorem dX1_tryAll_27 : decode cX1_tryAll 27 = .ok (.putfield 27, 3) := by decide +kernel
theorem dX1_tryAll_30 : decode cX1_tryAll 30 = .ok (.aload_n 0, 1) := by decide +kernel
theorem dX1_tryAll_31 : decode cX1_tryAll 31 = .ok (.ldc2_w 44, 3) := by decide +kernel
theorem dX1_tryAll_34 : decode cX1_tryAll 34 = .ok (.putfield 46, 3) := by decide +kernel
theorem dX1_tryAll_37 : decode cX1_tryAll 37 = .ok (.iconst 0, 1) := by decide +kernel
theorem dX1_tryAll_38 : decode cX1_tryAll 38 = .ok (.istore_n 1, 1) := by decide +kernel
theorem dX1_tryAll_39 : decode cX1_tryAll 39 = .ok (.iload_n 1, 1) := by decide +kernel
theorem dX1_tryAll_40 : decode cX1_tryAll 40 = .ok (.aload_n 0, 1) := by decide +kernel
theorem dX1_tryAll_41 : decode cX1_tryAll 41 = .ok (.getfield 31, 3) := by decide +kernel
theorem dX1_tryAll_44 : decode cX1_tryAll 44 = .ok (.getfield 50, 3) := by decide +kernel
theorem dX1_tryAll_47 : decode cX1_tryAll 47 = .ok (.if_icmp .ge 61, 3) := by decide +kernel
theorem dX1_tryAll_50 : decode cX1_tryAll 50 = .ok (.iload_n 1, 1) := by decide +kernel
theorem dX1_tryAll_51 : decode cX1_tryAll 51 = .ok (.iconst 1, 1) := by decide +kernel
theorem dX1_tryAll_52 : decode cX1_tryAll 52 = .ok (.iadd, 1) := by decide +kernel
theorem dX1_tryAll_53 : decode cX1_tryAll 53 = .ok (.istore_n 2, 1) := by decide +kernel
theorem dX1_tryAll_54 : decode cX1_tryAll 54 = .ok (.iload_n 2, 1) := by decide +kernel
theorem dX1_tryAll_55 : decode cX1_tryAll 55 = .ok (.aload_n 0, 1) := by decide +kernel
theorem dX1_tryAll_56 : decode cX1_tryAll 56 = .ok (.getfield 31, 3) := by decide +kernel
theorem dX1_tryAll_59 : decode cX1_tryAll 59 = .ok (.getfield 50, 3) := by decide +kernel
theorem dX1_tryAll_62 : decode cX1_tryAll 62 = .ok (.if_icmp .ge 40, 3) := by decide +kernel
theorem dX1_tryAll_65 : decode cX1_tryAll 65 = .ok (.aload_n 0, 1) := by decide +kernel
theorem dX1_tryAll_66 : decode cX1_tryAll 66 = .ok (.iload_n 1, 1) := by decide +kernel
theorem dX1_tryAll_67 : decode cX1_tryAll 67 = .ok (.iload_n 2, 1) := by decide +kernel
theorem dX1_tryAll_68 : decode cX1_tryAll 68 = .ok (.invokevirtual 53, 3) := by decide +kernel
theorem dX1_tryAll_71 : decode cX1_tryAll 71 = .ok (.lstore_n 3, 1) := by decide +kernel
theorem dX1_tryAll_72 : decode cX1_tryAll 72 = .ok (.lload_n 3, 1) := by decide +kernel
theorem dX1_tryAll_73 : decode cX1_tryAll 73 = .ok (.aload_n 0, 1) := by decide +kernel
theorem dX1_tryAll_74 : decode cX1_tryAll 74 = .ok (.getfield 46, 3) := by decide +kernel
theorem dX1_tryAll_77 : decode cX1_tryAll 77 = .ok (.lcmp, 1) := by decide +kernel
theorem dX1_tryAll_78 : decode cX1_tryAll 78 = .ok (.ifCond .le 18, 3) := by decide +kernel
theorem dX1_tryAll_81 : decode cX1_tryAll 81 = .ok (.aload_n 0, 1) := by decide +kernel
theorem dX1_tryAll_82 : decode cX1_tryAll 82 = .ok (.iload_n 1, 1) := by decide +kernel
theorem dX1_tryAll_83 : decode cX1_tryAll 83 = .ok (.putfield 57, 3) := by decide +kernel
theorem dX1_tryAll_86 : decode cX1_tryAll 86 = .ok (.aload_n 0, 1) := by decide +kernel
theorem dX1_tryAll_87 : decode cX1_tryAll 87 = .ok (.iload_n 2, 1) := by decide +kernel
theorem dX1_tryAll_88 : decode cX1_tryAll 88 = .ok (.putfield 60, 3) := by decide +kernel
theorem dX1_tryAll_91 : decode cX1_tryAll 91 = .ok (.aload_n 0, 1) := by decide +kernel
theorem dX1_tryAll_92 : decode cX1_tryAll 92 = .ok (.lload_n 3, 1) := by decide +kernel
theorem dX1_tryAll_93 : decode cX1_tryAll 93 = .ok (.putfield 46, 3) := by decide +kernel
theorem dX1_tryAll_96 : decode cX1_tryAll 96 = .ok (.iinc 2 1, 3) := by decide +kernel
theorem dX1_tryAll_99 : decode cX1_tryAll 99 = .ok (.goto (-45), 3) := by decide +kernel
theorem dX1_tryAll_102 : decode cX1_tryAll 102 = .ok (.iinc 1 1, 3) := by decide +kernel
theorem dX1_tryAll_105 : decode cX1_tryAll 105 = .ok (.goto (-66), 3) := by decide +kernel
theorem dX1_tryAll_108 : decode cX1_tryAll 108 = .ok (.return_, 1) := by decide +kernel
abbrev o_X1_tryAll_q140 : Type := wd_W × Nat × Nat
def f_X1_tryAll_q140_L54 (n2 : Nat) (n3 : Nat) (x5 : Int32) (k102_10 : (wd_W) → (Option o_X1_tryAll_q140)) (r13 : (Int32) → (wd_W) → (Option o_X1_tryAll_q140)) (x11 : Int32) (S12 : wd_W) : Option o_X1_tryAll_q140 :=
if (S12.1 1600) ≤ x11 then (
k102_10 S12) else (
gd (okr n2 n3 0 0 1 5000) <|
bd (f_X1_chanceWith_q140 (wd_o S12 [] [] [] [] []) x5 x11) fun o14 =>
lk (fun S16 =>
r13 (x11 + (1 : Int32)) S16) fun k96_17 =>
if o14.1 ≤ (o14.2.2.1 14002) then (
k96_17 o14.2) else (
lz (wd_o o14.2 [(14000, x5)] [] [] [] []) fun S18 =>
lz (wd_o S18 [(14001, x11)] [] [] [] []) fun S19 =>
k96_17 (wd_o S19 [] [(14002, o14.1)] [] [] [])))
def f_X1_tryAll_q140_L39 (n2 : Nat) (n3 : Nat) (r7 : (Int32) → (wd_W) → (Option o_X1_tryAll_q140)) (x5 : Int32) (S6 : wd_W) : Option o_X1_tryAll_q140 :=
if (S6.1 1600) ≤ x5 then (
some (S6, n2, n3)) else (
lz (x5 + (1 : Int32)) fun x8 =>
lk (fun S9 =>
r7 (x5 + (1 : Int32)) S9) fun k102_10 =>
it2 (f_X1_tryAll_q140_L54 n2 n3 x5 k102_10) fuel x8 S6)
def f_X1_tryAll_q140 (S : wd_W) : Option o_X1_tryAll_q140 :=
lk (fun S1 n2 n3 =>
it2 (f_X1_tryAll_q140_L39 n2 n3) fuel (0 : Int32) (wd_o S1 [] [(14002, (-1 : Int64))] [] [] [])) fun k30_4 =>
if (S.1 10603) < (Int32.ofNat (S.2.2.2.2 141)) then (
k30_4 S 0 0) else (
lz ((S.1 10603) + (1 : Int32)) fun x25 =>
gd (okg x25 0 0 1 5000) <|
k30_4 (wd_o S [] [] [(141, (fun _ => 0))] [] [(141, (x25).toNatClampNeg)]) (0 + 1) (0 + (x25).toNatClampNeg))
set_option maxRecDepth 100000 in
set_option maxHeartbeats 4000000 in
theorem c_X1_tryAll_q140 (l : Launch) (D : va_G) (q g : Nat → Nat) (cy : Nat → ClassId) (z : (Nat → Nat) × (Nat → Nat) × Nat) (S : wd_W) (o : o_X1_tryAll_q140) (hf : f_X1_tryAll_q140 S = some o) : MX layX l yX1_tryAll cX1_tryAll 5 none ({ frames := 4, cells := 1, slots := 5000, locals := 127 } : Room) D q g cy z [.ref (q 140)] S true (none) o.1 o.2.1 o.2.2 := by
  refine mx_of (own := RX1) (lc := [(0, .ref (q 140))]) (by decide +kernel) rfl layX_ok (Nat.le_of_ble_eq_true rfl) rfl ?_
  intro X hXl hXq hXz hC hQ
  subst hXl; subst hXq; subst hXz
  unfold f_X1_tryAll_q140 at hf
  refine go_aload_n (pc' := 1) hC dX1_tryAll_0 rfl rfl ?_
  refine go_getg (pc' := 4) hC 140 7 layX_140 rfl rfl inlX1 (Nat.le_of_ble_eq_true rfl) mw_165 rfl dX1_tryAll_1 rfl ?_
  refine go_aleng (v := Int32.ofNat (S.2.2.2.2 141)) (pc' := 5) hC 141 layX_141 (Nat.le_of_ble_eq_true rfl) rfl rfl dX1_tryAll_4 rfl ?_
  refine go_aload_n (pc' := 6) hC dX1_tryAll_5 rfl rfl ?_
  refine go_getq (pc' := 9) hC 140 4 layX_140 rfl rfl inlX1 (Nat.le_of_ble_eq_true rfl) mw_167 rfl dX1_tryAll_6 rfl ?_
  refine go_geti (v := (S.1 10603)) (pc' := 12) hC 106 3 layX_106 rfl rfl inlX8 (Nat.le_of_ble_eq_true rfl) mw_1142 rfl dX1_tryAll_9 rfl rfl ?_
  obtain ⟨k30_4, hk30_4, hf⟩ := lk_e3 hf
  have jk30_4 : ∀ (S1 : wd_W) (n2 : Nat) (n3 : Nat) (g : Nat → Nat), k30_4 S1 n2 n3 = some o → Go X layX S1 30 [(0, .ref (x_q X 140))] [] g [] [] [] [] [] n2 n3 := by
    intro S1 n2 n3 g hf
    have hf := hk30_4 S1 n2 n3 hf
    clear hk30_4
    refine go_aload_n (pc' := 31) hC dX1_tryAll_30 rfl rfl ?_
    refine go_ldc2 (pc' := 34) hC dX1_tryAll_31 mw_1143 rfl ?_
    refine go_keys (L1 := []) (L2 := [(14002, (S1.2.1 14002))]) (L3 := []) (L4 := []) (L5 := []) [] [14002] [] [] [] rfl rfl rfl rfl rfl ?_
    refine go_putl (L2' := [(14002, (-1 : Int64))]) (pc' := 37) hC 140 2 layX_140 rfl rfl inlX1 tyX1_ok nmX1 (Nat.le_of_ble_eq_true rfl) mw_1144 rfl rfl rfl rfl dX1_tryAll_34 rfl rfl rfl ?_
    refine go_iconst (pc' := 38) hC dX1_tryAll_37 ki_0 rfl ?_
    refine go_istore_n (lc' := [(0, .ref (x_q X 140)), (1, .int (0 : Int32))]) (pc' := 39) hC dX1_tryAll_38 (Nat.le_of_ble_eq_true rfl) rfl rfl ?_
    have l39_24 : ∀ (nn : Nat) (x5 : Int32) (S6 : wd_W) (g : Nat → Nat), it2 (f_X1_tryAll_q140_L39 n2 n3) nn x5 S6 = some o → Go X layX S6 39 [(0, .ref (x_q X 140)), (1, .int x5)] [] g [] [] [] [] [] n2 n3 := by
      intro nn
      induction nn with
      | zero =>
        intro x5 S6 g hf
        exact none_no hf
      | succ nn ih =>
        intro x5 S6 g hf
        have hf : f_X1_tryAll_q140_L39 n2 n3 (it2 (f_X1_tryAll_q140_L39 n2 n3) nn) x5 S6 = some o := hf
        generalize it2 (f_X1_tryAll_q140_L39 n2 n3) nn = r7 at ih hf
        unfold f_X1_tryAll_q140_L39 at hf
        refine go_iload_n (pc' := 40) hC dX1_tryAll_39 rfl rfl ?_
        refine go_aload_n (pc' := 41) hC dX1_tryAll_40 rfl rfl ?_
        refine go_getq (pc' := 44) hC 140 3 layX_140 rfl rfl inlX1 (Nat.le_of_ble_eq_true rfl) mw_166 rfl dX1_tryAll_41 rfl ?_
        refine go_geti (v := (S6.1 1600)) (pc' := 47) hC 16 0 layX_16 rfl rfl inlX2 (Nat.le_of_ble_eq_true rfl) mw_1145 rfl dX1_tryAll_44 rfl rfl ?_
        refine go_icmp_ge (tgt := 108) (pc' := 50) hC dX1_tryAll_47 (by decide) rfl (fun h23 => ?_) (fun h23 => ?_)
        · have hf := ite_t h23 hf
          obtain rfl := Option.some.inj hf
          exact go_vret hC hQ dX1_tryAll_108 rfl rfl rfl (fun h => nomatch h) rfl rfl
        · have hf := ite_f h23 hf
          refine go_iload_n (pc' := 51) hC dX1_tryAll_50 rfl rfl ?_
          refine go_iconst (pc' := 52) hC dX1_tryAll_51 ki_1 rfl ?_
          refine go_iadd (pc' := 53) hC dX1_tryAll_52 rfl ?_
          refine go_namei (fun x8 hx => ?_)
          have hf := lz_r hx hf
          clear hx
          refine go_istore_n (lc' := [(0, .ref (x_q X 140)), (1, .int x5), (2, .int x8)]) (pc' := 54) hC dX1_tryAll_53 (Nat.le_of_ble_eq_true rfl) rfl rfl ?_
          obtain ⟨k102_10, hk102_10, hf⟩ := lk_e1 hf
          have jk102_10 : ∀ (S9 : wd_W) (g : Nat → Nat), k102_10 S9 = some o → Go X layX S9 102 [(0, .ref (x_q X 140)), (1, .int x5)] [] g [] [] [] [] [] n2 n3 := by
            intro S9 g hf
            have hf := hk102_10 S9 hf
            clear hk102_10
            refine go_iinc (lc' := [(0, .ref (x_q X 140)), (1, .int (x5 + (1 : Int32)))]) (pc' := 105) hC dX1_tryAll_102 rfl ki_1 (Nat.le_of_ble_eq_true rfl) rfl rfl ?_
            refine go_goto (tgt := 39) hC dX1_tryAll_105 (by decide) ?_
            exact ih (x5 + (1 : Int32)) S9 g hf
          clear hk102_10
          have l54_22 : ∀ (nn : Nat) (x11 : Int32) (S12 : wd_W) (g : Nat → Nat), it2 (f_X1_tryAll_q140_L54 n2 n3 x5 k102_10) nn x11 S12 = some o → Go X layX S12 54 [(0, .ref (x_q X 140)), (1, .int x5), (2, .int x11)] [] g [] [] [] [] [] n2 n3 := by
            intro nn
            induction nn with
            | zero =>
              intro x11 S12 g hf
              exact none_no hf
            | succ nn ih =>
              intro x11 S12 g hf
              have hf : f_X1_tryAll_q140_L54 n2 n3 x5 k102_10 (it2 (f_X1_tryAll_q140_L54 n2 n3 x5 k102_10) nn) x11 S12 = some o := hf
              generalize it2 (f_X1_tryAll_q140_L54 n2 n3 x5 k102_10) nn = r13 at ih hf
              unfold f_X1_tryAll_q140_L54 at hf
              refine go_iload_n (pc' := 55) hC dX1_tryAll_54 rfl rfl ?_
              refine go_aload_n (pc' := 56) hC dX1_tryAll_55 rfl rfl ?_
              refine go_getq (pc' := 59) hC 140 3 layX_140 rfl rfl inlX1 (Nat.le_of_ble_eq_true rfl) mw_166 rfl dX1_tryAll_56 rfl ?_
              refine go_geti (v := (S12.1 1600)) (pc' := 62) hC 16 0 layX_16 rfl rfl inlX2 (Nat.le_of_ble_eq_true rfl) mw_1145 rfl dX1_tryAll_59 rfl rfl ?_
              refine go_icmp_ge (tgt := 102) (pc' := 65) hC dX1_tryAll_62 (by decide) rfl (fun h21 => ?_) (fun h21 => ?_)
              · have hf := ite_t h21 hf
                refine go_sub [0, 1] rfl ?_
                exact jk102_10 S12 g hf
              · have hf := ite_f h21 hf
                refine go_aload_n (pc' := 66) hC dX1_tryAll_65 rfl rfl ?_
                refine go_iload_n (pc' := 67) hC dX1_tryAll_66 rfl rfl ?_
                refine go_iload_n (pc' := 68) hC dX1_tryAll_67 rfl rfl ?_
                obtain ⟨h15, hf⟩ := gd_e hf
                obtain ⟨o14, ho14, hf⟩ := bd_e hf
                refine go_callVw (pc' := 71) (As := [.int x5, .int x11]) (st := []) (st' := [.long o14.1])  (cells' := n2) (slots' := n3) (b := 140) hC dX1_tryAll_68 ⟨mw_1148, mw_1151, mw_48, yd_yX1_chanceWith, yp_yX1_chanceWith, Nat.le_of_ble_eq_true rfl, Nat.le_of_ble_eq_true rfl, (okr_c h15), (okr_s h15)⟩ mw_1149 mw_1150 layX_140 rfl rfl rfl (Nat.le_of_ble_eq_true rfl) (c_X1_chanceWith_q140 (x_l X) (x_D X) (x_q X) g (x_cy X) (x_z X) _ x5 x11 o14 ho14) rfl rfl rfl rfl (fun g2 hg2 => ?_)
                rw [hg2 rfl]
                clear hg2
                refine go_lstore_n (lc' := [(0, .ref (x_q X 140)), (1, .int x5), (2, .int x11), (3, .long o14.1)]) (pc' := 72) hC dX1_tryAll_71 (Nat.le_of_ble_eq_true rfl) rfl rfl ?_
                refine go_lload_n (pc' := 73) hC dX1_tryAll_72 rfl rfl ?_
                refine go_aload_n (pc' := 74) hC dX1_tryAll_73 rfl rfl ?_
                refine go_getl (v := (o14.2.2.1 14002)) (pc' := 77) hC 140 2 layX_140 rfl rfl inlX1 (Nat.le_of_ble_eq_true rfl) mw_1144 rfl dX1_tryAll_74 rfl rfl ?_
                refine go_lcmp (pc' := 78) hC dX1_tryAll_77 rfl ?_
                obtain ⟨k96_17, hk96_17, hf⟩ := lk_e1 hf
                have jk96_17 : ∀ (S16 : wd_W) (g : Nat → Nat), k96_17 S16 = some o → Go X layX S16 96 [(0, .ref (x_q X 140)), (1, .int x5), (2, .int x11)] [] g [] [] [] [] [] n2 n3 := by
                  intro S16 g hf
                  have hf := hk96_17 S16 hf
                  clear hk96_17
                  refine go_iinc (lc' := [(0, .ref (x_q X 140)), (1, .int x5), (2, .int (x11 + (1 : Int32)))]) (pc' := 99) hC dX1_tryAll_96 rfl ki_1 (Nat.le_of_ble_eq_true rfl) rfl rfl ?_
                  refine go_goto (tgt := 54) hC dX1_tryAll_99 (by decide) ?_
                  exact ih (x11 + (1 : Int32)) S16 g hf
                clear hk96_17
                refine go_if_le (tgt := 96) (pc' := 81) hC dX1_tryAll_78 (by decide) rfl (fun h20 => ?_) (fun h20 => ?_)
                · have hf := ite_t (lg_le.mp h20) hf
                  refine go_sub [0, 1, 2] rfl ?_
                  exact jk96_17 o14.2 g hf
                · have hf := ite_f (mt lg_le.mpr h20) hf
                  refine go_aload_n (pc' := 82) hC dX1_tryAll_81 rfl rfl ?_
                  refine go_iload_n (pc' := 83) hC dX1_tryAll_82 rfl rfl ?_
                  refine go_keys (L1 := [(14000, (o14.2.1 14000))]) (L2 := []) (L3 := []) (L4 := []) (L5 := []) [14000] [] [] [] [] rfl rfl rfl rfl rfl ?_
                  refine go_puti (L1' := [(14000, x5)]) (pc' := 86) hC 140 0 layX_140 rfl rfl inlX1 tyX1_ok nmX1 (Nat.le_of_ble_eq_true rfl) mw_1146 rfl rfl rfl rfl dX1_tryAll_83 rfl rfl rfl ?_
                  refine go_aload_n (pc' := 87) hC dX1_tryAll_86 rfl rfl ?_
                  refine go_iload_n (pc' := 88) hC dX1_tryAll_87 rfl rfl ?_
                  refine go_base (fun S18 hx => ?_)
                  have hf := lz_r hx hf
                  clear hx
                  refine go_keys (L1 := [(14001, (S18.1 14001))]) (L2 := []) (L3 := []) (L4 := []) (L5 := []) [14001] [] [] [] [] rfl rfl rfl rfl rfl ?_
                  refine go_puti (L1' := [(14001, x11)]) (pc' := 91) hC 140 1 layX_140 rfl rfl inlX1 tyX1_ok nmX1 (Nat.le_of_ble_eq_true rfl) mw_1147 rfl rfl rfl rfl dX1_tryAll_88 rfl rfl rfl ?_
                  refine go_aload_n (pc' := 92) hC dX1_tryAll_91 rfl rfl ?_
                  refine go_lload_n (pc' := 93) hC dX1_tryAll_92 rfl rfl ?_
                  refine go_base (fun S19 hx => ?_)
                  have hf := lz_r hx hf
                  clear hx
                  refine go_keys (L1 := []) (L2 := [(14002, (S19.2.1 14002))]) (L3 := []) (L4 := []) (L5 := []) [] [14002] [] [] [] rfl rfl rfl rfl rfl ?_
                  refine go_putl (L2' := [(14002, o14.1)]) (pc' := 96) hC 140 2 layX_140 rfl rfl inlX1 tyX1_ok nmX1 (Nat.le_of_ble_eq_true rfl) mw_1144 rfl rfl rfl rfl dX1_tryAll_93 rfl rfl rfl ?_
                  refine go_sub [0, 1, 2] rfl ?_
                  refine go_base (fun S9 hS9 => ?_)
                  subst hS9
                  exact jk96_17 (wd_o S19 [] [(14002, o14.1)] [] [] []) g hf
          exact l54_22 fuel x8 S6 g hf
    refine go_base (fun S9 hS9 => ?_)
    subst hS9
    exact l39_24 fuel (0 : Int32) (wd_o S1 [] [(14002, (-1 : Int64))] [] [] []) g hf
  clear hk30_4
  refine go_icmp_gt (tgt := 30) (pc' := 15) hC dX1_tryAll_12 (by decide) rfl (fun h27 => ?_) (fun h27 => ?_)
  · have hf := ite_t h27 hf
    exact jk30_4 S 0 0 g hf
  · have hf := ite_f h27 hf
    refine go_aload_n (pc' := 16) hC dX1_tryAll_15 rfl rfl ?_
    refine go_aload_n (pc' := 17) hC dX1_tryAll_16 rfl rfl ?_
    refine go_getq (pc' := 20) hC 140 4 layX_140 rfl rfl inlX1 (Nat.le_of_ble_eq_true rfl) mw_167 rfl dX1_tryAll_17 rfl ?_
    refine go_geti (v := (S.1 10603)) (pc' := 23) hC 106 3 layX_106 rfl rfl inlX8 (Nat.le_of_ble_eq_true rfl) mw_1142 rfl dX1_tryAll_20 rfl rfl ?_
    refine go_iconst (pc' := 24) hC dX1_tryAll_23 ki_1 rfl ?_
    refine go_iadd (pc' := 25) hC dX1_tryAll_24 rfl ?_
    refine go_namei (fun x25 hx => ?_)
    have hf := lz_r hx hf
    clear hx
    refine go_keys (L1 := []) (L2 := []) (L3 := [(141, (S.2.2.1 141))]) (L4 := []) (L5 := [(141, (S.2.2.2.2 141))]) [] [] [141] [] [141] rfl rfl rfl rfl rfl ?_
    obtain ⟨h26, hf⟩ := gd_e hf
    refine go_growA (L3' := [(141, (fun _ => 0))]) (L5' := [(141, (x25).toNatClampNeg)]) (cells' := 0 + 1) (slots' := 0 + (x25).toNatClampNeg) (pc' := 30) (atype := .byte) hC 140 7 141 layX_140 rfl layX_141 (Or.inr (Or.inl ⟨rfl, rfl⟩)) (by decide +kernel) rfl inlX1 tyX1_ok nmX1 (Nat.le_of_ble_eq_true rfl) mw_165 rfl rfl (fun _ => rfl) (fun _ => rfl) mw_95 rfl dX1_tryAll_25 dX1_tryAll_27 rfl h26 rfl rfl rfl rfl rfl rfl rfl rfl (fun g => ?_)
    refine go_base (fun S9 hS9 => ?_)
    subst hS9
    exact jk30_4 (wd_o S [] [] [(141, (fun _ => 0))] [] [(141, (x25).toNatClampNeg)]) (0 + 1) (0 + (x25).toNatClampNeg) g hf
theorem dX11_add_0 : decode cX11_add 0 = .ok (.iload_n 1, 1) := by decide +kernel
theorem dX11_add_1 : decode cX11_add 1 = .ok (.ifCond .lt 18, 3) := by decide +kernel
theorem dX11_add_4 : decode cX11_add 4 = .ok (.iload_n 1, 1) := by decide +kernel
theorem dX11_add_5 : decode cX11_add 5 = .ok (.bipush 16, 2) := by decide +kernel
theorem dX11_add_7 : decode cX11_add 7 = .ok (.if_icmp .gt 12, 3) := by decide +kernel
theorem dX11_add_10 : decode cX11_add 10 = .ok (.iload_n 2, 1) := by decide +kernel
theorem dX11_add_11 : decode cX11_add 11 = .ok (.ifCond .lt 8, 3) := by decide +kernel
theorem dX11_add_14 : decode cX11_add 14 = .ok (.iload_n 2, 1) := by decide +kernel
theorem dX11_add_15 : decode cX11_add 15 = .ok (.iconst 2, 1) := by decide +kernel
theorem dX11_add_16 : decode cX11_add 16 = .ok (.if_icmp .le 7, 3) := by decide +kernel
theorem dX11_add_19 : decode cX11_add 19 = .ok (.ldc2_w 186, 3) := by decide +kernel
theorem dX11_add_22 : decode cX11_add 22 = .ok (.lreturn, 1) := by decide +kernel
theorem dX11_add_23 : decode cX11_add 23 = .ok (.aload_n 0, 1) := by decide +kernel
theorem dX11_add_24 : decode cX11_add 24 = .ok (.getfield 25, 3) := by decide +kernel
theorem dX11_add_27 : decode cX11_add 27 = .ok (.invokevirtual 129, 3) := by decide +kernel
theorem dX11_add_30 : decode cX11_add 30 = .ok (.bipush 10, 2) := by decide +kernel
theorem dX11_add_32 : decode cX11_add 32 = .ok (.if_icmp .gt 15, 3) := by decide +kernel
theorem dX11_add_35 : decode cX11_add 35 = .ok (.aload_n 0, 1) := by decide +kernel
theorem dX11_add_36 : decode cX11_add 36 = .ok (.getfield 25, 3) := by decide +kernel
theorem dX11_add_39 : decode cX11_add 39 = .ok (.getfield 132, 3) := by decide +kernel
theorem dX11_add_42 : decode cX11_add 42 = .ok (.bipush 12, 2) := by decide +kernel
theorem dX11_add_44 : decode cX11_add 44 = .ok (.if_icmp .lt 7, 3) := by decide +kernel
theorem dX11_add_47 : decode cX11_add 47 = .ok (.ldc2_w 186, 3) := by decide +kernel
theorem dX11_add_50 : decode cX11_add 50 = .ok (.lreturn, 1) := by decide +kernel
theorem dX11_add_51 : decode cX11_add 51 = .ok (.aload_n 0, 1) := by decide +kernel
theorem dX11_add_52 : decode cX11_add 52 = .ok (.iconst 1, 1) := by decide +kernel
theorem dX11_add_53 : decode cX11_add 53 = .ok (.invokevirtual 233, 3) := by decide +kernel
theorem dX11_add_56 : decode cX11_add 56 = .ok (.aload_n 0, 1) := by decide +kernel
theorem dX11_add_57 : decode cX11_add 57 = .ok (.bipush 64, 2) := by decide +kernel
theorem dX11_add_59 : decode cX11_add 59 = .ok (.invokevirtual 246, 3) := by decide +kernel
theorem dX11_add_62 : decode cX11_add 62 = .ok (.ifCond .eq 10, 3) := by decide +kernel
theorem dX11_add_65 : decode cX11_add 65 = .ok (.aload_n 0, 1) := by decide +kernel
theorem dX11_add_66 : decode cX11_add 66 = .ok (.getfield 92, 3) := by decide +kernel
theorem dX11_add_69 : decode cX11_add 69 = .ok (.invokevirtual 249, 3) := by decide +kernel
theorem dX11_add_72 : decode cX11_add 72 = .ok (.iload_n 2, 1) := by decide +kernel
theorem dX11_add_73 : decode cX11_add 73 = .ok (.ifCond .ne 30, 3) := by decide +kernel
theorem dX11_add_76 : decode cX11_add 76 = .ok (.iload_n 1, 1) := by decide +kernel
theorem dX11_add_77 : decode cX11_add 77 = .ok (.i2l, 1) := by decide +kernel
theorem dX11_add_78 : decode cX11_add 78 = .ok (.aload_n 0, 1) := by decide +kernel
theorem dX11_add_79 : decode cX11_add 79 = .ok (.getfield 92, 3) := by decide +kernel
theorem dX11_add_82 : decode cX11_add 82 = .ok (.getfield 252, 3) := by decide +kernel
theorem dX11_add_85 : decode cX11_add 85 = .ok (.lmul, 1) := by decide +kernel
theorem dX11_add_86 : decode cX11_add 86 = .ok (.bipush 16, 2) := by decide +kernel
theorem dX11_add_88 : decode cX11_add 88 = .ok (.iload_n 1, 1) := by decide +kernel
theorem dX11_add_89 : decode cX11_add 89 = .ok (.isub, 1) := by decide +kernel
theorem dX11_add_90 : decode cX11_add 90 = .ok (.i2l, 1) := by decide +kernel
theorem dX11_add_91 : decode cX11_add 91 = .ok (.aload_n 0, 1) := by decide +kernel
theorem dX11_add_92 : decode cX11_add 92 = .ok (.getfield 53, 3) := by decide +kernel
theorem dX11_add_95 : decode cX11_add 95 = .ok (.iconst 0, 1) := by decide +kernel
theorem dX11_add_96 : decode cX11_add 96 = .ok (.iconst 0, 1) := by decide +kernel
theorem dX11_add_97 : decode cX11_add 97 = .ok (.invokevirtual 178, 3) := by decide +kernel
theorem dX11_add_100 : decode cX11_add 100 = .ok (.lmul, 1) := by decide +kernel
theorem dX11_add_101 : decode cX11_add 101 = .ok (.ladd, 1) := by decide +kernel
theorem dX11_add_102 : decode cX11_add 102 = .ok (.lreturn, 1) := by decide +kernel
theorem dX11_add_103 : decode cX11_add 103 = .ok (.iload_n 1, 1) := by decide +kernel
theorem dX11_add_104 : decode cX11_add 104 = .ok (.ifCond .ne 8, 3) := by decide +kernel
theorem dX11_add_107 : decode cX11_add 107 = .ok (.iload_n 2, 1) := by decide +kernel
theorem dX11_add_108 : decode cX11_add 108 = .ok (.iconst 1, 1) := by decide +kernel
theorem dX11_add_109 : decode cX11_add 109 = .ok (.isub, 1) := by decide +kernel
theorem dX11_add_110 : decode cX11_add 110 = .ok (.i2l, 1) := by decide +kernel
theorem dX11_add_111 : decode cX11_add 111 = .ok (.lreturn, 1) := by decide +kernel
theorem dX11_add_112 : decode cX11_add 112 = .ok (.iload_n 2, 1) := by decide +kernel
theorem dX11_add_113 : decode cX11_add 113 = .ok (.iconst 1, 1) := by decide +kernel
theorem dX11_add_114 : decode cX11_add 114 = .ok (.if_icmp .ne 14, 3) := by decide +kernel
theorem dX11_add_117 : decode cX11_add 117 = .ok (.aload_n 0, 1) := by decide +kernel
theorem dX11_add_118 : decode cX11_add 118 = .ok (.getfield 92, 3) := by decide +kernel
theorem dX11_add_121 : decode cX11_add 121 = .ok (.getfield 256, 3) := by decide +kernel
theorem dX11_add_124 : decode cX11_add 124 = .ok (.i2l, 1) := by decide +kernel
theorem dX11_add_125 : decode cX11_add 125 = .ok (.goto 11, 3) := by decide +kernel
theorem dX11_add_128 : decode cX11_add 128 = .ok (.aload_n 0, 1) := by decide +kernel
theorem dX11_add_129 : decode cX11_add 129 = .ok (.getfield 92, 3) := by decide +kernel
theorem dX11_add_132 : decode cX11_add 132 = .ok (.getfield 259, 3) := by decide +kernel
theorem dX11_add_135 : decode cX11_add 135 = .ok (.i2l, 1) := by decide +kernel
theorem dX11_add_136 : decode cX11_add 136 = .ok (.lreturn, 1) := by decide +kernel
abbrev o_X11_add : Type := Int64 × wd_W × Nat × Nat
def f_X11_add (S : wd_W) (p1 : Int32) (p2 : Int32) : Option o_X11_add :=
if p1 < 0 then (
some ((-1 : Int64), S, 0, 0)) else (
if (16 : Int32) < p1 then (
some ((-1 : Int64), S, 0, 0)) else (
if p2 < 0 then (
some ((-1 : Int64), S, 0, 0)) else (
if p2 ≤ (2 : Int32) then (
bd (f_X2_things_q16 (wd_o S [] [] [] [] [])) fun o1 =>
if (10 : Int32) < o1 then (
some ((-1 : Int64), S, 0, 0)) else (
if (S.1 1601) < (12 : Int32) then (
bd (f_X11_know (wd_o S [] [] [] [] []) (1 : Int32)) fun o2 =>
gd (okr (0 + o2.2.1) (0 + o2.2.2) 0 0 40 500000) <|
bd (f_X11_isNew (wd_o o2.1 [(7, (o2.1.1 7))] [] [] [] []) (64 : Int32)) fun o3 =>
lk (fun S5 n6 n7 =>
if p2 = 0 then (
gd (okr n6 n7 0 0 40 500000) <|
bd (f_X8_throughIn_q106 (wd_o S5 [] [] [] [] []) (0 : Int32) (0 : Int32)) fun o11 =>
some ((p1.toInt64 * (S5.2.1 14002)) + ((((16 : Int32) - p1).toInt64) * o11), S5, n6, n7)) else (
if p1 = 0 then (
some ((p2 - (1 : Int32)).toInt64, S5, n6, n7)) else (
if p2 = (1 : Int32) then (
some ((S5.1 14000).toInt64, S5, n6, n7)) else (
some ((S5.1 14001).toInt64, S5, n6, n7))))) fun k72_8 =>
if o3.1 = 0 then (
k72_8 (wd_o o2.1 [(7, o3.2)] [] [] [] []) (0 + o2.2.1) (0 + o2.2.2)) else (
gd (okr (0 + o2.2.1) (0 + o2.2.2) 1 5000 40 500000) <|
bd (f_X1_tryAll_q140 (wd_o o2.1 [(7, o3.2)] [] [] [] [])) fun o14 =>
k72_8 o14.1 (0 + o2.2.1 + o14.2.1) (0 + o2.2.2 + o14.2.2))) else (
some ((-1 : Int64), S, 0, 0)))) else (
some ((-1 : Int64), S, 0, 0)))))
set_option maxRecDepth 100000 in
set_option maxHeartbeats 4000000 in
theorem c_X11_add (l : Launch) (D : va_G) (q g : Nat → Nat) (cy : Nat → ClassId) (z : (Nat → Nat) × (Nat → Nat) × Nat) (S : wd_W) (p1 : Int32) (p2 : Int32) (o : o_X11_add) (hf : f_X11_add S p1 p2 = some o) : MX layX l yX11_add cX11_add 3 (some .long) ({ frames := 5, cells := 40, slots := 500000, locals := 151 } : Room) D q g cy z [.ref (q 0), .int p1, .int p2] S true (some (.long o.1)) o.2.1 o.2.2.1 o.2.2.2 := by
  refine mx_of (own := RX11) (lc := [(0, .ref (q 0)), (1, .int p1), (2, .int p2)]) (by decide +kernel) rfl layX_ok (Nat.le_of_ble_eq_true rfl) rfl ?_
  intro X hXl hXq hXz hC hQ
  subst hXl; subst hXq; subst hXz
  unfold f_X11_add at hf
  refine go_iload_n (pc' := 1) hC dX11_add_0 rfl rfl ?_
  refine go_if_lt (tgt := 19) (pc' := 4) hC dX11_add_1 (by decide) rfl (fun h22 => ?_) (fun h22 => ?_)
  · have hf := ite_t h22 hf
    refine go_ldc2 (pc' := 22) hC dX11_add_19 mw_909 rfl ?_
    obtain rfl := Option.some.inj hf
    exact go_lret hC hQ dX11_add_22 rfl rfl rfl (fun h => nomatch h) rfl rfl
  · have hf := ite_f h22 hf
    refine go_iload_n (pc' := 5) hC dX11_add_4 rfl rfl ?_
    refine go_bipush (pc' := 7) hC dX11_add_5 kb_16 rfl ?_
    refine go_icmp_gt (tgt := 19) (pc' := 10) hC dX11_add_7 (by decide) rfl (fun h21 => ?_) (fun h21 => ?_)
    · have hf := ite_t h21 hf
      refine go_ldc2 (pc' := 22) hC dX11_add_19 mw_909 rfl ?_
      obtain rfl := Option.some.inj hf
      exact go_lret hC hQ dX11_add_22 rfl rfl rfl (fun h => nomatch h) rfl rfl
    · have hf := ite_f h21 hf
      refine go_iload_n (pc' := 11) hC dX11_add_10 rfl rfl ?_
      refine go_if_lt (tgt := 19) (pc' := 14) hC dX11_add_11 (by decide) rfl (fun h20 => ?_) (fun h20 => ?_)
      · have hf := ite_t h20 hf
        refine go_ldc2 (pc' := 22) hC dX11_add_19 mw_909 rfl ?_
        obtain rfl := Option.some.inj hf
        exact go_lret hC hQ dX11_add_22 rfl rfl rfl (fun h => nomatch h) rfl rfl
      · have hf := ite_f h20 hf
        refine go_iload_n (pc' := 15) hC dX11_add_14 rfl rfl ?_
        refine go_iconst (pc' := 16) hC dX11_add_15 ki_2 rfl ?_
        refine go_icmp_le (tgt := 23) (pc' := 19) hC dX11_add_16 (by decide) rfl (fun h19 => ?_) (fun h19 => ?_)
        · have hf := ite_t h19 hf
          refine go_aload_n (pc' := 24) hC dX11_add_23 rfl rfl ?_
          refine go_getq (pc' := 27) hC 0 2 layX_0 rfl rfl inlX11 (Nat.le_of_ble_eq_true rfl) mw_20 rfl dX11_add_24 rfl ?_
          obtain ⟨o1, ho1, hf⟩ := bd_e hf
          refine go_callV0 (pc' := 30) (As := []) (st := []) (st' := [.int o1])   (b := 16) hC dX11_add_27 ⟨mw_484, mw_418, mw_14, yd_yX2_things, yp_yX2_things, Nat.le_of_ble_eq_true rfl, Nat.le_of_ble_eq_true rfl, (Nat.le_of_ble_eq_true rfl), (Nat.le_of_ble_eq_true rfl)⟩ mw_416 mw_417 layX_16 rfl rfl rfl (Nat.le_of_ble_eq_true rfl) (c_X2_things_q16 (x_l X) (x_D X) (x_q X) g (x_cy X) (x_z X) _  o1 ho1) rfl rfl ?_
          refine go_bipush (pc' := 32) hC dX11_add_30 kb_10 rfl ?_
          refine go_icmp_gt (tgt := 47) (pc' := 35) hC dX11_add_32 (by decide) rfl (fun h18 => ?_) (fun h18 => ?_)
          · have hf := ite_t h18 hf
            refine go_ldc2 (pc' := 50) hC dX11_add_47 mw_909 rfl ?_
            obtain rfl := Option.some.inj hf
            exact go_lret hC hQ dX11_add_50 rfl rfl rfl (fun h => nomatch h) rfl rfl
          · have hf := ite_f h18 hf
            refine go_aload_n (pc' := 36) hC dX11_add_35 rfl rfl ?_
            refine go_getq (pc' := 39) hC 0 2 layX_0 rfl rfl inlX11 (Nat.le_of_ble_eq_true rfl) mw_20 rfl dX11_add_36 rfl ?_
            refine go_geti (v := (S.1 1601)) (pc' := 42) hC 16 1 layX_16 rfl rfl inlX2 (Nat.le_of_ble_eq_true rfl) mw_562 rfl dX11_add_39 rfl rfl ?_
            refine go_bipush (pc' := 44) hC dX11_add_42 kb_12 rfl ?_
            refine go_icmp_lt (tgt := 51) (pc' := 47) hC dX11_add_44 (by decide) rfl (fun h17 => ?_) (fun h17 => ?_)
            · have hf := ite_t h17 hf
              refine go_aload_n (pc' := 52) hC dX11_add_51 rfl rfl ?_
              refine go_iconst (pc' := 53) hC dX11_add_52 ki_1 rfl ?_
              obtain ⟨o2, ho2, hf⟩ := bd_e hf
              refine go_callVw (pc' := 56) (As := [.int (1 : Int32)]) (st := []) (st' := [])  (cells' := 0 + o2.2.1) (slots' := 0 + o2.2.2) (b := 0) hC dX11_add_53 ⟨mw_597, mw_600, mw_2, yd_yX11_know, yp_yX11_know, Nat.le_of_ble_eq_true rfl, Nat.le_of_ble_eq_true rfl, (Nat.le_of_ble_eq_true rfl), (Nat.le_of_ble_eq_true rfl)⟩ mw_598 mw_599 layX_0 rfl rfl rfl (Nat.le_of_ble_eq_true rfl) (c_X11_know (x_l X) (x_D X) (x_q X) g (x_cy X) (x_z X) _ (1 : Int32) o2 ho2) rfl rfl rfl rfl (fun g _ => ?_)
              refine go_aload_n (pc' := 57) hC dX11_add_56 rfl rfl ?_
              refine go_bipush (pc' := 59) hC dX11_add_57 kb_64 rfl ?_
              refine go_keys (L1 := [(7, (o2.1.1 7))]) (L2 := []) (L3 := []) (L4 := []) (L5 := []) [7] [] [] [] [] rfl rfl rfl rfl rfl ?_
              obtain ⟨h4, hf⟩ := gd_e hf
              obtain ⟨o3, ho3, hf⟩ := bd_e hf
              refine go_callV1 (pc' := 62) (As := [.int (64 : Int32)]) (st := []) (st' := [.int o3.1]) (L1' := [(7, o3.2)]) (L2' := []) (L3' := []) (L4' := []) (L5' := []) (cells' := 0 + o2.2.1) (slots' := 0 + o2.2.2) (b := 0) hC dX11_add_59 ⟨mw_601, mw_604, mw_2, yd_yX11_isNew, yp_yX11_isNew, Nat.le_of_ble_eq_true rfl, Nat.le_of_ble_eq_true rfl, (okr_c h4), (okr_s h4)⟩ mw_602 mw_603 layX_0 rfl rfl rfl (Nat.le_of_ble_eq_true rfl) (c_X11_isNew (x_l X) (x_D X) (x_q X) g (x_cy X) (x_z X) _ (64 : Int32) o3 ho3) rfl rfl rfl rfl rfl rfl rfl rfl rfl rfl rfl rfl rfl rfl ?_
              obtain ⟨k72_8, hk72_8, hf⟩ := lk_e3 hf
              have jk72_8 : ∀ (S5 : wd_W) (n6 : Nat) (n7 : Nat) (g : Nat → Nat), k72_8 S5 n6 n7 = some o → Go X layX S5 72 [(0, .ref (x_q X 0)), (1, .int p1), (2, .int p2)] [] g [] [] [] [] [] n6 n7 := by
                intro S5 n6 n7 g hf
                have hf := hk72_8 S5 n6 n7 hf
                clear hk72_8
                refine go_iload_n (pc' := 73) hC dX11_add_72 rfl rfl ?_
                refine go_if_ne (tgt := 103) (pc' := 76) hC dX11_add_73 (by decide) rfl (fun h13 => ?_) (fun h13 => ?_)
                · have hf := ite_f h13 hf
                  refine go_iload_n (pc' := 104) hC dX11_add_103 rfl rfl ?_
                  refine go_if_ne (tgt := 112) (pc' := 107) hC dX11_add_104 (by decide) rfl (fun h10 => ?_) (fun h10 => ?_)
                  · have hf := ite_f h10 hf
                    refine go_iload_n (pc' := 113) hC dX11_add_112 rfl rfl ?_
                    refine go_iconst (pc' := 114) hC dX11_add_113 ki_1 rfl ?_
                    refine go_icmp_ne (tgt := 128) (pc' := 117) hC dX11_add_114 (by decide) rfl (fun h9 => ?_) (fun h9 => ?_)
                    · have hf := ite_f h9 hf
                      refine go_aload_n (pc' := 129) hC dX11_add_128 rfl rfl ?_
                      refine go_getq (pc' := 132) hC 0 15 layX_0 rfl rfl inlX11 (Nat.le_of_ble_eq_true rfl) mw_49 rfl dX11_add_129 rfl ?_
                      refine go_geti (v := (S5.1 14001)) (pc' := 135) hC 140 1 layX_140 rfl rfl inlX1 (Nat.le_of_ble_eq_true rfl) mw_1137 rfl dX11_add_132 rfl rfl ?_
                      refine go_i2l (pc' := 136) hC dX11_add_135 rfl ?_
                      obtain rfl := Option.some.inj hf
                      exact go_lret hC hQ dX11_add_136 rfl rfl rfl (fun h => nomatch h) rfl rfl
                    · have hf := ite_t h9 hf
                      refine go_aload_n (pc' := 118) hC dX11_add_117 rfl rfl ?_
                      refine go_getq (pc' := 121) hC 0 15 layX_0 rfl rfl inlX11 (Nat.le_of_ble_eq_true rfl) mw_49 rfl dX11_add_118 rfl ?_
                      refine go_geti (v := (S5.1 14000)) (pc' := 124) hC 140 0 layX_140 rfl rfl inlX1 (Nat.le_of_ble_eq_true rfl) mw_1136 rfl dX11_add_121 rfl rfl ?_
                      refine go_i2l (pc' := 125) hC dX11_add_124 rfl ?_
                      refine go_goto (tgt := 136) hC dX11_add_125 (by decide) ?_
                      obtain rfl := Option.some.inj hf
                      exact go_lret hC hQ dX11_add_136 rfl rfl rfl (fun h => nomatch h) rfl rfl
                  · have hf := ite_t h10 hf
                    refine go_iload_n (pc' := 108) hC dX11_add_107 rfl rfl ?_
                    refine go_iconst (pc' := 109) hC dX11_add_108 ki_1 rfl ?_
                    refine go_isub (pc' := 110) hC dX11_add_109 rfl ?_
                    refine go_i2l (pc' := 111) hC dX11_add_110 rfl ?_
                    obtain rfl := Option.some.inj hf
                    exact go_lret hC hQ dX11_add_111 rfl rfl rfl (fun h => nomatch h) rfl rfl
                · have hf := ite_t h13 hf
                  refine go_iload_n (pc' := 77) hC dX11_add_76 rfl rfl ?_
                  refine go_i2l (pc' := 78) hC dX11_add_77 rfl ?_
                  refine go_aload_n (pc' := 79) hC dX11_add_78 rfl rfl ?_
                  refine go_getq (pc' := 82) hC 0 15 layX_0 rfl rfl inlX11 (Nat.le_of_ble_eq_true rfl) mw_49 rfl dX11_add_79 rfl ?_
                  refine go_getl (v := (S5.2.1 14002)) (pc' := 85) hC 140 2 layX_140 rfl rfl inlX1 (Nat.le_of_ble_eq_true rfl) mw_1135 rfl dX11_add_82 rfl rfl ?_
                  refine go_lmul (pc' := 86) hC dX11_add_85 rfl ?_
                  refine go_bipush (pc' := 88) hC dX11_add_86 kb_16 rfl ?_
                  refine go_iload_n (pc' := 89) hC dX11_add_88 rfl rfl ?_
                  refine go_isub (pc' := 90) hC dX11_add_89 rfl ?_
                  refine go_i2l (pc' := 91) hC dX11_add_90 rfl ?_
                  refine go_aload_n (pc' := 92) hC dX11_add_91 rfl rfl ?_
                  refine go_getq (pc' := 95) hC 0 10 layX_0 rfl rfl inlX11 (Nat.le_of_ble_eq_true rfl) mw_32 rfl dX11_add_92 rfl ?_
                  refine go_iconst (pc' := 96) hC dX11_add_95 ki_0 rfl ?_
                  refine go_iconst (pc' := 97) hC dX11_add_96 ki_0 rfl ?_
                  obtain ⟨h12, hf⟩ := gd_e hf
                  obtain ⟨o11, ho11, hf⟩ := bd_e hf
                  refine go_callV0 (pc' := 100) (As := [.int (0 : Int32), .int (0 : Int32)]) (st := [.long (((16 : Int32) - p1).toInt64), .long (p1.toInt64 * (S5.2.1 14002))]) (st' := [.long o11, .long (((16 : Int32) - p1).toInt64), .long (p1.toInt64 * (S5.2.1 14002))])   (b := 106) hC dX11_add_97 ⟨mw_910, mw_913, mw_31, yd_yX8_throughIn, yp_yX8_throughIn, Nat.le_of_ble_eq_true rfl, Nat.le_of_ble_eq_true rfl, (okr_c h12), (okr_s h12)⟩ mw_911 mw_912 layX_106 rfl rfl rfl (Nat.le_of_ble_eq_true rfl) (c_X8_throughIn_q106 (x_l X) (x_D X) (x_q X) g (x_cy X) (x_z X) _ (0 : Int32) (0 : Int32) o11 ho11) rfl rfl ?_
                  refine go_lmul (pc' := 101) hC dX11_add_100 rfl ?_
                  refine go_ladd (pc' := 102) hC dX11_add_101 rfl ?_
                  obtain rfl := Option.some.inj hf
                  exact go_lret hC hQ dX11_add_102 rfl rfl rfl (fun h => nomatch h) rfl rfl
              clear hk72_8
              refine go_if_eq (tgt := 72) (pc' := 65) hC dX11_add_62 (by decide) rfl (fun h16 => ?_) (fun h16 => ?_)
              · have hf := ite_t h16 hf
                refine go_base (fun S9 hS9 => ?_)
                subst hS9
                exact jk72_8 (wd_o o2.1 [(7, o3.2)] [] [] [] []) (0 + o2.2.1) (0 + o2.2.2) g hf
              · have hf := ite_f h16 hf
                refine go_aload_n (pc' := 66) hC dX11_add_65 rfl rfl ?_
                refine go_getq (pc' := 69) hC 0 15 layX_0 rfl rfl inlX11 (Nat.le_of_ble_eq_true rfl) mw_49 rfl dX11_add_66 rfl ?_
                obtain ⟨h15, hf⟩ := gd_e hf
                obtain ⟨o14, ho14, hf⟩ := bd_e hf
                refine go_callVw (pc' := 72) (As := []) (st := []) (st' := [])  (cells' := 0 + o2.2.1 + o14.2.1) (slots' := 0 + o2.2.2 + o14.2.2) (b := 140) hC dX11_add_69 ⟨mw_1138, mw_1141, mw_48, yd_yX1_tryAll, yp_yX1_tryAll, Nat.le_of_ble_eq_true rfl, Nat.le_of_ble_eq_true rfl, (okr_c h15), (okr_s h15)⟩ mw_1139 mw_1140 layX_140 rfl rfl rfl (Nat.le_of_ble_eq_true rfl) (c_X1_tryAll_q140 (x_l X) (x_D X) (x_q X) g (x_cy X) (x_z X) _  o14 ho14) rfl rfl rfl rfl (fun g _ => ?_)
                exact jk72_8 o14.1 (0 + o2.2.1 + o14.2.1) (0 + o2.2.2 + o14.2.2) g hf
            · have hf := ite_f h17 hf
              refine go_ldc2 (pc' := 50) hC dX11_add_47 mw_909 rfl ?_
              obtain rfl := Option.some.inj hf
              exact go_lret hC hQ dX11_add_50 rfl rfl rfl (fun h => nomatch h) rfl rfl
        · have hf := ite_f h19 hf
          refine go_ldc2 (pc' := 22) hC dX11_add_19 mw_909 rfl ?_
          obtain rfl := Option.some.inj hf
          exact go_lret hC hQ dX11_add_22 rfl rfl rfl (fun h => nomatch h) rfl rfl
theorem dX0_lengthOf_0 : decode cX0_lengthOf 0 = .ok (.iconst 0, 1) := by decide +kernel
theorem dX0_lengthOf_1 : decode cX0_lengthOf 1 = .ok (.istore_n 2, 1) := by decide +kernel
theorem dX0_lengthOf_2 : decode cX0_lengthOf 2 = .ok (.iconst 0, 1) := by decide +kernel
theorem dX0_lengthOf_3 : decode cX0_lengthOf 3 = .ok (.istore_n 3, 1) := by decide +kernel
theorem dX0_lengthOf_4 : decode cX0_lengthOf 4 = .ok (.iload_n 3, 1) := by decide +kernel
theorem dX0_lengthOf_5 : decode cX0_lengthOf 5 = .ok (.aload_n 0, 1) := by decide +kernel
theorem dX0_lengthOf_6 : decode cX0_lengthOf 6 = .ok (.getfield 45, 3) := by decide +kernel
theorem dX0_lengthOf_9 : decode cX0_lengthOf 9 = .ok (.if_icmp .ge 27, 3) := by decide +kernel
theorem dX0_lengthOf_12 : decode cX0_lengthOf 12 = .ok (.iload_n 2, 1) := by decide +kernel
theorem dX0_lengthOf_13 : decode cX0_lengthOf 13 = .ok (.iload_n 1, 1) := by decide +kernel
theorem dX0_lengthOf_14 : decode cX0_lengthOf 14 = .ok (.iload_n 3, 1) := by decide +kernel
theorem dX0_lengthOf_15 : decode cX0_lengthOf 15 = .ok (.ishr, 1) := by decide +kernel
theorem dX0_lengthOf_16 : decode cX0_lengthOf 16 = .ok (.iconst 1, 1) := by decide +kernel
theorem dX0_lengthOf_17 : decode cX0_lengthOf 17 = .ok (.iand, 1) := by decide +kernel
theorem dX0_lengthOf_18 : decode cX0_lengthOf 18 = .ok (.aload_n 0, 1) := by decide +kernel
theorem dX0_lengthOf_19 : decode cX0_lengthOf 19 = .ok (.getfield 27, 3) := by decide +kernel
theorem dX0_lengthOf_22 : decode cX0_lengthOf 22 = .ok (.getfield 102, 3) := by decide +kernel
theorem dX0_lengthOf_25 : decode cX0_lengthOf 25 = .ok (.iload_n 3, 1) := by decide +kernel
theorem dX0_lengthOf_26 : decode cX0_lengthOf 26 = .ok (.iaload, 1) := by decide +kernel
theorem dX0_lengthOf_27 : decode cX0_lengthOf 27 = .ok (.imul, 1) := by decide +kernel
theorem dX0_lengthOf_28 : decode cX0_lengthOf 28 = .ok (.iadd, 1) := by decide +kernel
theorem dX0_lengthOf_29 : decode cX0_lengthOf 29 = .ok (.istore_n 2, 1) := by decide +kernel
theorem dX0_lengthOf_30 : decode cX0_lengthOf 30 = .ok (.iinc 3 1, 3) := by decide +kernel
theorem dX0_lengthOf_33 : decode cX0_lengthOf 33 = .ok (.goto (-29), 3) := by decide +kernel
theorem dX0_lengthOf_36 : decode cX0_lengthOf 36 = .ok (.iload_n 2, 1) := by decide +kernel
theorem dX0_lengthOf_37 : decode cX0_lengthOf 37 = .ok (.ireturn, 1) := by decide +kernel
abbrev o_X0_lengthOf_q131 : Type := Int32
def f_X0_lengthOf_q131_L4 (S : wd_W) (p1 : Int32) (r3 : (Int32) → (Int32) → (Option o_X0_lengthOf_q131)) (x1 : Int32) (x2 : Int32) : Option o_X0_lengthOf_q131 :=
if (S.1 13105) ≤ x2 then (
some x1) else (
gd (okx x2 13) <|
lz (x1 + (((p1 >>> (x2 &&& 31)) &&& (1 : Int32)) * ((S.2.2.1 21) x2.toNatClampNeg))) fun x5 =>
r3 x5 (x2 + (1 : Int32)))
def f_X0_lengthOf_q131 (S : wd_W) (p1 : Int32) : Option o_X0_lengthOf_q131 :=
it2 (f_X0_lengthOf_q131_L4 S p1) fuel (0 : Int32) (0 : Int32)
set_option maxRecDepth 100000 in
set_option maxHeartbeats 4000000 in
theorem c_X0_lengthOf_q131 (l : Launch) (D : va_G) (q g : Nat → Nat) (cy : Nat → ClassId) (z : (Nat → Nat) × (Nat → Nat) × Nat) (S : wd_W) (p1 : Int32) (o : o_X0_lengthOf_q131) (hf : f_X0_lengthOf_q131 S p1 = some o) : MX layX l yX0_lengthOf cX0_lengthOf 4 (some .int) ({ frames := 0, cells := 0, slots := 0, locals := 0 } : Room) D q g cy z [.ref (q 131), .int p1] S false (some (.int o)) (wd_o S [] [] [] [] []) 0 0 := by
  refine mx_of (own := RX0) (lc := [(0, .ref (q 131)), (1, .int p1)]) (by decide +kernel) rfl layX_ok (Nat.le_of_ble_eq_true rfl) rfl ?_
  intro X hXl hXq hXz hC hQ
  subst hXl; subst hXq; subst hXz
  unfold f_X0_lengthOf_q131 at hf
  refine go_iconst (pc' := 1) hC dX0_lengthOf_0 ki_0 rfl ?_
  refine go_istore_n (lc' := [(0, .ref (x_q X 131)), (1, .int p1), (2, .int (0 : Int32))]) (pc' := 2) hC dX0_lengthOf_1 (Nat.le_of_ble_eq_true rfl) rfl rfl ?_
  refine go_iconst (pc' := 3) hC dX0_lengthOf_2 ki_0 rfl ?_
  refine go_istore_n (lc' := [(0, .ref (x_q X 131)), (1, .int p1), (2, .int (0 : Int32)), (3, .int (0 : Int32))]) (pc' := 4) hC dX0_lengthOf_3 (Nat.le_of_ble_eq_true rfl) rfl rfl ?_
  have l4_7 : ∀ (nn : Nat) (x1 : Int32) (x2 : Int32), it2 (f_X0_lengthOf_q131_L4 S p1) nn x1 x2 = some o → Go X layX S 4 [(0, .ref (x_q X 131)), (1, .int p1), (2, .int x1), (3, .int x2)] [] g [] [] [] [] [] 0 0 := by
    intro nn
    induction nn with
    | zero =>
      intro x1 x2 hf
      exact none_no hf
    | succ nn ih =>
      intro x1 x2 hf
      have hf : f_X0_lengthOf_q131_L4 S p1 (it2 (f_X0_lengthOf_q131_L4 S p1) nn) x1 x2 = some o := hf
      generalize it2 (f_X0_lengthOf_q131_L4 S p1) nn = r3 at ih hf
      unfold f_X0_lengthOf_q131_L4 at hf
      refine go_iload_n (pc' := 5) hC dX0_lengthOf_4 rfl rfl ?_
      refine go_aload_n (pc' := 6) hC dX0_lengthOf_5 rfl rfl ?_
      refine go_geti (v := (S.1 13105)) (pc' := 9) hC 131 5 layX_131 rfl rfl inlX0 (Nat.le_of_ble_eq_true rfl) mw_766 rfl dX0_lengthOf_6 rfl rfl ?_
      refine go_icmp_ge (tgt := 36) (pc' := 12) hC dX0_lengthOf_9 (by decide) rfl (fun h6 => ?_) (fun h6 => ?_)
      · have hf := ite_t h6 hf
        refine go_iload_n (pc' := 37) hC dX0_lengthOf_36 rfl rfl ?_
        obtain rfl := Option.some.inj hf
        exact go_iret hC hQ dX0_lengthOf_37 rfl rfl rfl rfl (fun _ => rfl) rfl rfl
      · have hf := ite_f h6 hf
        refine go_iload_n (pc' := 13) hC dX0_lengthOf_12 rfl rfl ?_
        refine go_iload_n (pc' := 14) hC dX0_lengthOf_13 rfl rfl ?_
        refine go_iload_n (pc' := 15) hC dX0_lengthOf_14 rfl rfl ?_
        refine go_ishr (pc' := 16) hC dX0_lengthOf_15 rfl ?_
        refine go_iconst (pc' := 17) hC dX0_lengthOf_16 ki_1 rfl ?_
        refine go_iand (pc' := 18) hC dX0_lengthOf_17 rfl ?_
        refine go_aload_n (pc' := 19) hC dX0_lengthOf_18 rfl rfl ?_
        refine go_getq (pc' := 22) hC 131 2 layX_131 rfl rfl inlX0 (Nat.le_of_ble_eq_true rfl) mw_144 rfl dX0_lengthOf_19 rfl ?_
        refine go_getq (pc' := 25) hC 16 6 layX_16 rfl rfl inlX2 (Nat.le_of_ble_eq_true rfl) mw_1191 rfl dX0_lengthOf_22 rfl ?_
        refine go_iload_n (pc' := 26) hC dX0_lengthOf_25 rfl rfl ?_
        obtain ⟨h4, hf⟩ := gd_e hf
        refine go_iald (f := (S.2.2.1 21)) (pc' := 27) hC 21 layX_21 rfl rfl dX0_lengthOf_26 (okx_in h4) rfl ?_
        refine go_imul (pc' := 28) hC dX0_lengthOf_27 rfl ?_
        refine go_iadd (pc' := 29) hC dX0_lengthOf_28 rfl ?_
        refine go_namei (fun x5 hx => ?_)
        have hf := lz_r hx hf
        clear hx
        refine go_istore_n (lc' := [(0, .ref (x_q X 131)), (1, .int p1), (2, .int x5), (3, .int x2)]) (pc' := 30) hC dX0_lengthOf_29 (Nat.le_of_ble_eq_true rfl) rfl rfl ?_
        refine go_iinc (lc' := [(0, .ref (x_q X 131)), (1, .int p1), (2, .int x5), (3, .int (x2 + (1 : Int32)))]) (pc' := 33) hC dX0_lengthOf_30 rfl ki_1 (Nat.le_of_ble_eq_true rfl) rfl rfl ?_
        refine go_goto (tgt := 4) hC dX0_lengthOf_33 (by decide) ?_
        exact ih x5 (x2 + (1 : Int32)) hf
  exact l4_7 fuel (0 : Int32) (0 : Int32) hf
theorem dX8_isSixteenths_0 : decode cX8_isSixteenths 0 = .ok (.iload_n 3, 1) := by decide +kernel
theorem dX8_isSixteenths_1 : decode cX8_isSixteenths 1 = .ok (.ifCond .ne 20, 3) := by decide +kernel
theorem dX8_isSixteenths_4 : decode cX8_isSixteenths 4 = .ok (.lload_n 0, 1) := by decide +kernel
theorem dX8_isSixteenths_5 : decode cX8_isSixteenths 5 = .ok (.ldc2_w 47, 3) := by decide +kernel
theorem dX8_isSixteenths_8 : decode cX8_isSixteenths 8 = .ok (.lmul, 1) := by decide +kernel
theorem dX8_isSixteenths_9 : decode cX8_isSixteenths 9 = .ok (.iload_n 2, 1) := by decide +kernel
theorem dX8_isSixteenths_10 : decode cX8_isSixteenths 10 = .ok (.i2l, 1) := by decide +kernel
theorem dX8_isSixteenths_11 : decode cX8_isSixteenths 11 = .ok (.lcmp, 1) := by decide +kernel
theorem dX8_isSixteenths_12 : decode cX8_isSixteenths 12 = .ok (.ifCond .lt 7, 3) := by decide +kernel
theorem dX8_isSixteenths_15 : decode cX8_isSixteenths 15 = .ok (.iconst 1, 1) := by decide +kernel
theorem dX8_isSixteenths_16 : decode cX8_isSixteenths 16 = .ok (.goto 4, 3) := by decide +kernel
theorem dX8_isSixteenths_19 : decode cX8_isSixteenths 19 = .ok (.iconst 0, 1) := by decide +kernel
theorem dX8_isSixteenths_20 : decode cX8_isSixteenths 20 = .ok (.ireturn, 1) := by decide +kernel
theorem dX8_isSixteenths_21 : decode cX8_isSixteenths 21 = .ok (.lload_n 0, 1) := by decide +kernel
theorem dX8_isSixteenths_22 : decode cX8_isSixteenths 22 = .ok (.iload_n 2, 1) := by decide +kernel
theorem dX8_isSixteenths_23 : decode cX8_isSixteenths 23 = .ok (.i2l, 1) := by decide +kernel
theorem dX8_isSixteenths_24 : decode cX8_isSixteenths 24 = .ok (.iload_n 3, 1) := by decide +kernel
theorem dX8_isSixteenths_25 : decode cX8_isSixteenths 25 = .ok (.iconst 1, 1) := by decide +kernel
theorem dX8_isSixteenths_26 : decode cX8_isSixteenths 26 = .ok (.isub, 1) := by decide +kernel
theorem dX8_isSixteenths_27 : decode cX8_isSixteenths 27 = .ok (.invokestatic 49, 3) := by decide +kernel
theorem dX8_isSixteenths_30 : decode cX8_isSixteenths 30 = .ok (.lmul, 1) := by decide +kernel
theorem dX8_isSixteenths_31 : decode cX8_isSixteenths 31 = .ok (.lcmp, 1) := by decide +kernel
theorem dX8_isSixteenths_32 : decode cX8_isSixteenths 32 = .ok (.ifCond .lt 7, 3) := by decide +kernel
theorem dX8_isSixteenths_35 : decode cX8_isSixteenths 35 = .ok (.iconst 1, 1) := by decide +kernel
theorem dX8_isSixteenths_36 : decode cX8_isSixteenths 36 = .ok (.goto 4, 3) := by decide +kernel
theorem dX8_isSixteenths_39 : decode cX8_isSixteenths 39 = .ok (.iconst 0, 1) := by decide +kernel
theorem dX8_isSixteenths_40 : decode cX8_isSixteenths 40 = .ok (.ireturn, 1) := by decide +kernel
abbrev o_X8_isSixteenths : Type := Int32
def f_X8_isSixteenths (p1 : Int64) (p2 : Int32) (p3 : Int32) : Option o_X8_isSixteenths :=
if p3 = 0 then (
if (p1 * (16 : Int64)) < p2.toInt64 then (
some (0 : Int32)) else (
some (1 : Int32))) else (
bd (f_X8_power (p3 - (1 : Int32))) fun o1 =>
if p1 < (p2.toInt64 * o1) then (
some (0 : Int32)) else (
some (1 : Int32)))
set_option maxRecDepth 100000 in
set_option maxHeartbeats 4000000 in
theorem c_X8_isSixteenths (l : Launch) (D : va_G) (q g : Nat → Nat) (cy : Nat → ClassId) (z : (Nat → Nat) × (Nat → Nat) × Nat) (S : wd_W) (p1 : Int64) (p2 : Int32) (p3 : Int32) (o : o_X8_isSixteenths) (hf : f_X8_isSixteenths p1 p2 p3 = some o) : MX layX l yX8_isSixteenths cX8_isSixteenths 4 (some .boolean) ({ frames := 1, cells := 0, slots := 0, locals := 20 } : Room) D q g cy z [.long p1, .int p2, .int p3] S false (some (.int o)) (wd_o S [] [] [] [] []) 0 0 := by
  refine mx_of (own := RX8) (lc := [(0, .long p1), (2, .int p2), (3, .int p3)]) (by decide +kernel) rfl layX_ok (Nat.le_of_ble_eq_true rfl) rfl ?_
  intro X hXl hXq hXz hC hQ
  subst hXl; subst hXq; subst hXz
  unfold f_X8_isSixteenths at hf
  refine go_iload_n (pc' := 1) hC dX8_isSixteenths_0 rfl rfl ?_
  refine go_if_ne (tgt := 21) (pc' := 4) hC dX8_isSixteenths_1 (by decide) rfl (fun h4 => ?_) (fun h4 => ?_)
  · have hf := ite_f h4 hf
    refine go_lload_n (pc' := 22) hC dX8_isSixteenths_21 rfl rfl ?_
    refine go_iload_n (pc' := 23) hC dX8_isSixteenths_22 rfl rfl ?_
    refine go_i2l (pc' := 24) hC dX8_isSixteenths_23 rfl ?_
    refine go_iload_n (pc' := 25) hC dX8_isSixteenths_24 rfl rfl ?_
    refine go_iconst (pc' := 26) hC dX8_isSixteenths_25 ki_1 rfl ?_
    refine go_isub (pc' := 27) hC dX8_isSixteenths_26 rfl ?_
    obtain ⟨o1, ho1, hf⟩ := bd_e hf
    refine go_callS0 (pc' := 30) (As := [.int (p3 - (1 : Int32))]) (st := [.long p2.toInt64, .long p1]) (st' := [.long o1, .long p2.toInt64, .long p1])   hC dX8_isSixteenths_27 ⟨mw_1196, mw_917, mw_31, yd_yX8_power, yp_yX8_power, Nat.le_of_ble_eq_true rfl, Nat.le_of_ble_eq_true rfl, (Nat.le_of_ble_eq_true rfl), (Nat.le_of_ble_eq_true rfl)⟩ mw_916 rfl rfl (Nat.le_of_ble_eq_true rfl) (c_X8_power (x_l X) (x_D X) (x_q X) g (x_cy X) (x_z X) _ (p3 - (1 : Int32)) o1 ho1) rfl rfl ?_
    refine go_lmul (pc' := 31) hC dX8_isSixteenths_30 rfl ?_
    refine go_lcmp (pc' := 32) hC dX8_isSixteenths_31 rfl ?_
    refine go_if_lt (tgt := 39) (pc' := 35) hC dX8_isSixteenths_32 (by decide) rfl (fun h2 => ?_) (fun h2 => ?_)
    · have hf := ite_t (lg_lt.mp h2) hf
      refine go_iconst (pc' := 40) hC dX8_isSixteenths_39 ki_0 rfl ?_
      obtain rfl := Option.some.inj hf
      exact go_iret hC hQ dX8_isSixteenths_40 rfl rfl rfl rfl (fun _ => rfl) rfl rfl
    · have hf := ite_f (mt lg_lt.mpr h2) hf
      refine go_iconst (pc' := 36) hC dX8_isSixteenths_35 ki_1 rfl ?_
      refine go_goto (tgt := 40) hC dX8_isSixteenths_36 (by decide) ?_
      obtain rfl := Option.some.inj hf
      exact go_iret hC hQ dX8_isSixteenths_40 rfl rfl rfl rfl (fun _ => rfl) rfl rfl
  · have hf := ite_t h4 hf
    refine go_lload_n (pc' := 5) hC dX8_isSixteenths_4 rfl rfl ?_
    refine go_ldc2 (pc' := 8) hC dX8_isSixteenths_5 mw_951 rfl ?_
    refine go_lmul (pc' := 9) hC dX8_isSixteenths_8 rfl ?_
    refine go_iload_n (pc' := 10) hC dX8_isSixteenths_9 rfl rfl ?_
    refine go_i2l (pc' := 11) hC dX8_isSixteenths_10 rfl ?_
    refine go_lcmp (pc' := 12) hC dX8_isSixteenths_11 rfl ?_
    refine go_if_lt (tgt := 19) (pc' := 15) hC dX8_isSixteenths_12 (by decide) rfl (fun h3 => ?_) (fun h3 => ?_)
    · have hf := ite_t (lg_lt.mp h3) hf
      refine go_iconst (pc' := 20) hC dX8_isSixteenths_19 ki_0 rfl ?_
      obtain rfl := Option.some.inj hf
      exact go_iret hC hQ dX8_isSixteenths_20 rfl rfl rfl rfl (fun _ => rfl) rfl rfl
    · have hf := ite_f (mt lg_lt.mpr h3) hf
      refine go_iconst (pc' := 16) hC dX8_isSixteenths_15 ki_1 rfl ?_
      refine go_goto (tgt := 20) hC dX8_isSixteenths_16 (by decide) ?_
      obtain rfl := Option.some.inj hf
      exact go_iret hC hQ dX8_isSixteenths_20 rfl rfl rfl rfl (fun _ => rfl) rfl rfl
theorem dX0_shortest_0 : decode cX0_shortest 0 = .ok (.bipush (-2), 2) := by decide +kernel
theorem dX0_shortest_2 : decode cX0_shortest 2 = .ok (.istore_n 2, 1) := by decide +kernel
theorem dX0_shortest_3 : decode cX0_shortest 3 = .ok (.iconst 0, 1) := by decide +kernel
theorem dX0_shortest_4 : decode cX0_shortest 4 = .ok (.istore_n 3, 1) := by decide +kernel
theorem dX0_shortest_5 : decode cX0_shortest 5 = .ok (.lconst 0, 1) := by decide +kernel
theorem dX0_shortest_6 : decode cX0_shortest 6 = .ok (.lstore 4, 2) := by decide +kernel
theorem dX0_shortest_8 : decode cX0_shortest 8 = .ok (.iconst 0, 1) := by decide +kernel
theorem dX0_shortest_9 : decode cX0_shortest 9 = .ok (.istore 6, 2) := by decide +kernel
theorem dX0_shortest_11 : decode cX0_shortest 11 = .ok (.iload 6, 2) := by decide +kernel
theorem dX0_shortest_13 : decode cX0_shortest 13 = .ok (.iconst 1, 1) := by decide +kernel
theorem dX0_shortest_14 : decode cX0_shortest 14 = .ok (.aload_n 0, 1) := by decide +kernel
theorem dX0_shortest_15 : decode cX0_shortest 15 = .ok (.getfield 45, 3) := by decide +kernel
theorem dX0_shortest_18 : decode cX0_shortest 18 = .ok (.ishl, 1) := by decide +kernel
theorem dX0_shortest_19 : decode cX0_shortest 19 = .ok (.if_icmp .ge 94, 3) := by decide +kernel
theorem dX0_shortest_22 : decode cX0_shortest 22 = .ok (.aload_n 0, 1) := by decide +kernel
theorem dX0_shortest_23 : decode cX0_shortest 23 = .ok (.iload 6, 2) := by decide +kernel
theorem dX0_shortest_25 : decode cX0_shortest 25 = .ok (.invokevirtual 91, 3) := by decide +kernel
theorem dX0_shortest_28 : decode cX0_shortest 28 = .ok (.istore 7, 2) := by decide +kernel
theorem dX0_shortest_30 : decode cX0_shortest 30 = .ok (.iload_n 2, 1) := by decide +kernel
theorem dX0_shortest_31 : decode cX0_shortest 31 = .ok (.ifCond .lt 28, 3) := by decide +kernel
theorem dX0_shortest_34 : decode cX0_shortest 34 = .ok (.iload 7, 2) := by decide +kernel
theorem dX0_shortest_36 : decode cX0_shortest 36 = .ok (.iload_n 3, 1) := by decide +kernel
theorem dX0_shortest_37 : decode cX0_shortest 37 = .ok (.if_icmp .lt 22, 3) := by decide +kernel
theorem dX0_shortest_40 : decode cX0_shortest 40 = .ok (.iload 7, 2) := by decide +kernel
theorem dX0_shortest_42 : decode cX0_shortest 42 = .ok (.iload_n 3, 1) := by decide +kernel
theorem dX0_shortest_43 : decode cX0_shortest 43 = .ok (.if_icmp .ne 20, 3) := by decide +kernel
theorem dX0_shortest_46 : decode cX0_shortest 46 = .ok (.aload_n 0, 1) := by decide +kernel
theorem dX0_shortest_47 : decode cX0_shortest 47 = .ok (.getfield 9, 3) := by decide +kernel
theorem dX0_shortest_50 : decode cX0_shortest 50 = .ok (.iload 6, 2) := by decide +kernel
theorem dX0_shortest_52 : decode cX0_shortest 52 = .ok (.laload, 1) := by decide +kernel
theorem dX0_shortest_53 : decode cX0_shortest 53 = .ok (.lload 4, 2) := by decide +kernel
theorem dX0_shortest_55 : decode cX0_shortest 55 = .ok (.lcmp, 1) := by decide +kernel
theorem dX0_shortest_56 : decode cX0_shortest 56 = .ok (.ifCond .le 7, 3) := by decide +kernel
theorem dX0_shortest_59 : decode cX0_shortest 59 = .ok (.iconst 1, 1) := by decide +kernel
theorem dX0_shortest_60 : decode cX0_shortest 60 = .ok (.goto 4, 3) := by decide +kernel
theorem dX0_shortest_63 : decode cX0_shortest 63 = .ok (.iconst 0, 1) := by decide +kernel
theorem dX0_shortest_64 : decode cX0_shortest 64 = .ok (.istore 8, 2) := by decide +kernel
theorem dX0_shortest_66 : decode cX0_shortest 66 = .ok (.iload 8, 2) := by decide +kernel
theorem dX0_shortest_68 : decode cX0_shortest 68 = .ok (.ifCond .eq 39, 3) := by decide +kernel
theorem dX0_shortest_71 : decode cX0_shortest 71 = .ok (.aload_n 0, 1) := by decide +kernel
theorem dX0_shortest_72 : decode cX0_shortest 72 = .ok (.getfield 9, 3) := by decide +kernel
theorem dX0_shortest_75 : decode cX0_shortest 75 = .ok (.iload 6, 2) := by decide +kernel
theorem dX0_shortest_77 : decode cX0_shortest 77 = .ok (.laload, 1) := by decide +kernel
theorem dX0_shortest_78 : decode cX0_shortest 78 = .ok (.iload_n 1, 1) := by decide +kernel
theorem dX0_shortest_79 : decode cX0_shortest 79 = .ok (.aload_n 0, 1) := by decide +kernel
theorem dX0_shortest_80 : decode cX0_shortest 80 = .ok (.getfield 27, 3) := by decide +kernel
theorem dX0_shortest_83 : decode cX0_shortest 83 = .ok (.invokevirtual 95, 3) := by decide +kernel
theorem dX0_shortest_86 : decode cX0_shortest 86 = .ok (.invokestatic 98, 3) := by decide +kernel
theorem dX0_shortest_89 : decode cX0_shortest 89 = .ok (.ifCond .eq 18, 3) := by decide +kernel
theorem dX0_shortest_92 : decode cX0_shortest 92 = .ok (.iload 6, 2) := by decide +kernel
theorem dX0_shortest_94 : decode cX0_shortest 94 = .ok (.istore_n 2, 1) := by decide +kernel
theorem dX0_shortest_95 : decode cX0_shortest 95 = .ok (.iload 7, 2) := by decide +kernel
theorem dX0_shortest_97 : decode cX0_shortest 97 = .ok (.istore_n 3, 1) := by decide +kernel
theorem dX0_shortest_98 : decode cX0_shortest 98 = .ok (.aload_n 0, 1) := by decide +kernel
theorem dX0_shortest_99 : decode cX0_shortest 99 = .ok (.getfield 9, 3) := by decide +kernel
theorem dX0_shortest_102 : decode cX0_shortest 102 = .ok (.iload 6, 2) := by decide +kernel
theorem dX0_shortest_104 : decode cX0_shortest 104 = .ok (.laload, 1) := by decide +kernel
theorem dX0_shortest_105 : decode cX0_shortest 105 = .ok (.lstore 4, 2) := by decide +kernel
theorem dX0_shortest_107 : decode cX0_shortest 107 = .ok (.iinc 6 1, 3) := by decide +kernel
theorem dX0_shortest_110 : decode cX0_shortest 110 = .ok (.goto (-99), 3) := by decide +kernel
theorem dX0_shortest_113 : decode cX0_shortest 113 = .ok (.iload_n 2, 1) := by decide +kernel
theorem dX0_shortest_114 : decode cX0_shortest 114 = .ok (.ireturn, 1) := by decide +kernel
abbrev o_X0_shortest_q131 : Type := Int32
def f_X0_shortest_q131_L11 (S : wd_W) (p1 : Int32) (r5 : (Int32) → (Int32) → (Int64) → (Int32) → (Option o_X0_shortest_q131)) (x1 : Int32) (x2 : Int32) (x3 : Int64) (x4 : Int32) : Option o_X0_shortest_q131 :=
if ((1 : Int32) <<< ((S.1 13105) &&& 31)) ≤ x4 then (
some x1) else (
bd (f_X0_lengthOf_q131 (wd_o S [] [] [] [] []) x4) fun o6 =>
lk (fun x7 =>
lk (fun x9 x10 x11 =>
r5 x9 x10 x11 (x4 + (1 : Int32))) fun k107_12 =>
if x7 = 0 then (
k107_12 x1 x2 x3) else (
gd (okx x4 (S.2.2.2.2 132)) <|
bd (f_X2_things_q16 (wd_o S [] [] [] [] [])) fun o14 =>
bd (f_X8_isSixteenths ((S.2.2.2.1 132) x4.toNatClampNeg) p1 o14) fun o15 =>
if o15 = 0 then (
k107_12 x1 x2 x3) else (
gd (okx x4 (S.2.2.2.2 132)) <|
lz ((S.2.2.2.1 132) x4.toNatClampNeg) fun x17 =>
k107_12 x4 o6 x17))) fun k64_8 =>
lk (k64_8 (1 : Int32)) fun k59_20 =>
if x1 < 0 then (
k59_20) else (
if o6 < x2 then (
k59_20) else (
lk (k64_8 (0 : Int32)) fun k63_21 =>
if o6 = x2 then (
gd (okx x4 (S.2.2.2.2 132)) <|
if ((S.2.2.2.1 132) x4.toNatClampNeg) ≤ x3 then (
k63_21) else (
k59_20)) else (
k63_21))))
def f_X0_shortest_q131 (S : wd_W) (p1 : Int32) : Option o_X0_shortest_q131 :=
it4 (f_X0_shortest_q131_L11 S p1) fuel (-2 : Int32) (0 : Int32) (0 : Int64) (0 : Int32)
set_option maxRecDepth 100000 in
set_option maxHeartbeats 4000000 in
theorem c_X0_shortest_q131 (l : Launch) (D : va_G) (q g : Nat → Nat) (cy : Nat → ClassId) (z : (Nat → Nat) × (Nat → Nat) × Nat) (S : wd_W) (p1 : Int32) (o : o_X0_shortest_q131) (hf : f_X0_shortest_q131 S p1 = some o) : MX layX l yX0_shortest cX0_shortest 9 (some .int) ({ frames := 2, cells := 0, slots := 0, locals := 43 } : Room) D q g cy z [.ref (q 131), .int p1] S false (some (.int o)) (wd_o S [] [] [] [] []) 0 0 := by
  refine mx_of (own := RX0) (lc := [(0, .ref (q 131)), (1, .int p1)]) (by decide +kernel) rfl layX_ok (Nat.le_of_ble_eq_true rfl) rfl ?_
  intro X hXl hXq hXz hC hQ
  subst hXl; subst hXq; subst hXz
  unfold f_X0_shortest_q131 at hf
  refine go_bipush (pc' := 2) hC dX0_shortest_0 kb_m2 rfl ?_
  refine go_istore_n (lc' := [(0, .ref (x_q X 131)), (1, .int p1), (2, .int (-2 : Int32))]) (pc' := 3) hC dX0_shortest_2 (Nat.le_of_ble_eq_true rfl) rfl rfl ?_
  refine go_iconst (pc' := 4) hC dX0_shortest_3 ki_0 rfl ?_
  refine go_istore_n (lc' := [(0, .ref (x_q X 131)), (1, .int p1), (2, .int (-2 : Int32)), (3, .int (0 : Int32))]) (pc' := 5) hC dX0_shortest_4 (Nat.le_of_ble_eq_true rfl) rfl rfl ?_
  refine go_lconst (pc' := 6) hC dX0_shortest_5 kl_0 rfl ?_
  refine go_lstore (lc' := [(0, .ref (x_q X 131)), (1, .int p1), (2, .int (-2 : Int32)), (3, .int (0 : Int32)), (4, .long (0 : Int64))]) (pc' := 8) hC dX0_shortest_6 (Nat.le_of_ble_eq_true rfl) rfl rfl ?_
  refine go_iconst (pc' := 9) hC dX0_shortest_8 ki_0 rfl ?_
  refine go_istore (lc' := [(0, .ref (x_q X 131)), (1, .int p1), (2, .int (-2 : Int32)), (3, .int (0 : Int32)), (4, .long (0 : Int64)), (6, .int (0 : Int32))]) (pc' := 11) hC dX0_shortest_9 (Nat.le_of_ble_eq_true rfl) rfl rfl ?_
  have l11_28 : ∀ (nn : Nat) (x1 : Int32) (x2 : Int32) (x3 : Int64) (x4 : Int32), it4 (f_X0_shortest_q131_L11 S p1) nn x1 x2 x3 x4 = some o → Go X layX S 11 [(0, .ref (x_q X 131)), (1, .int p1), (2, .int x1), (3, .int x2), (4, .long x3), (6, .int x4)] [] g [] [] [] [] [] 0 0 := by
    intro nn
    induction nn with
    | zero =>
      intro x1 x2 x3 x4 hf
      exact none_no hf
    | succ nn ih =>
      intro x1 x2 x3 x4 hf
      have hf : f_X0_shortest_q131_L11 S p1 (it4 (f_X0_shortest_q131_L11 S p1) nn) x1 x2 x3 x4 = some o := hf
      generalize it4 (f_X0_shortest_q131_L11 S p1) nn = r5 at ih hf
      unfold f_X0_shortest_q131_L11 at hf
      refine go_iload (pc' := 13) hC dX0_shortest_11 rfl rfl ?_
      refine go_iconst (pc' := 14) hC dX0_shortest_13 ki_1 rfl ?_
      refine go_aload_n (pc' := 15) hC dX0_shortest_14 rfl rfl ?_
      refine go_geti (v := (S.1 13105)) (pc' := 18) hC 131 5 layX_131 rfl rfl inlX0 (Nat.le_of_ble_eq_true rfl) mw_766 rfl dX0_shortest_15 rfl rfl ?_
      refine go_ishl (pc' := 19) hC dX0_shortest_18 rfl ?_
      refine go_icmp_ge (tgt := 113) (pc' := 22) hC dX0_shortest_19 (by decide) rfl (fun h27 => ?_) (fun h27 => ?_)
      · have hf := ite_t h27 hf
        refine go_iload_n (pc' := 114) hC dX0_shortest_113 rfl rfl ?_
        obtain rfl := Option.some.inj hf
        exact go_iret hC hQ dX0_shortest_114 rfl rfl rfl rfl (fun _ => rfl) rfl rfl
      · have hf := ite_f h27 hf
        refine go_aload_n (pc' := 23) hC dX0_shortest_22 rfl rfl ?_
        refine go_iload (pc' := 25) hC dX0_shortest_23 rfl rfl ?_
        obtain ⟨o6, ho6, hf⟩ := bd_e hf
        refine go_callV0 (pc' := 28) (As := [.int x4]) (st := []) (st' := [.int o6])   (b := 131) hC dX0_shortest_25 ⟨mw_1187, mw_1190, mw_40, yd_yX0_lengthOf, yp_yX0_lengthOf, Nat.le_of_ble_eq_true rfl, Nat.le_of_ble_eq_true rfl, (Nat.le_of_ble_eq_true rfl), (Nat.le_of_ble_eq_true rfl)⟩ mw_1188 mw_1189 layX_131 rfl rfl rfl (Nat.le_of_ble_eq_true rfl) (c_X0_lengthOf_q131 (x_l X) (x_D X) (x_q X) g (x_cy X) (x_z X) _ x4 o6 ho6) rfl rfl ?_
        refine go_istore (lc' := [(0, .ref (x_q X 131)), (1, .int p1), (2, .int x1), (3, .int x2), (4, .long x3), (6, .int x4), (7, .int o6)]) (pc' := 30) hC dX0_shortest_28 (Nat.le_of_ble_eq_true rfl) rfl rfl ?_
        refine go_iload_n (pc' := 31) hC dX0_shortest_30 rfl rfl ?_
        obtain ⟨k64_8, hk64_8, hf⟩ := lk_e1 hf
        have jk64_8 : ∀ (x7 : Int32), k64_8 x7 = some o → Go X layX S 64 [(0, .ref (x_q X 131)), (1, .int p1), (2, .int x1), (3, .int x2), (4, .long x3), (6, .int x4), (7, .int o6)] [.int x7] g [] [] [] [] [] 0 0 := by
          intro x7 hf
          have hf := hk64_8 x7 hf
          clear hk64_8
          refine go_istore (lc' := [(0, .ref (x_q X 131)), (1, .int p1), (2, .int x1), (3, .int x2), (4, .long x3), (6, .int x4), (7, .int o6), (8, .int x7)]) (pc' := 66) hC dX0_shortest_64 (Nat.le_of_ble_eq_true rfl) rfl rfl ?_
          refine go_iload (pc' := 68) hC dX0_shortest_66 rfl rfl ?_
          obtain ⟨k107_12, hk107_12, hf⟩ := lk_e3 hf
          have jk107_12 : ∀ (x9 : Int32) (x10 : Int32) (x11 : Int64), k107_12 x9 x10 x11 = some o → Go X layX S 107 [(0, .ref (x_q X 131)), (1, .int p1), (2, .int x9), (3, .int x10), (4, .long x11), (6, .int x4)] [] g [] [] [] [] [] 0 0 := by
            intro x9 x10 x11 hf
            have hf := hk107_12 x9 x10 x11 hf
            clear hk107_12
            refine go_iinc (lc' := [(0, .ref (x_q X 131)), (1, .int p1), (2, .int x9), (3, .int x10), (4, .long x11), (6, .int (x4 + (1 : Int32)))]) (pc' := 110) hC dX0_shortest_107 rfl ki_1 (Nat.le_of_ble_eq_true rfl) rfl rfl ?_
            refine go_goto (tgt := 11) hC dX0_shortest_110 (by decide) ?_
            exact ih x9 x10 x11 (x4 + (1 : Int32)) hf
          clear hk107_12
          refine go_if_eq (tgt := 107) (pc' := 71) hC dX0_shortest_68 (by decide) rfl (fun h19 => ?_) (fun h19 => ?_)
          · have hf := ite_t h19 hf
            refine go_sub [0, 1, 2, 3, 4, 6] rfl ?_
            exact jk107_12 x1 x2 x3 hf
          · have hf := ite_f h19 hf
            refine go_aload_n (pc' := 72) hC dX0_shortest_71 rfl rfl ?_
            refine go_getg (pc' := 75) hC 131 0 layX_131 rfl rfl inlX0 (Nat.le_of_ble_eq_true rfl) mw_139 rfl dX0_shortest_72 rfl ?_
            refine go_iload (pc' := 77) hC dX0_shortest_75 rfl rfl ?_
            obtain ⟨h13, hf⟩ := gd_e hf
            refine go_laldg (f := (S.2.2.2.1 132)) (pc' := 78) hC 132 layX_132 rfl rfl dX0_shortest_77 (okx_in h13) rfl ?_
            refine go_iload_n (pc' := 79) hC dX0_shortest_78 rfl rfl ?_
            refine go_aload_n (pc' := 80) hC dX0_shortest_79 rfl rfl ?_
            refine go_getq (pc' := 83) hC 131 2 layX_131 rfl rfl inlX0 (Nat.le_of_ble_eq_true rfl) mw_144 rfl dX0_shortest_80 rfl ?_
            obtain ⟨o14, ho14, hf⟩ := bd_e hf
            refine go_callV0 (pc' := 86) (As := []) (st := [.int p1, .long ((S.2.2.2.1 132) x4.toNatClampNeg)]) (st' := [.int o14, .int p1, .long ((S.2.2.2.1 132) x4.toNatClampNeg)])   (b := 16) hC dX0_shortest_83 ⟨mw_1192, mw_418, mw_14, yd_yX2_things, yp_yX2_things, Nat.le_of_ble_eq_true rfl, Nat.le_of_ble_eq_true rfl, (Nat.le_of_ble_eq_true rfl), (Nat.le_of_ble_eq_true rfl)⟩ mw_416 mw_417 layX_16 rfl rfl rfl (Nat.le_of_ble_eq_true rfl) (c_X2_things_q16 (x_l X) (x_D X) (x_q X) g (x_cy X) (x_z X) _  o14 ho14) rfl rfl ?_
            obtain ⟨o15, ho15, hf⟩ := bd_e hf
            refine go_callS0 (pc' := 89) (As := [.long ((S.2.2.2.1 132) x4.toNatClampNeg), .int p1, .int o14]) (st := []) (st' := [.int o15])   hC dX0_shortest_86 ⟨mw_1193, mw_1195, mw_31, yd_yX8_isSixteenths, yp_yX8_isSixteenths, Nat.le_of_ble_eq_true rfl, Nat.le_of_ble_eq_true rfl, (Nat.le_of_ble_eq_true rfl), (Nat.le_of_ble_eq_true rfl)⟩ mw_1194 rfl rfl (Nat.le_of_ble_eq_true rfl) (c_X8_isSixteenths (x_l X) (x_D X) (x_q X) g (x_cy X) (x_z X) _ ((S.2.2.2.1 132) x4.toNatClampNeg) p1 o14 o15 ho15) rfl rfl ?_
            refine go_if_eq (tgt := 107) (pc' := 92) hC dX0_shortest_89 (by decide) rfl (fun h18 => ?_) (fun h18 => ?_)
            · have hf := ite_t h18 hf
              refine go_sub [0, 1, 2, 3, 4, 6] rfl ?_
              exact jk107_12 x1 x2 x3 hf
            · have hf := ite_f h18 hf
              refine go_iload (pc' := 94) hC dX0_shortest_92 rfl rfl ?_
              refine go_istore_n (lc' := [(0, .ref (x_q X 131)), (1, .int p1), (2, .int x4), (3, .int x2), (4, .long x3), (6, .int x4), (7, .int o6), (8, .int x7)]) (pc' := 95) hC dX0_shortest_94 (Nat.le_of_ble_eq_true rfl) rfl rfl ?_
              refine go_iload (pc' := 97) hC dX0_shortest_95 rfl rfl ?_
              refine go_istore_n (lc' := [(0, .ref (x_q X 131)), (1, .int p1), (2, .int x4), (3, .int o6), (4, .long x3), (6, .int x4), (7, .int o6), (8, .int x7)]) (pc' := 98) hC dX0_shortest_97 (Nat.le_of_ble_eq_true rfl) rfl rfl ?_
              refine go_aload_n (pc' := 99) hC dX0_shortest_98 rfl rfl ?_
              refine go_getg (pc' := 102) hC 131 0 layX_131 rfl rfl inlX0 (Nat.le_of_ble_eq_true rfl) mw_139 rfl dX0_shortest_99 rfl ?_
              refine go_iload (pc' := 104) hC dX0_shortest_102 rfl rfl ?_
              obtain ⟨h16, hf⟩ := gd_e hf
              refine go_laldg (f := (S.2.2.2.1 132)) (pc' := 105) hC 132 layX_132 rfl rfl dX0_shortest_104 (okx_in h16) rfl ?_
              refine go_namel (fun x17 hx => ?_)
              have hf := lz_r hx hf
              clear hx
              refine go_lstore (lc' := [(0, .ref (x_q X 131)), (1, .int p1), (2, .int x4), (3, .int o6), (4, .long x17), (6, .int x4), (7, .int o6), (8, .int x7)]) (pc' := 107) hC dX0_shortest_105 (Nat.le_of_ble_eq_true rfl) rfl rfl ?_
              refine go_sub [0, 1, 2, 3, 4, 6] rfl ?_
              exact jk107_12 x4 o6 x17 hf
        clear hk64_8
        obtain ⟨k59_20, hk59_20, hf⟩ := lk_e0 hf
        have jk59_20 : ∀ (_ : Unit), k59_20 = some o → Go X layX S 59 [(0, .ref (x_q X 131)), (1, .int p1), (2, .int x1), (3, .int x2), (4, .long x3), (6, .int x4), (7, .int o6)] [] g [] [] [] [] [] 0 0 := by
          intro _ hf
          have hf := hk59_20 hf
          clear hk59_20
          refine go_iconst (pc' := 60) hC dX0_shortest_59 ki_1 rfl ?_
          refine go_goto (tgt := 64) hC dX0_shortest_60 (by decide) ?_
          exact jk64_8 (1 : Int32) hf
        clear hk59_20
        refine go_if_lt (tgt := 59) (pc' := 34) hC dX0_shortest_31 (by decide) rfl (fun h26 => ?_) (fun h26 => ?_)
        · have hf := ite_t h26 hf
          exact jk59_20 () hf
        · have hf := ite_f h26 hf
          refine go_iload (pc' := 36) hC dX0_shortest_34 rfl rfl ?_
          refine go_iload_n (pc' := 37) hC dX0_shortest_36 rfl rfl ?_
          refine go_icmp_lt (tgt := 59) (pc' := 40) hC dX0_shortest_37 (by decide) rfl (fun h25 => ?_) (fun h25 => ?_)
          · have hf := ite_t h25 hf
            exact jk59_20 () hf
          · have hf := ite_f h25 hf
            refine go_iload (pc' := 42) hC dX0_shortest_40 rfl rfl ?_
            refine go_iload_n (pc' := 43) hC dX0_shortest_42 rfl rfl ?_
            obtain ⟨k63_21, hk63_21, hf⟩ := lk_e0 hf
            have jk63_21 : ∀ (_ : Unit), k63_21 = some o → Go X layX S 63 [(0, .ref (x_q X 131)), (1, .int p1), (2, .int x1), (3, .int x2), (4, .long x3), (6, .int x4), (7, .int o6)] [] g [] [] [] [] [] 0 0 := by
              intro _ hf
              have hf := hk63_21 hf
              clear hk63_21
              refine go_iconst (pc' := 64) hC dX0_shortest_63 ki_0 rfl ?_
              exact jk64_8 (0 : Int32) hf
            clear hk63_21
            refine go_icmp_ne (tgt := 63) (pc' := 46) hC dX0_shortest_43 (by decide) rfl (fun h24 => ?_) (fun h24 => ?_)
            · have hf := ite_f h24 hf
              exact jk63_21 () hf
            · have hf := ite_t h24 hf
              refine go_aload_n (pc' := 47) hC dX0_shortest_46 rfl rfl ?_
              refine go_getg (pc' := 50) hC 131 0 layX_131 rfl rfl inlX0 (Nat.le_of_ble_eq_true rfl) mw_139 rfl dX0_shortest_47 rfl ?_
              refine go_iload (pc' := 52) hC dX0_shortest_50 rfl rfl ?_
              obtain ⟨h22, hf⟩ := gd_e hf
              refine go_laldg (f := (S.2.2.2.1 132)) (pc' := 53) hC 132 layX_132 rfl rfl dX0_shortest_52 (okx_in h22) rfl ?_
              refine go_lload (pc' := 55) hC dX0_shortest_53 rfl rfl ?_
              refine go_lcmp (pc' := 56) hC dX0_shortest_55 rfl ?_
              refine go_if_le (tgt := 63) (pc' := 59) hC dX0_shortest_56 (by decide) rfl (fun h23 => ?_) (fun h23 => ?_)
              · have hf := ite_t (lg_le.mp h23) hf
                exact jk63_21 () hf
              · have hf := ite_f (mt lg_le.mpr h23) hf
                exact jk59_20 () hf
  exact l11_28 fuel (-2 : Int32) (0 : Int32) (0 : Int64) (0 : Int32) hf
theorem dX11_plan_0 : decode cX11_plan 0 = .ok (.iload_n 1, 1) := by decide +kernel
theorem dX11_plan_1 : decode cX11_plan 1 = .ok (.ifCond .lt 9, 3) := by decide +kernel
theorem dX11_plan_4 : decode cX11_plan 4 = .ok (.iload_n 1, 1) := by decide +kernel
theorem dX11_plan_5 : decode cX11_plan 5 = .ok (.bipush 16, 2) := by decide +kernel
theorem dX11_plan_7 : decode cX11_plan 7 = .ok (.if_icmp .le 5, 3) := by decide +kernel
theorem dX11_plan_10 : decode cX11_plan 10 = .ok (.iconst (-1), 1) := by decide +kernel
theorem dX11_plan_11 : decode cX11_plan 11 = .ok (.ireturn, 1) := by decide +kernel
theorem dX11_plan_12 : decode cX11_plan 12 = .ok (.aload_n 0, 1) := by decide +kernel
theorem dX11_plan_13 : decode cX11_plan 13 = .ok (.bipush 8, 2) := by decide +kernel
theorem dX11_plan_15 : decode cX11_plan 15 = .ok (.invokevirtual 233, 3) := by decide +kernel
theorem dX11_plan_18 : decode cX11_plan 18 = .ok (.aload_n 0, 1) := by decide +kernel
theorem dX11_plan_19 : decode cX11_plan 19 = .ok (.getfield 74, 3) := by decide +kernel
theorem dX11_plan_22 : decode cX11_plan 22 = .ok (.iload_n 1, 1) := by decide +kernel
theorem dX11_plan_23 : decode cX11_plan 23 = .ok (.invokevirtual 262, 3) := by decide +kernel
theorem dX11_plan_26 : decode cX11_plan 26 = .ok (.ireturn, 1) := by decide +kernel
abbrev o_X11_plan : Type := Int32 × wd_W × Nat × Nat
def f_X11_plan (S : wd_W) (p1 : Int32) : Option o_X11_plan :=
if p1 < 0 then (
some ((-1 : Int32), S, 0, 0)) else (
if p1 ≤ (16 : Int32) then (
bd (f_X11_know (wd_o S [] [] [] [] []) (8 : Int32)) fun o1 =>
gd (okr (0 + o1.2.1) (0 + o1.2.2) 0 0 40 500000) <|
bd (f_X0_shortest_q131 (wd_o o1.1 [] [] [] [] []) p1) fun o2 =>
some (o2, o1.1, 0 + o1.2.1, 0 + o1.2.2)) else (
some ((-1 : Int32), S, 0, 0)))
set_option maxRecDepth 100000 in
set_option maxHeartbeats 4000000 in
theorem c_X11_plan (l : Launch) (D : va_G) (q g : Nat → Nat) (cy : Nat → ClassId) (z : (Nat → Nat) × (Nat → Nat) × Nat) (S : wd_W) (p1 : Int32) (o : o_X11_plan) (hf : f_X11_plan S p1 = some o) : MX layX l yX11_plan cX11_plan 2 (some .int) ({ frames := 5, cells := 40, slots := 500000, locals := 127 } : Room) D q g cy z [.ref (q 0), .int p1] S true (some (.int o.1)) o.2.1 o.2.2.1 o.2.2.2 := by
  refine mx_of (own := RX11) (lc := [(0, .ref (q 0)), (1, .int p1)]) (by decide +kernel) rfl layX_ok (Nat.le_of_ble_eq_true rfl) rfl ?_
  intro X hXl hXq hXz hC hQ
  subst hXl; subst hXq; subst hXz
  unfold f_X11_plan at hf
  refine go_iload_n (pc' := 1) hC dX11_plan_0 rfl rfl ?_
  refine go_if_lt (tgt := 10) (pc' := 4) hC dX11_plan_1 (by decide) rfl (fun h5 => ?_) (fun h5 => ?_)
  · have hf := ite_t h5 hf
    refine go_iconst (pc' := 11) hC dX11_plan_10 ki_m1 rfl ?_
    obtain rfl := Option.some.inj hf
    exact go_iret hC hQ dX11_plan_11 rfl rfl rfl rfl (fun h => nomatch h) rfl rfl
  · have hf := ite_f h5 hf
    refine go_iload_n (pc' := 5) hC dX11_plan_4 rfl rfl ?_
    refine go_bipush (pc' := 7) hC dX11_plan_5 kb_16 rfl ?_
    refine go_icmp_le (tgt := 12) (pc' := 10) hC dX11_plan_7 (by decide) rfl (fun h4 => ?_) (fun h4 => ?_)
    · have hf := ite_t h4 hf
      refine go_aload_n (pc' := 13) hC dX11_plan_12 rfl rfl ?_
      refine go_bipush (pc' := 15) hC dX11_plan_13 kb_8 rfl ?_
      obtain ⟨o1, ho1, hf⟩ := bd_e hf
      refine go_callVw (pc' := 18) (As := [.int (8 : Int32)]) (st := []) (st' := [])  (cells' := 0 + o1.2.1) (slots' := 0 + o1.2.2) (b := 0) hC dX11_plan_15 ⟨mw_597, mw_600, mw_2, yd_yX11_know, yp_yX11_know, Nat.le_of_ble_eq_true rfl, Nat.le_of_ble_eq_true rfl, (Nat.le_of_ble_eq_true rfl), (Nat.le_of_ble_eq_true rfl)⟩ mw_598 mw_599 layX_0 rfl rfl rfl (Nat.le_of_ble_eq_true rfl) (c_X11_know (x_l X) (x_D X) (x_q X) g (x_cy X) (x_z X) _ (8 : Int32) o1 ho1) rfl rfl rfl rfl (fun g _ => ?_)
      refine go_aload_n (pc' := 19) hC dX11_plan_18 rfl rfl ?_
      refine go_getq (pc' := 22) hC 0 13 layX_0 rfl rfl inlX11 (Nat.le_of_ble_eq_true rfl) mw_41 rfl dX11_plan_19 rfl ?_
      refine go_iload_n (pc' := 23) hC dX11_plan_22 rfl rfl ?_
      obtain ⟨h3, hf⟩ := gd_e hf
      obtain ⟨o2, ho2, hf⟩ := bd_e hf
      refine go_callV0 (pc' := 26) (As := [.int p1]) (st := []) (st' := [.int o2])   (b := 131) hC dX11_plan_23 ⟨mw_1183, mw_1186, mw_40, yd_yX0_shortest, yp_yX0_shortest, Nat.le_of_ble_eq_true rfl, Nat.le_of_ble_eq_true rfl, (okr_c h3), (okr_s h3)⟩ mw_1184 mw_1185 layX_131 rfl rfl rfl (Nat.le_of_ble_eq_true rfl) (c_X0_shortest_q131 (x_l X) (x_D X) (x_q X) g (x_cy X) (x_z X) _ p1 o2 ho2) rfl rfl ?_
      obtain rfl := Option.some.inj hf
      exact go_iret hC hQ dX11_plan_26 rfl rfl rfl rfl (fun h => nomatch h) rfl rfl
    · have hf := ite_f h4 hf
      refine go_iconst (pc' := 11) hC dX11_plan_10 ki_m1 rfl ?_
      obtain rfl := Option.some.inj hf
      exact go_iret hC hQ dX11_plan_11 rfl rfl rfl rfl (fun h => nomatch h) rfl rfl
theorem dX11_judge_0 : decode cX11_judge 0 = .ok (.iload_n 1, 1) := by decide +kernel
theorem dX11_judge_1 : decode cX11_judge 1 = .ok (.ifCond .lt 15, 3) := by decide +kernel
theorem dX11_judge_4 : decode cX11_judge 4 = .ok (.iload_n 1, 1) := by decide +kernel
theorem dX11_judge_5 : decode cX11_judge 5 = .ok (.aload_n 0, 1) := by decide +kernel
theorem dX11_judge_6 : decode cX11_judge 6 = .ok (.getfield 25, 3) := by decide +kernel
theorem dX11_judge_9 : decode cX11_judge 9 = .ok (.getfield 132, 3) := by decide +kernel
theorem dX11_judge_12 : decode cX11_judge 12 = .ok (.ishr, 1) := by decide +kernel
theorem dX11_judge_13 : decode cX11_judge 13 = .ok (.ifCond .eq 7, 3) := by decide +kernel
theorem dX11_judge_16 : decode cX11_judge 16 = .ok (.ldc2_w 186, 3) := by decide +kernel
theorem dX11_judge_19 : decode cX11_judge 19 = .ok (.lreturn, 1) := by decide +kernel
theorem dX11_judge_20 : decode cX11_judge 20 = .ok (.aload_n 0, 1) := by decide +kernel
theorem dX11_judge_21 : decode cX11_judge 21 = .ok (.bipush 8, 2) := by decide +kernel
theorem dX11_judge_23 : decode cX11_judge 23 = .ok (.invokevirtual 233, 3) := by decide +kernel
theorem dX11_judge_26 : decode cX11_judge 26 = .ok (.aload_n 0, 1) := by decide +kernel
theorem dX11_judge_27 : decode cX11_judge 27 = .ok (.getfield 74, 3) := by decide +kernel
theorem dX11_judge_30 : decode cX11_judge 30 = .ok (.getfield 265, 3) := by decide +kernel
theorem dX11_judge_33 : decode cX11_judge 33 = .ok (.iload_n 1, 1) := by decide +kernel
theorem dX11_judge_34 : decode cX11_judge 34 = .ok (.laload, 1) := by decide +kernel
theorem dX11_judge_35 : decode cX11_judge 35 = .ok (.lreturn, 1) := by decide +kernel
abbrev o_X11_judge : Type := Int64 × wd_W × Nat × Nat
def f_X11_judge (S : wd_W) (p1 : Int32) : Option o_X11_judge :=
if p1 < 0 then (
some ((-1 : Int64), S, 0, 0)) else (
if (p1 >>> ((S.1 1601) &&& 31)) = 0 then (
bd (f_X11_know (wd_o S [] [] [] [] []) (8 : Int32)) fun o1 =>
gd (okx p1 (o1.1.2.2.2.2 132)) <|
some ((o1.1.2.2.2.1 132) p1.toNatClampNeg, o1.1, 0 + o1.2.1, 0 + o1.2.2)) else (
some ((-1 : Int64), S, 0, 0)))
set_option maxRecDepth 100000 in
set_option maxHeartbeats 4000000 in
theorem c_X11_judge (l : Launch) (D : va_G) (q g : Nat → Nat) (cy : Nat → ClassId) (z : (Nat → Nat) × (Nat → Nat) × Nat) (S : wd_W) (p1 : Int32) (o : o_X11_judge) (hf : f_X11_judge S p1 = some o) : MX layX l yX11_judge cX11_judge 2 (some .long) ({ frames := 5, cells := 40, slots := 500000, locals := 127 } : Room) D q g cy z [.ref (q 0), .int p1] S true (some (.long o.1)) o.2.1 o.2.2.1 o.2.2.2 := by
  refine mx_of (own := RX11) (lc := [(0, .ref (q 0)), (1, .int p1)]) (by decide +kernel) rfl layX_ok (Nat.le_of_ble_eq_true rfl) rfl ?_
  intro X hXl hXq hXz hC hQ
  subst hXl; subst hXq; subst hXz
  unfold f_X11_judge at hf
  refine go_iload_n (pc' := 1) hC dX11_judge_0 rfl rfl ?_
  refine go_if_lt (tgt := 16) (pc' := 4) hC dX11_judge_1 (by decide) rfl (fun h4 => ?_) (fun h4 => ?_)
  · have hf := ite_t h4 hf
    refine go_ldc2 (pc' := 19) hC dX11_judge_16 mw_909 rfl ?_
    obtain rfl := Option.some.inj hf
    exact go_lret hC hQ dX11_judge_19 rfl rfl rfl (fun h => nomatch h) rfl rfl
  · have hf := ite_f h4 hf
    refine go_iload_n (pc' := 5) hC dX11_judge_4 rfl rfl ?_
    refine go_aload_n (pc' := 6) hC dX11_judge_5 rfl rfl ?_
    refine go_getq (pc' := 9) hC 0 2 layX_0 rfl rfl inlX11 (Nat.le_of_ble_eq_true rfl) mw_20 rfl dX11_judge_6 rfl ?_
    refine go_geti (v := (S.1 1601)) (pc' := 12) hC 16 1 layX_16 rfl rfl inlX2 (Nat.le_of_ble_eq_true rfl) mw_562 rfl dX11_judge_9 rfl rfl ?_
    refine go_ishr (pc' := 13) hC dX11_judge_12 rfl ?_
    refine go_if_eq (tgt := 20) (pc' := 16) hC dX11_judge_13 (by decide) rfl (fun h3 => ?_) (fun h3 => ?_)
    · have hf := ite_t h3 hf
      refine go_aload_n (pc' := 21) hC dX11_judge_20 rfl rfl ?_
      refine go_bipush (pc' := 23) hC dX11_judge_21 kb_8 rfl ?_
      obtain ⟨o1, ho1, hf⟩ := bd_e hf
      refine go_callVw (pc' := 26) (As := [.int (8 : Int32)]) (st := []) (st' := [])  (cells' := 0 + o1.2.1) (slots' := 0 + o1.2.2) (b := 0) hC dX11_judge_23 ⟨mw_597, mw_600, mw_2, yd_yX11_know, yp_yX11_know, Nat.le_of_ble_eq_true rfl, Nat.le_of_ble_eq_true rfl, (Nat.le_of_ble_eq_true rfl), (Nat.le_of_ble_eq_true rfl)⟩ mw_598 mw_599 layX_0 rfl rfl rfl (Nat.le_of_ble_eq_true rfl) (c_X11_know (x_l X) (x_D X) (x_q X) g (x_cy X) (x_z X) _ (8 : Int32) o1 ho1) rfl rfl rfl rfl (fun g _ => ?_)
      refine go_aload_n (pc' := 27) hC dX11_judge_26 rfl rfl ?_
      refine go_getq (pc' := 30) hC 0 13 layX_0 rfl rfl inlX11 (Nat.le_of_ble_eq_true rfl) mw_41 rfl dX11_judge_27 rfl ?_
      refine go_getg (pc' := 33) hC 131 0 layX_131 rfl rfl inlX0 (Nat.le_of_ble_eq_true rfl) mw_1217 rfl dX11_judge_30 rfl ?_
      refine go_iload_n (pc' := 34) hC dX11_judge_33 rfl rfl ?_
      obtain ⟨h2, hf⟩ := gd_e hf
      refine go_laldg (f := (o1.1.2.2.2.1 132)) (pc' := 35) hC 132 layX_132 rfl rfl dX11_judge_34 (okx_in h2) rfl ?_
      obtain rfl := Option.some.inj hf
      exact go_lret hC hQ dX11_judge_35 rfl rfl rfl (fun h => nomatch h) rfl rfl
    · have hf := ite_f h3 hf
      refine go_ldc2 (pc' := 19) hC dX11_judge_16 mw_909 rfl ?_
      obtain rfl := Option.some.inj hf
      exact go_lret hC hQ dX11_judge_19 rfl rfl rfl (fun h => nomatch h) rfl rfl
theorem dX11_without_0 : decode cX11_without 0 = .ok (.iload_n 1, 1) := by decide +kernel
theorem dX11_without_1 : decode cX11_without 1 = .ok (.ifCond .lt 14, 3) := by decide +kernel
theorem dX11_without_4 : decode cX11_without 4 = .ok (.iload_n 1, 1) := by decide +kernel
theorem dX11_without_5 : decode cX11_without 5 = .ok (.aload_n 0, 1) := by decide +kernel
theorem dX11_without_6 : decode cX11_without 6 = .ok (.getfield 25, 3) := by decide +kernel
theorem dX11_without_9 : decode cX11_without 9 = .ok (.getfield 268, 3) := by decide +kernel
theorem dX11_without_12 : decode cX11_without 12 = .ok (.if_icmp .lt 7, 3) := by decide +kernel
theorem dX11_without_15 : decode cX11_without 15 = .ok (.ldc2_w 186, 3) := by decide +kernel
theorem dX11_without_18 : decode cX11_without 18 = .ok (.lreturn, 1) := by decide +kernel
theorem dX11_without_19 : decode cX11_without 19 = .ok (.aload_n 0, 1) := by decide +kernel
theorem dX11_without_20 : decode cX11_without 20 = .ok (.invokevirtual 171, 3) := by decide +kernel
theorem dX11_without_23 : decode cX11_without 23 = .ok (.aload_n 0, 1) := by decide +kernel
theorem dX11_without_24 : decode cX11_without 24 = .ok (.getfield 25, 3) := by decide +kernel
theorem dX11_without_27 : decode cX11_without 27 = .ok (.getfield 132, 3) := by decide +kernel
theorem dX11_without_30 : decode cX11_without 30 = .ok (.aload_n 0, 1) := by decide +kernel
theorem dX11_without_31 : decode cX11_without 31 = .ok (.getfield 25, 3) := by decide +kernel
theorem dX11_without_34 : decode cX11_without 34 = .ok (.getfield 271, 3) := by decide +kernel
theorem dX11_without_37 : decode cX11_without 37 = .ok (.iadd, 1) := by decide +kernel
theorem dX11_without_38 : decode cX11_without 38 = .ok (.iload_n 1, 1) := by decide +kernel
theorem dX11_without_39 : decode cX11_without 39 = .ok (.iadd, 1) := by decide +kernel
theorem dX11_without_40 : decode cX11_without 40 = .ok (.iconst 1, 1) := by decide +kernel
theorem dX11_without_41 : decode cX11_without 41 = .ok (.invokevirtual 191, 3) := by decide +kernel
theorem dX11_without_44 : decode cX11_without 44 = .ok (.lreturn, 1) := by decide +kernel
abbrev o_X11_without : Type := Int64 × wd_W × Nat × Nat
def f_X11_without (S : wd_W) (p1 : Int32) : Option o_X11_without :=
if p1 < 0 then (
some ((-1 : Int64), S, 0, 0)) else (
if p1 < (S.1 1610) then (
bd (f_X11_knownSets (wd_o S [] [] [] [] [])) fun o1 =>
gd (okr (0 + o1.2.1) (0 + o1.2.2) 0 0 40 500000) <|
bd (f_X8_given_q106 (wd_o o1.1 [] [] [] [] []) (((o1.1.1 1601) + (o1.1.1 1607)) + p1) (1 : Int32)) fun o2 =>
some (o2, o1.1, 0 + o1.2.1, 0 + o1.2.2)) else (
some ((-1 : Int64), S, 0, 0)))
set_option maxRecDepth 100000 in
set_option maxHeartbeats 4000000 in
theorem c_X11_without (l : Launch) (D : va_G) (q g : Nat → Nat) (cy : Nat → ClassId) (z : (Nat → Nat) × (Nat → Nat) × Nat) (S : wd_W) (p1 : Int32) (o : o_X11_without) (hf : f_X11_without S p1 = some o) : MX layX l yX11_without cX11_without 2 (some .long) ({ frames := 6, cells := 40, slots := 500000, locals := 147 } : Room) D q g cy z [.ref (q 0), .int p1] S true (some (.long o.1)) o.2.1 o.2.2.1 o.2.2.2 := by
  refine mx_of (own := RX11) (lc := [(0, .ref (q 0)), (1, .int p1)]) (by decide +kernel) rfl layX_ok (Nat.le_of_ble_eq_true rfl) rfl ?_
  intro X hXl hXq hXz hC hQ
  subst hXl; subst hXq; subst hXz
  unfold f_X11_without at hf
  refine go_iload_n (pc' := 1) hC dX11_without_0 rfl rfl ?_
  refine go_if_lt (tgt := 15) (pc' := 4) hC dX11_without_1 (by decide) rfl (fun h5 => ?_) (fun h5 => ?_)
  · have hf := ite_t h5 hf
    refine go_ldc2 (pc' := 18) hC dX11_without_15 mw_909 rfl ?_
    obtain rfl := Option.some.inj hf
    exact go_lret hC hQ dX11_without_18 rfl rfl rfl (fun h => nomatch h) rfl rfl
  · have hf := ite_f h5 hf
    refine go_iload_n (pc' := 5) hC dX11_without_4 rfl rfl ?_
    refine go_aload_n (pc' := 6) hC dX11_without_5 rfl rfl ?_
    refine go_getq (pc' := 9) hC 0 2 layX_0 rfl rfl inlX11 (Nat.le_of_ble_eq_true rfl) mw_20 rfl dX11_without_6 rfl ?_
    refine go_geti (v := (S.1 1610)) (pc' := 12) hC 16 10 layX_16 rfl rfl inlX2 (Nat.le_of_ble_eq_true rfl) mw_1226 rfl dX11_without_9 rfl rfl ?_
    refine go_icmp_lt (tgt := 19) (pc' := 15) hC dX11_without_12 (by decide) rfl (fun h4 => ?_) (fun h4 => ?_)
    · have hf := ite_t h4 hf
      refine go_aload_n (pc' := 20) hC dX11_without_19 rfl rfl ?_
      obtain ⟨o1, ho1, hf⟩ := bd_e hf
      refine go_callVw (pc' := 23) (As := []) (st := []) (st' := [.ref (x_q X 106)])  (cells' := 0 + o1.2.1) (slots' := 0 + o1.2.2) (b := 0) hC dX11_without_20 ⟨mw_593, mw_596, mw_2, yd_yX11_knownSets, yp_yX11_knownSets, Nat.le_of_ble_eq_true rfl, Nat.le_of_ble_eq_true rfl, (Nat.le_of_ble_eq_true rfl), (Nat.le_of_ble_eq_true rfl)⟩ mw_594 mw_595 layX_0 rfl rfl rfl (Nat.le_of_ble_eq_true rfl) (c_X11_knownSets (x_l X) (x_D X) (x_q X) g (x_cy X) (x_z X) _  o1 ho1) rfl rfl rfl rfl (fun g _ => ?_)
      refine go_aload_n (pc' := 24) hC dX11_without_23 rfl rfl ?_
      refine go_getq (pc' := 27) hC 0 2 layX_0 rfl rfl inlX11 (Nat.le_of_ble_eq_true rfl) mw_20 rfl dX11_without_24 rfl ?_
      refine go_geti (v := (o1.1.1 1601)) (pc' := 30) hC 16 1 layX_16 rfl rfl inlX2 (Nat.le_of_ble_eq_true rfl) mw_562 rfl dX11_without_27 rfl rfl ?_
      refine go_aload_n (pc' := 31) hC dX11_without_30 rfl rfl ?_
      refine go_getq (pc' := 34) hC 0 2 layX_0 rfl rfl inlX11 (Nat.le_of_ble_eq_true rfl) mw_20 rfl dX11_without_31 rfl ?_
      refine go_geti (v := (o1.1.1 1607)) (pc' := 37) hC 16 7 layX_16 rfl rfl inlX2 (Nat.le_of_ble_eq_true rfl) mw_1227 rfl dX11_without_34 rfl rfl ?_
      refine go_iadd (pc' := 38) hC dX11_without_37 rfl ?_
      refine go_iload_n (pc' := 39) hC dX11_without_38 rfl rfl ?_
      refine go_iadd (pc' := 40) hC dX11_without_39 rfl ?_
      refine go_iconst (pc' := 41) hC dX11_without_40 ki_1 rfl ?_
      obtain ⟨h3, hf⟩ := gd_e hf
      obtain ⟨o2, ho2, hf⟩ := bd_e hf
      refine go_callV0 (pc' := 44) (As := [.int (((o1.1.1 1601) + (o1.1.1 1607)) + p1), .int (1 : Int32)]) (st := []) (st' := [.long o2])   (b := 106) hC dX11_without_41 ⟨mw_947, mw_950, mw_31, yd_yX8_given, yp_yX8_given, Nat.le_of_ble_eq_true rfl, Nat.le_of_ble_eq_true rfl, (okr_c h3), (okr_s h3)⟩ mw_948 mw_949 layX_106 rfl rfl rfl (Nat.le_of_ble_eq_true rfl) (c_X8_given_q106 (x_l X) (x_D X) (x_q X) g (x_cy X) (x_z X) _ (((o1.1.1 1601) + (o1.1.1 1607)) + p1) (1 : Int32) o2 ho2) rfl rfl ?_
      obtain rfl := Option.some.inj hf
      exact go_lret hC hQ dX11_without_44 rfl rfl rfl (fun h => nomatch h) rfl rfl
    · have hf := ite_f h4 hf
      refine go_ldc2 (pc' := 18) hC dX11_without_15 mw_909 rfl ?_
      obtain rfl := Option.some.inj hf
      exact go_lret hC hQ dX11_without_18 rfl rfl rfl (fun h => nomatch h) rfl rfl
theorem dX11_isPair_0 : decode cX11_isPair 0 = .ok (.iload_n 1, 1) := by decide +kernel
theorem dX11_isPair_1 : decode cX11_isPair 1 = .ok (.ifCond .lt 38, 3) := by decide +kernel
theorem dX11_isPair_4 : decode cX11_isPair 4 = .ok (.iload_n 1, 1) := by decide +kernel
theorem dX11_isPair_5 : decode cX11_isPair 5 = .ok (.aload_n 0, 1) := by decide +kernel
theorem dX11_isPair_6 : decode cX11_isPair 6 = .ok (.getfield 25, 3) := by decide +kernel
theorem dX11_isPair_9 : decode cX11_isPair 9 = .ok (.getfield 158, 3) := by decide +kernel
theorem dX11_isPair_12 : decode cX11_isPair 12 = .ok (.if_icmp .ge 27, 3) := by decide +kernel
theorem dX11_isPair_15 : decode cX11_isPair 15 = .ok (.iload_n 2, 1) := by decide +kernel
theorem dX11_isPair_16 : decode cX11_isPair 16 = .ok (.ifCond .lt 23, 3) := by decide +kernel
theorem dX11_isPair_19 : decode cX11_isPair 19 = .ok (.iload_n 2, 1) := by decide +kernel
theorem dX11_isPair_20 : decode cX11_isPair 20 = .ok (.aload_n 0, 1) := by decide +kernel
theorem dX11_isPair_21 : decode cX11_isPair 21 = .ok (.getfield 25, 3) := by decide +kernel
theorem dX11_isPair_24 : decode cX11_isPair 24 = .ok (.getfield 158, 3) := by decide +kernel
theorem dX11_isPair_27 : decode cX11_isPair 27 = .ok (.if_icmp .ge 12, 3) := by decide +kernel
theorem dX11_isPair_30 : decode cX11_isPair 30 = .ok (.iload_n 1, 1) := by decide +kernel
theorem dX11_isPair_31 : decode cX11_isPair 31 = .ok (.iload_n 2, 1) := by decide +kernel
theorem dX11_isPair_32 : decode cX11_isPair 32 = .ok (.if_icmp .eq 7, 3) := by decide +kernel
theorem dX11_isPair_35 : decode cX11_isPair 35 = .ok (.iconst 1, 1) := by decide +kernel
theorem dX11_isPair_36 : decode cX11_isPair 36 = .ok (.goto 4, 3) := by decide +kernel
theorem dX11_isPair_39 : decode cX11_isPair 39 = .ok (.iconst 0, 1) := by decide +kernel
theorem dX11_isPair_40 : decode cX11_isPair 40 = .ok (.ireturn, 1) := by decide +kernel
abbrev o_X11_isPair : Type := Int32
def f_X11_isPair (S : wd_W) (p1 : Int32) (p2 : Int32) : Option o_X11_isPair :=
if p1 < 0 then (
some (0 : Int32)) else (
if (S.1 1600) ≤ p1 then (
some (0 : Int32)) else (
if p2 < 0 then (
some (0 : Int32)) else (
if (S.1 1600) ≤ p2 then (
some (0 : Int32)) else (
if p1 = p2 then (
some (0 : Int32)) else (
some (1 : Int32))))))
set_option maxRecDepth 100000 in
set_option maxHeartbeats 4000000 in
theorem c_X11_isPair (l : Launch) (D : va_G) (q g : Nat → Nat) (cy : Nat → ClassId) (z : (Nat → Nat) × (Nat → Nat) × Nat) (S : wd_W) (p1 : Int32) (p2 : Int32) (o : o_X11_isPair) (hf : f_X11_isPair S p1 p2 = some o) : MX layX l yX11_isPair cX11_isPair 3 (some .boolean) ({ frames := 0, cells := 0, slots := 0, locals := 0 } : Room) D q g cy z [.ref (q 0), .int p1, .int p2] S false (some (.int o)) (wd_o S [] [] [] [] []) 0 0 := by
  refine mx_of (own := RX11) (lc := [(0, .ref (q 0)), (1, .int p1), (2, .int p2)]) (by decide +kernel) rfl layX_ok (Nat.le_of_ble_eq_true rfl) rfl ?_
  intro X hXl hXq hXz hC hQ
  subst hXl; subst hXq; subst hXz
  unfold f_X11_isPair at hf
  refine go_iload_n (pc' := 1) hC dX11_isPair_0 rfl rfl ?_
  refine go_if_lt (tgt := 39) (pc' := 4) hC dX11_isPair_1 (by decide) rfl (fun h5 => ?_) (fun h5 => ?_)
  · have hf := ite_t h5 hf
    refine go_iconst (pc' := 40) hC dX11_isPair_39 ki_0 rfl ?_
    obtain rfl := Option.some.inj hf
    exact go_iret hC hQ dX11_isPair_40 rfl rfl rfl rfl (fun _ => rfl) rfl rfl
  · have hf := ite_f h5 hf
    refine go_iload_n (pc' := 5) hC dX11_isPair_4 rfl rfl ?_
    refine go_aload_n (pc' := 6) hC dX11_isPair_5 rfl rfl ?_
    refine go_getq (pc' := 9) hC 0 2 layX_0 rfl rfl inlX11 (Nat.le_of_ble_eq_true rfl) mw_20 rfl dX11_isPair_6 rfl ?_
    refine go_geti (v := (S.1 1600)) (pc' := 12) hC 16 0 layX_16 rfl rfl inlX2 (Nat.le_of_ble_eq_true rfl) mw_581 rfl dX11_isPair_9 rfl rfl ?_
    refine go_icmp_ge (tgt := 39) (pc' := 15) hC dX11_isPair_12 (by decide) rfl (fun h4 => ?_) (fun h4 => ?_)
    · have hf := ite_t h4 hf
      refine go_iconst (pc' := 40) hC dX11_isPair_39 ki_0 rfl ?_
      obtain rfl := Option.some.inj hf
      exact go_iret hC hQ dX11_isPair_40 rfl rfl rfl rfl (fun _ => rfl) rfl rfl
    · have hf := ite_f h4 hf
      refine go_iload_n (pc' := 16) hC dX11_isPair_15 rfl rfl ?_
      refine go_if_lt (tgt := 39) (pc' := 19) hC dX11_isPair_16 (by decide) rfl (fun h3 => ?_) (fun h3 => ?_)
      · have hf := ite_t h3 hf
        refine go_iconst (pc' := 40) hC dX11_isPair_39 ki_0 rfl ?_
        obtain rfl := Option.some.inj hf
        exact go_iret hC hQ dX11_isPair_40 rfl rfl rfl rfl (fun _ => rfl) rfl rfl
      · have hf := ite_f h3 hf
        refine go_iload_n (pc' := 20) hC dX11_isPair_19 rfl rfl ?_
        refine go_aload_n (pc' := 21) hC dX11_isPair_20 rfl rfl ?_
        refine go_getq (pc' := 24) hC 0 2 layX_0 rfl rfl inlX11 (Nat.le_of_ble_eq_true rfl) mw_20 rfl dX11_isPair_21 rfl ?_
        refine go_geti (v := (S.1 1600)) (pc' := 27) hC 16 0 layX_16 rfl rfl inlX2 (Nat.le_of_ble_eq_true rfl) mw_581 rfl dX11_isPair_24 rfl rfl ?_
        refine go_icmp_ge (tgt := 39) (pc' := 30) hC dX11_isPair_27 (by decide) rfl (fun h2 => ?_) (fun h2 => ?_)
        · have hf := ite_t h2 hf
          refine go_iconst (pc' := 40) hC dX11_isPair_39 ki_0 rfl ?_
          obtain rfl := Option.some.inj hf
          exact go_iret hC hQ dX11_isPair_40 rfl rfl rfl rfl (fun _ => rfl) rfl rfl
        · have hf := ite_f h2 hf
          refine go_iload_n (pc' := 31) hC dX11_isPair_30 rfl rfl ?_
          refine go_iload_n (pc' := 32) hC dX11_isPair_31 rfl rfl ?_
          refine go_icmp_eq (tgt := 39) (pc' := 35) hC dX11_isPair_32 (by decide) rfl (fun h1 => ?_) (fun h1 => ?_)
          · have hf := ite_t h1 hf
            refine go_iconst (pc' := 40) hC dX11_isPair_39 ki_0 rfl ?_
            obtain rfl := Option.some.inj hf
            exact go_iret hC hQ dX11_isPair_40 rfl rfl rfl rfl (fun _ => rfl) rfl rfl
          · have hf := ite_f h1 hf
            refine go_iconst (pc' := 36) hC dX11_isPair_35 ki_1 rfl ?_
            refine go_goto (tgt := 40) hC dX11_isPair_36 (by decide) ?_
            obtain rfl := Option.some.inj hf
            exact go_iret hC hQ dX11_isPair_40 rfl rfl rfl rfl (fun _ => rfl) rfl rfl
theorem dX6_addLetter_0 : decode cX6_addLetter 0 = .ok (.aload_n 0, 1) := by decide +kernel
theorem dX6_addLetter_1 : decode cX6_addLetter 1 = .ok (.getfield 34, 3) := by decide +kernel
theorem dX6_addLetter_4 : decode cX6_addLetter 4 = .ok (.aload_n 0, 1) := by decide +kernel
theorem dX6_addLetter_5 : decode cX6_addLetter 5 = .ok (.getfield 21, 3) := by decide +kernel
theorem dX6_addLetter_8 : decode cX6_addLetter 8 = .ok (.arraylength, 1) := by decide +kernel
theorem dX6_addLetter_9 : decode cX6_addLetter 9 = .ok (.if_icmp .lt 5, 3) := by decide +kernel
theorem dX6_addLetter_12 : decode cX6_addLetter 12 = .ok (.iconst (-1), 1) := by decide +kernel
theorem dX6_addLetter_13 : decode cX6_addLetter 13 = .ok (.ireturn, 1) := by decide +kernel
theorem dX6_addLetter_14 : decode cX6_addLetter 14 = .ok (.aload_n 0, 1) := by decide +kernel
theorem dX6_addLetter_15 : decode cX6_addLetter 15 = .ok (.getfield 21, 3) := by decide +kernel
theorem dX6_addLetter_18 : decode cX6_addLetter 18 = .ok (.aload_n 0, 1) := by decide +kernel
theorem dX6_addLetter_19 : decode cX6_addLetter 19 = .ok (.getfield 34, 3) := by decide +kernel
theorem dX6_addLetter_22 : decode cX6_addLetter 22 = .ok (.iload_n 1, 1) := by decide +kernel
theorem dX6_addLetter_23 : decode cX6_addLetter 23 = .ok (.iastore, 1) := by decide +kernel
theorem dX6_addLetter_24 : decode cX6_addLetter 24 = .ok (.aload_n 0, 1) := by decide +kernel
theorem dX6_addLetter_25 : decode cX6_addLetter 25 = .ok (.getfield 24, 3) := by decide +kernel
theorem dX6_addLetter_28 : decode cX6_addLetter 28 = .ok (.aload_n 0, 1) := by decide +kernel
theorem dX6_addLetter_29 : decode cX6_addLetter 29 = .ok (.getfield 34, 3) := by decide +kernel
theorem dX6_addLetter_32 : decode cX6_addLetter 32 = .ok (.iload_n 2, 1) := by decide +kernel
theorem dX6_addLetter_33 : decode cX6_addLetter 33 = .ok (.iastore, 1) := by decide +kernel
theorem dX6_addLetter_34 : decode cX6_addLetter 34 = .ok (.aload_n 0, 1) := by decide +kernel
theorem dX6_addLetter_35 : decode cX6_addLetter 35 = .ok (.getfield 27, 3) := by decide +kernel
theorem dX6_addLetter_38 : decode cX6_addLetter 38 = .ok (.aload_n 0, 1) := by decide +kernel
theorem dX6_addLetter_39 : decode cX6_addLetter 39 = .ok (.getfield 34, 3) := by decide +kernel
theorem dX6_addLetter_42 : decode cX6_addLetter 42 = .ok (.iload_n 3, 1) := by decide +kernel
theorem dX6_addLetter_43 : decode cX6_addLetter 43 = .ok (.ifCond .eq 7, 3) := by decide +kernel
theorem dX6_addLetter_46 : decode cX6_addLetter 46 = .ok (.iconst 1, 1) := by decide +kernel
theorem dX6_addLetter_47 : decode cX6_addLetter 47 = .ok (.goto 4, 3) := by decide +kernel
theorem dX6_addLetter_50 : decode cX6_addLetter 50 = .ok (.iconst 0, 1) := by decide +kernel
theorem dX6_addLetter_51 : decode cX6_addLetter 51 = .ok (.iastore, 1) := by decide +kernel
theorem dX6_addLetter_52 : decode cX6_addLetter 52 = .ok (.aload_n 0, 1) := by decide +kernel
theorem dX6_addLetter_53 : decode cX6_addLetter 53 = .ok (.dup, 1) := by decide +kernel
theorem dX6_addLetter_54 : decode cX6_addLetter 54 = .ok (.getfield 34, 3) := by decide +kernel
theorem dX6_addLetter_57 : decode cX6_addLetter 57 = .ok (.iconst 1, 1) := by decide +kernel
theorem dX6_addLetter_58 : decode cX6_addLetter 58 = .ok (.iadd, 1) := by decide +kernel
theorem dX6_addLetter_59 : decode cX6_addLetter 59 = .ok (.putfield 34, 3) := by decide +kernel
theorem dX6_addLetter_62 : decode cX6_addLetter 62 = .ok (.aload_n 0, 1) := by decide +kernel
theorem dX6_addLetter_63 : decode cX6_addLetter 63 = .ok (.getfield 34, 3) := by decide +kernel
theorem dX6_addLetter_66 : decode cX6_addLetter 66 = .ok (.iconst 1, 1) := by decide +kernel
theorem dX6_addLetter_67 : decode cX6_addLetter 67 = .ok (.isub, 1) := by decide +kernel
theorem dX6_addLetter_68 : decode cX6_addLetter 68 = .ok (.ireturn, 1) := by decide +kernel
abbrev o_X6_addLetter_q27 : Type := Int32 × Int32 × (Nat → Int32) × (Nat → Int32) × (Nat → Int32)
def f_X6_addLetter_q27 (S : wd_W) (p1 : Int32) (p2 : Int32) (p3 : Int32) : Option o_X6_addLetter_q27 :=
if (S.1 2704) < (6 : Int32) then (
gd (okx (S.1 2704) 6) <|
lz (upd (S.2.2.1 31) (S.1 2704).toNatClampNeg p1) fun a2 =>
gd (okx (S.1 2704) 6) <|
lz (upd (S.2.2.1 32) (S.1 2704).toNatClampNeg p2) fun a4 =>
lk (fun x5 x6 =>
gd (okx x6 6) <|
lz (upd (S.2.2.1 33) x6.toNatClampNeg x5) fun a9 =>
lz ((S.1 2704) + (1 : Int32)) fun x10 =>
some (x10 - (1 : Int32), x10, a2, a4, a9)) fun k51_7 =>
if p3 = 0 then (
k51_7 (0 : Int32) (S.1 2704)) else (
k51_7 (1 : Int32) (S.1 2704))) else (
some ((-1 : Int32), (S.1 2704), (S.2.2.1 31), (S.2.2.1 32), (S.2.2.1 33)))
set_option maxRecDepth 100000 in
set_option maxHeartbeats 4000000 in
theorem c_X6_addLetter_q27 (l : Launch) (D : va_G) (q g : Nat → Nat) (cy : Nat → ClassId) (z : (Nat → Nat) × (Nat → Nat) × Nat) (S : wd_W) (p1 : Int32) (p2 : Int32) (p3 : Int32) (o : o_X6_addLetter_q27) (hf : f_X6_addLetter_q27 S p1 p2 p3 = some o) : MX layX l yX6_addLetter cX6_addLetter 4 (some .int) ({ frames := 0, cells := 0, slots := 0, locals := 0 } : Room) D q g cy z [.ref (q 27), .int p1, .int p2, .int p3] S false (some (.int o.1)) (wd_o S [(2704, o.2.1)] [] [(31, o.2.2.1), (32, o.2.2.2.1), (33, o.2.2.2.2)] [] []) 0 0 := by
  refine mx_of (own := RX6) (lc := [(0, .ref (q 27)), (1, .int p1), (2, .int p2), (3, .int p3)]) (by decide +kernel) rfl layX_ok (Nat.le_of_ble_eq_true rfl) rfl ?_
  intro X hXl hXq hXz hC hQ
  subst hXl; subst hXq; subst hXz
  unfold f_X6_addLetter_q27 at hf
  refine go_keys (L1 := [(2704, (S.1 2704))]) (L2 := []) (L3 := [(31, (S.2.2.1 31)), (32, (S.2.2.1 32)), (33, (S.2.2.1 33))]) (L4 := []) (L5 := []) [2704] [] [31, 32, 33] [] [] rfl rfl rfl rfl rfl ?_
  refine go_aload_n (pc' := 1) hC dX6_addLetter_0 rfl rfl ?_
  refine go_geti (v := (S.1 2704)) (pc' := 4) hC 27 4 layX_27 rfl rfl inlX6 (Nat.le_of_ble_eq_true rfl) mw_478 rfl dX6_addLetter_1 rfl rfl ?_
  refine go_aload_n (pc' := 5) hC dX6_addLetter_4 rfl rfl ?_
  refine go_getq (pc' := 8) hC 27 5 layX_27 rfl rfl inlX6 (Nat.le_of_ble_eq_true rfl) mw_84 rfl dX6_addLetter_5 rfl ?_
  refine go_alen (v := (6 : Int32)) (pc' := 9) hC 31 layX_31 rfl (Nat.le_of_ble_eq_true rfl) kn_6 dX6_addLetter_8 rfl ?_
  refine go_icmp_lt (tgt := 14) (pc' := 12) hC dX6_addLetter_9 (by decide) rfl (fun h12 => ?_) (fun h12 => ?_)
  · have hf := ite_t h12 hf
    refine go_aload_n (pc' := 15) hC dX6_addLetter_14 rfl rfl ?_
    refine go_getq (pc' := 18) hC 27 5 layX_27 rfl rfl inlX6 (Nat.le_of_ble_eq_true rfl) mw_84 rfl dX6_addLetter_15 rfl ?_
    refine go_aload_n (pc' := 19) hC dX6_addLetter_18 rfl rfl ?_
    refine go_geti (v := (S.1 2704)) (pc' := 22) hC 27 4 layX_27 rfl rfl inlX6 (Nat.le_of_ble_eq_true rfl) mw_478 rfl dX6_addLetter_19 rfl rfl ?_
    refine go_iload_n (pc' := 23) hC dX6_addLetter_22 rfl rfl ?_
    obtain ⟨h1, hf⟩ := gd_e hf
    refine go_iast (f := (S.2.2.1 31)) (pc' := 24) hC 31 layX_31 rfl rfl dX6_addLetter_23 (okx_in h1) rfl rfl (fun a2 ha L3' hL => ?_)
    have hf := lz_r ha hf
    clear ha
    obtain rfl : L3' = [(31, a2), (32, (S.2.2.1 32)), (33, (S.2.2.1 33))] := hL.symm
    refine go_aload_n (pc' := 25) hC dX6_addLetter_24 rfl rfl ?_
    refine go_getq (pc' := 28) hC 27 6 layX_27 rfl rfl inlX6 (Nat.le_of_ble_eq_true rfl) mw_85 rfl dX6_addLetter_25 rfl ?_
    refine go_aload_n (pc' := 29) hC dX6_addLetter_28 rfl rfl ?_
    refine go_geti (v := (S.1 2704)) (pc' := 32) hC 27 4 layX_27 rfl rfl inlX6 (Nat.le_of_ble_eq_true rfl) mw_478 rfl dX6_addLetter_29 rfl rfl ?_
    refine go_iload_n (pc' := 33) hC dX6_addLetter_32 rfl rfl ?_
    obtain ⟨h3, hf⟩ := gd_e hf
    refine go_iast (f := (S.2.2.1 32)) (pc' := 34) hC 32 layX_32 rfl rfl dX6_addLetter_33 (okx_in h3) rfl rfl (fun a4 ha L3' hL => ?_)
    have hf := lz_r ha hf
    clear ha
    obtain rfl : L3' = [(31, a2), (32, a4), (33, (S.2.2.1 33))] := hL.symm
    refine go_aload_n (pc' := 35) hC dX6_addLetter_34 rfl rfl ?_
    refine go_getq (pc' := 38) hC 27 7 layX_27 rfl rfl inlX6 (Nat.le_of_ble_eq_true rfl) mw_86 rfl dX6_addLetter_35 rfl ?_
    refine go_aload_n (pc' := 39) hC dX6_addLetter_38 rfl rfl ?_
    refine go_geti (v := (S.1 2704)) (pc' := 42) hC 27 4 layX_27 rfl rfl inlX6 (Nat.le_of_ble_eq_true rfl) mw_478 rfl dX6_addLetter_39 rfl rfl ?_
    refine go_iload_n (pc' := 43) hC dX6_addLetter_42 rfl rfl ?_
    obtain ⟨k51_7, hk51_7, hf⟩ := lk_e2 hf
    have jk51_7 : ∀ (x5 : Int32) (x6 : Int32), k51_7 x5 x6 = some o → Go X layX S 51 [(0, .ref (x_q X 27))] [.int x5, .int x6, .ref (x_q X 33)] g [(2704, (S.1 2704))] [] [(31, a2), (32, a4), (33, (S.2.2.1 33))] [] [] 0 0 := by
      intro x5 x6 hf
      have hf := hk51_7 x5 x6 hf
      clear hk51_7
      obtain ⟨h8, hf⟩ := gd_e hf
      refine go_iast (f := (S.2.2.1 33)) (pc' := 52) hC 33 layX_33 rfl rfl dX6_addLetter_51 (okx_in h8) rfl rfl (fun a9 ha L3' hL => ?_)
      have hf := lz_r ha hf
      clear ha
      obtain rfl : L3' = [(31, a2), (32, a4), (33, a9)] := hL.symm
      refine go_aload_n (pc' := 53) hC dX6_addLetter_52 rfl rfl ?_
      refine go_dup (pc' := 54) hC dX6_addLetter_53 rfl rfl ?_
      refine go_geti (v := (S.1 2704)) (pc' := 57) hC 27 4 layX_27 rfl rfl inlX6 (Nat.le_of_ble_eq_true rfl) mw_478 rfl dX6_addLetter_54 rfl rfl ?_
      refine go_iconst (pc' := 58) hC dX6_addLetter_57 ki_1 rfl ?_
      refine go_iadd (pc' := 59) hC dX6_addLetter_58 rfl ?_
      refine go_namei (fun x10 hx => ?_)
      have hf := lz_r hx hf
      clear hx
      refine go_puti (L1' := [(2704, x10)]) (pc' := 62) hC 27 4 layX_27 rfl rfl inlX6 tyX6_ok nmX6 (Nat.le_of_ble_eq_true rfl) mw_478 rfl rfl rfl rfl dX6_addLetter_59 rfl rfl rfl ?_
      refine go_aload_n (pc' := 63) hC dX6_addLetter_62 rfl rfl ?_
      refine go_geti (v := x10) (pc' := 66) hC 27 4 layX_27 rfl rfl inlX6 (Nat.le_of_ble_eq_true rfl) mw_478 rfl dX6_addLetter_63 rfl rfl ?_
      refine go_iconst (pc' := 67) hC dX6_addLetter_66 ki_1 rfl ?_
      refine go_isub (pc' := 68) hC dX6_addLetter_67 rfl ?_
      obtain rfl := Option.some.inj hf
      exact go_iret hC hQ dX6_addLetter_68 rfl rfl rfl rfl (fun _ => rfl) rfl rfl
    clear hk51_7
    refine go_if_eq (tgt := 50) (pc' := 46) hC dX6_addLetter_43 (by decide) rfl (fun h11 => ?_) (fun h11 => ?_)
    · have hf := ite_t h11 hf
      refine go_iconst (pc' := 51) hC dX6_addLetter_50 ki_0 rfl ?_
      refine go_sub [0] rfl ?_
      exact jk51_7 (0 : Int32) (S.1 2704) hf
    · have hf := ite_f h11 hf
      refine go_iconst (pc' := 47) hC dX6_addLetter_46 ki_1 rfl ?_
      refine go_goto (tgt := 51) hC dX6_addLetter_47 (by decide) ?_
      refine go_sub [0] rfl ?_
      exact jk51_7 (1 : Int32) (S.1 2704) hf
  · have hf := ite_f h12 hf
    refine go_iconst (pc' := 13) hC dX6_addLetter_12 ki_m1 rfl ?_
    obtain rfl := Option.some.inj hf
    exact go_iret hC hQ dX6_addLetter_13 rfl rfl rfl rfl (fun _ => rfl) rfl rfl
theorem dX11_letter_0 : decode cX11_letter 0 = .ok (.aload_n 0, 1) := by decide +kernel
theorem dX11_letter_1 : decode cX11_letter 1 = .ok (.iload_n 1, 1) := by decide +kernel
theorem dX11_letter_2 : decode cX11_letter 2 = .ok (.iload_n 2, 1) := by decide +kernel
theorem dX11_letter_3 : decode cX11_letter 3 = .ok (.invokevirtual 274, 3) := by decide +kernel
theorem dX11_letter_6 : decode cX11_letter 6 = .ok (.ifCond .eq 15, 3) := by decide +kernel
theorem dX11_letter_9 : decode cX11_letter 9 = .ok (.aload_n 0, 1) := by decide +kernel
theorem dX11_letter_10 : decode cX11_letter 10 = .ok (.getfield 31, 3) := by decide +kernel
theorem dX11_letter_13 : decode cX11_letter 13 = .ok (.getfield 278, 3) := by decide +kernel
theorem dX11_letter_16 : decode cX11_letter 16 = .ok (.bipush 6, 2) := by decide +kernel
theorem dX11_letter_18 : decode cX11_letter 18 = .ok (.if_icmp .lt 5, 3) := by decide +kernel
theorem dX11_letter_21 : decode cX11_letter 21 = .ok (.iconst (-1), 1) := by decide +kernel
theorem dX11_letter_22 : decode cX11_letter 22 = .ok (.ireturn, 1) := by decide +kernel
theorem dX11_letter_23 : decode cX11_letter 23 = .ok (.aload_n 0, 1) := by decide +kernel
theorem dX11_letter_24 : decode cX11_letter 24 = .ok (.dup, 1) := by decide +kernel
theorem dX11_letter_25 : decode cX11_letter 25 = .ok (.getfield 225, 3) := by decide +kernel
theorem dX11_letter_28 : decode cX11_letter 28 = .ok (.bipush (-33), 2) := by decide +kernel
theorem dX11_letter_30 : decode cX11_letter 30 = .ok (.iand, 1) := by decide +kernel
theorem dX11_letter_31 : decode cX11_letter 31 = .ok (.putfield 225, 3) := by decide +kernel
theorem dX11_letter_34 : decode cX11_letter 34 = .ok (.aload_n 0, 1) := by decide +kernel
theorem dX11_letter_35 : decode cX11_letter 35 = .ok (.getfield 31, 3) := by decide +kernel
theorem dX11_letter_38 : decode cX11_letter 38 = .ok (.iload_n 1, 1) := by decide +kernel
theorem dX11_letter_39 : decode cX11_letter 39 = .ok (.iload_n 2, 1) := by decide +kernel
theorem dX11_letter_40 : decode cX11_letter 40 = .ok (.iload_n 3, 1) := by decide +kernel
theorem dX11_letter_41 : decode cX11_letter 41 = .ok (.invokevirtual 281, 3) := by decide +kernel
theorem dX11_letter_44 : decode cX11_letter 44 = .ok (.ireturn, 1) := by decide +kernel
abbrev o_X11_letter : Type := Int32 × Int32 × Int32 × (Nat → Int32) × (Nat → Int32) × (Nat → Int32)
def f_X11_letter (S : wd_W) (p1 : Int32) (p2 : Int32) (p3 : Int32) : Option o_X11_letter :=
bd (f_X11_isPair (wd_o S [(7, (S.1 7)), (2704, (S.1 2704))] [] [(31, (S.2.2.1 31)), (32, (S.2.2.1 32)), (33, (S.2.2.1 33))] [] []) p1 p2) fun o1 =>
if o1 = 0 then (
some ((-1 : Int32), (S.1 7), (S.1 2704), (S.2.2.1 31), (S.2.2.1 32), (S.2.2.1 33))) else (
if (S.1 2704) < (6 : Int32) then (
lz ((S.1 7) &&& (-33 : Int32)) fun x2 =>
bd (f_X6_addLetter_q27 (wd_o S [(7, x2), (2704, (S.1 2704))] [] [(31, (S.2.2.1 31)), (32, (S.2.2.1 32)), (33, (S.2.2.1 33))] [] []) p1 p2 p3) fun o3 =>
some (o3.1, x2, o3.2.1, o3.2.2.1, o3.2.2.2.1, o3.2.2.2.2)) else (
some ((-1 : Int32), (S.1 7), (S.1 2704), (S.2.2.1 31), (S.2.2.1 32), (S.2.2.1 33))))
set_option maxRecDepth 100000 in
set_option maxHeartbeats 4000000 in
theorem c_X11_letter (l : Launch) (D : va_G) (q g : Nat → Nat) (cy : Nat → ClassId) (z : (Nat → Nat) × (Nat → Nat) × Nat) (S : wd_W) (p1 : Int32) (p2 : Int32) (p3 : Int32) (o : o_X11_letter) (hf : f_X11_letter S p1 p2 p3 = some o) : MX layX l yX11_letter cX11_letter 4 (some .int) ({ frames := 1, cells := 0, slots := 0, locals := 23 } : Room) D q g cy z [.ref (q 0), .int p1, .int p2, .int p3] S false (some (.int o.1)) (wd_o S [(7, o.2.1), (2704, o.2.2.1)] [] [(31, o.2.2.2.1), (32, o.2.2.2.2.1), (33, o.2.2.2.2.2)] [] []) 0 0 := by
  refine mx_of (own := RX11) (lc := [(0, .ref (q 0)), (1, .int p1), (2, .int p2), (3, .int p3)]) (by decide +kernel) rfl layX_ok (Nat.le_of_ble_eq_true rfl) rfl ?_
  intro X hXl hXq hXz hC hQ
  subst hXl; subst hXq; subst hXz
  unfold f_X11_letter at hf
  refine go_keys (L1 := [(7, (S.1 7)), (2704, (S.1 2704))]) (L2 := []) (L3 := [(31, (S.2.2.1 31)), (32, (S.2.2.1 32)), (33, (S.2.2.1 33))]) (L4 := []) (L5 := []) [7, 2704] [] [31, 32, 33] [] [] rfl rfl rfl rfl rfl ?_
  refine go_aload_n (pc' := 1) hC dX11_letter_0 rfl rfl ?_
  refine go_iload_n (pc' := 2) hC dX11_letter_1 rfl rfl ?_
  refine go_iload_n (pc' := 3) hC dX11_letter_2 rfl rfl ?_
  obtain ⟨o1, ho1, hf⟩ := bd_e hf
  refine go_callV0 (pc' := 6) (As := [.int p1, .int p2]) (st := []) (st' := [.int o1])   (b := 0) hC dX11_letter_3 ⟨mw_1237, mw_1240, mw_2, yd_yX11_isPair, yp_yX11_isPair, Nat.le_of_ble_eq_true rfl, Nat.le_of_ble_eq_true rfl, (Nat.le_of_ble_eq_true rfl), (Nat.le_of_ble_eq_true rfl)⟩ mw_1238 mw_1239 layX_0 rfl rfl rfl (Nat.le_of_ble_eq_true rfl) (c_X11_isPair (x_l X) (x_D X) (x_q X) g (x_cy X) (x_z X) _ p1 p2 o1 ho1) rfl rfl ?_
  refine go_if_eq (tgt := 21) (pc' := 9) hC dX11_letter_6 (by decide) rfl (fun h5 => ?_) (fun h5 => ?_)
  · have hf := ite_t h5 hf
    refine go_iconst (pc' := 22) hC dX11_letter_21 ki_m1 rfl ?_
    obtain rfl := Option.some.inj hf
    exact go_iret hC hQ dX11_letter_22 rfl rfl rfl rfl (fun _ => rfl) rfl rfl
  · have hf := ite_f h5 hf
    refine go_aload_n (pc' := 10) hC dX11_letter_9 rfl rfl ?_
    refine go_getq (pc' := 13) hC 0 3 layX_0 rfl rfl inlX11 (Nat.le_of_ble_eq_true rfl) mw_24 rfl dX11_letter_10 rfl ?_
    refine go_geti (v := (S.1 2704)) (pc' := 16) hC 27 4 layX_27 rfl rfl inlX6 (Nat.le_of_ble_eq_true rfl) mw_1236 rfl dX11_letter_13 rfl rfl ?_
    refine go_bipush (pc' := 18) hC dX11_letter_16 kb_6 rfl ?_
    refine go_icmp_lt (tgt := 23) (pc' := 21) hC dX11_letter_18 (by decide) rfl (fun h4 => ?_) (fun h4 => ?_)
    · have hf := ite_t h4 hf
      refine go_aload_n (pc' := 24) hC dX11_letter_23 rfl rfl ?_
      refine go_dup (pc' := 25) hC dX11_letter_24 rfl rfl ?_
      refine go_geti (v := (S.1 7)) (pc' := 28) hC 0 7 layX_0 rfl rfl inlX11 (Nat.le_of_ble_eq_true rfl) mw_483 rfl dX11_letter_25 rfl rfl ?_
      refine go_bipush (pc' := 30) hC dX11_letter_28 kb_m33 rfl ?_
      refine go_iand (pc' := 31) hC dX11_letter_30 rfl ?_
      refine go_namei (fun x2 hx => ?_)
      have hf := lz_r hx hf
      clear hx
      refine go_puti (L1' := [(7, x2), (2704, (S.1 2704))]) (pc' := 34) hC 0 7 layX_0 rfl rfl inlX11 tyX11_ok nmX11 (Nat.le_of_ble_eq_true rfl) mw_483 rfl rfl rfl rfl dX11_letter_31 rfl rfl rfl ?_
      refine go_aload_n (pc' := 35) hC dX11_letter_34 rfl rfl ?_
      refine go_getq (pc' := 38) hC 0 3 layX_0 rfl rfl inlX11 (Nat.le_of_ble_eq_true rfl) mw_24 rfl dX11_letter_35 rfl ?_
      refine go_iload_n (pc' := 39) hC dX11_letter_38 rfl rfl ?_
      refine go_iload_n (pc' := 40) hC dX11_letter_39 rfl rfl ?_
      refine go_iload_n (pc' := 41) hC dX11_letter_40 rfl rfl ?_
      obtain ⟨o3, ho3, hf⟩ := bd_e hf
      refine go_callV1 (pc' := 44) (As := [.int p1, .int p2, .int p3]) (st := []) (st' := [.int o3.1]) (L1' := [(7, x2), (2704, o3.2.1)]) (L2' := []) (L3' := [(31, o3.2.2.1), (32, o3.2.2.2.1), (33, o3.2.2.2.2)]) (L4' := []) (L5' := []) (cells' := 0) (slots' := 0) (b := 27) hC dX11_letter_41 ⟨mw_1241, mw_1244, mw_23, yd_yX6_addLetter, yp_yX6_addLetter, Nat.le_of_ble_eq_true rfl, Nat.le_of_ble_eq_true rfl, (Nat.le_of_ble_eq_true rfl), (Nat.le_of_ble_eq_true rfl)⟩ mw_1242 mw_1243 layX_27 rfl rfl rfl (Nat.le_of_ble_eq_true rfl) (c_X6_addLetter_q27 (x_l X) (x_D X) (x_q X) g (x_cy X) (x_z X) _ p1 p2 p3 o3 ho3) rfl rfl rfl rfl rfl rfl rfl rfl rfl rfl rfl rfl rfl rfl ?_
      obtain rfl := Option.some.inj hf
      exact go_iret hC hQ dX11_letter_44 rfl rfl rfl rfl (fun _ => rfl) rfl rfl
    · have hf := ite_f h4 hf
      refine go_iconst (pc' := 22) hC dX11_letter_21 ki_m1 rfl ?_
      obtain rfl := Option.some.inj hf
      exact go_iret hC hQ dX11_letter_22 rfl rfl rfl rfl (fun _ => rfl) rfl rfl
theorem dX11_knownMail_0 : decode cX11_knownMail 0 = .ok (.aload_n 0, 1) := by decide +kernel
theorem dX11_knownMail_1 : decode cX11_knownMail 1 = .ok (.bipush 32, 2) := by decide +kernel
theorem dX11_knownMail_3 : decode cX11_knownMail 3 = .ok (.invokevirtual 233, 3) := by decide +kernel
theorem dX11_knownMail_6 : decode cX11_knownMail 6 = .ok (.aload_n 0, 1) := by decide +kernel
theorem dX11_knownMail_7 : decode cX11_knownMail 7 = .ok (.getfield 83, 3) := by decide +kernel
theorem dX11_knownMail_10 : decode cX11_knownMail 10 = .ok (.areturn, 1) := by decide +kernel
abbrev o_X11_knownMail : Type := wd_W × Nat × Nat
def f_X11_knownMail (S : wd_W) : Option o_X11_knownMail :=
bd (f_X11_know (wd_o S [] [] [] [] []) (32 : Int32)) fun o1 =>
some (o1.1, 0 + o1.2.1, 0 + o1.2.2)
set_option maxRecDepth 100000 in
set_option maxHeartbeats 4000000 in
theorem c_X11_knownMail (l : Launch) (D : va_G) (q g : Nat → Nat) (cy : Nat → ClassId) (z : (Nat → Nat) × (Nat → Nat) × Nat) (S : wd_W) (o : o_X11_knownMail) (hf : f_X11_knownMail S = some o) : MX layX l yX11_knownMail cX11_knownMail 1 (some (.object "LetterThrough$Mail")) ({ frames := 5, cells := 12, slots := 140000, locals := 127 } : Room) D q g cy z [.ref (q 0)] S true (some (.ref (q 137))) o.1 o.2.1 o.2.2 := by
  refine mx_of (own := RX11) (lc := [(0, .ref (q 0))]) (by decide +kernel) rfl layX_ok (Nat.le_of_ble_eq_true rfl) rfl ?_
  intro X hXl hXq hXz hC hQ
  subst hXl; subst hXq; subst hXz
  unfold f_X11_knownMail at hf
  refine go_aload_n (pc' := 1) hC dX11_knownMail_0 rfl rfl ?_
  refine go_bipush (pc' := 3) hC dX11_knownMail_1 kb_32 rfl ?_
  obtain ⟨o1, ho1, hf⟩ := bd_e hf
  refine go_callVw (pc' := 6) (As := [.int (32 : Int32)]) (st := []) (st' := [])  (cells' := 0 + o1.2.1) (slots' := 0 + o1.2.2) (b := 0) hC dX11_knownMail_3 ⟨mw_597, mw_600, mw_2, yd_yX11_know, yp_yX11_know, Nat.le_of_ble_eq_true rfl, Nat.le_of_ble_eq_true rfl, (Nat.le_of_ble_eq_true rfl), (Nat.le_of_ble_eq_true rfl)⟩ mw_598 mw_599 layX_0 rfl rfl rfl (Nat.le_of_ble_eq_true rfl) (c_X11_know (x_l X) (x_D X) (x_q X) g (x_cy X) (x_z X) _ (32 : Int32) o1 ho1) rfl rfl rfl rfl (fun g _ => ?_)
  refine go_aload_n (pc' := 7) hC dX11_knownMail_6 rfl rfl ?_
  refine go_getq (pc' := 10) hC 0 14 layX_0 rfl rfl inlX11 (Nat.le_of_ble_eq_true rfl) mw_45 rfl dX11_knownMail_7 rfl ?_
  obtain rfl := Option.some.inj hf
  exact go_aret hC hQ dX11_knownMail_10 rfl rfl rfl (fun h => nomatch h) rfl rfl
theorem dX5_agreeing_0 : decode cX5_agreeing 0 = .ok (.lconst 0, 1) := by decide +kernel
theorem dX5_agreeing_1 : decode cX5_agreeing 1 = .ok (.lstore_n 2, 1) := by decide +kernel
theorem dX5_agreeing_2 : decode cX5_agreeing 2 = .ok (.iconst 0, 1) := by decide +kernel
theorem dX5_agreeing_3 : decode cX5_agreeing 3 = .ok (.istore 4, 2) := by decide +kernel
theorem dX5_agreeing_5 : decode cX5_agreeing 5 = .ok (.iload 4, 2) := by decide +kernel
theorem dX5_agreeing_7 : decode cX5_agreeing 7 = .ok (.aload_n 0, 1) := by decide +kernel
theorem dX5_agreeing_8 : decode cX5_agreeing 8 = .ok (.getfield 30, 3) := by decide +kernel
theorem dX5_agreeing_11 : decode cX5_agreeing 11 = .ok (.getfield 68, 3) := by decide +kernel
theorem dX5_agreeing_14 : decode cX5_agreeing 14 = .ok (.if_icmp .ge 47, 3) := by decide +kernel
theorem dX5_agreeing_17 : decode cX5_agreeing 17 = .ok (.iload 4, 2) := by decide +kernel
theorem dX5_agreeing_19 : decode cX5_agreeing 19 = .ok (.iload_n 1, 1) := by decide +kernel
theorem dX5_agreeing_20 : decode cX5_agreeing 20 = .ok (.iand, 1) := by decide +kernel
theorem dX5_agreeing_21 : decode cX5_agreeing 21 = .ok (.iload_n 1, 1) := by decide +kernel
theorem dX5_agreeing_22 : decode cX5_agreeing 22 = .ok (.if_icmp .ne 33, 3) := by decide +kernel
theorem dX5_agreeing_25 : decode cX5_agreeing 25 = .ok (.aload_n 0, 1) := by decide +kernel
theorem dX5_agreeing_26 : decode cX5_agreeing 26 = .ok (.getfield 9, 3) := by decide +kernel
theorem dX5_agreeing_29 : decode cX5_agreeing 29 = .ok (.aload_n 0, 1) := by decide +kernel
theorem dX5_agreeing_30 : decode cX5_agreeing 30 = .ok (.getfield 30, 3) := by decide +kernel
theorem dX5_agreeing_33 : decode cX5_agreeing 33 = .ok (.iload 4, 2) := by decide +kernel
theorem dX5_agreeing_35 : decode cX5_agreeing 35 = .ok (.invokevirtual 71, 3) := by decide +kernel
theorem dX5_agreeing_38 : decode cX5_agreeing 38 = .ok (.baload, 1) := by decide +kernel
theorem dX5_agreeing_39 : decode cX5_agreeing 39 = .ok (.ifCond .eq 16, 3) := by decide +kernel
theorem dX5_agreeing_42 : decode cX5_agreeing 42 = .ok (.lload_n 2, 1) := by decide +kernel
theorem dX5_agreeing_43 : decode cX5_agreeing 43 = .ok (.aload_n 0, 1) := by decide +kernel
theorem dX5_agreeing_44 : decode cX5_agreeing 44 = .ok (.getfield 30, 3) := by decide +kernel
theorem dX5_agreeing_47 : decode cX5_agreeing 47 = .ok (.getfield 75, 3) := by decide +kernel
theorem dX5_agreeing_50 : decode cX5_agreeing 50 = .ok (.iload 4, 2) := by decide +kernel
theorem dX5_agreeing_52 : decode cX5_agreeing 52 = .ok (.laload, 1) := by decide +kernel
theorem dX5_agreeing_53 : decode cX5_agreeing 53 = .ok (.ladd, 1) := by decide +kernel
theorem dX5_agreeing_54 : decode cX5_agreeing 54 = .ok (.lstore_n 2, 1) := by decide +kernel
theorem dX5_agreeing_55 : decode cX5_agreeing 55 = .ok (.iinc 4 1, 3) := by decide +kernel
theorem dX5_agreeing_58 : decode cX5_agreeing 58 = .ok (.goto (-53), 3) := by decide +kernel
theorem dX5_agreeing_61 : decode cX5_agreeing 61 = .ok (.lload_n 2, 1) := by decide +kernel
theorem dX5_agreeing_62 : decode cX5_agreeing 62 = .ok (.lreturn, 1) := by decide +kernel
abbrev o_X5_agreeing_q137 : Type := Int64
def f_X5_agreeing_q137_L5 (S : wd_W) (p1 : Int32) (r3 : (Int64) → (Int32) → (Option o_X5_agreeing_q137)) (x1 : Int64) (x2 : Int32) : Option o_X5_agreeing_q137 :=
if (S.1 10602) ≤ x2 then (
some x1) else (
lk (fun x4 =>
r3 x4 (x2 + (1 : Int32))) fun k55_5 =>
if (x2 &&& p1) = p1 then (
bd (f_X8_openIn_q106 (wd_o S [] [] [] [] []) x2) fun o6 =>
gd (okx o6 (S.2.2.2.2 138)) <|
if ((S.2.2.1 138) o6.toNatClampNeg) = 0 then (
k55_5 x1) else (
gd (okx x2 (S.2.2.2.2 107)) <|
lz (x1 + ((S.2.2.2.1 107) x2.toNatClampNeg)) fun x9 =>
k55_5 x9)) else (
k55_5 x1))
def f_X5_agreeing_q137 (S : wd_W) (p1 : Int32) : Option o_X5_agreeing_q137 :=
it2 (f_X5_agreeing_q137_L5 S p1) fuel (0 : Int64) (0 : Int32)
set_option maxRecDepth 100000 in
set_option maxHeartbeats 4000000 in
theorem c_X5_agreeing_q137 (l : Launch) (D : va_G) (q g : Nat → Nat) (cy : Nat → ClassId) (z : (Nat → Nat) × (Nat → Nat) × Nat) (S : wd_W) (p1 : Int32) (o : o_X5_agreeing_q137) (hf : f_X5_agreeing_q137 S p1 = some o) : MX layX l yX5_agreeing cX5_agreeing 5 (some .long) ({ frames := 1, cells := 0, slots := 0, locals := 21 } : Room) D q g cy z [.ref (q 137), .int p1] S false (some (.long o)) (wd_o S [] [] [] [] []) 0 0 := by
  refine mx_of (own := RX5) (lc := [(0, .ref (q 137)), (1, .int p1)]) (by decide +kernel) rfl layX_ok (Nat.le_of_ble_eq_true rfl) rfl ?_
  intro X hXl hXq hXz hC hQ
  subst hXl; subst hXq; subst hXz
  unfold f_X5_agreeing_q137 at hf
  refine go_lconst (pc' := 1) hC dX5_agreeing_0 kl_0 rfl ?_
  refine go_lstore_n (lc' := [(0, .ref (x_q X 137)), (1, .int p1), (2, .long (0 : Int64))]) (pc' := 2) hC dX5_agreeing_1 (Nat.le_of_ble_eq_true rfl) rfl rfl ?_
  refine go_iconst (pc' := 3) hC dX5_agreeing_2 ki_0 rfl ?_
  refine go_istore (lc' := [(0, .ref (x_q X 137)), (1, .int p1), (2, .long (0 : Int64)), (4, .int (0 : Int32))]) (pc' := 5) hC dX5_agreeing_3 (Nat.le_of_ble_eq_true rfl) rfl rfl ?_
  have l5_13 : ∀ (nn : Nat) (x1 : Int64) (x2 : Int32), it2 (f_X5_agreeing_q137_L5 S p1) nn x1 x2 = some o → Go X layX S 5 [(0, .ref (x_q X 137)), (1, .int p1), (2, .long x1), (4, .int x2)] [] g [] [] [] [] [] 0 0 := by
    intro nn
    induction nn with
    | zero =>
      intro x1 x2 hf
      exact none_no hf
    | succ nn ih =>
      intro x1 x2 hf
      have hf : f_X5_agreeing_q137_L5 S p1 (it2 (f_X5_agreeing_q137_L5 S p1) nn) x1 x2 = some o := hf
      generalize it2 (f_X5_agreeing_q137_L5 S p1) nn = r3 at ih hf
      unfold f_X5_agreeing_q137_L5 at hf
      refine go_iload (pc' := 7) hC dX5_agreeing_5 rfl rfl ?_
      refine go_aload_n (pc' := 8) hC dX5_agreeing_7 rfl rfl ?_
      refine go_getq (pc' := 11) hC 137 1 layX_137 rfl rfl inlX5 (Nat.le_of_ble_eq_true rfl) mw_156 rfl dX5_agreeing_8 rfl ?_
      refine go_geti (v := (S.1 10602)) (pc' := 14) hC 106 2 layX_106 rfl rfl inlX8 (Nat.le_of_ble_eq_true rfl) mw_1265 rfl dX5_agreeing_11 rfl rfl ?_
      refine go_icmp_ge (tgt := 61) (pc' := 17) hC dX5_agreeing_14 (by decide) rfl (fun h12 => ?_) (fun h12 => ?_)
      · have hf := ite_t h12 hf
        refine go_lload_n (pc' := 62) hC dX5_agreeing_61 rfl rfl ?_
        obtain rfl := Option.some.inj hf
        exact go_lret hC hQ dX5_agreeing_62 rfl rfl rfl (fun _ => rfl) rfl rfl
      · have hf := ite_f h12 hf
        refine go_iload (pc' := 19) hC dX5_agreeing_17 rfl rfl ?_
        refine go_iload_n (pc' := 20) hC dX5_agreeing_19 rfl rfl ?_
        refine go_iand (pc' := 21) hC dX5_agreeing_20 rfl ?_
        refine go_iload_n (pc' := 22) hC dX5_agreeing_21 rfl rfl ?_
        obtain ⟨k55_5, hk55_5, hf⟩ := lk_e1 hf
        have jk55_5 : ∀ (x4 : Int64), k55_5 x4 = some o → Go X layX S 55 [(0, .ref (x_q X 137)), (1, .int p1), (2, .long x4), (4, .int x2)] [] g [] [] [] [] [] 0 0 := by
          intro x4 hf
          have hf := hk55_5 x4 hf
          clear hk55_5
          refine go_iinc (lc' := [(0, .ref (x_q X 137)), (1, .int p1), (2, .long x4), (4, .int (x2 + (1 : Int32)))]) (pc' := 58) hC dX5_agreeing_55 rfl ki_1 (Nat.le_of_ble_eq_true rfl) rfl rfl ?_
          refine go_goto (tgt := 5) hC dX5_agreeing_58 (by decide) ?_
          exact ih x4 (x2 + (1 : Int32)) hf
        clear hk55_5
        refine go_icmp_ne (tgt := 55) (pc' := 25) hC dX5_agreeing_22 (by decide) rfl (fun h11 => ?_) (fun h11 => ?_)
        · have hf := ite_f h11 hf
          exact jk55_5 x1 hf
        · have hf := ite_t h11 hf
          refine go_aload_n (pc' := 26) hC dX5_agreeing_25 rfl rfl ?_
          refine go_getg (pc' := 29) hC 137 2 layX_137 rfl rfl inlX5 (Nat.le_of_ble_eq_true rfl) mw_151 rfl dX5_agreeing_26 rfl ?_
          refine go_aload_n (pc' := 30) hC dX5_agreeing_29 rfl rfl ?_
          refine go_getq (pc' := 33) hC 137 1 layX_137 rfl rfl inlX5 (Nat.le_of_ble_eq_true rfl) mw_156 rfl dX5_agreeing_30 rfl ?_
          refine go_iload (pc' := 35) hC dX5_agreeing_33 rfl rfl ?_
          obtain ⟨o6, ho6, hf⟩ := bd_e hf
          refine go_callV0 (pc' := 38) (As := [.int x2]) (st := [.ref (g 138)]) (st' := [.int o6, .ref (g 138)])   (b := 106) hC dX5_agreeing_35 ⟨mw_1267, mw_710, mw_31, yd_yX8_openIn, yp_yX8_openIn, Nat.le_of_ble_eq_true rfl, Nat.le_of_ble_eq_true rfl, (Nat.le_of_ble_eq_true rfl), (Nat.le_of_ble_eq_true rfl)⟩ mw_708 mw_709 layX_106 rfl rfl rfl (Nat.le_of_ble_eq_true rfl) (c_X8_openIn_q106 (x_l X) (x_D X) (x_q X) g (x_cy X) (x_z X) _ x2 o6 ho6) rfl rfl ?_
          obtain ⟨h7, hf⟩ := gd_e hf
          refine go_baldg (f := (S.2.2.1 138)) (pc' := 39) hC 138 layX_138 rfl rfl dX5_agreeing_38 (okx_in h7) rfl ?_
          refine go_if_eq (tgt := 55) (pc' := 42) hC dX5_agreeing_39 (by decide) rfl (fun h10 => ?_) (fun h10 => ?_)
          · have hf := ite_t h10 hf
            exact jk55_5 x1 hf
          · have hf := ite_f h10 hf
            refine go_lload_n (pc' := 43) hC dX5_agreeing_42 rfl rfl ?_
            refine go_aload_n (pc' := 44) hC dX5_agreeing_43 rfl rfl ?_
            refine go_getq (pc' := 47) hC 137 1 layX_137 rfl rfl inlX5 (Nat.le_of_ble_eq_true rfl) mw_156 rfl dX5_agreeing_44 rfl ?_
            refine go_getg (pc' := 50) hC 106 4 layX_106 rfl rfl inlX8 (Nat.le_of_ble_eq_true rfl) mw_1266 rfl dX5_agreeing_47 rfl ?_
            refine go_iload (pc' := 52) hC dX5_agreeing_50 rfl rfl ?_
            obtain ⟨h8, hf⟩ := gd_e hf
            refine go_laldg (f := (S.2.2.2.1 107)) (pc' := 53) hC 107 layX_107 rfl rfl dX5_agreeing_52 (okx_in h8) rfl ?_
            refine go_ladd (pc' := 54) hC dX5_agreeing_53 rfl ?_
            refine go_namel (fun x9 hx => ?_)
            have hf := lz_r hx hf
            clear hx
            refine go_lstore_n (lc' := [(0, .ref (x_q X 137)), (1, .int p1), (2, .long x9), (4, .int x2)]) (pc' := 55) hC dX5_agreeing_54 (Nat.le_of_ble_eq_true rfl) rfl rfl ?_
            exact jk55_5 x9 hf
  exact l5_13 fuel (0 : Int64) (0 : Int32) hf
theorem dX11_thought_0 : decode cX11_thought 0 = .ok (.aload_n 0, 1) := by decide +kernel
theorem dX11_thought_1 : decode cX11_thought 1 = .ok (.iload_n 1, 1) := by decide +kernel
theorem dX11_thought_2 : decode cX11_thought 2 = .ok (.invokevirtual 188, 3) := by decide +kernel
theorem dX11_thought_5 : decode cX11_thought 5 = .ok (.ifCond .eq 12, 3) := by decide +kernel
theorem dX11_thought_8 : decode cX11_thought 8 = .ok (.iload_n 2, 1) := by decide +kernel
theorem dX11_thought_9 : decode cX11_thought 9 = .ok (.ifCond .lt 8, 3) := by decide +kernel
theorem dX11_thought_12 : decode cX11_thought 12 = .ok (.iload_n 2, 1) := by decide +kernel
theorem dX11_thought_13 : decode cX11_thought 13 = .ok (.iconst 1, 1) := by decide +kernel
theorem dX11_thought_14 : decode cX11_thought 14 = .ok (.if_icmp .le 7, 3) := by decide +kernel
theorem dX11_thought_17 : decode cX11_thought 17 = .ok (.ldc2_w 186, 3) := by decide +kernel
theorem dX11_thought_20 : decode cX11_thought 20 = .ok (.lreturn, 1) := by decide +kernel
theorem dX11_thought_21 : decode cX11_thought 21 = .ok (.aload_n 0, 1) := by decide +kernel
theorem dX11_thought_22 : decode cX11_thought 22 = .ok (.invokevirtual 285, 3) := by decide +kernel
theorem dX11_thought_25 : decode cX11_thought 25 = .ok (.iload_n 2, 1) := by decide +kernel
theorem dX11_thought_26 : decode cX11_thought 26 = .ok (.ifCond .ne 9, 3) := by decide +kernel
theorem dX11_thought_29 : decode cX11_thought 29 = .ok (.iconst 1, 1) := by decide +kernel
theorem dX11_thought_30 : decode cX11_thought 30 = .ok (.iload_n 1, 1) := by decide +kernel
theorem dX11_thought_31 : decode cX11_thought 31 = .ok (.ishl, 1) := by decide +kernel
theorem dX11_thought_32 : decode cX11_thought 32 = .ok (.goto 4, 3) := by decide +kernel
theorem dX11_thought_35 : decode cX11_thought 35 = .ok (.iconst 0, 1) := by decide +kernel
theorem dX11_thought_36 : decode cX11_thought 36 = .ok (.invokevirtual 289, 3) := by decide +kernel
theorem dX11_thought_39 : decode cX11_thought 39 = .ok (.lreturn, 1) := by decide +kernel
abbrev o_X11_thought : Type := Int64 × wd_W × Nat × Nat
def f_X11_thought (S : wd_W) (p1 : Int32) (p2 : Int32) : Option o_X11_thought :=
bd (f_X11_isThing (wd_o S [] [] [] [] []) p1) fun o1 =>
if o1 = 0 then (
some ((-1 : Int64), S, 0, 0)) else (
if p2 < 0 then (
some ((-1 : Int64), S, 0, 0)) else (
if p2 ≤ (1 : Int32) then (
bd (f_X11_knownMail (wd_o S [] [] [] [] [])) fun o2 =>
lk (fun x3 =>
gd (okr (0 + o2.2.1) (0 + o2.2.2) 0 0 40 500000) <|
bd (f_X5_agreeing_q137 (wd_o o2.1 [] [] [] [] []) x3) fun o5 =>
some (o5, o2.1, 0 + o2.2.1, 0 + o2.2.2)) fun k36_4 =>
if p2 = 0 then (
k36_4 ((1 : Int32) <<< (p1 &&& 31))) else (
k36_4 (0 : Int32))) else (
some ((-1 : Int64), S, 0, 0))))
set_option maxRecDepth 100000 in
set_option maxHeartbeats 4000000 in
theorem c_X11_thought (l : Launch) (D : va_G) (q g : Nat → Nat) (cy : Nat → ClassId) (z : (Nat → Nat) × (Nat → Nat) × Nat) (S : wd_W) (p1 : Int32) (p2 : Int32) (o : o_X11_thought) (hf : f_X11_thought S p1 p2 = some o) : MX layX l yX11_thought cX11_thought 3 (some .long) ({ frames := 6, cells := 40, slots := 500000, locals := 147 } : Room) D q g cy z [.ref (q 0), .int p1, .int p2] S true (some (.long o.1)) o.2.1 o.2.2.1 o.2.2.2 := by
  refine mx_of (own := RX11) (lc := [(0, .ref (q 0)), (1, .int p1), (2, .int p2)]) (by decide +kernel) rfl layX_ok (Nat.le_of_ble_eq_true rfl) rfl ?_
  intro X hXl hXq hXz hC hQ
  subst hXl; subst hXq; subst hXz
  unfold f_X11_thought at hf
  refine go_aload_n (pc' := 1) hC dX11_thought_0 rfl rfl ?_
  refine go_iload_n (pc' := 2) hC dX11_thought_1 rfl rfl ?_
  obtain ⟨o1, ho1, hf⟩ := bd_e hf
  refine go_callV0 (pc' := 5) (As := [.int p1]) (st := []) (st' := [.int o1])   (b := 0) hC dX11_thought_2 ⟨mw_943, mw_946, mw_2, yd_yX11_isThing, yp_yX11_isThing, Nat.le_of_ble_eq_true rfl, Nat.le_of_ble_eq_true rfl, (Nat.le_of_ble_eq_true rfl), (Nat.le_of_ble_eq_true rfl)⟩ mw_944 mw_945 layX_0 rfl rfl rfl (Nat.le_of_ble_eq_true rfl) (c_X11_isThing (x_l X) (x_D X) (x_q X) g (x_cy X) (x_z X) _ p1 o1 ho1) rfl rfl ?_
  refine go_if_eq (tgt := 17) (pc' := 8) hC dX11_thought_5 (by decide) rfl (fun h10 => ?_) (fun h10 => ?_)
  · have hf := ite_t h10 hf
    refine go_ldc2 (pc' := 20) hC dX11_thought_17 mw_909 rfl ?_
    obtain rfl := Option.some.inj hf
    exact go_lret hC hQ dX11_thought_20 rfl rfl rfl (fun h => nomatch h) rfl rfl
  · have hf := ite_f h10 hf
    refine go_iload_n (pc' := 9) hC dX11_thought_8 rfl rfl ?_
    refine go_if_lt (tgt := 17) (pc' := 12) hC dX11_thought_9 (by decide) rfl (fun h9 => ?_) (fun h9 => ?_)
    · have hf := ite_t h9 hf
      refine go_ldc2 (pc' := 20) hC dX11_thought_17 mw_909 rfl ?_
      obtain rfl := Option.some.inj hf
      exact go_lret hC hQ dX11_thought_20 rfl rfl rfl (fun h => nomatch h) rfl rfl
    · have hf := ite_f h9 hf
      refine go_iload_n (pc' := 13) hC dX11_thought_12 rfl rfl ?_
      refine go_iconst (pc' := 14) hC dX11_thought_13 ki_1 rfl ?_
      refine go_icmp_le (tgt := 21) (pc' := 17) hC dX11_thought_14 (by decide) rfl (fun h8 => ?_) (fun h8 => ?_)
      · have hf := ite_t h8 hf
        refine go_aload_n (pc' := 22) hC dX11_thought_21 rfl rfl ?_
        obtain ⟨o2, ho2, hf⟩ := bd_e hf
        refine go_callVw (pc' := 25) (As := []) (st := []) (st' := [.ref (x_q X 137)])  (cells' := 0 + o2.2.1) (slots' := 0 + o2.2.2) (b := 0) hC dX11_thought_22 ⟨mw_1257, mw_1260, mw_2, yd_yX11_knownMail, yp_yX11_knownMail, Nat.le_of_ble_eq_true rfl, Nat.le_of_ble_eq_true rfl, (Nat.le_of_ble_eq_true rfl), (Nat.le_of_ble_eq_true rfl)⟩ mw_1258 mw_1259 layX_0 rfl rfl rfl (Nat.le_of_ble_eq_true rfl) (c_X11_knownMail (x_l X) (x_D X) (x_q X) g (x_cy X) (x_z X) _  o2 ho2) rfl rfl rfl rfl (fun g _ => ?_)
        refine go_iload_n (pc' := 26) hC dX11_thought_25 rfl rfl ?_
        obtain ⟨k36_4, hk36_4, hf⟩ := lk_e1 hf
        have jk36_4 : ∀ (x3 : Int32) (g : Nat → Nat), k36_4 x3 = some o → Go X layX o2.1 36 [] [.int x3, .ref (x_q X 137)] g [] [] [] [] [] (0 + o2.2.1) (0 + o2.2.2) := by
          intro x3 g hf
          have hf := hk36_4 x3 hf
          clear hk36_4
          obtain ⟨h6, hf⟩ := gd_e hf
          obtain ⟨o5, ho5, hf⟩ := bd_e hf
          refine go_callV0 (pc' := 39) (As := [.int x3]) (st := []) (st' := [.long o5])   (b := 137) hC dX11_thought_36 ⟨mw_1261, mw_1264, mw_44, yd_yX5_agreeing, yp_yX5_agreeing, Nat.le_of_ble_eq_true rfl, Nat.le_of_ble_eq_true rfl, (okr_c h6), (okr_s h6)⟩ mw_1262 mw_1263 layX_137 rfl rfl rfl (Nat.le_of_ble_eq_true rfl) (c_X5_agreeing_q137 (x_l X) (x_D X) (x_q X) g (x_cy X) (x_z X) _ x3 o5 ho5) rfl rfl ?_
          obtain rfl := Option.some.inj hf
          exact go_lret hC hQ dX11_thought_39 rfl rfl rfl (fun h => nomatch h) rfl rfl
        clear hk36_4
        refine go_if_ne (tgt := 35) (pc' := 29) hC dX11_thought_26 (by decide) rfl (fun h7 => ?_) (fun h7 => ?_)
        · have hf := ite_f h7 hf
          refine go_iconst (pc' := 36) hC dX11_thought_35 ki_0 rfl ?_
          refine go_sub [] rfl ?_
          exact jk36_4 (0 : Int32) g hf
        · have hf := ite_t h7 hf
          refine go_iconst (pc' := 30) hC dX11_thought_29 ki_1 rfl ?_
          refine go_iload_n (pc' := 31) hC dX11_thought_30 rfl rfl ?_
          refine go_ishl (pc' := 32) hC dX11_thought_31 rfl ?_
          refine go_goto (tgt := 36) hC dX11_thought_32 (by decide) ?_
          refine go_sub [] rfl ?_
          exact jk36_4 ((1 : Int32) <<< (p1 &&& 31)) g hf
      · have hf := ite_f h8 hf
        refine go_ldc2 (pc' := 20) hC dX11_thought_17 mw_909 rfl ?_
        obtain rfl := Option.some.inj hf
        exact go_lret hC hQ dX11_thought_20 rfl rfl rfl (fun h => nomatch h) rfl rfl
theorem dX5_lookFirst_0 : decode cX5_lookFirst 0 = .ok (.aload_n 0, 1) := by decide +kernel
theorem dX5_lookFirst_1 : decode cX5_lookFirst 1 = .ok (.iconst 0, 1) := by decide +kernel
theorem dX5_lookFirst_2 : decode cX5_lookFirst 2 = .ok (.invokevirtual 78, 3) := by decide +kernel
theorem dX5_lookFirst_5 : decode cX5_lookFirst 5 = .ok (.lstore_n 1, 1) := by decide +kernel
theorem dX5_lookFirst_6 : decode cX5_lookFirst 6 = .ok (.lload_n 1, 1) := by decide +kernel
theorem dX5_lookFirst_7 : decode cX5_lookFirst 7 = .ok (.lconst 0, 1) := by decide +kernel
theorem dX5_lookFirst_8 : decode cX5_lookFirst 8 = .ok (.lcmp, 1) := by decide +kernel
theorem dX5_lookFirst_9 : decode cX5_lookFirst 9 = .ok (.ifCond .ne 5, 3) := by decide +kernel
theorem dX5_lookFirst_12 : decode cX5_lookFirst 12 = .ok (.iconst (-1), 1) := by decide +kernel
theorem dX5_lookFirst_13 : decode cX5_lookFirst 13 = .ok (.ireturn, 1) := by decide +kernel
theorem dX5_lookFirst_14 : decode cX5_lookFirst 14 = .ok (.iconst (-1), 1) := by decide +kernel
theorem dX5_lookFirst_15 : decode cX5_lookFirst 15 = .ok (.istore_n 3, 1) := by decide +kernel
theorem dX5_lookFirst_16 : decode cX5_lookFirst 16 = .ok (.lconst 0, 1) := by decide +kernel
theorem dX5_lookFirst_17 : decode cX5_lookFirst 17 = .ok (.lstore 4, 2) := by decide +kernel
theorem dX5_lookFirst_19 : decode cX5_lookFirst 19 = .ok (.iconst 0, 1) := by decide +kernel
theorem dX5_lookFirst_20 : decode cX5_lookFirst 20 = .ok (.istore 6, 2) := by decide +kernel
theorem dX5_lookFirst_22 : decode cX5_lookFirst 22 = .ok (.iload 6, 2) := by decide +kernel
theorem dX5_lookFirst_24 : decode cX5_lookFirst 24 = .ok (.aload_n 0, 1) := by decide +kernel
theorem dX5_lookFirst_25 : decode cX5_lookFirst 25 = .ok (.getfield 30, 3) := by decide +kernel
theorem dX5_lookFirst_28 : decode cX5_lookFirst 28 = .ok (.getfield 82, 3) := by decide +kernel
theorem dX5_lookFirst_31 : decode cX5_lookFirst 31 = .ok (.getfield 86, 3) := by decide +kernel
theorem dX5_lookFirst_34 : decode cX5_lookFirst 34 = .ok (.if_icmp .ge 48, 3) := by decide +kernel
theorem dX5_lookFirst_37 : decode cX5_lookFirst 37 = .ok (.ldc2_w 91, 3) := by decide +kernel
theorem dX5_lookFirst_40 : decode cX5_lookFirst 40 = .ok (.aload_n 0, 1) := by decide +kernel
theorem dX5_lookFirst_41 : decode cX5_lookFirst 41 = .ok (.iconst 1, 1) := by decide +kernel
theorem dX5_lookFirst_42 : decode cX5_lookFirst 42 = .ok (.iload 6, 2) := by decide +kernel
theorem dX5_lookFirst_44 : decode cX5_lookFirst 44 = .ok (.ishl, 1) := by decide +kernel
theorem dX5_lookFirst_45 : decode cX5_lookFirst 45 = .ok (.invokevirtual 78, 3) := by decide +kernel
theorem dX5_lookFirst_48 : decode cX5_lookFirst 48 = .ok (.lmul, 1) := by decide +kernel
theorem dX5_lookFirst_49 : decode cX5_lookFirst 49 = .ok (.lload_n 1, 1) := by decide +kernel
theorem dX5_lookFirst_50 : decode cX5_lookFirst 50 = .ok (.lsub, 1) := by decide +kernel
theorem dX5_lookFirst_51 : decode cX5_lookFirst 51 = .ok (.invokestatic 93, 3) := by decide +kernel
theorem dX5_lookFirst_54 : decode cX5_lookFirst 54 = .ok (.lstore 7, 2) := by decide +kernel
theorem dX5_lookFirst_56 : decode cX5_lookFirst 56 = .ok (.iload_n 3, 1) := by decide +kernel
theorem dX5_lookFirst_57 : decode cX5_lookFirst 57 = .ok (.iconst (-1), 1) := by decide +kernel
theorem dX5_lookFirst_58 : decode cX5_lookFirst 58 = .ok (.if_icmp .eq 11, 3) := by decide +kernel
theorem dX5_lookFirst_61 : decode cX5_lookFirst 61 = .ok (.lload 7, 2) := by decide +kernel
theorem dX5_lookFirst_63 : decode cX5_lookFirst 63 = .ok (.lload 4, 2) := by decide +kernel
theorem dX5_lookFirst_65 : decode cX5_lookFirst 65 = .ok (.lcmp, 1) := by decide +kernel
theorem dX5_lookFirst_66 : decode cX5_lookFirst 66 = .ok (.ifCond .ge 10, 3) := by decide +kernel
theorem dX5_lookFirst_69 : decode cX5_lookFirst 69 = .ok (.iload 6, 2) := by decide +kernel
theorem dX5_lookFirst_71 : decode cX5_lookFirst 71 = .ok (.istore_n 3, 1) := by decide +kernel
theorem dX5_lookFirst_72 : decode cX5_lookFirst 72 = .ok (.lload 7, 2) := by decide +kernel
theorem dX5_lookFirst_74 : decode cX5_lookFirst 74 = .ok (.lstore 4, 2) := by decide +kernel
theorem dX5_lookFirst_76 : decode cX5_lookFirst 76 = .ok (.iinc 6 1, 3) := by decide +kernel
theorem dX5_lookFirst_79 : decode cX5_lookFirst 79 = .ok (.goto (-57), 3) := by decide +kernel
theorem dX5_lookFirst_82 : decode cX5_lookFirst 82 = .ok (.iload_n 3, 1) := by decide +kernel
theorem dX5_lookFirst_83 : decode cX5_lookFirst 83 = .ok (.ireturn, 1) := by decide +kernel
abbrev o_X5_lookFirst_q137 : Type := Int32
def f_X5_lookFirst_q137_L22 (S : wd_W) (o1 : o_X5_agreeing_q137) (r5 : (Int32) → (Int64) → (Int32) → (Option o_X5_lookFirst_q137)) (x2 : Int32) (x3 : Int64) (x4 : Int32) : Option o_X5_lookFirst_q137 :=
if (S.1 11700) ≤ x4 then (
some x2) else (
bd (f_X5_agreeing_q137 (wd_o S [] [] [] [] []) ((1 : Int32) <<< (x4 &&& 31))) fun o6 =>
lz ((if 0 < (((2 : Int64) * o6) - o1) then (((2 : Int64) * o6) - o1) else -(((2 : Int64) * o6) - o1))) fun x7 =>
lk (fun x8 x9 =>
r5 x8 x9 (x4 + (1 : Int32))) fun k76_10 =>
lk (k76_10 x4 x7) fun k69_11 =>
if x2 = (-1 : Int32) then (
k69_11) else (
if x3 ≤ x7 then (
k76_10 x2 x3) else (
k69_11)))
def f_X5_lookFirst_q137 (S : wd_W) : Option o_X5_lookFirst_q137 :=
bd (f_X5_agreeing_q137 (wd_o S [] [] [] [] []) (0 : Int32)) fun o1 =>
if o1 = (0 : Int64) then (
some (-1 : Int32)) else (
it3 (f_X5_lookFirst_q137_L22 S o1) fuel (-1 : Int32) (0 : Int64) (0 : Int32))
set_option maxRecDepth 100000 in
set_option maxHeartbeats 4000000 in
theorem c_X5_lookFirst_q137 (l : Launch) (D : va_G) (q g : Nat → Nat) (cy : Nat → ClassId) (z : (Nat → Nat) × (Nat → Nat) × Nat) (S : wd_W) (o : o_X5_lookFirst_q137) (hf : f_X5_lookFirst_q137 S = some o) : MX layX l yX5_lookFirst cX5_lookFirst 9 (some .int) ({ frames := 2, cells := 0, slots := 0, locals := 45 } : Room) D q g cy z [.ref (q 137)] S false (some (.int o)) (wd_o S [] [] [] [] []) 0 0 := by
  refine mx_of (own := RX5) (lc := [(0, .ref (q 137))]) (by decide +kernel) rfl layX_ok (Nat.le_of_ble_eq_true rfl) rfl ?_
  intro X hXl hXq hXz hC hQ
  subst hXl; subst hXq; subst hXz
  unfold f_X5_lookFirst_q137 at hf
  refine go_aload_n (pc' := 1) hC dX5_lookFirst_0 rfl rfl ?_
  refine go_iconst (pc' := 2) hC dX5_lookFirst_1 ki_0 rfl ?_
  obtain ⟨o1, ho1, hf⟩ := bd_e hf
  refine go_callV0 (pc' := 5) (As := [.int (0 : Int32)]) (st := []) (st' := [.long o1])   (b := 137) hC dX5_lookFirst_2 ⟨mw_1295, mw_1264, mw_44, yd_yX5_agreeing, yp_yX5_agreeing, Nat.le_of_ble_eq_true rfl, Nat.le_of_ble_eq_true rfl, (Nat.le_of_ble_eq_true rfl), (Nat.le_of_ble_eq_true rfl)⟩ mw_1262 mw_1263 layX_137 rfl rfl rfl (Nat.le_of_ble_eq_true rfl) (c_X5_agreeing_q137 (x_l X) (x_D X) (x_q X) g (x_cy X) (x_z X) _ (0 : Int32) o1 ho1) rfl rfl ?_
  refine go_lstore_n (lc' := [(0, .ref (x_q X 137)), (1, .long o1)]) (pc' := 6) hC dX5_lookFirst_5 (Nat.le_of_ble_eq_true rfl) rfl rfl ?_
  refine go_lload_n (pc' := 7) hC dX5_lookFirst_6 rfl rfl ?_
  refine go_lconst (pc' := 8) hC dX5_lookFirst_7 kl_0 rfl ?_
  refine go_lcmp (pc' := 9) hC dX5_lookFirst_8 rfl ?_
  refine go_if_ne (tgt := 14) (pc' := 12) hC dX5_lookFirst_9 (by decide) rfl (fun h16 => ?_) (fun h16 => ?_)
  · have hf := ite_f (mt lg_eq.mpr h16) hf
    refine go_iconst (pc' := 15) hC dX5_lookFirst_14 ki_m1 rfl ?_
    refine go_istore_n (lc' := [(0, .ref (x_q X 137)), (1, .long o1), (3, .int (-1 : Int32))]) (pc' := 16) hC dX5_lookFirst_15 (Nat.le_of_ble_eq_true rfl) rfl rfl ?_
    refine go_lconst (pc' := 17) hC dX5_lookFirst_16 kl_0 rfl ?_
    refine go_lstore (lc' := [(0, .ref (x_q X 137)), (1, .long o1), (3, .int (-1 : Int32)), (4, .long (0 : Int64))]) (pc' := 19) hC dX5_lookFirst_17 (Nat.le_of_ble_eq_true rfl) rfl rfl ?_
    refine go_iconst (pc' := 20) hC dX5_lookFirst_19 ki_0 rfl ?_
    refine go_istore (lc' := [(0, .ref (x_q X 137)), (1, .long o1), (3, .int (-1 : Int32)), (4, .long (0 : Int64)), (6, .int (0 : Int32))]) (pc' := 22) hC dX5_lookFirst_20 (Nat.le_of_ble_eq_true rfl) rfl rfl ?_
    have l22_15 : ∀ (nn : Nat) (x2 : Int32) (x3 : Int64) (x4 : Int32), it3 (f_X5_lookFirst_q137_L22 S o1) nn x2 x3 x4 = some o → Go X layX S 22 [(0, .ref (x_q X 137)), (1, .long o1), (3, .int x2), (4, .long x3), (6, .int x4)] [] g [] [] [] [] [] 0 0 := by
      intro nn
      induction nn with
      | zero =>
        intro x2 x3 x4 hf
        exact none_no hf
      | succ nn ih =>
        intro x2 x3 x4 hf
        have hf : f_X5_lookFirst_q137_L22 S o1 (it3 (f_X5_lookFirst_q137_L22 S o1) nn) x2 x3 x4 = some o := hf
        generalize it3 (f_X5_lookFirst_q137_L22 S o1) nn = r5 at ih hf
        unfold f_X5_lookFirst_q137_L22 at hf
        refine go_iload (pc' := 24) hC dX5_lookFirst_22 rfl rfl ?_
        refine go_aload_n (pc' := 25) hC dX5_lookFirst_24 rfl rfl ?_
        refine go_getq (pc' := 28) hC 137 1 layX_137 rfl rfl inlX5 (Nat.le_of_ble_eq_true rfl) mw_156 rfl dX5_lookFirst_25 rfl ?_
        refine go_getq (pc' := 31) hC 106 1 layX_106 rfl rfl inlX8 (Nat.le_of_ble_eq_true rfl) mw_1289 rfl dX5_lookFirst_28 rfl ?_
        refine go_geti (v := (S.1 11700)) (pc' := 34) hC 117 0 layX_117 rfl rfl inlX10 (Nat.le_of_ble_eq_true rfl) mw_1290 rfl dX5_lookFirst_31 rfl rfl ?_
        refine go_icmp_ge (tgt := 82) (pc' := 37) hC dX5_lookFirst_34 (by decide) rfl (fun h14 => ?_) (fun h14 => ?_)
        · have hf := ite_t h14 hf
          refine go_iload_n (pc' := 83) hC dX5_lookFirst_82 rfl rfl ?_
          obtain rfl := Option.some.inj hf
          exact go_iret hC hQ dX5_lookFirst_83 rfl rfl rfl rfl (fun _ => rfl) rfl rfl
        · have hf := ite_f h14 hf
          refine go_ldc2 (pc' := 40) hC dX5_lookFirst_37 mw_1291 rfl ?_
          refine go_aload_n (pc' := 41) hC dX5_lookFirst_40 rfl rfl ?_
          refine go_iconst (pc' := 42) hC dX5_lookFirst_41 ki_1 rfl ?_
          refine go_iload (pc' := 44) hC dX5_lookFirst_42 rfl rfl ?_
          refine go_ishl (pc' := 45) hC dX5_lookFirst_44 rfl ?_
          obtain ⟨o6, ho6, hf⟩ := bd_e hf
          refine go_callV0 (pc' := 48) (As := [.int ((1 : Int32) <<< (x4 &&& 31))]) (st := [.long (2 : Int64)]) (st' := [.long o6, .long (2 : Int64)])   (b := 137) hC dX5_lookFirst_45 ⟨mw_1295, mw_1264, mw_44, yd_yX5_agreeing, yp_yX5_agreeing, Nat.le_of_ble_eq_true rfl, Nat.le_of_ble_eq_true rfl, (Nat.le_of_ble_eq_true rfl), (Nat.le_of_ble_eq_true rfl)⟩ mw_1262 mw_1263 layX_137 rfl rfl rfl (Nat.le_of_ble_eq_true rfl) (c_X5_agreeing_q137 (x_l X) (x_D X) (x_q X) g (x_cy X) (x_z X) _ ((1 : Int32) <<< (x4 &&& 31)) o6 ho6) rfl rfl ?_
          refine go_lmul (pc' := 49) hC dX5_lookFirst_48 rfl ?_
          refine go_lload_n (pc' := 50) hC dX5_lookFirst_49 rfl rfl ?_
          refine go_lsub (pc' := 51) hC dX5_lookFirst_50 rfl ?_
          refine go_mabs (pc' := 54) hC dX5_lookFirst_51 mw_1292 (Nat.le_of_ble_eq_true rfl) (Nat.le_of_ble_eq_true rfl) (Nat.le_of_ble_eq_true rfl) (Nat.le_of_ble_eq_true rfl) rfl ?_
          refine go_namel (fun x7 hx => ?_)
          have hf := lz_r hx hf
          clear hx
          refine go_lstore (lc' := [(0, .ref (x_q X 137)), (1, .long o1), (3, .int x2), (4, .long x3), (6, .int x4), (7, .long x7)]) (pc' := 56) hC dX5_lookFirst_54 (Nat.le_of_ble_eq_true rfl) rfl rfl ?_
          refine go_iload_n (pc' := 57) hC dX5_lookFirst_56 rfl rfl ?_
          refine go_iconst (pc' := 58) hC dX5_lookFirst_57 ki_m1 rfl ?_
          obtain ⟨k76_10, hk76_10, hf⟩ := lk_e2 hf
          have jk76_10 : ∀ (x8 : Int32) (x9 : Int64), k76_10 x8 x9 = some o → Go X layX S 76 [(0, .ref (x_q X 137)), (1, .long o1), (3, .int x8), (4, .long x9), (6, .int x4)] [] g [] [] [] [] [] 0 0 := by
            intro x8 x9 hf
            have hf := hk76_10 x8 x9 hf
            clear hk76_10
            refine go_iinc (lc' := [(0, .ref (x_q X 137)), (1, .long o1), (3, .int x8), (4, .long x9), (6, .int (x4 + (1 : Int32)))]) (pc' := 79) hC dX5_lookFirst_76 rfl ki_1 (Nat.le_of_ble_eq_true rfl) rfl rfl ?_
            refine go_goto (tgt := 22) hC dX5_lookFirst_79 (by decide) ?_
            exact ih x8 x9 (x4 + (1 : Int32)) hf
          clear hk76_10
          obtain ⟨k69_11, hk69_11, hf⟩ := lk_e0 hf
          have jk69_11 : ∀ (_ : Unit), k69_11 = some o → Go X layX S 69 [(0, .ref (x_q X 137)), (1, .long o1), (6, .int x4), (7, .long x7)] [] g [] [] [] [] [] 0 0 := by
            intro _ hf
            have hf := hk69_11 hf
            clear hk69_11
            refine go_iload (pc' := 71) hC dX5_lookFirst_69 rfl rfl ?_
            refine go_istore_n (lc' := [(0, .ref (x_q X 137)), (1, .long o1), (3, .int x4), (6, .int x4), (7, .long x7)]) (pc' := 72) hC dX5_lookFirst_71 (Nat.le_of_ble_eq_true rfl) rfl rfl ?_
            refine go_lload (pc' := 74) hC dX5_lookFirst_72 rfl rfl ?_
            refine go_lstore (lc' := [(0, .ref (x_q X 137)), (1, .long o1), (3, .int x4), (4, .long x7), (6, .int x4), (7, .long x7)]) (pc' := 76) hC dX5_lookFirst_74 (Nat.le_of_ble_eq_true rfl) rfl rfl ?_
            refine go_sub [0, 1, 3, 4, 6] rfl ?_
            exact jk76_10 x4 x7 hf
          clear hk69_11
          refine go_icmp_eq (tgt := 69) (pc' := 61) hC dX5_lookFirst_58 (by decide) rfl (fun h13 => ?_) (fun h13 => ?_)
          · have hf := ite_t h13 hf
            refine go_sub [0, 1, 6, 7] rfl ?_
            exact jk69_11 () hf
          · have hf := ite_f h13 hf
            refine go_lload (pc' := 63) hC dX5_lookFirst_61 rfl rfl ?_
            refine go_lload (pc' := 65) hC dX5_lookFirst_63 rfl rfl ?_
            refine go_lcmp (pc' := 66) hC dX5_lookFirst_65 rfl ?_
            refine go_if_ge (tgt := 76) (pc' := 69) hC dX5_lookFirst_66 (by decide) rfl (fun h12 => ?_) (fun h12 => ?_)
            · have hf := ite_t (lg_ge.mp h12) hf
              refine go_sub [0, 1, 3, 4, 6] rfl ?_
              exact jk76_10 x2 x3 hf
            · have hf := ite_f (mt lg_ge.mpr h12) hf
              refine go_sub [0, 1, 6, 7] rfl ?_
              exact jk69_11 () hf
    exact l22_15 fuel (-1 : Int32) (0 : Int64) (0 : Int32) hf
  · have hf := ite_t (lg_eq.mp h16) hf
    refine go_iconst (pc' := 13) hC dX5_lookFirst_12 ki_m1 rfl ?_
    obtain rfl := Option.some.inj hf
    exact go_iret hC hQ dX5_lookFirst_13 rfl rfl rfl rfl (fun _ => rfl) rfl rfl
theorem dX11_look_0 : decode cX11_look 0 = .ok (.aload_n 0, 1) := by decide +kernel
theorem dX11_look_1 : decode cX11_look 1 = .ok (.invokevirtual 285, 3) := by decide +kernel
theorem dX11_look_4 : decode cX11_look 4 = .ok (.invokevirtual 292, 3) := by decide +kernel
theorem dX11_look_7 : decode cX11_look 7 = .ok (.ireturn, 1) := by decide +kernel
abbrev o_X11_look : Type := Int32 × wd_W × Nat × Nat
def f_X11_look (S : wd_W) : Option o_X11_look :=
bd (f_X11_knownMail (wd_o S [] [] [] [] [])) fun o1 =>
gd (okr (0 + o1.2.1) (0 + o1.2.2) 0 0 40 500000) <|
bd (f_X5_lookFirst_q137 (wd_o o1.1 [] [] [] [] [])) fun o2 =>
some (o2, o1.1, 0 + o1.2.1, 0 + o1.2.2)
set_option maxRecDepth 100000 in
set_option maxHeartbeats 4000000 in
theorem c_X11_look (l : Launch) (D : va_G) (q g : Nat → Nat) (cy : Nat → ClassId) (z : (Nat → Nat) × (Nat → Nat) × Nat) (S : wd_W) (o : o_X11_look) (hf : f_X11_look S = some o) : MX layX l yX11_look cX11_look 1 (some .int) ({ frames := 6, cells := 40, slots := 500000, locals := 147 } : Room) D q g cy z [.ref (q 0)] S true (some (.int o.1)) o.2.1 o.2.2.1 o.2.2.2 := by
  refine mx_of (own := RX11) (lc := [(0, .ref (q 0))]) (by decide +kernel) rfl layX_ok (Nat.le_of_ble_eq_true rfl) rfl ?_
  intro X hXl hXq hXz hC hQ
  subst hXl; subst hXq; subst hXz
  unfold f_X11_look at hf
  refine go_aload_n (pc' := 1) hC dX11_look_0 rfl rfl ?_
  obtain ⟨o1, ho1, hf⟩ := bd_e hf
  refine go_callVw (pc' := 4) (As := []) (st := []) (st' := [.ref (x_q X 137)])  (cells' := 0 + o1.2.1) (slots' := 0 + o1.2.2) (b := 0) hC dX11_look_1 ⟨mw_1257, mw_1260, mw_2, yd_yX11_knownMail, yp_yX11_knownMail, Nat.le_of_ble_eq_true rfl, Nat.le_of_ble_eq_true rfl, (Nat.le_of_ble_eq_true rfl), (Nat.le_of_ble_eq_true rfl)⟩ mw_1258 mw_1259 layX_0 rfl rfl rfl (Nat.le_of_ble_eq_true rfl) (c_X11_knownMail (x_l X) (x_D X) (x_q X) g (x_cy X) (x_z X) _  o1 ho1) rfl rfl rfl rfl (fun g _ => ?_)
  obtain ⟨h3, hf⟩ := gd_e hf
  obtain ⟨o2, ho2, hf⟩ := bd_e hf
  refine go_callV0 (pc' := 7) (As := []) (st := []) (st' := [.int o2])   (b := 137) hC dX11_look_4 ⟨mw_1285, mw_1288, mw_44, yd_yX5_lookFirst, yp_yX5_lookFirst, Nat.le_of_ble_eq_true rfl, Nat.le_of_ble_eq_true rfl, (okr_c h3), (okr_s h3)⟩ mw_1286 mw_1287 layX_137 rfl rfl rfl (Nat.le_of_ble_eq_true rfl) (c_X5_lookFirst_q137 (x_l X) (x_D X) (x_q X) g (x_cy X) (x_z X) _  o2 ho2) rfl rfl ?_
  obtain rfl := Option.some.inj hf
  exact go_iret hC hQ dX11_look_7 rfl rfl rfl rfl (fun h => nomatch h) rfl rfl
theorem dX5_isFor_0 : decode cX5_isFor 0 = .ok (.aload_n 0, 1) := by decide +kernel
theorem dX5_isFor_1 : decode cX5_isFor 1 = .ok (.getfield 15, 3) := by decide +kernel
theorem dX5_isFor_4 : decode cX5_isFor 4 = .ok (.iload_n 1, 1) := by decide +kernel
theorem dX5_isFor_5 : decode cX5_isFor 5 = .ok (.if_icmp .ne 15, 3) := by decide +kernel
theorem dX5_isFor_8 : decode cX5_isFor 8 = .ok (.aload_n 0, 1) := by decide +kernel
theorem dX5_isFor_9 : decode cX5_isFor 9 = .ok (.getfield 19, 3) := by decide +kernel
theorem dX5_isFor_12 : decode cX5_isFor 12 = .ok (.iload_n 2, 1) := by decide +kernel
theorem dX5_isFor_13 : decode cX5_isFor 13 = .ok (.if_icmp .ne 7, 3) := by decide +kernel
theorem dX5_isFor_16 : decode cX5_isFor 16 = .ok (.iconst 1, 1) := by decide +kernel
theorem dX5_isFor_17 : decode cX5_isFor 17 = .ok (.goto 4, 3) := by decide +kernel
theorem dX5_isFor_20 : decode cX5_isFor 20 = .ok (.iconst 0, 1) := by decide +kernel
theorem dX5_isFor_21 : decode cX5_isFor 21 = .ok (.ireturn, 1) := by decide +kernel
abbrev o_X5_isFor_q137 : Type := Int32
def f_X5_isFor_q137 (S : wd_W) (p1 : Int32) (p2 : Int32) : Option o_X5_isFor_q137 :=
if (S.1 13703) = p1 then (
if (S.1 13704) = p2 then (
some (1 : Int32)) else (
some (0 : Int32))) else (
some (0 : Int32))
set_option maxRecDepth 100000 in
set_option maxHeartbeats 4000000 in
theorem c_X5_isFor_q137 (l : Launch) (D : va_G) (q g : Nat → Nat) (cy : Nat → ClassId) (z : (Nat → Nat) × (Nat → Nat) × Nat) (S : wd_W) (p1 : Int32) (p2 : Int32) (o : o_X5_isFor_q137) (hf : f_X5_isFor_q137 S p1 p2 = some o) : MX layX l yX5_isFor cX5_isFor 3 (some .boolean) ({ frames := 0, cells := 0, slots := 0, locals := 0 } : Room) D q g cy z [.ref (q 137), .int p1, .int p2] S false (some (.int o)) (wd_o S [] [] [] [] []) 0 0 := by
  refine mx_of (own := RX5) (lc := [(0, .ref (q 137)), (1, .int p1), (2, .int p2)]) (by decide +kernel) rfl layX_ok (Nat.le_of_ble_eq_true rfl) rfl ?_
  intro X hXl hXq hXz hC hQ
  subst hXl; subst hXq; subst hXz
  unfold f_X5_isFor_q137 at hf
  refine go_aload_n (pc' := 1) hC dX5_isFor_0 rfl rfl ?_
  refine go_geti (v := (S.1 13703)) (pc' := 4) hC 137 3 layX_137 rfl rfl inlX5 (Nat.le_of_ble_eq_true rfl) mw_152 rfl dX5_isFor_1 rfl rfl ?_
  refine go_iload_n (pc' := 5) hC dX5_isFor_4 rfl rfl ?_
  refine go_icmp_ne (tgt := 20) (pc' := 8) hC dX5_isFor_5 (by decide) rfl (fun h2 => ?_) (fun h2 => ?_)
  · have hf := ite_f h2 hf
    refine go_iconst (pc' := 21) hC dX5_isFor_20 ki_0 rfl ?_
    obtain rfl := Option.some.inj hf
    exact go_iret hC hQ dX5_isFor_21 rfl rfl rfl rfl (fun _ => rfl) rfl rfl
  · have hf := ite_t h2 hf
    refine go_aload_n (pc' := 9) hC dX5_isFor_8 rfl rfl ?_
    refine go_geti (v := (S.1 13704)) (pc' := 12) hC 137 4 layX_137 rfl rfl inlX5 (Nat.le_of_ble_eq_true rfl) mw_153 rfl dX5_isFor_9 rfl rfl ?_
    refine go_iload_n (pc' := 13) hC dX5_isFor_12 rfl rfl ?_
    refine go_icmp_ne (tgt := 20) (pc' := 16) hC dX5_isFor_13 (by decide) rfl (fun h1 => ?_) (fun h1 => ?_)
    · have hf := ite_f h1 hf
      refine go_iconst (pc' := 21) hC dX5_isFor_20 ki_0 rfl ?_
      obtain rfl := Option.some.inj hf
      exact go_iret hC hQ dX5_isFor_21 rfl rfl rfl rfl (fun _ => rfl) rfl rfl
    · have hf := ite_t h1 hf
      refine go_iconst (pc' := 17) hC dX5_isFor_16 ki_1 rfl ?_
      refine go_goto (tgt := 21) hC dX5_isFor_17 (by decide) ?_
      obtain rfl := Option.some.inj hf
      exact go_iret hC hQ dX5_isFor_21 rfl rfl rfl rfl (fun _ => rfl) rfl rfl
abbrev o_J7_fill_d0a16_q139 : Type := (Nat → Int64)
def f_J7_fill_d0a16_q139_L6 (p1 : Int64) (r3 : (Int32) → (Nat → Int64) → (Option o_J7_fill_d0a16_q139)) (x1 : Int32) (a2 : Nat → Int64) : Option o_J7_fill_d0a16_q139 :=
if (100 : Int32) ≤ x1 then (
some a2) else (
gd (okx x1 100) <|
lz (vp_updL a2 x1.toNatClampNeg p1) fun a5 =>
r3 (x1 + (1 : Int32)) a5)
def f_J7_fill_d0a16_q139 (S : wd_W) (p1 : Int64) : Option o_J7_fill_d0a16_q139 :=
it2 (f_J7_fill_d0a16_q139_L6 p1) fuel (0 : Int32) (S.2.2.2.1 139)
set_option maxRecDepth 100000 in
set_option maxHeartbeats 4000000 in
theorem c_J7_fill_d0a16_q139 (l : Launch) (D : va_G) (q g : Nat → Nat) (cy : Nat → ClassId) (z : (Nat → Nat) × (Nat → Nat) × Nat) (S : wd_W) (p1 : Int64) (o : o_J7_fill_d0a16_q139) (hf : f_J7_fill_d0a16_q139 S p1 = some o) : MX layX l yJ7_fill_d0a16 cJ7_fill_d0a16 5 none ({ frames := 0, cells := 0, slots := 0, locals := 0 } : Room) D q g cy z [.ref (q 139), .long p1] S false (none) (wd_o S [] [] [] [(139, o)] []) 0 0 := by
  refine mx_of (own := RJ7) (lc := [(0, .ref (q 139)), (1, .long p1)]) (by decide +kernel) rfl layX_ok (Nat.le_of_ble_eq_true rfl) rfl ?_
  intro X hXl hXq hXz hC hQ
  subst hXl; subst hXq; subst hXz
  unfold f_J7_fill_d0a16_q139 at hf
  refine go_keys (L1 := []) (L2 := []) (L3 := []) (L4 := [(139, (S.2.2.2.1 139))]) (L5 := []) [] [] [] [139] [] rfl rfl rfl rfl rfl ?_
  refine go_iconst (pc' := 1) hC dJ7_fill_d0a16_0 ki_0 rfl ?_
  refine go_istore_n (lc' := [(0, .ref (x_q X 139)), (1, .long p1), (3, .int (0 : Int32))]) (pc' := 2) hC dJ7_fill_d0a16_1 (Nat.le_of_ble_eq_true rfl) rfl rfl ?_
  refine go_aload_n (pc' := 3) hC dJ7_fill_d0a16_2 rfl rfl ?_
  refine go_alen (v := (100 : Int32)) (pc' := 4) hC 139 layX_139 rfl (Nat.le_of_ble_eq_true rfl) kn_100 dJ7_fill_d0a16_3 rfl ?_
  refine go_istore (lc' := [(0, .ref (x_q X 139)), (1, .long p1), (3, .int (0 : Int32)), (4, .int (100 : Int32))]) (pc' := 6) hC dJ7_fill_d0a16_4 (Nat.le_of_ble_eq_true rfl) rfl rfl ?_
  have l6_7 : ∀ (nn : Nat) (x1 : Int32) (a2 : Nat → Int64), it2 (f_J7_fill_d0a16_q139_L6 p1) nn x1 a2 = some o → Go X layX S 6 [(0, .ref (x_q X 139)), (1, .long p1), (3, .int x1), (4, .int (100 : Int32))] [] g [] [] [] [(139, a2)] [] 0 0 := by
    intro nn
    induction nn with
    | zero =>
      intro x1 a2 hf
      exact none_no hf
    | succ nn ih =>
      intro x1 a2 hf
      have hf : f_J7_fill_d0a16_q139_L6 p1 (it2 (f_J7_fill_d0a16_q139_L6 p1) nn) x1 a2 = some o := hf
      generalize it2 (f_J7_fill_d0a16_q139_L6 p1) nn = r3 at ih hf
      unfold f_J7_fill_d0a16_q139_L6 at hf
      refine go_iload_n (pc' := 7) hC dJ7_fill_d0a16_6 rfl rfl ?_
      refine go_iload (pc' := 9) hC dJ7_fill_d0a16_7 rfl rfl ?_
      refine go_icmp_ge (tgt := 22) (pc' := 12) hC dJ7_fill_d0a16_9 (by decide) rfl (fun h6 => ?_) (fun h6 => ?_)
      · have hf := ite_t h6 hf
        obtain rfl := Option.some.inj hf
        exact go_vret hC hQ dJ7_fill_d0a16_22 rfl rfl rfl (fun _ => rfl) rfl rfl
      · have hf := ite_f h6 hf
        refine go_aload_n (pc' := 13) hC dJ7_fill_d0a16_12 rfl rfl ?_
        refine go_iload_n (pc' := 14) hC dJ7_fill_d0a16_13 rfl rfl ?_
        refine go_lload_n (pc' := 15) hC dJ7_fill_d0a16_14 rfl rfl ?_
        obtain ⟨h4, hf⟩ := gd_e hf
        refine go_last (f := a2) (pc' := 16) hC 139 layX_139 rfl rfl dJ7_fill_d0a16_15 (okx_in h4) rfl rfl (fun a5 ha L4' hL => ?_)
        have hf := lz_r ha hf
        clear ha
        obtain rfl : L4' = [(139, a5)] := hL.symm
        refine go_iinc (lc' := [(0, .ref (x_q X 139)), (1, .long p1), (3, .int (x1 + (1 : Int32))), (4, .int (100 : Int32))]) (pc' := 19) hC dJ7_fill_d0a16_16 rfl ki_1 (Nat.le_of_ble_eq_true rfl) rfl rfl ?_
        refine go_goto (tgt := 6) hC dJ7_fill_d0a16_19 (by decide) ?_
        exact ih (x1 + (1 : Int32)) a5 hf
  exact l6_7 fuel (0 : Int32) (S.2.2.2.1 139) hf
theorem dX5_travel_0 : decode cX5_travel 0 = .ok (.aload_n 0, 1) := by decide +kernel
theorem dX5_travel_1 : decode cX5_travel 1 = .ok (.iload_n 1, 1) := by decide +kernel
theorem dX5_travel_2 : decode cX5_travel 2 = .ok (.putfield 15, 3) := by decide +kernel
theorem dX5_travel_5 : decode cX5_travel 5 = .ok (.aload_n 0, 1) := by decide +kernel
theorem dX5_travel_6 : decode cX5_travel 6 = .ok (.iload_n 2, 1) := by decide +kernel
theorem dX5_travel_7 : decode cX5_travel 7 = .ok (.putfield 19, 3) := by decide +kernel
theorem dX5_travel_10 : decode cX5_travel 10 = .ok (.aload_n 0, 1) := by decide +kernel
theorem dX5_travel_11 : decode cX5_travel 11 = .ok (.getfield 22, 3) := by decide +kernel
theorem dX5_travel_14 : decode cX5_travel 14 = .ok (.lconst 0, 1) := by decide +kernel
theorem dX5_travel_15 : decode cX5_travel 15 = .ok (.invokestatic 99, 3) := by decide +kernel
theorem dX5_travel_18 : decode cX5_travel 18 = .ok (.iconst 0, 1) := by decide +kernel
theorem dX5_travel_19 : decode cX5_travel 19 = .ok (.istore_n 3, 1) := by decide +kernel
theorem dX5_travel_20 : decode cX5_travel 20 = .ok (.iload_n 3, 1) := by decide +kernel
theorem dX5_travel_21 : decode cX5_travel 21 = .ok (.aload_n 0, 1) := by decide +kernel
theorem dX5_travel_22 : decode cX5_travel 22 = .ok (.getfield 30, 3) := by decide +kernel
theorem dX5_travel_25 : decode cX5_travel 25 = .ok (.getfield 34, 3) := by decide +kernel
theorem dX5_travel_28 : decode cX5_travel 28 = .ok (.if_icmp .gt 50, 3) := by decide +kernel
theorem dX5_travel_31 : decode cX5_travel 31 = .ok (.aload_n 0, 1) := by decide +kernel
theorem dX5_travel_32 : decode cX5_travel 32 = .ok (.getfield 30, 3) := by decide +kernel
theorem dX5_travel_35 : decode cX5_travel 35 = .ok (.getfield 48, 3) := by decide +kernel
theorem dX5_travel_38 : decode cX5_travel 38 = .ok (.iload_n 1, 1) := by decide +kernel
theorem dX5_travel_39 : decode cX5_travel 39 = .ok (.iload_n 2, 1) := by decide +kernel
theorem dX5_travel_40 : decode cX5_travel 40 = .ok (.iload_n 3, 1) := by decide +kernel
theorem dX5_travel_41 : decode cX5_travel 41 = .ok (.invokevirtual 105, 3) := by decide +kernel
theorem dX5_travel_44 : decode cX5_travel 44 = .ok (.istore 4, 2) := by decide +kernel
theorem dX5_travel_46 : decode cX5_travel 46 = .ok (.iload 4, 2) := by decide +kernel
theorem dX5_travel_48 : decode cX5_travel 48 = .ok (.bipush 99, 2) := by decide +kernel
theorem dX5_travel_50 : decode cX5_travel 50 = .ok (.if_icmp .gt 22, 3) := by decide +kernel
theorem dX5_travel_53 : decode cX5_travel 53 = .ok (.aload_n 0, 1) := by decide +kernel
theorem dX5_travel_54 : decode cX5_travel 54 = .ok (.getfield 22, 3) := by decide +kernel
theorem dX5_travel_57 : decode cX5_travel 57 = .ok (.iload 4, 2) := by decide +kernel
theorem dX5_travel_59 : decode cX5_travel 59 = .ok (.dup2, 1) := by decide +kernel
theorem dX5_travel_60 : decode cX5_travel 60 = .ok (.laload, 1) := by decide +kernel
theorem dX5_travel_61 : decode cX5_travel 61 = .ok (.aload_n 0, 1) := by decide +kernel
theorem dX5_travel_62 : decode cX5_travel 62 = .ok (.getfield 30, 3) := by decide +kernel
theorem dX5_travel_65 : decode cX5_travel 65 = .ok (.getfield 109, 3) := by decide +kernel
theorem dX5_travel_68 : decode cX5_travel 68 = .ok (.iload_n 3, 1) := by decide +kernel
theorem dX5_travel_69 : decode cX5_travel 69 = .ok (.laload, 1) := by decide +kernel
theorem dX5_travel_70 : decode cX5_travel 70 = .ok (.ladd, 1) := by decide +kernel
theorem dX5_travel_71 : decode cX5_travel 71 = .ok (.lastore, 1) := by decide +kernel
theorem dX5_travel_72 : decode cX5_travel 72 = .ok (.iinc 3 1, 3) := by decide +kernel
theorem dX5_travel_75 : decode cX5_travel 75 = .ok (.goto (-55), 3) := by decide +kernel
theorem dX5_travel_78 : decode cX5_travel 78 = .ok (.return_, 1) := by decide +kernel
abbrev o_X5_travel_q137 : Type := Int32 × Int32 × (Nat → Int32) × (Nat → Int64)
def f_X5_travel_q137_L20 (S : wd_W) (p1 : Int32) (p2 : Int32) (r5 : (Int32) → (Nat → Int32) → (Nat → Int64) → (Option o_X5_travel_q137)) (x2 : Int32) (a3 : Nat → Int32) (a4 : Nat → Int64) : Option o_X5_travel_q137 :=
if (S.1 10603) < x2 then (
some (p1, p2, a3, a4)) else (
bd (f_X7_daysBetween_q111 (wd_o S [(13703, p1), (13704, p2)] [] [(115, a3)] [(139, a4)] []) p1 p2 x2) fun o6 =>
lk (fun a7 =>
r5 (x2 + (1 : Int32)) o6.2 a7) fun k72_8 =>
if (99 : Int32) < o6.1 then (
k72_8 a4) else (
gd (okx o6.1 100) <|
gd (okx x2 (S.2.2.2.2 108)) <|
lz ((a4 o6.1.toNatClampNeg) + ((S.2.2.2.1 108) x2.toNatClampNeg)) fun x11 =>
gd (okx o6.1 100) <|
lz (vp_updL a4 o6.1.toNatClampNeg x11) fun a13 =>
k72_8 a13))
def f_X5_travel_q137 (S : wd_W) (p1 : Int32) (p2 : Int32) : Option o_X5_travel_q137 :=
bd (f_J7_fill_d0a16_q139 (wd_o S [(13703, p1), (13704, p2)] [] [(115, (S.2.2.1 115))] [(139, (S.2.2.2.1 139))] []) (0 : Int64)) fun o1 =>
it3 (f_X5_travel_q137_L20 S p1 p2) fuel (0 : Int32) (S.2.2.1 115) o1
set_option maxRecDepth 100000 in
set_option maxHeartbeats 4000000 in
theorem c_X5_travel_q137 (l : Launch) (D : va_G) (q g : Nat → Nat) (cy : Nat → ClassId) (z : (Nat → Nat) × (Nat → Nat) × Nat) (S : wd_W) (p1 : Int32) (p2 : Int32) (o : o_X5_travel_q137) (hf : f_X5_travel_q137 S p1 p2 = some o) : MX layX l yX5_travel cX5_travel 5 none ({ frames := 2, cells := 0, slots := 0, locals := 50 } : Room) D q g cy z [.ref (q 137), .int p1, .int p2] S false (none) (wd_o S [(13703, o.1), (13704, o.2.1)] [] [(115, o.2.2.1)] [(139, o.2.2.2)] []) 0 0 := by
  refine mx_of (own := RX5) (lc := [(0, .ref (q 137)), (1, .int p1), (2, .int p2)]) (by decide +kernel) rfl layX_ok (Nat.le_of_ble_eq_true rfl) rfl ?_
  intro X hXl hXq hXz hC hQ
  subst hXl; subst hXq; subst hXz
  unfold f_X5_travel_q137 at hf
  refine go_keys (L1 := [(13703, (S.1 13703)), (13704, (S.1 13704))]) (L2 := []) (L3 := [(115, (S.2.2.1 115))]) (L4 := [(139, (S.2.2.2.1 139))]) (L5 := []) [13703, 13704] [] [115] [139] [] rfl rfl rfl rfl rfl ?_
  refine go_aload_n (pc' := 1) hC dX5_travel_0 rfl rfl ?_
  refine go_iload_n (pc' := 2) hC dX5_travel_1 rfl rfl ?_
  refine go_puti (L1' := [(13703, p1), (13704, (S.1 13704))]) (pc' := 5) hC 137 3 layX_137 rfl rfl inlX5 tyX5_ok nmX5 (Nat.le_of_ble_eq_true rfl) mw_152 rfl rfl rfl rfl dX5_travel_2 rfl rfl rfl ?_
  refine go_aload_n (pc' := 6) hC dX5_travel_5 rfl rfl ?_
  refine go_iload_n (pc' := 7) hC dX5_travel_6 rfl rfl ?_
  refine go_puti (L1' := [(13703, p1), (13704, p2)]) (pc' := 10) hC 137 4 layX_137 rfl rfl inlX5 tyX5_ok nmX5 (Nat.le_of_ble_eq_true rfl) mw_153 rfl rfl rfl rfl dX5_travel_7 rfl rfl rfl ?_
  refine go_aload_n (pc' := 11) hC dX5_travel_10 rfl rfl ?_
  refine go_getq (pc' := 14) hC 137 5 layX_137 rfl rfl inlX5 (Nat.le_of_ble_eq_true rfl) mw_154 rfl dX5_travel_11 rfl ?_
  refine go_lconst (pc' := 15) hC dX5_travel_14 kl_0 rfl ?_
  obtain ⟨o1, ho1, hf⟩ := bd_e hf
  refine go_callS1 (pc' := 18) (As := [.ref (x_q X 139), .long (0 : Int64)]) (st := []) (st' := []) (L1' := [(13703, p1), (13704, p2)]) (L2' := []) (L3' := [(115, (S.2.2.1 115))]) (L4' := [(139, o1)]) (L5' := []) (cells' := 0) (slots' := 0) hC dX5_travel_15 ⟨mw_1317, mw_706, mw_687, yd_yJ7_fill_d0a16, yp_yJ7_fill_d0a16, Nat.le_of_ble_eq_true rfl, Nat.le_of_ble_eq_true rfl, (Nat.le_of_ble_eq_true rfl), (Nat.le_of_ble_eq_true rfl)⟩ mw_705 rfl rfl (Nat.le_of_ble_eq_true rfl) (c_J7_fill_d0a16_q139 (x_l X) (x_D X) (x_q X) g (x_cy X) (x_z X) _ (0 : Int64) o1 ho1) rfl rfl rfl rfl rfl rfl rfl rfl rfl rfl rfl rfl rfl rfl ?_
  refine go_iconst (pc' := 19) hC dX5_travel_18 ki_0 rfl ?_
  refine go_istore_n (lc' := [(0, .ref (x_q X 137)), (1, .int p1), (2, .int p2), (3, .int (0 : Int32))]) (pc' := 20) hC dX5_travel_19 (Nat.le_of_ble_eq_true rfl) rfl rfl ?_
  have l20_16 : ∀ (nn : Nat) (x2 : Int32) (a3 : Nat → Int32) (a4 : Nat → Int64), it3 (f_X5_travel_q137_L20 S p1 p2) nn x2 a3 a4 = some o → Go X layX S 20 [(0, .ref (x_q X 137)), (1, .int p1), (2, .int p2), (3, .int x2)] [] g [(13703, p1), (13704, p2)] [] [(115, a3)] [(139, a4)] [] 0 0 := by
    intro nn
    induction nn with
    | zero =>
      intro x2 a3 a4 hf
      exact none_no hf
    | succ nn ih =>
      intro x2 a3 a4 hf
      have hf : f_X5_travel_q137_L20 S p1 p2 (it3 (f_X5_travel_q137_L20 S p1 p2) nn) x2 a3 a4 = some o := hf
      generalize it3 (f_X5_travel_q137_L20 S p1 p2) nn = r5 at ih hf
      unfold f_X5_travel_q137_L20 at hf
      refine go_iload_n (pc' := 21) hC dX5_travel_20 rfl rfl ?_
      refine go_aload_n (pc' := 22) hC dX5_travel_21 rfl rfl ?_
      refine go_getq (pc' := 25) hC 137 1 layX_137 rfl rfl inlX5 (Nat.le_of_ble_eq_true rfl) mw_156 rfl dX5_travel_22 rfl ?_
      refine go_geti (v := (S.1 10603)) (pc' := 28) hC 106 3 layX_106 rfl rfl inlX8 (Nat.le_of_ble_eq_true rfl) mw_817 rfl dX5_travel_25 rfl rfl ?_
      refine go_icmp_gt (tgt := 78) (pc' := 31) hC dX5_travel_28 (by decide) rfl (fun h15 => ?_) (fun h15 => ?_)
      · have hf := ite_t h15 hf
        obtain rfl := Option.some.inj hf
        exact go_vret hC hQ dX5_travel_78 rfl rfl rfl (fun _ => rfl) rfl rfl
      · have hf := ite_f h15 hf
        refine go_aload_n (pc' := 32) hC dX5_travel_31 rfl rfl ?_
        refine go_getq (pc' := 35) hC 137 1 layX_137 rfl rfl inlX5 (Nat.le_of_ble_eq_true rfl) mw_156 rfl dX5_travel_32 rfl ?_
        refine go_getq (pc' := 38) hC 106 0 layX_106 rfl rfl inlX8 (Nat.le_of_ble_eq_true rfl) mw_823 rfl dX5_travel_35 rfl ?_
        refine go_iload_n (pc' := 39) hC dX5_travel_38 rfl rfl ?_
        refine go_iload_n (pc' := 40) hC dX5_travel_39 rfl rfl ?_
        refine go_iload_n (pc' := 41) hC dX5_travel_40 rfl rfl ?_
        obtain ⟨o6, ho6, hf⟩ := bd_e hf
        refine go_callV1 (pc' := 44) (As := [.int p1, .int p2, .int x2]) (st := []) (st' := [.int o6.1]) (L1' := [(13703, p1), (13704, p2)]) (L2' := []) (L3' := [(115, o6.2)]) (L4' := [(139, a4)]) (L5' := []) (cells' := 0) (slots' := 0) (b := 111) hC dX5_travel_41 ⟨mw_1318, mw_684, mw_99, yd_yX7_daysBetween, yp_yX7_daysBetween, Nat.le_of_ble_eq_true rfl, Nat.le_of_ble_eq_true rfl, (Nat.le_of_ble_eq_true rfl), (Nat.le_of_ble_eq_true rfl)⟩ mw_682 mw_683 layX_111 rfl rfl rfl (Nat.le_of_ble_eq_true rfl) (c_X7_daysBetween_q111 (x_l X) (x_D X) (x_q X) g (x_cy X) (x_z X) _ p1 p2 x2 o6 ho6) rfl rfl rfl rfl rfl rfl rfl rfl rfl rfl rfl rfl rfl rfl ?_
        refine go_istore (lc' := [(0, .ref (x_q X 137)), (1, .int p1), (2, .int p2), (3, .int x2), (4, .int o6.1)]) (pc' := 46) hC dX5_travel_44 (Nat.le_of_ble_eq_true rfl) rfl rfl ?_
        refine go_iload (pc' := 48) hC dX5_travel_46 rfl rfl ?_
        refine go_bipush (pc' := 50) hC dX5_travel_48 kb_99 rfl ?_
        obtain ⟨k72_8, hk72_8, hf⟩ := lk_e1 hf
        have jk72_8 : ∀ (a7 : Nat → Int64), k72_8 a7 = some o → Go X layX S 72 [(0, .ref (x_q X 137)), (1, .int p1), (2, .int p2), (3, .int x2)] [] g [(13703, p1), (13704, p2)] [] [(115, o6.2)] [(139, a7)] [] 0 0 := by
          intro a7 hf
          have hf := hk72_8 a7 hf
          clear hk72_8
          refine go_iinc (lc' := [(0, .ref (x_q X 137)), (1, .int p1), (2, .int p2), (3, .int (x2 + (1 : Int32)))]) (pc' := 75) hC dX5_travel_72 rfl ki_1 (Nat.le_of_ble_eq_true rfl) rfl rfl ?_
          refine go_goto (tgt := 20) hC dX5_travel_75 (by decide) ?_
          exact ih (x2 + (1 : Int32)) o6.2 a7 hf
        clear hk72_8
        refine go_icmp_gt (tgt := 72) (pc' := 53) hC dX5_travel_50 (by decide) rfl (fun h14 => ?_) (fun h14 => ?_)
        · have hf := ite_t h14 hf
          refine go_sub [0, 1, 2, 3] rfl ?_
          exact jk72_8 a4 hf
        · have hf := ite_f h14 hf
          refine go_aload_n (pc' := 54) hC dX5_travel_53 rfl rfl ?_
          refine go_getq (pc' := 57) hC 137 5 layX_137 rfl rfl inlX5 (Nat.le_of_ble_eq_true rfl) mw_154 rfl dX5_travel_54 rfl ?_
          refine go_iload (pc' := 59) hC dX5_travel_57 rfl rfl ?_
          refine go_dup2 (pc' := 60) hC dX5_travel_59 rfl rfl rfl ?_
          obtain ⟨h9, hf⟩ := gd_e hf
          refine go_lald (f := a4) (pc' := 61) hC 139 layX_139 rfl rfl dX5_travel_60 (okx_in h9) rfl ?_
          refine go_aload_n (pc' := 62) hC dX5_travel_61 rfl rfl ?_
          refine go_getq (pc' := 65) hC 137 1 layX_137 rfl rfl inlX5 (Nat.le_of_ble_eq_true rfl) mw_156 rfl dX5_travel_62 rfl ?_
          refine go_getg (pc' := 68) hC 106 5 layX_106 rfl rfl inlX8 (Nat.le_of_ble_eq_true rfl) mw_1316 rfl dX5_travel_65 rfl ?_
          refine go_iload_n (pc' := 69) hC dX5_travel_68 rfl rfl ?_
          obtain ⟨h10, hf⟩ := gd_e hf
          refine go_laldg (f := (S.2.2.2.1 108)) (pc' := 70) hC 108 layX_108 rfl rfl dX5_travel_69 (okx_in h10) rfl ?_
          refine go_ladd (pc' := 71) hC dX5_travel_70 rfl ?_
          refine go_namel (fun x11 hx => ?_)
          have hf := lz_r hx hf
          clear hx
          obtain ⟨h12, hf⟩ := gd_e hf
          refine go_last (f := a4) (pc' := 72) hC 139 layX_139 rfl rfl dX5_travel_71 (okx_in h12) rfl rfl (fun a13 ha L4' hL => ?_)
          have hf := lz_r ha hf
          clear ha
          obtain rfl : L4' = [(139, a13)] := hL.symm
          refine go_sub [0, 1, 2, 3] rfl ?_
          exact jk72_8 a13 hf
  exact l20_16 fuel (0 : Int32) (S.2.2.1 115) o1 hf
theorem dX11_knownDays_0 : decode cX11_knownDays 0 = .ok (.aload_n 0, 1) := by decide +kernel
theorem dX11_knownDays_1 : decode cX11_knownDays 1 = .ok (.iconst 1, 1) := by decide +kernel
theorem dX11_knownDays_2 : decode cX11_knownDays 2 = .ok (.invokevirtual 233, 3) := by decide +kernel
theorem dX11_knownDays_5 : decode cX11_knownDays 5 = .ok (.aload_n 0, 1) := by decide +kernel
theorem dX11_knownDays_6 : decode cX11_knownDays 6 = .ok (.sipush 256, 3) := by decide +kernel
theorem dX11_knownDays_9 : decode cX11_knownDays 9 = .ok (.invokevirtual 246, 3) := by decide +kernel
theorem dX11_knownDays_12 : decode cX11_knownDays 12 = .ok (.ifCond .ne 15, 3) := by decide +kernel
theorem dX11_knownDays_15 : decode cX11_knownDays 15 = .ok (.aload_n 0, 1) := by decide +kernel
theorem dX11_knownDays_16 : decode cX11_knownDays 16 = .ok (.getfield 83, 3) := by decide +kernel
theorem dX11_knownDays_19 : decode cX11_knownDays 19 = .ok (.iload_n 1, 1) := by decide +kernel
theorem dX11_knownDays_20 : decode cX11_knownDays 20 = .ok (.iload_n 2, 1) := by decide +kernel
theorem dX11_knownDays_21 : decode cX11_knownDays 21 = .ok (.invokevirtual 367, 3) := by decide +kernel
theorem dX11_knownDays_24 : decode cX11_knownDays 24 = .ok (.ifCond .ne 12, 3) := by decide +kernel
theorem dX11_knownDays_27 : decode cX11_knownDays 27 = .ok (.aload_n 0, 1) := by decide +kernel
theorem dX11_knownDays_28 : decode cX11_knownDays 28 = .ok (.getfield 83, 3) := by decide +kernel
theorem dX11_knownDays_31 : decode cX11_knownDays 31 = .ok (.iload_n 1, 1) := by decide +kernel
theorem dX11_knownDays_32 : decode cX11_knownDays 32 = .ok (.iload_n 2, 1) := by decide +kernel
theorem dX11_knownDays_33 : decode cX11_knownDays 33 = .ok (.invokevirtual 370, 3) := by decide +kernel
theorem dX11_knownDays_36 : decode cX11_knownDays 36 = .ok (.aload_n 0, 1) := by decide +kernel
theorem dX11_knownDays_37 : decode cX11_knownDays 37 = .ok (.getfield 83, 3) := by decide +kernel
theorem dX11_knownDays_40 : decode cX11_knownDays 40 = .ok (.areturn, 1) := by decide +kernel
abbrev o_X11_knownDays : Type := wd_W × Nat × Nat
def f_X11_knownDays (S : wd_W) (p1 : Int32) (p2 : Int32) : Option o_X11_knownDays :=
bd (f_X11_know (wd_o S [] [] [] [] []) (1 : Int32)) fun o1 =>
gd (okr (0 + o1.2.1) (0 + o1.2.2) 0 0 12 140000) <|
bd (f_X11_isNew (wd_o o1.1 [(7, (o1.1.1 7))] [] [] [] []) (256 : Int32)) fun o2 =>
lk (fun S4 =>
some (S4, 0 + o1.2.1, 0 + o1.2.2)) fun k36_5 =>
lk (lz (wd_o o1.1 [(7, o2.2)] [] [] [] []) fun S8 =>
gd (okr (0 + o1.2.1) (0 + o1.2.2) 0 0 12 140000) <|
bd (f_X5_travel_q137 (wd_o S8 [(13703, (S8.1 13703)), (13704, (S8.1 13704))] [] [(115, (S8.2.2.1 115))] [(139, (S8.2.2.2.1 139))] []) p1 p2) fun o7 =>
k36_5 (wd_o S8 [(13703, o7.1), (13704, o7.2.1)] [] [(115, o7.2.2.1)] [(139, o7.2.2.2)] [])) fun k27_6 =>
if o2.1 = 0 then (
gd (okr (0 + o1.2.1) (0 + o1.2.2) 0 0 12 140000) <|
bd (f_X5_isFor_q137 (wd_o o1.1 [(7, o2.2)] [] [] [] []) p1 p2) fun o10 =>
if o10 = 0 then (
k27_6) else (
k36_5 (wd_o o1.1 [(7, o2.2)] [] [] [] []))) else (
k27_6)
set_option maxRecDepth 100000 in
set_option maxHeartbeats 4000000 in
theorem c_X11_knownDays (l : Launch) (D : va_G) (q g : Nat → Nat) (cy : Nat → ClassId) (z : (Nat → Nat) × (Nat → Nat) × Nat) (S : wd_W) (p1 : Int32) (p2 : Int32) (o : o_X11_knownDays) (hf : f_X11_knownDays S p1 p2 = some o) : MX layX l yX11_knownDays cX11_knownDays 3 (some (.object "LetterThrough$Mail")) ({ frames := 5, cells := 12, slots := 140000, locals := 127 } : Room) D q g cy z [.ref (q 0), .int p1, .int p2] S true (some (.ref (q 137))) o.1 o.2.1 o.2.2 := by
  refine mx_of (own := RX11) (lc := [(0, .ref (q 0)), (1, .int p1), (2, .int p2)]) (by decide +kernel) rfl layX_ok (Nat.le_of_ble_eq_true rfl) rfl ?_
  intro X hXl hXq hXz hC hQ
  subst hXl; subst hXq; subst hXz
  unfold f_X11_knownDays at hf
  refine go_aload_n (pc' := 1) hC dX11_knownDays_0 rfl rfl ?_
  refine go_iconst (pc' := 2) hC dX11_knownDays_1 ki_1 rfl ?_
  obtain ⟨o1, ho1, hf⟩ := bd_e hf
  refine go_callVw (pc' := 5) (As := [.int (1 : Int32)]) (st := []) (st' := [])  (cells' := 0 + o1.2.1) (slots' := 0 + o1.2.2) (b := 0) hC dX11_knownDays_2 ⟨mw_597, mw_600, mw_2, yd_yX11_know, yp_yX11_know, Nat.le_of_ble_eq_true rfl, Nat.le_of_ble_eq_true rfl, (Nat.le_of_ble_eq_true rfl), (Nat.le_of_ble_eq_true rfl)⟩ mw_598 mw_599 layX_0 rfl rfl rfl (Nat.le_of_ble_eq_true rfl) (c_X11_know (x_l X) (x_D X) (x_q X) g (x_cy X) (x_z X) _ (1 : Int32) o1 ho1) rfl rfl rfl rfl (fun g _ => ?_)
  refine go_aload_n (pc' := 6) hC dX11_knownDays_5 rfl rfl ?_
  refine go_sipush (pc' := 9) hC dX11_knownDays_6 ks_256 rfl ?_
  refine go_keys (L1 := [(7, (o1.1.1 7))]) (L2 := []) (L3 := []) (L4 := []) (L5 := []) [7] [] [] [] [] rfl rfl rfl rfl rfl ?_
  obtain ⟨h3, hf⟩ := gd_e hf
  obtain ⟨o2, ho2, hf⟩ := bd_e hf
  refine go_callV1 (pc' := 12) (As := [.int (256 : Int32)]) (st := []) (st' := [.int o2.1]) (L1' := [(7, o2.2)]) (L2' := []) (L3' := []) (L4' := []) (L5' := []) (cells' := 0 + o1.2.1) (slots' := 0 + o1.2.2) (b := 0) hC dX11_knownDays_9 ⟨mw_601, mw_604, mw_2, yd_yX11_isNew, yp_yX11_isNew, Nat.le_of_ble_eq_true rfl, Nat.le_of_ble_eq_true rfl, (okr_c h3), (okr_s h3)⟩ mw_602 mw_603 layX_0 rfl rfl rfl (Nat.le_of_ble_eq_true rfl) (c_X11_isNew (x_l X) (x_D X) (x_q X) g (x_cy X) (x_z X) _ (256 : Int32) o2 ho2) rfl rfl rfl rfl rfl rfl rfl rfl rfl rfl rfl rfl rfl rfl ?_
  obtain ⟨k36_5, hk36_5, hf⟩ := lk_e1 hf
  have jk36_5 : ∀ (S4 : wd_W) (g : Nat → Nat), k36_5 S4 = some o → Go X layX S4 36 [(0, .ref (x_q X 0))] [] g [] [] [] [] [] (0 + o1.2.1) (0 + o1.2.2) := by
    intro S4 g hf
    have hf := hk36_5 S4 hf
    clear hk36_5
    refine go_aload_n (pc' := 37) hC dX11_knownDays_36 rfl rfl ?_
    refine go_getq (pc' := 40) hC 0 14 layX_0 rfl rfl inlX11 (Nat.le_of_ble_eq_true rfl) mw_45 rfl dX11_knownDays_37 rfl ?_
    obtain rfl := Option.some.inj hf
    exact go_aret hC hQ dX11_knownDays_40 rfl rfl rfl (fun h => nomatch h) rfl rfl
  clear hk36_5
  obtain ⟨k27_6, hk27_6, hf⟩ := lk_e0 hf
  have jk27_6 : ∀ (_ : Unit) (g : Nat → Nat), k27_6 = some o → Go X layX o1.1 27 [(0, .ref (x_q X 0)), (1, .int p1), (2, .int p2)] [] g [(7, o2.2)] [] [] [] [] (0 + o1.2.1) (0 + o1.2.2) := by
    intro _ g hf
    have hf := hk27_6 hf
    clear hk27_6
    refine go_aload_n (pc' := 28) hC dX11_knownDays_27 rfl rfl ?_
    refine go_getq (pc' := 31) hC 0 14 layX_0 rfl rfl inlX11 (Nat.le_of_ble_eq_true rfl) mw_45 rfl dX11_knownDays_28 rfl ?_
    refine go_iload_n (pc' := 32) hC dX11_knownDays_31 rfl rfl ?_
    refine go_iload_n (pc' := 33) hC dX11_knownDays_32 rfl rfl ?_
    refine go_base (fun S8 hx => ?_)
    have hf := lz_r hx hf
    clear hx
    refine go_keys (L1 := [(13703, (S8.1 13703)), (13704, (S8.1 13704))]) (L2 := []) (L3 := [(115, (S8.2.2.1 115))]) (L4 := [(139, (S8.2.2.2.1 139))]) (L5 := []) [13703, 13704] [] [115] [139] [] rfl rfl rfl rfl rfl ?_
    obtain ⟨h9, hf⟩ := gd_e hf
    obtain ⟨o7, ho7, hf⟩ := bd_e hf
    refine go_callV1 (pc' := 36) (As := [.int p1, .int p2]) (st := []) (st' := []) (L1' := [(13703, o7.1), (13704, o7.2.1)]) (L2' := []) (L3' := [(115, o7.2.2.1)]) (L4' := [(139, o7.2.2.2)]) (L5' := []) (cells' := 0 + o1.2.1) (slots' := 0 + o1.2.2) (b := 137) hC dX11_knownDays_33 ⟨mw_1312, mw_1315, mw_44, yd_yX5_travel, yp_yX5_travel, Nat.le_of_ble_eq_true rfl, Nat.le_of_ble_eq_true rfl, (okr_c h9), (okr_s h9)⟩ mw_1313 mw_1314 layX_137 rfl rfl rfl (Nat.le_of_ble_eq_true rfl) (c_X5_travel_q137 (x_l X) (x_D X) (x_q X) g (x_cy X) (x_z X) _ p1 p2 o7 ho7) rfl rfl rfl rfl rfl rfl rfl rfl rfl rfl rfl rfl rfl rfl ?_
    refine go_sub [0] rfl ?_
    refine go_base (fun S9 hS9 => ?_)
    subst hS9
    exact jk36_5 (wd_o S8 [(13703, o7.1), (13704, o7.2.1)] [] [(115, o7.2.2.1)] [(139, o7.2.2.2)] []) g hf
  clear hk27_6
  refine go_if_ne (tgt := 27) (pc' := 15) hC dX11_knownDays_12 (by decide) rfl (fun h13 => ?_) (fun h13 => ?_)
  · have hf := ite_f h13 hf
    exact jk27_6 () g hf
  · have hf := ite_t h13 hf
    refine go_aload_n (pc' := 16) hC dX11_knownDays_15 rfl rfl ?_
    refine go_getq (pc' := 19) hC 0 14 layX_0 rfl rfl inlX11 (Nat.le_of_ble_eq_true rfl) mw_45 rfl dX11_knownDays_16 rfl ?_
    refine go_iload_n (pc' := 20) hC dX11_knownDays_19 rfl rfl ?_
    refine go_iload_n (pc' := 21) hC dX11_knownDays_20 rfl rfl ?_
    obtain ⟨h11, hf⟩ := gd_e hf
    obtain ⟨o10, ho10, hf⟩ := bd_e hf
    refine go_callV0 (pc' := 24) (As := [.int p1, .int p2]) (st := []) (st' := [.int o10])   (b := 137) hC dX11_knownDays_21 ⟨mw_1308, mw_1311, mw_44, yd_yX5_isFor, yp_yX5_isFor, Nat.le_of_ble_eq_true rfl, Nat.le_of_ble_eq_true rfl, (okr_c h11), (okr_s h11)⟩ mw_1309 mw_1310 layX_137 rfl rfl rfl (Nat.le_of_ble_eq_true rfl) (c_X5_isFor_q137 (x_l X) (x_D X) (x_q X) g (x_cy X) (x_z X) _ p1 p2 o10 ho10) rfl rfl ?_
    refine go_if_ne (tgt := 36) (pc' := 27) hC dX11_knownDays_24 (by decide) rfl (fun h12 => ?_) (fun h12 => ?_)
    · have hf := ite_f h12 hf
      refine go_sub [0] rfl ?_
      refine go_base (fun S9 hS9 => ?_)
      subst hS9
      exact jk36_5 (wd_o o1.1 [(7, o2.2)] [] [] [] []) g hf
    · have hf := ite_t h12 hf
      exact jk27_6 () g hf
theorem dX5_cameWithin_0 : decode cX5_cameWithin 0 = .ok (.lconst 0, 1) := by decide +kernel
theorem dX5_cameWithin_1 : decode cX5_cameWithin 1 = .ok (.lstore_n 2, 1) := by decide +kernel
theorem dX5_cameWithin_2 : decode cX5_cameWithin 2 = .ok (.iconst 0, 1) := by decide +kernel
theorem dX5_cameWithin_3 : decode cX5_cameWithin 3 = .ok (.istore 4, 2) := by decide +kernel
theorem dX5_cameWithin_5 : decode cX5_cameWithin 5 = .ok (.iload 4, 2) := by decide +kernel
theorem dX5_cameWithin_7 : decode cX5_cameWithin 7 = .ok (.iload_n 1, 1) := by decide +kernel
theorem dX5_cameWithin_8 : decode cX5_cameWithin 8 = .ok (.if_icmp .gt 26, 3) := by decide +kernel
theorem dX5_cameWithin_11 : decode cX5_cameWithin 11 = .ok (.iload 4, 2) := by decide +kernel
theorem dX5_cameWithin_13 : decode cX5_cameWithin 13 = .ok (.bipush 99, 2) := by decide +kernel
theorem dX5_cameWithin_15 : decode cX5_cameWithin 15 = .ok (.if_icmp .gt 19, 3) := by decide +kernel
theorem dX5_cameWithin_18 : decode cX5_cameWithin 18 = .ok (.lload_n 2, 1) := by decide +kernel
theorem dX5_cameWithin_19 : decode cX5_cameWithin 19 = .ok (.aload_n 0, 1) := by decide +kernel
theorem dX5_cameWithin_20 : decode cX5_cameWithin 20 = .ok (.getfield 22, 3) := by decide +kernel
theorem dX5_cameWithin_23 : decode cX5_cameWithin 23 = .ok (.iload 4, 2) := by decide +kernel
theorem dX5_cameWithin_25 : decode cX5_cameWithin 25 = .ok (.laload, 1) := by decide +kernel
theorem dX5_cameWithin_26 : decode cX5_cameWithin 26 = .ok (.ladd, 1) := by decide +kernel
theorem dX5_cameWithin_27 : decode cX5_cameWithin 27 = .ok (.lstore_n 2, 1) := by decide +kernel
theorem dX5_cameWithin_28 : decode cX5_cameWithin 28 = .ok (.iinc 4 1, 3) := by decide +kernel
theorem dX5_cameWithin_31 : decode cX5_cameWithin 31 = .ok (.goto (-26), 3) := by decide +kernel
theorem dX5_cameWithin_34 : decode cX5_cameWithin 34 = .ok (.lload_n 2, 1) := by decide +kernel
theorem dX5_cameWithin_35 : decode cX5_cameWithin 35 = .ok (.lreturn, 1) := by decide +kernel
abbrev o_X5_cameWithin_q137 : Type := Int64
def f_X5_cameWithin_q137_L5 (S : wd_W) (p1 : Int32) (r3 : (Int64) → (Int32) → (Option o_X5_cameWithin_q137)) (x1 : Int64) (x2 : Int32) : Option o_X5_cameWithin_q137 :=
if p1 < x2 then (
some x1) else (
if (99 : Int32) < x2 then (
some x1) else (
gd (okx x2 100) <|
lz (x1 + ((S.2.2.2.1 139) x2.toNatClampNeg)) fun x5 =>
r3 x5 (x2 + (1 : Int32))))
def f_X5_cameWithin_q137 (S : wd_W) (p1 : Int32) : Option o_X5_cameWithin_q137 :=
it2 (f_X5_cameWithin_q137_L5 S p1) fuel (0 : Int64) (0 : Int32)
set_option maxRecDepth 100000 in
set_option maxHeartbeats 4000000 in
theorem c_X5_cameWithin_q137 (l : Launch) (D : va_G) (q g : Nat → Nat) (cy : Nat → ClassId) (z : (Nat → Nat) × (Nat → Nat) × Nat) (S : wd_W) (p1 : Int32) (o : o_X5_cameWithin_q137) (hf : f_X5_cameWithin_q137 S p1 = some o) : MX layX l yX5_cameWithin cX5_cameWithin 5 (some .long) ({ frames := 0, cells := 0, slots := 0, locals := 0 } : Room) D q g cy z [.ref (q 137), .int p1] S false (some (.long o)) (wd_o S [] [] [] [] []) 0 0 := by
  refine mx_of (own := RX5) (lc := [(0, .ref (q 137)), (1, .int p1)]) (by decide +kernel) rfl layX_ok (Nat.le_of_ble_eq_true rfl) rfl ?_
  intro X hXl hXq hXz hC hQ
  subst hXl; subst hXq; subst hXz
  unfold f_X5_cameWithin_q137 at hf
  refine go_lconst (pc' := 1) hC dX5_cameWithin_0 kl_0 rfl ?_
  refine go_lstore_n (lc' := [(0, .ref (x_q X 137)), (1, .int p1), (2, .long (0 : Int64))]) (pc' := 2) hC dX5_cameWithin_1 (Nat.le_of_ble_eq_true rfl) rfl rfl ?_
  refine go_iconst (pc' := 3) hC dX5_cameWithin_2 ki_0 rfl ?_
  refine go_istore (lc' := [(0, .ref (x_q X 137)), (1, .int p1), (2, .long (0 : Int64)), (4, .int (0 : Int32))]) (pc' := 5) hC dX5_cameWithin_3 (Nat.le_of_ble_eq_true rfl) rfl rfl ?_
  have l5_8 : ∀ (nn : Nat) (x1 : Int64) (x2 : Int32), it2 (f_X5_cameWithin_q137_L5 S p1) nn x1 x2 = some o → Go X layX S 5 [(0, .ref (x_q X 137)), (1, .int p1), (2, .long x1), (4, .int x2)] [] g [] [] [] [] [] 0 0 := by
    intro nn
    induction nn with
    | zero =>
      intro x1 x2 hf
      exact none_no hf
    | succ nn ih =>
      intro x1 x2 hf
      have hf : f_X5_cameWithin_q137_L5 S p1 (it2 (f_X5_cameWithin_q137_L5 S p1) nn) x1 x2 = some o := hf
      generalize it2 (f_X5_cameWithin_q137_L5 S p1) nn = r3 at ih hf
      unfold f_X5_cameWithin_q137_L5 at hf
      refine go_iload (pc' := 7) hC dX5_cameWithin_5 rfl rfl ?_
      refine go_iload_n (pc' := 8) hC dX5_cameWithin_7 rfl rfl ?_
      refine go_icmp_gt (tgt := 34) (pc' := 11) hC dX5_cameWithin_8 (by decide) rfl (fun h7 => ?_) (fun h7 => ?_)
      · have hf := ite_t h7 hf
        refine go_lload_n (pc' := 35) hC dX5_cameWithin_34 rfl rfl ?_
        obtain rfl := Option.some.inj hf
        exact go_lret hC hQ dX5_cameWithin_35 rfl rfl rfl (fun _ => rfl) rfl rfl
      · have hf := ite_f h7 hf
        refine go_iload (pc' := 13) hC dX5_cameWithin_11 rfl rfl ?_
        refine go_bipush (pc' := 15) hC dX5_cameWithin_13 kb_99 rfl ?_
        refine go_icmp_gt (tgt := 34) (pc' := 18) hC dX5_cameWithin_15 (by decide) rfl (fun h6 => ?_) (fun h6 => ?_)
        · have hf := ite_t h6 hf
          refine go_lload_n (pc' := 35) hC dX5_cameWithin_34 rfl rfl ?_
          obtain rfl := Option.some.inj hf
          exact go_lret hC hQ dX5_cameWithin_35 rfl rfl rfl (fun _ => rfl) rfl rfl
        · have hf := ite_f h6 hf
          refine go_lload_n (pc' := 19) hC dX5_cameWithin_18 rfl rfl ?_
          refine go_aload_n (pc' := 20) hC dX5_cameWithin_19 rfl rfl ?_
          refine go_getq (pc' := 23) hC 137 5 layX_137 rfl rfl inlX5 (Nat.le_of_ble_eq_true rfl) mw_154 rfl dX5_cameWithin_20 rfl ?_
          refine go_iload (pc' := 25) hC dX5_cameWithin_23 rfl rfl ?_
          obtain ⟨h4, hf⟩ := gd_e hf
          refine go_lald (f := (S.2.2.2.1 139)) (pc' := 26) hC 139 layX_139 rfl rfl dX5_cameWithin_25 (okx_in h4) rfl ?_
          refine go_ladd (pc' := 27) hC dX5_cameWithin_26 rfl ?_
          refine go_namel (fun x5 hx => ?_)
          have hf := lz_r hx hf
          clear hx
          refine go_lstore_n (lc' := [(0, .ref (x_q X 137)), (1, .int p1), (2, .long x5), (4, .int x2)]) (pc' := 28) hC dX5_cameWithin_27 (Nat.le_of_ble_eq_true rfl) rfl rfl ?_
          refine go_iinc (lc' := [(0, .ref (x_q X 137)), (1, .int p1), (2, .long x5), (4, .int (x2 + (1 : Int32)))]) (pc' := 31) hC dX5_cameWithin_28 rfl ki_1 (Nat.le_of_ble_eq_true rfl) rfl rfl ?_
          refine go_goto (tgt := 5) hC dX5_cameWithin_31 (by decide) ?_
          exact ih x5 (x2 + (1 : Int32)) hf
  exact l5_8 fuel (0 : Int64) (0 : Int32) hf
theorem dX11_within_0 : decode cX11_within 0 = .ok (.aload_n 0, 1) := by decide +kernel
theorem dX11_within_1 : decode cX11_within 1 = .ok (.iload_n 1, 1) := by decide +kernel
theorem dX11_within_2 : decode cX11_within 2 = .ok (.iload_n 2, 1) := by decide +kernel
theorem dX11_within_3 : decode cX11_within 3 = .ok (.invokevirtual 274, 3) := by decide +kernel
theorem dX11_within_6 : decode cX11_within 6 = .ok (.ifCond .eq 13, 3) := by decide +kernel
theorem dX11_within_9 : decode cX11_within 9 = .ok (.iload_n 3, 1) := by decide +kernel
theorem dX11_within_10 : decode cX11_within 10 = .ok (.ifCond .lt 9, 3) := by decide +kernel
theorem dX11_within_13 : decode cX11_within 13 = .ok (.iload_n 3, 1) := by decide +kernel
theorem dX11_within_14 : decode cX11_within 14 = .ok (.bipush 99, 2) := by decide +kernel
theorem dX11_within_16 : decode cX11_within 16 = .ok (.if_icmp .le 7, 3) := by decide +kernel
theorem dX11_within_19 : decode cX11_within 19 = .ok (.ldc2_w 186, 3) := by decide +kernel
theorem dX11_within_22 : decode cX11_within 22 = .ok (.lreturn, 1) := by decide +kernel
theorem dX11_within_23 : decode cX11_within 23 = .ok (.aload_n 0, 1) := by decide +kernel
theorem dX11_within_24 : decode cX11_within 24 = .ok (.iload_n 1, 1) := by decide +kernel
theorem dX11_within_25 : decode cX11_within 25 = .ok (.iload_n 2, 1) := by decide +kernel
theorem dX11_within_26 : decode cX11_within 26 = .ok (.invokevirtual 295, 3) := by decide +kernel
theorem dX11_within_29 : decode cX11_within 29 = .ok (.iload_n 3, 1) := by decide +kernel
theorem dX11_within_30 : decode cX11_within 30 = .ok (.invokevirtual 299, 3) := by decide +kernel
theorem dX11_within_33 : decode cX11_within 33 = .ok (.lreturn, 1) := by decide +kernel
abbrev o_X11_within : Type := Int64 × wd_W × Nat × Nat
def f_X11_within (S : wd_W) (p1 : Int32) (p2 : Int32) (p3 : Int32) : Option o_X11_within :=
bd (f_X11_isPair (wd_o S [] [] [] [] []) p1 p2) fun o1 =>
if o1 = 0 then (
some ((-1 : Int64), S, 0, 0)) else (
if p3 < 0 then (
some ((-1 : Int64), S, 0, 0)) else (
if p3 ≤ (99 : Int32) then (
bd (f_X11_knownDays (wd_o S [] [] [] [] []) p1 p2) fun o2 =>
gd (okr (0 + o2.2.1) (0 + o2.2.2) 0 0 40 500000) <|
bd (f_X5_cameWithin_q137 (wd_o o2.1 [] [] [] [] []) p3) fun o3 =>
some (o3, o2.1, 0 + o2.2.1, 0 + o2.2.2)) else (
some ((-1 : Int64), S, 0, 0))))
set_option maxRecDepth 100000 in
set_option maxHeartbeats 4000000 in
theorem c_X11_within (l : Launch) (D : va_G) (q g : Nat → Nat) (cy : Nat → ClassId) (z : (Nat → Nat) × (Nat → Nat) × Nat) (S : wd_W) (p1 : Int32) (p2 : Int32) (p3 : Int32) (o : o_X11_within) (hf : f_X11_within S p1 p2 p3 = some o) : MX layX l yX11_within cX11_within 4 (some .long) ({ frames := 6, cells := 40, slots := 500000, locals := 149 } : Room) D q g cy z [.ref (q 0), .int p1, .int p2, .int p3] S true (some (.long o.1)) o.2.1 o.2.2.1 o.2.2.2 := by
  refine mx_of (own := RX11) (lc := [(0, .ref (q 0)), (1, .int p1), (2, .int p2), (3, .int p3)]) (by decide +kernel) rfl layX_ok (Nat.le_of_ble_eq_true rfl) rfl ?_
  intro X hXl hXq hXz hC hQ
  subst hXl; subst hXq; subst hXz
  unfold f_X11_within at hf
  refine go_aload_n (pc' := 1) hC dX11_within_0 rfl rfl ?_
  refine go_iload_n (pc' := 2) hC dX11_within_1 rfl rfl ?_
  refine go_iload_n (pc' := 3) hC dX11_within_2 rfl rfl ?_
  obtain ⟨o1, ho1, hf⟩ := bd_e hf
  refine go_callV0 (pc' := 6) (As := [.int p1, .int p2]) (st := []) (st' := [.int o1])   (b := 0) hC dX11_within_3 ⟨mw_1237, mw_1240, mw_2, yd_yX11_isPair, yp_yX11_isPair, Nat.le_of_ble_eq_true rfl, Nat.le_of_ble_eq_true rfl, (Nat.le_of_ble_eq_true rfl), (Nat.le_of_ble_eq_true rfl)⟩ mw_1238 mw_1239 layX_0 rfl rfl rfl (Nat.le_of_ble_eq_true rfl) (c_X11_isPair (x_l X) (x_D X) (x_q X) g (x_cy X) (x_z X) _ p1 p2 o1 ho1) rfl rfl ?_
  refine go_if_eq (tgt := 19) (pc' := 9) hC dX11_within_6 (by decide) rfl (fun h7 => ?_) (fun h7 => ?_)
  · have hf := ite_t h7 hf
    refine go_ldc2 (pc' := 22) hC dX11_within_19 mw_909 rfl ?_
    obtain rfl := Option.some.inj hf
    exact go_lret hC hQ dX11_within_22 rfl rfl rfl (fun h => nomatch h) rfl rfl
  · have hf := ite_f h7 hf
    refine go_iload_n (pc' := 10) hC dX11_within_9 rfl rfl ?_
    refine go_if_lt (tgt := 19) (pc' := 13) hC dX11_within_10 (by decide) rfl (fun h6 => ?_) (fun h6 => ?_)
    · have hf := ite_t h6 hf
      refine go_ldc2 (pc' := 22) hC dX11_within_19 mw_909 rfl ?_
      obtain rfl := Option.some.inj hf
      exact go_lret hC hQ dX11_within_22 rfl rfl rfl (fun h => nomatch h) rfl rfl
    · have hf := ite_f h6 hf
      refine go_iload_n (pc' := 14) hC dX11_within_13 rfl rfl ?_
      refine go_bipush (pc' := 16) hC dX11_within_14 kb_99 rfl ?_
      refine go_icmp_le (tgt := 23) (pc' := 19) hC dX11_within_16 (by decide) rfl (fun h5 => ?_) (fun h5 => ?_)
      · have hf := ite_t h5 hf
        refine go_aload_n (pc' := 24) hC dX11_within_23 rfl rfl ?_
        refine go_iload_n (pc' := 25) hC dX11_within_24 rfl rfl ?_
        refine go_iload_n (pc' := 26) hC dX11_within_25 rfl rfl ?_
        obtain ⟨o2, ho2, hf⟩ := bd_e hf
        refine go_callVw (pc' := 29) (As := [.int p1, .int p2]) (st := []) (st' := [.ref (x_q X 137)])  (cells' := 0 + o2.2.1) (slots' := 0 + o2.2.2) (b := 0) hC dX11_within_26 ⟨mw_1304, mw_1307, mw_2, yd_yX11_knownDays, yp_yX11_knownDays, Nat.le_of_ble_eq_true rfl, Nat.le_of_ble_eq_true rfl, (Nat.le_of_ble_eq_true rfl), (Nat.le_of_ble_eq_true rfl)⟩ mw_1305 mw_1306 layX_0 rfl rfl rfl (Nat.le_of_ble_eq_true rfl) (c_X11_knownDays (x_l X) (x_D X) (x_q X) g (x_cy X) (x_z X) _ p1 p2 o2 ho2) rfl rfl rfl rfl (fun g _ => ?_)
        refine go_iload_n (pc' := 30) hC dX11_within_29 rfl rfl ?_
        obtain ⟨h4, hf⟩ := gd_e hf
        obtain ⟨o3, ho3, hf⟩ := bd_e hf
        refine go_callV0 (pc' := 33) (As := [.int p3]) (st := []) (st' := [.long o3])   (b := 137) hC dX11_within_30 ⟨mw_1319, mw_1322, mw_44, yd_yX5_cameWithin, yp_yX5_cameWithin, Nat.le_of_ble_eq_true rfl, Nat.le_of_ble_eq_true rfl, (okr_c h4), (okr_s h4)⟩ mw_1320 mw_1321 layX_137 rfl rfl rfl (Nat.le_of_ble_eq_true rfl) (c_X5_cameWithin_q137 (x_l X) (x_D X) (x_q X) g (x_cy X) (x_z X) _ p3 o3 ho3) rfl rfl ?_
        obtain rfl := Option.some.inj hf
        exact go_lret hC hQ dX11_within_33 rfl rfl rfl (fun h => nomatch h) rfl rfl
      · have hf := ite_f h5 hf
        refine go_ldc2 (pc' := 22) hC dX11_within_19 mw_909 rfl ?_
        obtain rfl := Option.some.inj hf
        exact go_lret hC hQ dX11_within_22 rfl rfl rfl (fun h => nomatch h) rfl rfl
theorem dX11_soon_0 : decode cX11_soon 0 = .ok (.aload_n 0, 1) := by decide +kernel
theorem dX11_soon_1 : decode cX11_soon 1 = .ok (.iload_n 1, 1) := by decide +kernel
theorem dX11_soon_2 : decode cX11_soon 2 = .ok (.iload_n 2, 1) := by decide +kernel
theorem dX11_soon_3 : decode cX11_soon 3 = .ok (.invokevirtual 274, 3) := by decide +kernel
theorem dX11_soon_6 : decode cX11_soon 6 = .ok (.ifCond .eq 13, 3) := by decide +kernel
theorem dX11_soon_9 : decode cX11_soon 9 = .ok (.iload_n 3, 1) := by decide +kernel
theorem dX11_soon_10 : decode cX11_soon 10 = .ok (.ifCond .lt 9, 3) := by decide +kernel
theorem dX11_soon_13 : decode cX11_soon 13 = .ok (.iload_n 3, 1) := by decide +kernel
theorem dX11_soon_14 : decode cX11_soon 14 = .ok (.bipush 16, 2) := by decide +kernel
theorem dX11_soon_16 : decode cX11_soon 16 = .ok (.if_icmp .le 5, 3) := by decide +kernel
theorem dX11_soon_19 : decode cX11_soon 19 = .ok (.iconst (-1), 1) := by decide +kernel
theorem dX11_soon_20 : decode cX11_soon 20 = .ok (.ireturn, 1) := by decide +kernel
theorem dX11_soon_21 : decode cX11_soon 21 = .ok (.aload_n 0, 1) := by decide +kernel
theorem dX11_soon_22 : decode cX11_soon 22 = .ok (.iload_n 1, 1) := by decide +kernel
theorem dX11_soon_23 : decode cX11_soon 23 = .ok (.iload_n 2, 1) := by decide +kernel
theorem dX11_soon_24 : decode cX11_soon 24 = .ok (.invokevirtual 295, 3) := by decide +kernel
theorem dX11_soon_27 : decode cX11_soon 27 = .ok (.astore 4, 2) := by decide +kernel
theorem dX11_soon_29 : decode cX11_soon 29 = .ok (.iconst 1, 1) := by decide +kernel
theorem dX11_soon_30 : decode cX11_soon 30 = .ok (.istore 5, 2) := by decide +kernel
theorem dX11_soon_32 : decode cX11_soon 32 = .ok (.iload 5, 2) := by decide +kernel
theorem dX11_soon_34 : decode cX11_soon 34 = .ok (.bipush 99, 2) := by decide +kernel
theorem dX11_soon_36 : decode cX11_soon 36 = .ok (.if_icmp .gt 33, 3) := by decide +kernel
theorem dX11_soon_39 : decode cX11_soon 39 = .ok (.aload 4, 2) := by decide +kernel
theorem dX11_soon_41 : decode cX11_soon 41 = .ok (.iload 5, 2) := by decide +kernel
theorem dX11_soon_43 : decode cX11_soon 43 = .ok (.invokevirtual 299, 3) := by decide +kernel
theorem dX11_soon_46 : decode cX11_soon 46 = .ok (.iload_n 3, 1) := by decide +kernel
theorem dX11_soon_47 : decode cX11_soon 47 = .ok (.aload_n 0, 1) := by decide +kernel
theorem dX11_soon_48 : decode cX11_soon 48 = .ok (.getfield 25, 3) := by decide +kernel
theorem dX11_soon_51 : decode cX11_soon 51 = .ok (.invokevirtual 129, 3) := by decide +kernel
theorem dX11_soon_54 : decode cX11_soon 54 = .ok (.invokestatic 302, 3) := by decide +kernel
theorem dX11_soon_57 : decode cX11_soon 57 = .ok (.ifCond .eq 6, 3) := by decide +kernel
theorem dX11_soon_60 : decode cX11_soon 60 = .ok (.iload 5, 2) := by decide +kernel
theorem dX11_soon_62 : decode cX11_soon 62 = .ok (.ireturn, 1) := by decide +kernel
theorem dX11_soon_63 : decode cX11_soon 63 = .ok (.iinc 5 1, 3) := by decide +kernel
theorem dX11_soon_66 : decode cX11_soon 66 = .ok (.goto (-34), 3) := by decide +kernel
theorem dX11_soon_69 : decode cX11_soon 69 = .ok (.bipush (-2), 2) := by decide +kernel
theorem dX11_soon_71 : decode cX11_soon 71 = .ok (.ireturn, 1) := by decide +kernel
abbrev o_X11_soon : Type := Int32 × wd_W × Nat × Nat
def f_X11_soon_L32 (p3 : Int32) (o2 : o_X11_knownDays) (r4 : (Int32) → (Option o_X11_soon)) (x3 : Int32) : Option o_X11_soon :=
if (99 : Int32) < x3 then (
some ((-2 : Int32), o2.1, 0 + o2.2.1, 0 + o2.2.2)) else (
gd (okr (0 + o2.2.1) (0 + o2.2.2) 0 0 40 500000) <|
bd (f_X5_cameWithin_q137 (wd_o o2.1 [] [] [] [] []) x3) fun o5 =>
gd (okr (0 + o2.2.1) (0 + o2.2.2) 0 0 40 500000) <|
bd (f_X2_things_q16 (wd_o o2.1 [] [] [] [] [])) fun o7 =>
gd (okr (0 + o2.2.1) (0 + o2.2.2) 0 0 40 500000) <|
bd (f_X8_isSixteenths o5 p3 o7) fun o9 =>
if o9 = 0 then (
r4 (x3 + (1 : Int32))) else (
some (x3, o2.1, 0 + o2.2.1, 0 + o2.2.2)))
def f_X11_soon (S : wd_W) (p1 : Int32) (p2 : Int32) (p3 : Int32) : Option o_X11_soon :=
bd (f_X11_isPair (wd_o S [] [] [] [] []) p1 p2) fun o1 =>
if o1 = 0 then (
some ((-1 : Int32), S, 0, 0)) else (
if p3 < 0 then (
some ((-1 : Int32), S, 0, 0)) else (
if p3 ≤ (16 : Int32) then (
bd (f_X11_knownDays (wd_o S [] [] [] [] []) p1 p2) fun o2 =>
it1 (f_X11_soon_L32 p3 o2) fuel (1 : Int32)) else (
some ((-1 : Int32), S, 0, 0))))
set_option maxRecDepth 100000 in
set_option maxHeartbeats 4000000 in
theorem c_X11_soon (l : Launch) (D : va_G) (q g : Nat → Nat) (cy : Nat → ClassId) (z : (Nat → Nat) × (Nat → Nat) × Nat) (S : wd_W) (p1 : Int32) (p2 : Int32) (p3 : Int32) (o : o_X11_soon) (hf : f_X11_soon S p1 p2 p3 = some o) : MX layX l yX11_soon cX11_soon 6 (some .int) ({ frames := 6, cells := 40, slots := 500000, locals := 149 } : Room) D q g cy z [.ref (q 0), .int p1, .int p2, .int p3] S true (some (.int o.1)) o.2.1 o.2.2.1 o.2.2.2 := by
  refine mx_of (own := RX11) (lc := [(0, .ref (q 0)), (1, .int p1), (2, .int p2), (3, .int p3)]) (by decide +kernel) rfl layX_ok (Nat.le_of_ble_eq_true rfl) rfl ?_
  intro X hXl hXq hXz hC hQ
  subst hXl; subst hXq; subst hXz
  unfold f_X11_soon at hf
  refine go_aload_n (pc' := 1) hC dX11_soon_0 rfl rfl ?_
  refine go_iload_n (pc' := 2) hC dX11_soon_1 rfl rfl ?_
  refine go_iload_n (pc' := 3) hC dX11_soon_2 rfl rfl ?_
  obtain ⟨o1, ho1, hf⟩ := bd_e hf
  refine go_callV0 (pc' := 6) (As := [.int p1, .int p2]) (st := []) (st' := [.int o1])   (b := 0) hC dX11_soon_3 ⟨mw_1237, mw_1240, mw_2, yd_yX11_isPair, yp_yX11_isPair, Nat.le_of_ble_eq_true rfl, Nat.le_of_ble_eq_true rfl, (Nat.le_of_ble_eq_true rfl), (Nat.le_of_ble_eq_true rfl)⟩ mw_1238 mw_1239 layX_0 rfl rfl rfl (Nat.le_of_ble_eq_true rfl) (c_X11_isPair (x_l X) (x_D X) (x_q X) g (x_cy X) (x_z X) _ p1 p2 o1 ho1) rfl rfl ?_
  refine go_if_eq (tgt := 19) (pc' := 9) hC dX11_soon_6 (by decide) rfl (fun h16 => ?_) (fun h16 => ?_)
  · have hf := ite_t h16 hf
    refine go_iconst (pc' := 20) hC dX11_soon_19 ki_m1 rfl ?_
    obtain rfl := Option.some.inj hf
    exact go_iret hC hQ dX11_soon_20 rfl rfl rfl rfl (fun h => nomatch h) rfl rfl
  · have hf := ite_f h16 hf
    refine go_iload_n (pc' := 10) hC dX11_soon_9 rfl rfl ?_
    refine go_if_lt (tgt := 19) (pc' := 13) hC dX11_soon_10 (by decide) rfl (fun h15 => ?_) (fun h15 => ?_)
    · have hf := ite_t h15 hf
      refine go_iconst (pc' := 20) hC dX11_soon_19 ki_m1 rfl ?_
      obtain rfl := Option.some.inj hf
      exact go_iret hC hQ dX11_soon_20 rfl rfl rfl rfl (fun h => nomatch h) rfl rfl
    · have hf := ite_f h15 hf
      refine go_iload_n (pc' := 14) hC dX11_soon_13 rfl rfl ?_
      refine go_bipush (pc' := 16) hC dX11_soon_14 kb_16 rfl ?_
      refine go_icmp_le (tgt := 21) (pc' := 19) hC dX11_soon_16 (by decide) rfl (fun h14 => ?_) (fun h14 => ?_)
      · have hf := ite_t h14 hf
        refine go_aload_n (pc' := 22) hC dX11_soon_21 rfl rfl ?_
        refine go_iload_n (pc' := 23) hC dX11_soon_22 rfl rfl ?_
        refine go_iload_n (pc' := 24) hC dX11_soon_23 rfl rfl ?_
        obtain ⟨o2, ho2, hf⟩ := bd_e hf
        refine go_callVw (pc' := 27) (As := [.int p1, .int p2]) (st := []) (st' := [.ref (x_q X 137)])  (cells' := 0 + o2.2.1) (slots' := 0 + o2.2.2) (b := 0) hC dX11_soon_24 ⟨mw_1304, mw_1307, mw_2, yd_yX11_knownDays, yp_yX11_knownDays, Nat.le_of_ble_eq_true rfl, Nat.le_of_ble_eq_true rfl, (Nat.le_of_ble_eq_true rfl), (Nat.le_of_ble_eq_true rfl)⟩ mw_1305 mw_1306 layX_0 rfl rfl rfl (Nat.le_of_ble_eq_true rfl) (c_X11_knownDays (x_l X) (x_D X) (x_q X) g (x_cy X) (x_z X) _ p1 p2 o2 ho2) rfl rfl rfl rfl (fun g _ => ?_)
        refine go_astore (lc' := [(0, .ref (x_q X 0)), (1, .int p1), (2, .int p2), (3, .int p3), (4, .ref (x_q X 137))]) (pc' := 29) hC dX11_soon_27 (Nat.le_of_ble_eq_true rfl) rfl rfl ?_
        refine go_iconst (pc' := 30) hC dX11_soon_29 ki_1 rfl ?_
        refine go_istore (lc' := [(0, .ref (x_q X 0)), (1, .int p1), (2, .int p2), (3, .int p3), (4, .ref (x_q X 137)), (5, .int (1 : Int32))]) (pc' := 32) hC dX11_soon_30 (Nat.le_of_ble_eq_true rfl) rfl rfl ?_
        have l32_13 : ∀ (nn : Nat) (x3 : Int32) (g : Nat → Nat), it1 (f_X11_soon_L32 p3 o2) nn x3 = some o → Go X layX o2.1 32 [(0, .ref (x_q X 0)), (3, .int p3), (4, .ref (x_q X 137)), (5, .int x3)] [] g [] [] [] [] [] (0 + o2.2.1) (0 + o2.2.2) := by
          intro nn
          induction nn with
          | zero =>
            intro x3 g hf
            exact none_no hf
          | succ nn ih =>
            intro x3 g hf
            have hf : f_X11_soon_L32 p3 o2 (it1 (f_X11_soon_L32 p3 o2) nn) x3 = some o := hf
            generalize it1 (f_X11_soon_L32 p3 o2) nn = r4 at ih hf
            unfold f_X11_soon_L32 at hf
            refine go_iload (pc' := 34) hC dX11_soon_32 rfl rfl ?_
            refine go_bipush (pc' := 36) hC dX11_soon_34 kb_99 rfl ?_
            refine go_icmp_gt (tgt := 69) (pc' := 39) hC dX11_soon_36 (by decide) rfl (fun h12 => ?_) (fun h12 => ?_)
            · have hf := ite_t h12 hf
              refine go_bipush (pc' := 71) hC dX11_soon_69 kb_m2 rfl ?_
              obtain rfl := Option.some.inj hf
              exact go_iret hC hQ dX11_soon_71 rfl rfl rfl rfl (fun h => nomatch h) rfl rfl
            · have hf := ite_f h12 hf
              refine go_aload (pc' := 41) hC dX11_soon_39 rfl rfl ?_
              refine go_iload (pc' := 43) hC dX11_soon_41 rfl rfl ?_
              obtain ⟨h6, hf⟩ := gd_e hf
              obtain ⟨o5, ho5, hf⟩ := bd_e hf
              refine go_callV0 (pc' := 46) (As := [.int x3]) (st := []) (st' := [.long o5])   (b := 137) hC dX11_soon_43 ⟨mw_1319, mw_1322, mw_44, yd_yX5_cameWithin, yp_yX5_cameWithin, Nat.le_of_ble_eq_true rfl, Nat.le_of_ble_eq_true rfl, (okr_c h6), (okr_s h6)⟩ mw_1320 mw_1321 layX_137 rfl rfl rfl (Nat.le_of_ble_eq_true rfl) (c_X5_cameWithin_q137 (x_l X) (x_D X) (x_q X) g (x_cy X) (x_z X) _ x3 o5 ho5) rfl rfl ?_
              refine go_iload_n (pc' := 47) hC dX11_soon_46 rfl rfl ?_
              refine go_aload_n (pc' := 48) hC dX11_soon_47 rfl rfl ?_
              refine go_getq (pc' := 51) hC 0 2 layX_0 rfl rfl inlX11 (Nat.le_of_ble_eq_true rfl) mw_20 rfl dX11_soon_48 rfl ?_
              obtain ⟨h8, hf⟩ := gd_e hf
              obtain ⟨o7, ho7, hf⟩ := bd_e hf
              refine go_callV0 (pc' := 54) (As := []) (st := [.int p3, .long o5]) (st' := [.int o7, .int p3, .long o5])   (b := 16) hC dX11_soon_51 ⟨mw_484, mw_418, mw_14, yd_yX2_things, yp_yX2_things, Nat.le_of_ble_eq_true rfl, Nat.le_of_ble_eq_true rfl, (okr_c h8), (okr_s h8)⟩ mw_416 mw_417 layX_16 rfl rfl rfl (Nat.le_of_ble_eq_true rfl) (c_X2_things_q16 (x_l X) (x_D X) (x_q X) g (x_cy X) (x_z X) _  o7 ho7) rfl rfl ?_
              obtain ⟨h10, hf⟩ := gd_e hf
              obtain ⟨o9, ho9, hf⟩ := bd_e hf
              refine go_callS0 (pc' := 57) (As := [.long o5, .int p3, .int o7]) (st := []) (st' := [.int o9])   hC dX11_soon_54 ⟨mw_1336, mw_1195, mw_31, yd_yX8_isSixteenths, yp_yX8_isSixteenths, Nat.le_of_ble_eq_true rfl, Nat.le_of_ble_eq_true rfl, (okr_c h10), (okr_s h10)⟩ mw_1194 rfl rfl (Nat.le_of_ble_eq_true rfl) (c_X8_isSixteenths (x_l X) (x_D X) (x_q X) g (x_cy X) (x_z X) _ o5 p3 o7 o9 ho9) rfl rfl ?_
              refine go_if_eq (tgt := 63) (pc' := 60) hC dX11_soon_57 (by decide) rfl (fun h11 => ?_) (fun h11 => ?_)
              · have hf := ite_t h11 hf
                refine go_iinc (lc' := [(0, .ref (x_q X 0)), (3, .int p3), (4, .ref (x_q X 137)), (5, .int (x3 + (1 : Int32)))]) (pc' := 66) hC dX11_soon_63 rfl ki_1 (Nat.le_of_ble_eq_true rfl) rfl rfl ?_
                refine go_goto (tgt := 32) hC dX11_soon_66 (by decide) ?_
                exact ih (x3 + (1 : Int32)) g hf
              · have hf := ite_f h11 hf
                refine go_iload (pc' := 62) hC dX11_soon_60 rfl rfl ?_
                obtain rfl := Option.some.inj hf
                exact go_iret hC hQ dX11_soon_62 rfl rfl rfl rfl (fun h => nomatch h) rfl rfl
        refine go_sub [0, 3, 4, 5] rfl ?_
        exact l32_13 fuel (1 : Int32) g hf
      · have hf := ite_f h14 hf
        refine go_iconst (pc' := 20) hC dX11_soon_19 ki_m1 rfl ?_
        obtain rfl := Option.some.inj hf
        exact go_iret hC hQ dX11_soon_20 rfl rfl rfl rfl (fun h => nomatch h) rfl rfl
theorem dX8_drawn_0 : decode cX8_drawn 0 = .ok (.iload_n 1, 1) := by decide +kernel
theorem dX8_drawn_1 : decode cX8_drawn 1 = .ok (.i2l, 1) := by decide +kernel
theorem dX8_drawn_2 : decode cX8_drawn 2 = .ok (.lstore_n 3, 1) := by decide +kernel
theorem dX8_drawn_3 : decode cX8_drawn 3 = .ok (.iconst 0, 1) := by decide +kernel
theorem dX8_drawn_4 : decode cX8_drawn 4 = .ok (.istore 5, 2) := by decide +kernel
theorem dX8_drawn_6 : decode cX8_drawn 6 = .ok (.iconst 0, 1) := by decide +kernel
theorem dX8_drawn_7 : decode cX8_drawn 7 = .ok (.istore 6, 2) := by decide +kernel
theorem dX8_drawn_9 : decode cX8_drawn 9 = .ok (.iload 6, 2) := by decide +kernel
theorem dX8_drawn_11 : decode cX8_drawn 11 = .ok (.iload_n 2, 1) := by decide +kernel
theorem dX8_drawn_12 : decode cX8_drawn 12 = .ok (.if_icmp .ge 92, 3) := by decide +kernel
theorem dX8_drawn_15 : decode cX8_drawn 15 = .ok (.iconst 0, 1) := by decide +kernel
theorem dX8_drawn_16 : decode cX8_drawn 16 = .ok (.istore 7, 2) := by decide +kernel
theorem dX8_drawn_18 : decode cX8_drawn 18 = .ok (.iconst 0, 1) := by decide +kernel
theorem dX8_drawn_19 : decode cX8_drawn 19 = .ok (.istore 8, 2) := by decide +kernel
theorem dX8_drawn_21 : decode cX8_drawn 21 = .ok (.iload 8, 2) := by decide +kernel
theorem dX8_drawn_23 : decode cX8_drawn 23 = .ok (.aload_n 0, 1) := by decide +kernel
theorem dX8_drawn_24 : decode cX8_drawn 24 = .ok (.getfield 40, 3) := by decide +kernel
theorem dX8_drawn_27 : decode cX8_drawn 27 = .ok (.getfield 60, 3) := by decide +kernel
theorem dX8_drawn_30 : decode cX8_drawn 30 = .ok (.if_icmp .ge 56, 3) := by decide +kernel
theorem dX8_drawn_33 : decode cX8_drawn 33 = .ok (.lload_n 3, 1) := by decide +kernel
theorem dX8_drawn_34 : decode cX8_drawn 34 = .ok (.ldc2_w 115, 3) := by decide +kernel
theorem dX8_drawn_37 : decode cX8_drawn 37 = .ok (.lmul, 1) := by decide +kernel
theorem dX8_drawn_38 : decode cX8_drawn 38 = .ok (.ldc2_w 117, 3) := by decide +kernel
theorem dX8_drawn_41 : decode cX8_drawn 41 = .ok (.ladd, 1) := by decide +kernel
theorem dX8_drawn_42 : decode cX8_drawn 42 = .ok (.ldc2_w 119, 3) := by decide +kernel
theorem dX8_drawn_45 : decode cX8_drawn 45 = .ok (.lrem, 1) := by decide +kernel
theorem dX8_drawn_46 : decode cX8_drawn 46 = .ok (.lstore_n 3, 1) := by decide +kernel
theorem dX8_drawn_47 : decode cX8_drawn 47 = .ok (.lload_n 3, 1) := by decide +kernel
theorem dX8_drawn_48 : decode cX8_drawn 48 = .ok (.ldc2_w 121, 3) := by decide +kernel
theorem dX8_drawn_51 : decode cX8_drawn 51 = .ok (.ldiv, 1) := by decide +kernel
theorem dX8_drawn_52 : decode cX8_drawn 52 = .ok (.ldc2_w 47, 3) := by decide +kernel
theorem dX8_drawn_55 : decode cX8_drawn 55 = .ok (.lrem, 1) := by decide +kernel
theorem dX8_drawn_56 : decode cX8_drawn 56 = .ok (.aload_n 0, 1) := by decide +kernel
theorem dX8_drawn_57 : decode cX8_drawn 57 = .ok (.getfield 40, 3) := by decide +kernel
theorem dX8_drawn_60 : decode cX8_drawn 60 = .ok (.getfield 93, 3) := by decide +kernel
theorem dX8_drawn_63 : decode cX8_drawn 63 = .ok (.iload 8, 2) := by decide +kernel
theorem dX8_drawn_65 : decode cX8_drawn 65 = .ok (.iaload, 1) := by decide +kernel
theorem dX8_drawn_66 : decode cX8_drawn 66 = .ok (.i2l, 1) := by decide +kernel
theorem dX8_drawn_67 : decode cX8_drawn 67 = .ok (.lcmp, 1) := by decide +kernel
theorem dX8_drawn_68 : decode cX8_drawn 68 = .ok (.ifCond .ge 12, 3) := by decide +kernel
theorem dX8_drawn_71 : decode cX8_drawn 71 = .ok (.iload 7, 2) := by decide +kernel
theorem dX8_drawn_73 : decode cX8_drawn 73 = .ok (.iconst 1, 1) := by decide +kernel
theorem dX8_drawn_74 : decode cX8_drawn 74 = .ok (.iload 8, 2) := by decide +kernel
theorem dX8_drawn_76 : decode cX8_drawn 76 = .ok (.ishl, 1) := by decide +kernel
theorem dX8_drawn_77 : decode cX8_drawn 77 = .ok (.ior, 1) := by decide +kernel
theorem dX8_drawn_78 : decode cX8_drawn 78 = .ok (.istore 7, 2) := by decide +kernel
theorem dX8_drawn_80 : decode cX8_drawn 80 = .ok (.iinc 8 1, 3) := by decide +kernel
theorem dX8_drawn_83 : decode cX8_drawn 83 = .ok (.goto (-62), 3) := by decide +kernel
theorem dX8_drawn_86 : decode cX8_drawn 86 = .ok (.aload_n 0, 1) := by decide +kernel
theorem dX8_drawn_87 : decode cX8_drawn 87 = .ok (.iload 7, 2) := by decide +kernel
theorem dX8_drawn_89 : decode cX8_drawn 89 = .ok (.invokevirtual 103, 3) := by decide +kernel
theorem dX8_drawn_92 : decode cX8_drawn 92 = .ok (.ifCond .eq 6, 3) := by decide +kernel
theorem dX8_drawn_95 : decode cX8_drawn 95 = .ok (.iinc 5 1, 3) := by decide +kernel
theorem dX8_drawn_98 : decode cX8_drawn 98 = .ok (.iinc 6 1, 3) := by decide +kernel
theorem dX8_drawn_101 : decode cX8_drawn 101 = .ok (.goto (-92), 3) := by decide +kernel
theorem dX8_drawn_104 : decode cX8_drawn 104 = .ok (.iload 5, 2) := by decide +kernel
theorem dX8_drawn_106 : decode cX8_drawn 106 = .ok (.ireturn, 1) := by decide +kernel
abbrev o_X8_drawn_q106 : Type := Int32
def f_X8_drawn_q106_L21 (S : wd_W) (k86_8 : (Int64) → (Int32) → (Option o_X8_drawn_q106)) (r16 : (Int64) → (Int32) → (Int32) → (Option o_X8_drawn_q106)) (x13 : Int64) (x14 : Int32) (x15 : Int32) : Option o_X8_drawn_q106 :=
if (S.1 11700) ≤ x15 then (
k86_8 x13 x14) else (
lz (((x13 * (1103515245 : Int64)) + (12345 : Int64)) - ((x13 * (1103515245 : Int64)) + (12345 : Int64)) / (2147483648 : Int64) * (2147483648 : Int64)) fun x17 =>
gd (okx x15 15) <|
lk (fun x19 =>
r16 x17 x19 (x15 + (1 : Int32))) fun k80_20 =>
if (((S.2.2.1 118) x15.toNatClampNeg).toInt64) ≤ ((x17 / (65536 : Int64)) - (x17 / (65536 : Int64)) / (16 : Int64) * (16 : Int64)) then (
k80_20 x14) else (
lz (x14 ||| ((1 : Int32) <<< (x15 &&& 31))) fun x21 =>
k80_20 x21))
def f_X8_drawn_q106_L9 (S : wd_W) (p2 : Int32) (r5 : (Int64) → (Int32) → (Int32) → (Option o_X8_drawn_q106)) (x2 : Int64) (x3 : Int32) (x4 : Int32) : Option o_X8_drawn_q106 :=
if p2 ≤ x4 then (
some x3) else (
lk (fun x6 x7 =>
bd (f_X8_isThrough_q106 (wd_o S [] [] [] [] []) x7) fun o9 =>
lk (fun x10 =>
r5 x6 x10 (x4 + (1 : Int32))) fun k98_11 =>
if o9 = 0 then (
k98_11 x3) else (
k98_11 (x3 + (1 : Int32)))) fun k86_8 =>
it3 (f_X8_drawn_q106_L21 S k86_8) fuel x2 (0 : Int32) (0 : Int32))
def f_X8_drawn_q106 (S : wd_W) (p1 : Int32) (p2 : Int32) : Option o_X8_drawn_q106 :=
lz (p1.toInt64) fun x1 =>
it3 (f_X8_drawn_q106_L9 S p2) fuel x1 (0 : Int32) (0 : Int32)
set_option maxRecDepth 100000 in
set_option maxHeartbeats 4000000 in
theorem c_X8_drawn_q106 (l : Launch) (D : va_G) (q g : Nat → Nat) (cy : Nat → ClassId) (z : (Nat → Nat) × (Nat → Nat) × Nat) (S : wd_W) (p1 : Int32) (p2 : Int32) (o : o_X8_drawn_q106) (hf : f_X8_drawn_q106 S p1 p2 = some o) : MX layX l yX8_drawn cX8_drawn 9 (some .int) ({ frames := 2, cells := 0, slots := 0, locals := 42 } : Room) D q g cy z [.ref (q 106), .int p1, .int p2] S false (some (.int o)) (wd_o S [] [] [] [] []) 0 0 := by
  refine mx_of (own := RX8) (lc := [(0, .ref (q 106)), (1, .int p1), (2, .int p2)]) (by decide +kernel) rfl layX_ok (Nat.le_of_ble_eq_true rfl) rfl ?_
  intro X hXl hXq hXz hC hQ
  subst hXl; subst hXq; subst hXz
  unfold f_X8_drawn_q106 at hf
  refine go_iload_n (pc' := 1) hC dX8_drawn_0 rfl rfl ?_
  refine go_i2l (pc' := 2) hC dX8_drawn_1 rfl ?_
  refine go_namel (fun x1 hx => ?_)
  have hf := lz_r hx hf
  clear hx
  refine go_lstore_n (lc' := [(0, .ref (x_q X 106)), (1, .int p1), (2, .int p2), (3, .long x1)]) (pc' := 3) hC dX8_drawn_2 (Nat.le_of_ble_eq_true rfl) rfl rfl ?_
  refine go_iconst (pc' := 4) hC dX8_drawn_3 ki_0 rfl ?_
  refine go_istore (lc' := [(0, .ref (x_q X 106)), (1, .int p1), (2, .int p2), (3, .long x1), (5, .int (0 : Int32))]) (pc' := 6) hC dX8_drawn_4 (Nat.le_of_ble_eq_true rfl) rfl rfl ?_
  refine go_iconst (pc' := 7) hC dX8_drawn_6 ki_0 rfl ?_
  refine go_istore (lc' := [(0, .ref (x_q X 106)), (1, .int p1), (2, .int p2), (3, .long x1), (5, .int (0 : Int32)), (6, .int (0 : Int32))]) (pc' := 9) hC dX8_drawn_7 (Nat.le_of_ble_eq_true rfl) rfl rfl ?_
  have l9_26 : ∀ (nn : Nat) (x2 : Int64) (x3 : Int32) (x4 : Int32), it3 (f_X8_drawn_q106_L9 S p2) nn x2 x3 x4 = some o → Go X layX S 9 [(0, .ref (x_q X 106)), (2, .int p2), (3, .long x2), (5, .int x3), (6, .int x4)] [] g [] [] [] [] [] 0 0 := by
    intro nn
    induction nn with
    | zero =>
      intro x2 x3 x4 hf
      exact none_no hf
    | succ nn ih =>
      intro x2 x3 x4 hf
      have hf : f_X8_drawn_q106_L9 S p2 (it3 (f_X8_drawn_q106_L9 S p2) nn) x2 x3 x4 = some o := hf
      generalize it3 (f_X8_drawn_q106_L9 S p2) nn = r5 at ih hf
      unfold f_X8_drawn_q106_L9 at hf
      refine go_iload (pc' := 11) hC dX8_drawn_9 rfl rfl ?_
      refine go_iload_n (pc' := 12) hC dX8_drawn_11 rfl rfl ?_
      refine go_icmp_ge (tgt := 104) (pc' := 15) hC dX8_drawn_12 (by decide) rfl (fun h25 => ?_) (fun h25 => ?_)
      · have hf := ite_t h25 hf
        refine go_iload (pc' := 106) hC dX8_drawn_104 rfl rfl ?_
        obtain rfl := Option.some.inj hf
        exact go_iret hC hQ dX8_drawn_106 rfl rfl rfl rfl (fun _ => rfl) rfl rfl
      · have hf := ite_f h25 hf
        refine go_iconst (pc' := 16) hC dX8_drawn_15 ki_0 rfl ?_
        refine go_istore (lc' := [(0, .ref (x_q X 106)), (2, .int p2), (3, .long x2), (5, .int x3), (6, .int x4), (7, .int (0 : Int32))]) (pc' := 18) hC dX8_drawn_16 (Nat.le_of_ble_eq_true rfl) rfl rfl ?_
        refine go_iconst (pc' := 19) hC dX8_drawn_18 ki_0 rfl ?_
        refine go_istore (lc' := [(0, .ref (x_q X 106)), (2, .int p2), (3, .long x2), (5, .int x3), (6, .int x4), (7, .int (0 : Int32)), (8, .int (0 : Int32))]) (pc' := 21) hC dX8_drawn_19 (Nat.le_of_ble_eq_true rfl) rfl rfl ?_
        obtain ⟨k86_8, hk86_8, hf⟩ := lk_e2 hf
        have jk86_8 : ∀ (x6 : Int64) (x7 : Int32), k86_8 x6 x7 = some o → Go X layX S 86 [(0, .ref (x_q X 106)), (2, .int p2), (3, .long x6), (5, .int x3), (6, .int x4), (7, .int x7)] [] g [] [] [] [] [] 0 0 := by
          intro x6 x7 hf
          have hf := hk86_8 x6 x7 hf
          clear hk86_8
          refine go_aload_n (pc' := 87) hC dX8_drawn_86 rfl rfl ?_
          refine go_iload (pc' := 89) hC dX8_drawn_87 rfl rfl ?_
          obtain ⟨o9, ho9, hf⟩ := bd_e hf
          refine go_callV0 (pc' := 92) (As := [.int x7]) (st := []) (st' := [.int o9])   (b := 106) hC dX8_drawn_89 ⟨mw_914, mw_734, mw_31, yd_yX8_isThrough, yp_yX8_isThrough, Nat.le_of_ble_eq_true rfl, Nat.le_of_ble_eq_true rfl, (Nat.le_of_ble_eq_true rfl), (Nat.le_of_ble_eq_true rfl)⟩ mw_732 mw_733 layX_106 rfl rfl rfl (Nat.le_of_ble_eq_true rfl) (c_X8_isThrough_q106 (x_l X) (x_D X) (x_q X) g (x_cy X) (x_z X) _ x7 o9 ho9) rfl rfl ?_
          obtain ⟨k98_11, hk98_11, hf⟩ := lk_e1 hf
          have jk98_11 : ∀ (x10 : Int32), k98_11 x10 = some o → Go X layX S 98 [(0, .ref (x_q X 106)), (2, .int p2), (3, .long x6), (5, .int x10), (6, .int x4)] [] g [] [] [] [] [] 0 0 := by
            intro x10 hf
            have hf := hk98_11 x10 hf
            clear hk98_11
            refine go_iinc (lc' := [(0, .ref (x_q X 106)), (2, .int p2), (3, .long x6), (5, .int x10), (6, .int (x4 + (1 : Int32)))]) (pc' := 101) hC dX8_drawn_98 rfl ki_1 (Nat.le_of_ble_eq_true rfl) rfl rfl ?_
            refine go_goto (tgt := 9) hC dX8_drawn_101 (by decide) ?_
            exact ih x6 x10 (x4 + (1 : Int32)) hf
          clear hk98_11
          refine go_if_eq (tgt := 98) (pc' := 95) hC dX8_drawn_92 (by decide) rfl (fun h12 => ?_) (fun h12 => ?_)
          · have hf := ite_t h12 hf
            refine go_sub [0, 2, 3, 5, 6] rfl ?_
            exact jk98_11 x3 hf
          · have hf := ite_f h12 hf
            refine go_iinc (lc' := [(0, .ref (x_q X 106)), (2, .int p2), (3, .long x6), (5, .int (x3 + (1 : Int32))), (6, .int x4), (7, .int x7)]) (pc' := 98) hC dX8_drawn_95 rfl ki_1 (Nat.le_of_ble_eq_true rfl) rfl rfl ?_
            refine go_sub [0, 2, 3, 5, 6] rfl ?_
            exact jk98_11 (x3 + (1 : Int32)) hf
        clear hk86_8
        have l21_24 : ∀ (nn : Nat) (x13 : Int64) (x14 : Int32) (x15 : Int32), it3 (f_X8_drawn_q106_L21 S k86_8) nn x13 x14 x15 = some o → Go X layX S 21 [(0, .ref (x_q X 106)), (2, .int p2), (3, .long x13), (5, .int x3), (6, .int x4), (7, .int x14), (8, .int x15)] [] g [] [] [] [] [] 0 0 := by
          intro nn
          induction nn with
          | zero =>
            intro x13 x14 x15 hf
            exact none_no hf
          | succ nn ih =>
            intro x13 x14 x15 hf
            have hf : f_X8_drawn_q106_L21 S k86_8 (it3 (f_X8_drawn_q106_L21 S k86_8) nn) x13 x14 x15 = some o := hf
            generalize it3 (f_X8_drawn_q106_L21 S k86_8) nn = r16 at ih hf
            unfold f_X8_drawn_q106_L21 at hf
            refine go_iload (pc' := 23) hC dX8_drawn_21 rfl rfl ?_
            refine go_aload_n (pc' := 24) hC dX8_drawn_23 rfl rfl ?_
            refine go_getq (pc' := 27) hC 106 1 layX_106 rfl rfl inlX8 (Nat.le_of_ble_eq_true rfl) mw_104 rfl dX8_drawn_24 rfl ?_
            refine go_geti (v := (S.1 11700)) (pc' := 30) hC 117 0 layX_117 rfl rfl inlX10 (Nat.le_of_ble_eq_true rfl) mw_609 rfl dX8_drawn_27 rfl rfl ?_
            refine go_icmp_ge (tgt := 86) (pc' := 33) hC dX8_drawn_30 (by decide) rfl (fun h23 => ?_) (fun h23 => ?_)
            · have hf := ite_t h23 hf
              refine go_sub [0, 2, 3, 5, 6, 7] rfl ?_
              exact jk86_8 x13 x14 hf
            · have hf := ite_f h23 hf
              refine go_lload_n (pc' := 34) hC dX8_drawn_33 rfl rfl ?_
              refine go_ldc2 (pc' := 37) hC dX8_drawn_34 mw_1349 rfl ?_
              refine go_lmul (pc' := 38) hC dX8_drawn_37 rfl ?_
              refine go_ldc2 (pc' := 41) hC dX8_drawn_38 mw_1350 rfl ?_
              refine go_ladd (pc' := 42) hC dX8_drawn_41 rfl ?_
              refine go_ldc2 (pc' := 45) hC dX8_drawn_42 mw_1351 rfl ?_
              refine go_lrem (pc' := 46) hC dX8_drawn_45 (by decide) rfl ?_
              refine go_namel (fun x17 hx => ?_)
              have hf := lz_r hx hf
              clear hx
              refine go_lstore_n (lc' := [(0, .ref (x_q X 106)), (2, .int p2), (3, .long x17), (5, .int x3), (6, .int x4), (7, .int x14), (8, .int x15)]) (pc' := 47) hC dX8_drawn_46 (Nat.le_of_ble_eq_true rfl) rfl rfl ?_
              refine go_lload_n (pc' := 48) hC dX8_drawn_47 rfl rfl ?_
              refine go_ldc2 (pc' := 51) hC dX8_drawn_48 mw_1352 rfl ?_
              refine go_ldiv (pc' := 52) hC dX8_drawn_51 (by decide) rfl ?_
              refine go_ldc2 (pc' := 55) hC dX8_drawn_52 mw_951 rfl ?_
              refine go_lrem (pc' := 56) hC dX8_drawn_55 (by decide) rfl ?_
              refine go_aload_n (pc' := 57) hC dX8_drawn_56 rfl rfl ?_
              refine go_getq (pc' := 60) hC 106 1 layX_106 rfl rfl inlX8 (Nat.le_of_ble_eq_true rfl) mw_104 rfl dX8_drawn_57 rfl ?_
              refine go_getq (pc' := 63) hC 117 1 layX_117 rfl rfl inlX10 (Nat.le_of_ble_eq_true rfl) mw_702 rfl dX8_drawn_60 rfl ?_
              refine go_iload (pc' := 65) hC dX8_drawn_63 rfl rfl ?_
              obtain ⟨h18, hf⟩ := gd_e hf
              refine go_iald (f := (S.2.2.1 118)) (pc' := 66) hC 118 layX_118 rfl rfl dX8_drawn_65 (okx_in h18) rfl ?_
              refine go_i2l (pc' := 67) hC dX8_drawn_66 rfl ?_
              refine go_lcmp (pc' := 68) hC dX8_drawn_67 rfl ?_
              obtain ⟨k80_20, hk80_20, hf⟩ := lk_e1 hf
              have jk80_20 : ∀ (x19 : Int32), k80_20 x19 = some o → Go X layX S 80 [(0, .ref (x_q X 106)), (2, .int p2), (3, .long x17), (5, .int x3), (6, .int x4), (7, .int x19), (8, .int x15)] [] g [] [] [] [] [] 0 0 := by
                intro x19 hf
                have hf := hk80_20 x19 hf
                clear hk80_20
                refine go_iinc (lc' := [(0, .ref (x_q X 106)), (2, .int p2), (3, .long x17), (5, .int x3), (6, .int x4), (7, .int x19), (8, .int (x15 + (1 : Int32)))]) (pc' := 83) hC dX8_drawn_80 rfl ki_1 (Nat.le_of_ble_eq_true rfl) rfl rfl ?_
                refine go_goto (tgt := 21) hC dX8_drawn_83 (by decide) ?_
                exact ih x17 x19 (x15 + (1 : Int32)) hf
              clear hk80_20
              refine go_if_ge (tgt := 80) (pc' := 71) hC dX8_drawn_68 (by decide) rfl (fun h22 => ?_) (fun h22 => ?_)
              · have hf := ite_t (lg_ge.mp h22) hf
                exact jk80_20 x14 hf
              · have hf := ite_f (mt lg_ge.mpr h22) hf
                refine go_iload (pc' := 73) hC dX8_drawn_71 rfl rfl ?_
                refine go_iconst (pc' := 74) hC dX8_drawn_73 ki_1 rfl ?_
                refine go_iload (pc' := 76) hC dX8_drawn_74 rfl rfl ?_
                refine go_ishl (pc' := 77) hC dX8_drawn_76 rfl ?_
                refine go_ior (pc' := 78) hC dX8_drawn_77 rfl ?_
                refine go_namei (fun x21 hx => ?_)
                have hf := lz_r hx hf
                clear hx
                refine go_istore (lc' := [(0, .ref (x_q X 106)), (2, .int p2), (3, .long x17), (5, .int x3), (6, .int x4), (7, .int x21), (8, .int x15)]) (pc' := 80) hC dX8_drawn_78 (Nat.le_of_ble_eq_true rfl) rfl rfl ?_
                exact jk80_20 x21 hf
        exact l21_24 fuel x2 (0 : Int32) (0 : Int32) hf
  refine go_sub [0, 2, 3, 5, 6] rfl ?_
  exact l9_26 fuel x1 (0 : Int32) (0 : Int32) hf
theorem dX11_draw_0 : decode cX11_draw 0 = .ok (.iload_n 1, 1) := by decide +kernel
theorem dX11_draw_1 : decode cX11_draw 1 = .ok (.ifCond .lt 15, 3) := by decide +kernel
theorem dX11_draw_4 : decode cX11_draw 4 = .ok (.iload_n 2, 1) := by decide +kernel
theorem dX11_draw_5 : decode cX11_draw 5 = .ok (.iconst 1, 1) := by decide +kernel
theorem dX11_draw_6 : decode cX11_draw 6 = .ok (.if_icmp .lt 10, 3) := by decide +kernel
theorem dX11_draw_9 : decode cX11_draw 9 = .ok (.iload_n 2, 1) := by decide +kernel
theorem dX11_draw_10 : decode cX11_draw 10 = .ok (.sipush 1000, 3) := by decide +kernel
theorem dX11_draw_13 : decode cX11_draw 13 = .ok (.if_icmp .le 5, 3) := by decide +kernel
theorem dX11_draw_16 : decode cX11_draw 16 = .ok (.iconst (-1), 1) := by decide +kernel
theorem dX11_draw_17 : decode cX11_draw 17 = .ok (.ireturn, 1) := by decide +kernel
theorem dX11_draw_18 : decode cX11_draw 18 = .ok (.aload_n 0, 1) := by decide +kernel
theorem dX11_draw_19 : decode cX11_draw 19 = .ok (.invokevirtual 171, 3) := by decide +kernel
theorem dX11_draw_22 : decode cX11_draw 22 = .ok (.iload_n 1, 1) := by decide +kernel
theorem dX11_draw_23 : decode cX11_draw 23 = .ok (.iload_n 2, 1) := by decide +kernel
theorem dX11_draw_24 : decode cX11_draw 24 = .ok (.invokevirtual 306, 3) := by decide +kernel
theorem dX11_draw_27 : decode cX11_draw 27 = .ok (.ireturn, 1) := by decide +kernel
abbrev o_X11_draw : Type := Int32 × wd_W × Nat × Nat
def f_X11_draw (S : wd_W) (p1 : Int32) (p2 : Int32) : Option o_X11_draw :=
if p1 < 0 then (
some ((-1 : Int32), S, 0, 0)) else (
if p2 < (1 : Int32) then (
some ((-1 : Int32), S, 0, 0)) else (
if p2 ≤ (1000 : Int32) then (
bd (f_X11_knownSets (wd_o S [] [] [] [] [])) fun o1 =>
gd (okr (0 + o1.2.1) (0 + o1.2.2) 0 0 40 500000) <|
bd (f_X8_drawn_q106 (wd_o o1.1 [] [] [] [] []) p1 p2) fun o2 =>
some (o2, o1.1, 0 + o1.2.1, 0 + o1.2.2)) else (
some ((-1 : Int32), S, 0, 0))))
set_option maxRecDepth 100000 in
set_option maxHeartbeats 4000000 in
theorem c_X11_draw (l : Launch) (D : va_G) (q g : Nat → Nat) (cy : Nat → ClassId) (z : (Nat → Nat) × (Nat → Nat) × Nat) (S : wd_W) (p1 : Int32) (p2 : Int32) (o : o_X11_draw) (hf : f_X11_draw S p1 p2 = some o) : MX layX l yX11_draw cX11_draw 3 (some .int) ({ frames := 6, cells := 40, slots := 500000, locals := 147 } : Room) D q g cy z [.ref (q 0), .int p1, .int p2] S true (some (.int o.1)) o.2.1 o.2.2.1 o.2.2.2 := by
  refine mx_of (own := RX11) (lc := [(0, .ref (q 0)), (1, .int p1), (2, .int p2)]) (by decide +kernel) rfl layX_ok (Nat.le_of_ble_eq_true rfl) rfl ?_
  intro X hXl hXq hXz hC hQ
  subst hXl; subst hXq; subst hXz
  unfold f_X11_draw at hf
  refine go_iload_n (pc' := 1) hC dX11_draw_0 rfl rfl ?_
  refine go_if_lt (tgt := 16) (pc' := 4) hC dX11_draw_1 (by decide) rfl (fun h6 => ?_) (fun h6 => ?_)
  · have hf := ite_t h6 hf
    refine go_iconst (pc' := 17) hC dX11_draw_16 ki_m1 rfl ?_
    obtain rfl := Option.some.inj hf
    exact go_iret hC hQ dX11_draw_17 rfl rfl rfl rfl (fun h => nomatch h) rfl rfl
  · have hf := ite_f h6 hf
    refine go_iload_n (pc' := 5) hC dX11_draw_4 rfl rfl ?_
    refine go_iconst (pc' := 6) hC dX11_draw_5 ki_1 rfl ?_
    refine go_icmp_lt (tgt := 16) (pc' := 9) hC dX11_draw_6 (by decide) rfl (fun h5 => ?_) (fun h5 => ?_)
    · have hf := ite_t h5 hf
      refine go_iconst (pc' := 17) hC dX11_draw_16 ki_m1 rfl ?_
      obtain rfl := Option.some.inj hf
      exact go_iret hC hQ dX11_draw_17 rfl rfl rfl rfl (fun h => nomatch h) rfl rfl
    · have hf := ite_f h5 hf
      refine go_iload_n (pc' := 10) hC dX11_draw_9 rfl rfl ?_
      refine go_sipush (pc' := 13) hC dX11_draw_10 ks_1000 rfl ?_
      refine go_icmp_le (tgt := 18) (pc' := 16) hC dX11_draw_13 (by decide) rfl (fun h4 => ?_) (fun h4 => ?_)
      · have hf := ite_t h4 hf
        refine go_aload_n (pc' := 19) hC dX11_draw_18 rfl rfl ?_
        obtain ⟨o1, ho1, hf⟩ := bd_e hf
        refine go_callVw (pc' := 22) (As := []) (st := []) (st' := [.ref (x_q X 106)])  (cells' := 0 + o1.2.1) (slots' := 0 + o1.2.2) (b := 0) hC dX11_draw_19 ⟨mw_593, mw_596, mw_2, yd_yX11_knownSets, yp_yX11_knownSets, Nat.le_of_ble_eq_true rfl, Nat.le_of_ble_eq_true rfl, (Nat.le_of_ble_eq_true rfl), (Nat.le_of_ble_eq_true rfl)⟩ mw_594 mw_595 layX_0 rfl rfl rfl (Nat.le_of_ble_eq_true rfl) (c_X11_knownSets (x_l X) (x_D X) (x_q X) g (x_cy X) (x_z X) _  o1 ho1) rfl rfl rfl rfl (fun g _ => ?_)
        refine go_iload_n (pc' := 23) hC dX11_draw_22 rfl rfl ?_
        refine go_iload_n (pc' := 24) hC dX11_draw_23 rfl rfl ?_
        obtain ⟨h3, hf⟩ := gd_e hf
        obtain ⟨o2, ho2, hf⟩ := bd_e hf
        refine go_callV0 (pc' := 27) (As := [.int p1, .int p2]) (st := []) (st' := [.int o2])   (b := 106) hC dX11_draw_24 ⟨mw_1345, mw_1348, mw_31, yd_yX8_drawn, yp_yX8_drawn, Nat.le_of_ble_eq_true rfl, Nat.le_of_ble_eq_true rfl, (okr_c h3), (okr_s h3)⟩ mw_1346 mw_1347 layX_106 rfl rfl rfl (Nat.le_of_ble_eq_true rfl) (c_X8_drawn_q106 (x_l X) (x_D X) (x_q X) g (x_cy X) (x_z X) _ p1 p2 o2 ho2) rfl rfl ?_
        obtain rfl := Option.some.inj hf
        exact go_iret hC hQ dX11_draw_27 rfl rfl rfl rfl (fun h => nomatch h) rfl rfl
      · have hf := ite_f h4 hf
        refine go_iconst (pc' := 17) hC dX11_draw_16 ki_m1 rfl ?_
        obtain rfl := Option.some.inj hf
        exact go_iret hC hQ dX11_draw_17 rfl rfl rfl rfl (fun h => nomatch h) rfl rfl
abbrev o_J7_fill_53178_q116 : Type := (Nat → Int32)
def f_J7_fill_53178_q116_L5 (p1 : Int32) (r3 : (Int32) → (Nat → Int32) → (Option o_J7_fill_53178_q116)) (x1 : Int32) (a2 : Nat → Int32) : Option o_J7_fill_53178_q116 :=
if (10 : Int32) ≤ x1 then (
some a2) else (
gd (okx x1 10) <|
lz (upd a2 x1.toNatClampNeg p1) fun a5 =>
r3 (x1 + (1 : Int32)) a5)
def f_J7_fill_53178_q116 (S : wd_W) (p1 : Int32) : Option o_J7_fill_53178_q116 :=
it2 (f_J7_fill_53178_q116_L5 p1) fuel (0 : Int32) (S.2.2.1 116)
set_option maxRecDepth 100000 in
set_option maxHeartbeats 4000000 in
theorem c_J7_fill_53178_q116 (l : Launch) (D : va_G) (q g : Nat → Nat) (cy : Nat → ClassId) (z : (Nat → Nat) × (Nat → Nat) × Nat) (S : wd_W) (p1 : Int32) (o : o_J7_fill_53178_q116) (hf : f_J7_fill_53178_q116 S p1 = some o) : MX layX l yJ7_fill_53178 cJ7_fill_53178 4 none ({ frames := 0, cells := 0, slots := 0, locals := 0 } : Room) D q g cy z [.ref (q 116), .int p1] S false (none) (wd_o S [] [] [(116, o)] [] []) 0 0 := by
  refine mx_of (own := RJ7) (lc := [(0, .ref (q 116)), (1, .int p1)]) (by decide +kernel) rfl layX_ok (Nat.le_of_ble_eq_true rfl) rfl ?_
  intro X hXl hXq hXz hC hQ
  subst hXl; subst hXq; subst hXz
  unfold f_J7_fill_53178_q116 at hf
  refine go_keys (L1 := []) (L2 := []) (L3 := [(116, (S.2.2.1 116))]) (L4 := []) (L5 := []) [] [] [116] [] [] rfl rfl rfl rfl rfl ?_
  refine go_iconst (pc' := 1) hC dJ7_fill_53178_0 ki_0 rfl ?_
  refine go_istore_n (lc' := [(0, .ref (x_q X 116)), (1, .int p1), (2, .int (0 : Int32))]) (pc' := 2) hC dJ7_fill_53178_1 (Nat.le_of_ble_eq_true rfl) rfl rfl ?_
  refine go_aload_n (pc' := 3) hC dJ7_fill_53178_2 rfl rfl ?_
  refine go_alen (v := (10 : Int32)) (pc' := 4) hC 116 layX_116 rfl (Nat.le_of_ble_eq_true rfl) kn_10 dJ7_fill_53178_3 rfl ?_
  refine go_istore_n (lc' := [(0, .ref (x_q X 116)), (1, .int p1), (2, .int (0 : Int32)), (3, .int (10 : Int32))]) (pc' := 5) hC dJ7_fill_53178_4 (Nat.le_of_ble_eq_true rfl) rfl rfl ?_
  have l5_7 : ∀ (nn : Nat) (x1 : Int32) (a2 : Nat → Int32), it2 (f_J7_fill_53178_q116_L5 p1) nn x1 a2 = some o → Go X layX S 5 [(0, .ref (x_q X 116)), (1, .int p1), (2, .int x1), (3, .int (10 : Int32))] [] g [] [] [(116, a2)] [] [] 0 0 := by
    intro nn
    induction nn with
    | zero =>
      intro x1 a2 hf
      exact none_no hf
    | succ nn ih =>
      intro x1 a2 hf
      have hf : f_J7_fill_53178_q116_L5 p1 (it2 (f_J7_fill_53178_q116_L5 p1) nn) x1 a2 = some o := hf
      generalize it2 (f_J7_fill_53178_q116_L5 p1) nn = r3 at ih hf
      unfold f_J7_fill_53178_q116_L5 at hf
      refine go_iload_n (pc' := 6) hC dJ7_fill_53178_5 rfl rfl ?_
      refine go_iload_n (pc' := 7) hC dJ7_fill_53178_6 rfl rfl ?_
      refine go_icmp_ge (tgt := 20) (pc' := 10) hC dJ7_fill_53178_7 (by decide) rfl (fun h6 => ?_) (fun h6 => ?_)
      · have hf := ite_t h6 hf
        obtain rfl := Option.some.inj hf
        exact go_vret hC hQ dJ7_fill_53178_20 rfl rfl rfl (fun _ => rfl) rfl rfl
      · have hf := ite_f h6 hf
        refine go_aload_n (pc' := 11) hC dJ7_fill_53178_10 rfl rfl ?_
        refine go_iload_n (pc' := 12) hC dJ7_fill_53178_11 rfl rfl ?_
        refine go_iload_n (pc' := 13) hC dJ7_fill_53178_12 rfl rfl ?_
        obtain ⟨h4, hf⟩ := gd_e hf
        refine go_iast (f := a2) (pc' := 14) hC 116 layX_116 rfl rfl dJ7_fill_53178_13 (okx_in h4) rfl rfl (fun a5 ha L3' hL => ?_)
        have hf := lz_r ha hf
        clear ha
        obtain rfl : L3' = [(116, a5)] := hL.symm
        refine go_iinc (lc' := [(0, .ref (x_q X 116)), (1, .int p1), (2, .int (x1 + (1 : Int32))), (3, .int (10 : Int32))]) (pc' := 17) hC dJ7_fill_53178_14 rfl ki_1 (Nat.le_of_ble_eq_true rfl) rfl rfl ?_
        refine go_goto (tgt := 5) hC dJ7_fill_53178_17 (by decide) ?_
        exact ih (x1 + (1 : Int32)) a5 hf
  exact l5_7 fuel (0 : Int32) (S.2.2.1 116) hf
theorem dX7_joinAt_0 : decode cX7_joinAt 0 = .ok (.aload_n 0, 1) := by decide +kernel
theorem dX7_joinAt_1 : decode cX7_joinAt 1 = .ok (.getfield 24, 3) := by decide +kernel
theorem dX7_joinAt_4 : decode cX7_joinAt 4 = .ok (.iload_n 1, 1) := by decide +kernel
theorem dX7_joinAt_5 : decode cX7_joinAt 5 = .ok (.iaload, 1) := by decide +kernel
theorem dX7_joinAt_6 : decode cX7_joinAt 6 = .ok (.istore_n 2, 1) := by decide +kernel
theorem dX7_joinAt_7 : decode cX7_joinAt 7 = .ok (.iload_n 2, 1) := by decide +kernel
theorem dX7_joinAt_8 : decode cX7_joinAt 8 = .ok (.invokestatic 91, 3) := by decide +kernel
theorem dX7_joinAt_11 : decode cX7_joinAt 11 = .ok (.iconst 2, 1) := by decide +kernel
theorem dX7_joinAt_12 : decode cX7_joinAt 12 = .ok (.if_icmp .le 4, 3) := by decide +kernel
theorem dX7_joinAt_15 : decode cX7_joinAt 15 = .ok (.return_, 1) := by decide +kernel
theorem dX7_joinAt_16 : decode cX7_joinAt 16 = .ok (.aload_n 0, 1) := by decide +kernel
theorem dX7_joinAt_17 : decode cX7_joinAt 17 = .ok (.getfield 24, 3) := by decide +kernel
theorem dX7_joinAt_20 : decode cX7_joinAt 20 = .ok (.iload_n 1, 1) := by decide +kernel
theorem dX7_joinAt_21 : decode cX7_joinAt 21 = .ok (.iconst 0, 1) := by decide +kernel
theorem dX7_joinAt_22 : decode cX7_joinAt 22 = .ok (.iastore, 1) := by decide +kernel
theorem dX7_joinAt_23 : decode cX7_joinAt 23 = .ok (.iconst 0, 1) := by decide +kernel
theorem dX7_joinAt_24 : decode cX7_joinAt 24 = .ok (.istore_n 3, 1) := by decide +kernel
theorem dX7_joinAt_25 : decode cX7_joinAt 25 = .ok (.iload_n 3, 1) := by decide +kernel
theorem dX7_joinAt_26 : decode cX7_joinAt 26 = .ok (.aload_n 0, 1) := by decide +kernel
theorem dX7_joinAt_27 : decode cX7_joinAt 27 = .ok (.getfield 37, 3) := by decide +kernel
theorem dX7_joinAt_30 : decode cX7_joinAt 30 = .ok (.if_icmp .ge 41, 3) := by decide +kernel
theorem dX7_joinAt_33 : decode cX7_joinAt 33 = .ok (.iload_n 2, 1) := by decide +kernel
theorem dX7_joinAt_34 : decode cX7_joinAt 34 = .ok (.iload_n 3, 1) := by decide +kernel
theorem dX7_joinAt_35 : decode cX7_joinAt 35 = .ok (.ishr, 1) := by decide +kernel
theorem dX7_joinAt_36 : decode cX7_joinAt 36 = .ok (.iconst 1, 1) := by decide +kernel
theorem dX7_joinAt_37 : decode cX7_joinAt 37 = .ok (.iand, 1) := by decide +kernel
theorem dX7_joinAt_38 : decode cX7_joinAt 38 = .ok (.ifCond .eq 27, 3) := by decide +kernel
theorem dX7_joinAt_41 : decode cX7_joinAt 41 = .ok (.aload_n 0, 1) := by decide +kernel
theorem dX7_joinAt_42 : decode cX7_joinAt 42 = .ok (.getfield 24, 3) := by decide +kernel
theorem dX7_joinAt_45 : decode cX7_joinAt 45 = .ok (.iload_n 3, 1) := by decide +kernel
theorem dX7_joinAt_46 : decode cX7_joinAt 46 = .ok (.aload_n 0, 1) := by decide +kernel
theorem dX7_joinAt_47 : decode cX7_joinAt 47 = .ok (.getfield 24, 3) := by decide +kernel
theorem dX7_joinAt_50 : decode cX7_joinAt 50 = .ok (.iload_n 3, 1) := by decide +kernel
theorem dX7_joinAt_51 : decode cX7_joinAt 51 = .ok (.iaload, 1) := by decide +kernel
theorem dX7_joinAt_52 : decode cX7_joinAt 52 = .ok (.iload_n 2, 1) := by decide +kernel
theorem dX7_joinAt_53 : decode cX7_joinAt 53 = .ok (.ior, 1) := by decide +kernel
theorem dX7_joinAt_54 : decode cX7_joinAt 54 = .ok (.iconst 1, 1) := by decide +kernel
theorem dX7_joinAt_55 : decode cX7_joinAt 55 = .ok (.iload_n 1, 1) := by decide +kernel
theorem dX7_joinAt_56 : decode cX7_joinAt 56 = .ok (.ishl, 1) := by decide +kernel
theorem dX7_joinAt_57 : decode cX7_joinAt 57 = .ok (.iconst 1, 1) := by decide +kernel
theorem dX7_joinAt_58 : decode cX7_joinAt 58 = .ok (.iload_n 3, 1) := by decide +kernel
theorem dX7_joinAt_59 : decode cX7_joinAt 59 = .ok (.ishl, 1) := by decide +kernel
theorem dX7_joinAt_60 : decode cX7_joinAt 60 = .ok (.ior, 1) := by decide +kernel
theorem dX7_joinAt_61 : decode cX7_joinAt 61 = .ok (.iconst (-1), 1) := by decide +kernel
theorem dX7_joinAt_62 : decode cX7_joinAt 62 = .ok (.ixor, 1) := by decide +kernel
theorem dX7_joinAt_63 : decode cX7_joinAt 63 = .ok (.iand, 1) := by decide +kernel
theorem dX7_joinAt_64 : decode cX7_joinAt 64 = .ok (.iastore, 1) := by decide +kernel
theorem dX7_joinAt_65 : decode cX7_joinAt 65 = .ok (.iinc 3 1, 3) := by decide +kernel
theorem dX7_joinAt_68 : decode cX7_joinAt 68 = .ok (.goto (-43), 3) := by decide +kernel
theorem dX7_joinAt_71 : decode cX7_joinAt 71 = .ok (.return_, 1) := by decide +kernel
abbrev o_X7_joinAt_q111 : Type := (Nat → Int32)
def f_X7_joinAt_q111_L25 (S : wd_W) (p1 : Int32) (x2 : Int32) (r8 : (Int32) → (Nat → Int32) → (Option o_X7_joinAt_q111)) (x6 : Int32) (a7 : Nat → Int32) : Option o_X7_joinAt_q111 :=
if (S.1 11103) ≤ x6 then (
some a7) else (
lk (fun a9 =>
r8 (x6 + (1 : Int32)) a9) fun k65_10 =>
if ((x2 >>> (x6 &&& 31)) &&& (1 : Int32)) = 0 then (
k65_10 a7) else (
gd (okx x6 10) <|
lz (((a7 x6.toNatClampNeg) ||| x2) &&& ((((1 : Int32) <<< (p1 &&& 31)) ||| ((1 : Int32) <<< (x6 &&& 31))) ^^^ (-1 : Int32))) fun x12 =>
gd (okx x6 10) <|
lz (upd a7 x6.toNatClampNeg x12) fun a14 =>
k65_10 a14))
def f_X7_joinAt_q111 (S : wd_W) (p1 : Int32) : Option o_X7_joinAt_q111 :=
gd (okx p1 10) <|
lz ((S.2.2.1 116) p1.toNatClampNeg) fun x2 =>
bd (f_J6_bitCount_0f7a4 x2) fun o3 =>
if o3 ≤ (2 : Int32) then (
gd (okx p1 10) <|
lz (upd (S.2.2.1 116) p1.toNatClampNeg (0 : Int32)) fun a5 =>
it2 (f_X7_joinAt_q111_L25 S p1 x2) fuel (0 : Int32) a5) else (
some (S.2.2.1 116))
set_option maxRecDepth 100000 in
set_option maxHeartbeats 4000000 in
theorem c_X7_joinAt_q111 (l : Launch) (D : va_G) (q g : Nat → Nat) (cy : Nat → ClassId) (z : (Nat → Nat) × (Nat → Nat) × Nat) (S : wd_W) (p1 : Int32) (o : o_X7_joinAt_q111) (hf : f_X7_joinAt_q111 S p1 = some o) : MX layX l yX7_joinAt cX7_joinAt 4 none ({ frames := 1, cells := 0, slots := 0, locals := 20 } : Room) D q g cy z [.ref (q 111), .int p1] S false (none) (wd_o S [] [] [(116, o)] [] []) 0 0 := by
  refine mx_of (own := RX7) (lc := [(0, .ref (q 111)), (1, .int p1)]) (by decide +kernel) rfl layX_ok (Nat.le_of_ble_eq_true rfl) rfl ?_
  intro X hXl hXq hXz hC hQ
  subst hXl; subst hXq; subst hXz
  unfold f_X7_joinAt_q111 at hf
  refine go_keys (L1 := []) (L2 := []) (L3 := [(116, (S.2.2.1 116))]) (L4 := []) (L5 := []) [] [] [116] [] [] rfl rfl rfl rfl rfl ?_
  refine go_aload_n (pc' := 1) hC dX7_joinAt_0 rfl rfl ?_
  refine go_getq (pc' := 4) hC 111 9 layX_111 rfl rfl inlX7 (Nat.le_of_ble_eq_true rfl) mw_114 rfl dX7_joinAt_1 rfl ?_
  refine go_iload_n (pc' := 5) hC dX7_joinAt_4 rfl rfl ?_
  obtain ⟨h1, hf⟩ := gd_e hf
  refine go_iald (f := (S.2.2.1 116)) (pc' := 6) hC 116 layX_116 rfl rfl dX7_joinAt_5 (okx_in h1) rfl ?_
  refine go_namei (fun x2 hx => ?_)
  have hf := lz_r hx hf
  clear hx
  refine go_istore_n (lc' := [(0, .ref (x_q X 111)), (1, .int p1), (2, .int x2)]) (pc' := 7) hC dX7_joinAt_6 (Nat.le_of_ble_eq_true rfl) rfl rfl ?_
  refine go_iload_n (pc' := 8) hC dX7_joinAt_7 rfl rfl ?_
  obtain ⟨o3, ho3, hf⟩ := bd_e hf
  refine go_callS0 (pc' := 11) (As := [.int x2]) (st := []) (st' := [.int o3])   hC dX7_joinAt_8 ⟨mw_674, mw_677, mw_676, yd_yJ6_bitCount_0f7a4, yp_yJ6_bitCount_0f7a4, Nat.le_of_ble_eq_true rfl, Nat.le_of_ble_eq_true rfl, (Nat.le_of_ble_eq_true rfl), (Nat.le_of_ble_eq_true rfl)⟩ mw_675 rfl rfl (Nat.le_of_ble_eq_true rfl) (c_J6_bitCount_0f7a4 (x_l X) (x_D X) (x_q X) g (x_cy X) (x_z X) _ x2 o3 ho3) rfl rfl ?_
  refine go_iconst (pc' := 12) hC dX7_joinAt_11 ki_2 rfl ?_
  refine go_icmp_le (tgt := 16) (pc' := 15) hC dX7_joinAt_12 (by decide) rfl (fun h18 => ?_) (fun h18 => ?_)
  · have hf := ite_t h18 hf
    refine go_aload_n (pc' := 17) hC dX7_joinAt_16 rfl rfl ?_
    refine go_getq (pc' := 20) hC 111 9 layX_111 rfl rfl inlX7 (Nat.le_of_ble_eq_true rfl) mw_114 rfl dX7_joinAt_17 rfl ?_
    refine go_iload_n (pc' := 21) hC dX7_joinAt_20 rfl rfl ?_
    refine go_iconst (pc' := 22) hC dX7_joinAt_21 ki_0 rfl ?_
    obtain ⟨h4, hf⟩ := gd_e hf
    refine go_iast (f := (S.2.2.1 116)) (pc' := 23) hC 116 layX_116 rfl rfl dX7_joinAt_22 (okx_in h4) rfl rfl (fun a5 ha L3' hL => ?_)
    have hf := lz_r ha hf
    clear ha
    obtain rfl : L3' = [(116, a5)] := hL.symm
    refine go_iconst (pc' := 24) hC dX7_joinAt_23 ki_0 rfl ?_
    refine go_istore_n (lc' := [(0, .ref (x_q X 111)), (1, .int p1), (2, .int x2), (3, .int (0 : Int32))]) (pc' := 25) hC dX7_joinAt_24 (Nat.le_of_ble_eq_true rfl) rfl rfl ?_
    have l25_17 : ∀ (nn : Nat) (x6 : Int32) (a7 : Nat → Int32), it2 (f_X7_joinAt_q111_L25 S p1 x2) nn x6 a7 = some o → Go X layX S 25 [(0, .ref (x_q X 111)), (1, .int p1), (2, .int x2), (3, .int x6)] [] g [] [] [(116, a7)] [] [] 0 0 := by
      intro nn
      induction nn with
      | zero =>
        intro x6 a7 hf
        exact none_no hf
      | succ nn ih =>
        intro x6 a7 hf
        have hf : f_X7_joinAt_q111_L25 S p1 x2 (it2 (f_X7_joinAt_q111_L25 S p1 x2) nn) x6 a7 = some o := hf
        generalize it2 (f_X7_joinAt_q111_L25 S p1 x2) nn = r8 at ih hf
        unfold f_X7_joinAt_q111_L25 at hf
        refine go_iload_n (pc' := 26) hC dX7_joinAt_25 rfl rfl ?_
        refine go_aload_n (pc' := 27) hC dX7_joinAt_26 rfl rfl ?_
        refine go_geti (v := (S.1 11103)) (pc' := 30) hC 111 3 layX_111 rfl rfl inlX7 (Nat.le_of_ble_eq_true rfl) mw_618 rfl dX7_joinAt_27 rfl rfl ?_
        refine go_icmp_ge (tgt := 71) (pc' := 33) hC dX7_joinAt_30 (by decide) rfl (fun h16 => ?_) (fun h16 => ?_)
        · have hf := ite_t h16 hf
          obtain rfl := Option.some.inj hf
          exact go_vret hC hQ dX7_joinAt_71 rfl rfl rfl (fun _ => rfl) rfl rfl
        · have hf := ite_f h16 hf
          refine go_iload_n (pc' := 34) hC dX7_joinAt_33 rfl rfl ?_
          refine go_iload_n (pc' := 35) hC dX7_joinAt_34 rfl rfl ?_
          refine go_ishr (pc' := 36) hC dX7_joinAt_35 rfl ?_
          refine go_iconst (pc' := 37) hC dX7_joinAt_36 ki_1 rfl ?_
          refine go_iand (pc' := 38) hC dX7_joinAt_37 rfl ?_
          obtain ⟨k65_10, hk65_10, hf⟩ := lk_e1 hf
          have jk65_10 : ∀ (a9 : Nat → Int32), k65_10 a9 = some o → Go X layX S 65 [(0, .ref (x_q X 111)), (1, .int p1), (2, .int x2), (3, .int x6)] [] g [] [] [(116, a9)] [] [] 0 0 := by
            intro a9 hf
            have hf := hk65_10 a9 hf
            clear hk65_10
            refine go_iinc (lc' := [(0, .ref (x_q X 111)), (1, .int p1), (2, .int x2), (3, .int (x6 + (1 : Int32)))]) (pc' := 68) hC dX7_joinAt_65 rfl ki_1 (Nat.le_of_ble_eq_true rfl) rfl rfl ?_
            refine go_goto (tgt := 25) hC dX7_joinAt_68 (by decide) ?_
            exact ih (x6 + (1 : Int32)) a9 hf
          clear hk65_10
          refine go_if_eq (tgt := 65) (pc' := 41) hC dX7_joinAt_38 (by decide) rfl (fun h15 => ?_) (fun h15 => ?_)
          · have hf := ite_t h15 hf
            exact jk65_10 a7 hf
          · have hf := ite_f h15 hf
            refine go_aload_n (pc' := 42) hC dX7_joinAt_41 rfl rfl ?_
            refine go_getq (pc' := 45) hC 111 9 layX_111 rfl rfl inlX7 (Nat.le_of_ble_eq_true rfl) mw_114 rfl dX7_joinAt_42 rfl ?_
            refine go_iload_n (pc' := 46) hC dX7_joinAt_45 rfl rfl ?_
            refine go_aload_n (pc' := 47) hC dX7_joinAt_46 rfl rfl ?_
            refine go_getq (pc' := 50) hC 111 9 layX_111 rfl rfl inlX7 (Nat.le_of_ble_eq_true rfl) mw_114 rfl dX7_joinAt_47 rfl ?_
            refine go_iload_n (pc' := 51) hC dX7_joinAt_50 rfl rfl ?_
            obtain ⟨h11, hf⟩ := gd_e hf
            refine go_iald (f := a7) (pc' := 52) hC 116 layX_116 rfl rfl dX7_joinAt_51 (okx_in h11) rfl ?_
            refine go_iload_n (pc' := 53) hC dX7_joinAt_52 rfl rfl ?_
            refine go_ior (pc' := 54) hC dX7_joinAt_53 rfl ?_
            refine go_iconst (pc' := 55) hC dX7_joinAt_54 ki_1 rfl ?_
            refine go_iload_n (pc' := 56) hC dX7_joinAt_55 rfl rfl ?_
            refine go_ishl (pc' := 57) hC dX7_joinAt_56 rfl ?_
            refine go_iconst (pc' := 58) hC dX7_joinAt_57 ki_1 rfl ?_
            refine go_iload_n (pc' := 59) hC dX7_joinAt_58 rfl rfl ?_
            refine go_ishl (pc' := 60) hC dX7_joinAt_59 rfl ?_
            refine go_ior (pc' := 61) hC dX7_joinAt_60 rfl ?_
            refine go_iconst (pc' := 62) hC dX7_joinAt_61 ki_m1 rfl ?_
            refine go_ixor (pc' := 63) hC dX7_joinAt_62 rfl ?_
            refine go_iand (pc' := 64) hC dX7_joinAt_63 rfl ?_
            refine go_namei (fun x12 hx => ?_)
            have hf := lz_r hx hf
            clear hx
            obtain ⟨h13, hf⟩ := gd_e hf
            refine go_iast (f := a7) (pc' := 65) hC 116 layX_116 rfl rfl dX7_joinAt_64 (okx_in h13) rfl rfl (fun a14 ha L3' hL => ?_)
            have hf := lz_r ha hf
            clear ha
            obtain rfl : L3' = [(116, a14)] := hL.symm
            exact jk65_10 a14 hf
    exact l25_17 fuel (0 : Int32) a5 hf
  · have hf := ite_f h18 hf
    obtain rfl := Option.some.inj hf
    exact go_vret hC hQ dX7_joinAt_15 rfl rfl rfl (fun _ => rfl) rfl rfl
