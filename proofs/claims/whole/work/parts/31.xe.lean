theorem dX8_spread_0 : decode cX8_spread 0 = .ok (.aload_n 0, 1) := by decide +kernel
theorem dX8_spread_1 : decode cX8_spread 1 = .ok (.getfield 9, 3) := by decide +kernel
theorem dX8_spread_4 : decode cX8_spread 4 = .ok (.iconst 0, 1) := by decide +kernel
theorem dX8_spread_5 : decode cX8_spread 5 = .ok (.lconst 1, 1) := by decide +kernel
theorem dX8_spread_6 : decode cX8_spread 6 = .ok (.lastore, 1) := by decide +kernel
theorem dX8_spread_7 : decode cX8_spread 7 = .ok (.aload_n 0, 1) := by decide +kernel
theorem dX8_spread_8 : decode cX8_spread 8 = .ok (.getfield 18, 3) := by decide +kernel
theorem dX8_spread_11 : decode cX8_spread 11 = .ok (.iconst 0, 1) := by decide +kernel
theorem dX8_spread_12 : decode cX8_spread 12 = .ok (.iconst 0, 1) := by decide +kernel
theorem dX8_spread_13 : decode cX8_spread 13 = .ok (.iastore, 1) := by decide +kernel
theorem dX8_spread_14 : decode cX8_spread 14 = .ok (.iconst 0, 1) := by decide +kernel
theorem dX8_spread_15 : decode cX8_spread 15 = .ok (.istore_n 1, 1) := by decide +kernel
theorem dX8_spread_16 : decode cX8_spread 16 = .ok (.iload_n 1, 1) := by decide +kernel
theorem dX8_spread_17 : decode cX8_spread 17 = .ok (.aload_n 0, 1) := by decide +kernel
theorem dX8_spread_18 : decode cX8_spread 18 = .ok (.getfield 40, 3) := by decide +kernel
theorem dX8_spread_21 : decode cX8_spread 21 = .ok (.getfield 60, 3) := by decide +kernel
theorem dX8_spread_24 : decode cX8_spread 24 = .ok (.if_icmp .ge 107, 3) := by decide +kernel
theorem dX8_spread_27 : decode cX8_spread 27 = .ok (.iconst 1, 1) := by decide +kernel
theorem dX8_spread_28 : decode cX8_spread 28 = .ok (.iload_n 1, 1) := by decide +kernel
theorem dX8_spread_29 : decode cX8_spread 29 = .ok (.ishl, 1) := by decide +kernel
theorem dX8_spread_30 : decode cX8_spread 30 = .ok (.istore_n 2, 1) := by decide +kernel
theorem dX8_spread_31 : decode cX8_spread 31 = .ok (.aload_n 0, 1) := by decide +kernel
theorem dX8_spread_32 : decode cX8_spread 32 = .ok (.getfield 40, 3) := by decide +kernel
theorem dX8_spread_35 : decode cX8_spread 35 = .ok (.getfield 93, 3) := by decide +kernel
theorem dX8_spread_38 : decode cX8_spread 38 = .ok (.iload_n 1, 1) := by decide +kernel
theorem dX8_spread_39 : decode cX8_spread 39 = .ok (.iaload, 1) := by decide +kernel
theorem dX8_spread_40 : decode cX8_spread 40 = .ok (.istore_n 3, 1) := by decide +kernel
theorem dX8_spread_41 : decode cX8_spread 41 = .ok (.iconst 0, 1) := by decide +kernel
theorem dX8_spread_42 : decode cX8_spread 42 = .ok (.istore 4, 2) := by decide +kernel
theorem dX8_spread_44 : decode cX8_spread 44 = .ok (.iload 4, 2) := by decide +kernel
theorem dX8_spread_46 : decode cX8_spread 46 = .ok (.iload_n 2, 1) := by decide +kernel
theorem dX8_spread_47 : decode cX8_spread 47 = .ok (.if_icmp .ge 78, 3) := by decide +kernel
theorem dX8_spread_50 : decode cX8_spread 50 = .ok (.aload_n 0, 1) := by decide +kernel
theorem dX8_spread_51 : decode cX8_spread 51 = .ok (.getfield 9, 3) := by decide +kernel
theorem dX8_spread_54 : decode cX8_spread 54 = .ok (.iload 4, 2) := by decide +kernel
theorem dX8_spread_56 : decode cX8_spread 56 = .ok (.iload_n 2, 1) := by decide +kernel
theorem dX8_spread_57 : decode cX8_spread 57 = .ok (.iadd, 1) := by decide +kernel
theorem dX8_spread_58 : decode cX8_spread 58 = .ok (.aload_n 0, 1) := by decide +kernel
theorem dX8_spread_59 : decode cX8_spread 59 = .ok (.getfield 9, 3) := by decide +kernel
theorem dX8_spread_62 : decode cX8_spread 62 = .ok (.iload 4, 2) := by decide +kernel
theorem dX8_spread_64 : decode cX8_spread 64 = .ok (.laload, 1) := by decide +kernel
theorem dX8_spread_65 : decode cX8_spread 65 = .ok (.iload_n 3, 1) := by decide +kernel
theorem dX8_spread_66 : decode cX8_spread 66 = .ok (.i2l, 1) := by decide +kernel
theorem dX8_spread_67 : decode cX8_spread 67 = .ok (.lmul, 1) := by decide +kernel
theorem dX8_spread_68 : decode cX8_spread 68 = .ok (.lastore, 1) := by decide +kernel
theorem dX8_spread_69 : decode cX8_spread 69 = .ok (.aload_n 0, 1) := by decide +kernel
theorem dX8_spread_70 : decode cX8_spread 70 = .ok (.getfield 18, 3) := by decide +kernel
theorem dX8_spread_73 : decode cX8_spread 73 = .ok (.iload 4, 2) := by decide +kernel
theorem dX8_spread_75 : decode cX8_spread 75 = .ok (.iload_n 2, 1) := by decide +kernel
theorem dX8_spread_76 : decode cX8_spread 76 = .ok (.iadd, 1) := by decide +kernel
theorem dX8_spread_77 : decode cX8_spread 77 = .ok (.aload_n 0, 1) := by decide +kernel
theorem dX8_spread_78 : decode cX8_spread 78 = .ok (.getfield 18, 3) := by decide +kernel
theorem dX8_spread_81 : decode cX8_spread 81 = .ok (.iload 4, 2) := by decide +kernel
theorem dX8_spread_83 : decode cX8_spread 83 = .ok (.iaload, 1) := by decide +kernel
theorem dX8_spread_84 : decode cX8_spread 84 = .ok (.iastore, 1) := by decide +kernel
theorem dX8_spread_85 : decode cX8_spread 85 = .ok (.aload_n 0, 1) := by decide +kernel
theorem dX8_spread_86 : decode cX8_spread 86 = .ok (.getfield 9, 3) := by decide +kernel
theorem dX8_spread_89 : decode cX8_spread 89 = .ok (.iload 4, 2) := by decide +kernel
theorem dX8_spread_91 : decode cX8_spread 91 = .ok (.dup2, 1) := by decide +kernel
theorem dX8_spread_92 : decode cX8_spread 92 = .ok (.laload, 1) := by decide +kernel
theorem dX8_spread_93 : decode cX8_spread 93 = .ok (.bipush 16, 2) := by decide +kernel
theorem dX8_spread_95 : decode cX8_spread 95 = .ok (.iload_n 3, 1) := by decide +kernel
theorem dX8_spread_96 : decode cX8_spread 96 = .ok (.isub, 1) := by decide +kernel
theorem dX8_spread_97 : decode cX8_spread 97 = .ok (.i2l, 1) := by decide +kernel
theorem dX8_spread_98 : decode cX8_spread 98 = .ok (.lmul, 1) := by decide +kernel
theorem dX8_spread_99 : decode cX8_spread 99 = .ok (.lastore, 1) := by decide +kernel
theorem dX8_spread_100 : decode cX8_spread 100 = .ok (.aload_n 0, 1) := by decide +kernel
theorem dX8_spread_101 : decode cX8_spread 101 = .ok (.getfield 18, 3) := by decide +kernel
theorem dX8_spread_104 : decode cX8_spread 104 = .ok (.iload 4, 2) := by decide +kernel
theorem dX8_spread_106 : decode cX8_spread 106 = .ok (.dup2, 1) := by decide +kernel
theorem dX8_spread_107 : decode cX8_spread 107 = .ok (.iaload, 1) := by decide +kernel
theorem dX8_spread_108 : decode cX8_spread 108 = .ok (.aload_n 0, 1) := by decide +kernel
theorem dX8_spread_109 : decode cX8_spread 109 = .ok (.getfield 40, 3) := by decide +kernel
theorem dX8_spread_112 : decode cX8_spread 112 = .ok (.getfield 96, 3) := by decide +kernel
theorem dX8_spread_115 : decode cX8_spread 115 = .ok (.iload_n 1, 1) := by decide +kernel
theorem dX8_spread_116 : decode cX8_spread 116 = .ok (.iaload, 1) := by decide +kernel
theorem dX8_spread_117 : decode cX8_spread 117 = .ok (.ior, 1) := by decide +kernel
theorem dX8_spread_118 : decode cX8_spread 118 = .ok (.iastore, 1) := by decide +kernel
theorem dX8_spread_119 : decode cX8_spread 119 = .ok (.iinc 4 1, 3) := by decide +kernel
theorem dX8_spread_122 : decode cX8_spread 122 = .ok (.goto (-78), 3) := by decide +kernel
theorem dX8_spread_125 : decode cX8_spread 125 = .ok (.iinc 1 1, 3) := by decide +kernel
theorem dX8_spread_128 : decode cX8_spread 128 = .ok (.goto (-112), 3) := by decide +kernel
theorem dX8_spread_131 : decode cX8_spread 131 = .ok (.return_, 1) := by decide +kernel
abbrev o_X8_spread_q106 : Type := (Nat → Int32) × (Nat → Int64)
def f_X8_spread_q106_L44 (S : wd_W) (x5 : Int32) (x9 : Int32) (x11 : Int32) (k125_14 : (Nat → Int32) → (Nat → Int64) → (Option o_X8_spread_q106)) (r18 : (Int32) → (Nat → Int32) → (Nat → Int64) → (Option o_X8_spread_q106)) (x15 : Int32) (a16 : Nat → Int32) (a17 : Nat → Int64) : Option o_X8_spread_q106 :=
if x9 ≤ x15 then (
k125_14 a16 a17) else (
gd (okx x15 (S.2.2.2.2 107)) <|
lz ((a17 x15.toNatClampNeg) * x11.toInt64) fun x20 =>
gd (okx (x15 + x9) (S.2.2.2.2 107)) <|
lz (vp_updL a17 (x15 + x9).toNatClampNeg x20) fun a22 =>
gd (okx x15 (S.2.2.2.2 109)) <|
lz (a16 x15.toNatClampNeg) fun x24 =>
gd (okx (x15 + x9) (S.2.2.2.2 109)) <|
lz (upd a16 (x15 + x9).toNatClampNeg x24) fun a26 =>
gd (okx x15 (S.2.2.2.2 107)) <|
lz ((a22 x15.toNatClampNeg) * (((16 : Int32) - x11).toInt64)) fun x28 =>
gd (okx x15 (S.2.2.2.2 107)) <|
lz (vp_updL a22 x15.toNatClampNeg x28) fun a30 =>
gd (okx x15 (S.2.2.2.2 109)) <|
gd (okx x5 15) <|
lz ((a26 x15.toNatClampNeg) ||| ((S.2.2.1 119) x5.toNatClampNeg)) fun x33 =>
gd (okx x15 (S.2.2.2.2 109)) <|
lz (upd a26 x15.toNatClampNeg x33) fun a35 =>
r18 (x15 + (1 : Int32)) a35 a30)
def f_X8_spread_q106_L16 (S : wd_W) (r8 : (Int32) → (Nat → Int32) → (Nat → Int64) → (Option o_X8_spread_q106)) (x5 : Int32) (a6 : Nat → Int32) (a7 : Nat → Int64) : Option o_X8_spread_q106 :=
if (S.1 11700) ≤ x5 then (
some (a6, a7)) else (
lz ((1 : Int32) <<< (x5 &&& 31)) fun x9 =>
gd (okx x5 15) <|
lz ((S.2.2.1 118) x5.toNatClampNeg) fun x11 =>
lk (fun a12 a13 =>
r8 (x5 + (1 : Int32)) a12 a13) fun k125_14 =>
it3 (f_X8_spread_q106_L44 S x5 x9 x11 k125_14) fuel (0 : Int32) a6 a7)
def f_X8_spread_q106 (S : wd_W) : Option o_X8_spread_q106 :=
gd (okx (0 : Int32) (S.2.2.2.2 107)) <|
lz (vp_updL (S.2.2.2.1 107) (0 : Int32).toNatClampNeg (1 : Int64)) fun a2 =>
gd (okx (0 : Int32) (S.2.2.2.2 109)) <|
lz (upd (S.2.2.1 109) (0 : Int32).toNatClampNeg (0 : Int32)) fun a4 =>
it3 (f_X8_spread_q106_L16 S) fuel (0 : Int32) a4 a2
set_option maxRecDepth 100000 in
set_option maxHeartbeats 4000000 in
theorem c_X8_spread_q106 (l : Launch) (D : va_G) (q g : Nat → Nat) (cy : Nat → ClassId) (z : (Nat → Nat) × (Nat → Nat) × Nat) (S : wd_W) (o : o_X8_spread_q106) (hf : f_X8_spread_q106 S = some o) : MX layX l yX8_spread cX8_spread 5 none ({ frames := 0, cells := 0, slots := 0, locals := 0 } : Room) D q g cy z [.ref (q 106)] S false (none) (wd_o S [] [] [(109, o.1)] [(107, o.2)] []) 0 0 := by
  refine mx_of (own := RX8) (lc := [(0, .ref (q 106))]) (by decide +kernel) rfl layX_ok (Nat.le_of_ble_eq_true rfl) rfl ?_
  intro X hXl hXq hXz hC hQ
  subst hXl; subst hXq; subst hXz
  unfold f_X8_spread_q106 at hf
  refine go_keys (L1 := []) (L2 := []) (L3 := [(109, (S.2.2.1 109))]) (L4 := [(107, (S.2.2.2.1 107))]) (L5 := []) [] [] [109] [107] [] rfl rfl rfl rfl rfl ?_
  refine go_aload_n (pc' := 1) hC dX8_spread_0 rfl rfl ?_
  refine go_getg (pc' := 4) hC 106 4 layX_106 rfl rfl inlX8 (Nat.le_of_ble_eq_true rfl) mw_92 rfl dX8_spread_1 rfl ?_
  refine go_iconst (pc' := 5) hC dX8_spread_4 ki_0 rfl ?_
  refine go_lconst (pc' := 6) hC dX8_spread_5 kl_1 rfl ?_
  obtain ⟨h1, hf⟩ := gd_e hf
  refine go_lastg (f := (S.2.2.2.1 107)) (pc' := 7) hC 107 layX_107 rfl rfl dX8_spread_6 (okx_in h1) rfl rfl (fun a2 ha L4' hL => ?_)
  have hf := lz_r ha hf
  clear ha
  obtain rfl : L4' = [(107, a2)] := hL.symm
  refine go_aload_n (pc' := 8) hC dX8_spread_7 rfl rfl ?_
  refine go_getg (pc' := 11) hC 106 6 layX_106 rfl rfl inlX8 (Nat.le_of_ble_eq_true rfl) mw_94 rfl dX8_spread_8 rfl ?_
  refine go_iconst (pc' := 12) hC dX8_spread_11 ki_0 rfl ?_
  refine go_iconst (pc' := 13) hC dX8_spread_12 ki_0 rfl ?_
  obtain ⟨h3, hf⟩ := gd_e hf
  refine go_iastg (f := (S.2.2.1 109)) (pc' := 14) hC 109 layX_109 rfl rfl dX8_spread_13 (okx_in h3) rfl rfl (fun a4 ha L3' hL => ?_)
  have hf := lz_r ha hf
  clear ha
  obtain rfl : L3' = [(109, a4)] := hL.symm
  refine go_iconst (pc' := 15) hC dX8_spread_14 ki_0 rfl ?_
  refine go_istore_n (lc' := [(0, .ref (x_q X 106)), (1, .int (0 : Int32))]) (pc' := 16) hC dX8_spread_15 (Nat.le_of_ble_eq_true rfl) rfl rfl ?_
  have l16_39 : ∀ (nn : Nat) (x5 : Int32) (a6 : Nat → Int32) (a7 : Nat → Int64), it3 (f_X8_spread_q106_L16 S) nn x5 a6 a7 = some o → Go X layX S 16 [(0, .ref (x_q X 106)), (1, .int x5)] [] g [] [] [(109, a6)] [(107, a7)] [] 0 0 := by
    intro nn
    induction nn with
    | zero =>
      intro x5 a6 a7 hf
      exact none_no hf
    | succ nn ih =>
      intro x5 a6 a7 hf
      have hf : f_X8_spread_q106_L16 S (it3 (f_X8_spread_q106_L16 S) nn) x5 a6 a7 = some o := hf
      generalize it3 (f_X8_spread_q106_L16 S) nn = r8 at ih hf
      unfold f_X8_spread_q106_L16 at hf
      refine go_iload_n (pc' := 17) hC dX8_spread_16 rfl rfl ?_
      refine go_aload_n (pc' := 18) hC dX8_spread_17 rfl rfl ?_
      refine go_getq (pc' := 21) hC 106 1 layX_106 rfl rfl inlX8 (Nat.le_of_ble_eq_true rfl) mw_104 rfl dX8_spread_18 rfl ?_
      refine go_geti (v := (S.1 11700)) (pc' := 24) hC 117 0 layX_117 rfl rfl inlX10 (Nat.le_of_ble_eq_true rfl) mw_609 rfl dX8_spread_21 rfl rfl ?_
      refine go_icmp_ge (tgt := 131) (pc' := 27) hC dX8_spread_24 (by decide) rfl (fun h38 => ?_) (fun h38 => ?_)
      · have hf := ite_t h38 hf
        obtain rfl := Option.some.inj hf
        exact go_vret hC hQ dX8_spread_131 rfl rfl rfl (fun _ => rfl) rfl rfl
      · have hf := ite_f h38 hf
        refine go_iconst (pc' := 28) hC dX8_spread_27 ki_1 rfl ?_
        refine go_iload_n (pc' := 29) hC dX8_spread_28 rfl rfl ?_
        refine go_ishl (pc' := 30) hC dX8_spread_29 rfl ?_
        refine go_namei (fun x9 hx => ?_)
        have hf := lz_r hx hf
        clear hx
        refine go_istore_n (lc' := [(0, .ref (x_q X 106)), (1, .int x5), (2, .int x9)]) (pc' := 31) hC dX8_spread_30 (Nat.le_of_ble_eq_true rfl) rfl rfl ?_
        refine go_aload_n (pc' := 32) hC dX8_spread_31 rfl rfl ?_
        refine go_getq (pc' := 35) hC 106 1 layX_106 rfl rfl inlX8 (Nat.le_of_ble_eq_true rfl) mw_104 rfl dX8_spread_32 rfl ?_
        refine go_getq (pc' := 38) hC 117 1 layX_117 rfl rfl inlX10 (Nat.le_of_ble_eq_true rfl) mw_702 rfl dX8_spread_35 rfl ?_
        refine go_iload_n (pc' := 39) hC dX8_spread_38 rfl rfl ?_
        obtain ⟨h10, hf⟩ := gd_e hf
        refine go_iald (f := (S.2.2.1 118)) (pc' := 40) hC 118 layX_118 rfl rfl dX8_spread_39 (okx_in h10) rfl ?_
        refine go_namei (fun x11 hx => ?_)
        have hf := lz_r hx hf
        clear hx
        refine go_istore_n (lc' := [(0, .ref (x_q X 106)), (1, .int x5), (2, .int x9), (3, .int x11)]) (pc' := 41) hC dX8_spread_40 (Nat.le_of_ble_eq_true rfl) rfl rfl ?_
        refine go_iconst (pc' := 42) hC dX8_spread_41 ki_0 rfl ?_
        refine go_istore (lc' := [(0, .ref (x_q X 106)), (1, .int x5), (2, .int x9), (3, .int x11), (4, .int (0 : Int32))]) (pc' := 44) hC dX8_spread_42 (Nat.le_of_ble_eq_true rfl) rfl rfl ?_
        obtain ⟨k125_14, hk125_14, hf⟩ := lk_e2 hf
        have jk125_14 : ∀ (a12 : Nat → Int32) (a13 : Nat → Int64), k125_14 a12 a13 = some o → Go X layX S 125 [(0, .ref (x_q X 106)), (1, .int x5)] [] g [] [] [(109, a12)] [(107, a13)] [] 0 0 := by
          intro a12 a13 hf
          have hf := hk125_14 a12 a13 hf
          clear hk125_14
          refine go_iinc (lc' := [(0, .ref (x_q X 106)), (1, .int (x5 + (1 : Int32)))]) (pc' := 128) hC dX8_spread_125 rfl ki_1 (Nat.le_of_ble_eq_true rfl) rfl rfl ?_
          refine go_goto (tgt := 16) hC dX8_spread_128 (by decide) ?_
          exact ih (x5 + (1 : Int32)) a12 a13 hf
        clear hk125_14
        have l44_37 : ∀ (nn : Nat) (x15 : Int32) (a16 : Nat → Int32) (a17 : Nat → Int64), it3 (f_X8_spread_q106_L44 S x5 x9 x11 k125_14) nn x15 a16 a17 = some o → Go X layX S 44 [(0, .ref (x_q X 106)), (1, .int x5), (2, .int x9), (3, .int x11), (4, .int x15)] [] g [] [] [(109, a16)] [(107, a17)] [] 0 0 := by
          intro nn
          induction nn with
          | zero =>
            intro x15 a16 a17 hf
            exact none_no hf
          | succ nn ih =>
            intro x15 a16 a17 hf
            have hf : f_X8_spread_q106_L44 S x5 x9 x11 k125_14 (it3 (f_X8_spread_q106_L44 S x5 x9 x11 k125_14) nn) x15 a16 a17 = some o := hf
            generalize it3 (f_X8_spread_q106_L44 S x5 x9 x11 k125_14) nn = r18 at ih hf
            unfold f_X8_spread_q106_L44 at hf
            refine go_iload (pc' := 46) hC dX8_spread_44 rfl rfl ?_
            refine go_iload_n (pc' := 47) hC dX8_spread_46 rfl rfl ?_
            refine go_icmp_ge (tgt := 125) (pc' := 50) hC dX8_spread_47 (by decide) rfl (fun h36 => ?_) (fun h36 => ?_)
            · have hf := ite_t h36 hf
              refine go_sub [0, 1] rfl ?_
              exact jk125_14 a16 a17 hf
            · have hf := ite_f h36 hf
              refine go_aload_n (pc' := 51) hC dX8_spread_50 rfl rfl ?_
              refine go_getg (pc' := 54) hC 106 4 layX_106 rfl rfl inlX8 (Nat.le_of_ble_eq_true rfl) mw_92 rfl dX8_spread_51 rfl ?_
              refine go_iload (pc' := 56) hC dX8_spread_54 rfl rfl ?_
              refine go_iload_n (pc' := 57) hC dX8_spread_56 rfl rfl ?_
              refine go_iadd (pc' := 58) hC dX8_spread_57 rfl ?_
              refine go_aload_n (pc' := 59) hC dX8_spread_58 rfl rfl ?_
              refine go_getg (pc' := 62) hC 106 4 layX_106 rfl rfl inlX8 (Nat.le_of_ble_eq_true rfl) mw_92 rfl dX8_spread_59 rfl ?_
              refine go_iload (pc' := 64) hC dX8_spread_62 rfl rfl ?_
              obtain ⟨h19, hf⟩ := gd_e hf
              refine go_laldg (f := a17) (pc' := 65) hC 107 layX_107 rfl rfl dX8_spread_64 (okx_in h19) rfl ?_
              refine go_iload_n (pc' := 66) hC dX8_spread_65 rfl rfl ?_
              refine go_i2l (pc' := 67) hC dX8_spread_66 rfl ?_
              refine go_lmul (pc' := 68) hC dX8_spread_67 rfl ?_
              refine go_namel (fun x20 hx => ?_)
              have hf := lz_r hx hf
              clear hx
              obtain ⟨h21, hf⟩ := gd_e hf
              refine go_lastg (f := a17) (pc' := 69) hC 107 layX_107 rfl rfl dX8_spread_68 (okx_in h21) rfl rfl (fun a22 ha L4' hL => ?_)
              have hf := lz_r ha hf
              clear ha
              obtain rfl : L4' = [(107, a22)] := hL.symm
              refine go_aload_n (pc' := 70) hC dX8_spread_69 rfl rfl ?_
              refine go_getg (pc' := 73) hC 106 6 layX_106 rfl rfl inlX8 (Nat.le_of_ble_eq_true rfl) mw_94 rfl dX8_spread_70 rfl ?_
              refine go_iload (pc' := 75) hC dX8_spread_73 rfl rfl ?_
              refine go_iload_n (pc' := 76) hC dX8_spread_75 rfl rfl ?_
              refine go_iadd (pc' := 77) hC dX8_spread_76 rfl ?_
              refine go_aload_n (pc' := 78) hC dX8_spread_77 rfl rfl ?_
              refine go_getg (pc' := 81) hC 106 6 layX_106 rfl rfl inlX8 (Nat.le_of_ble_eq_true rfl) mw_94 rfl dX8_spread_78 rfl ?_
              refine go_iload (pc' := 83) hC dX8_spread_81 rfl rfl ?_
              obtain ⟨h23, hf⟩ := gd_e hf
              refine go_ialdg (f := a16) (pc' := 84) hC 109 layX_109 rfl rfl dX8_spread_83 (okx_in h23) rfl ?_
              refine go_namei (fun x24 hx => ?_)
              have hf := lz_r hx hf
              clear hx
              obtain ⟨h25, hf⟩ := gd_e hf
              refine go_iastg (f := a16) (pc' := 85) hC 109 layX_109 rfl rfl dX8_spread_84 (okx_in h25) rfl rfl (fun a26 ha L3' hL => ?_)
              have hf := lz_r ha hf
              clear ha
              obtain rfl : L3' = [(109, a26)] := hL.symm
              refine go_aload_n (pc' := 86) hC dX8_spread_85 rfl rfl ?_
              refine go_getg (pc' := 89) hC 106 4 layX_106 rfl rfl inlX8 (Nat.le_of_ble_eq_true rfl) mw_92 rfl dX8_spread_86 rfl ?_
              refine go_iload (pc' := 91) hC dX8_spread_89 rfl rfl ?_
              refine go_dup2 (pc' := 92) hC dX8_spread_91 rfl rfl rfl ?_
              obtain ⟨h27, hf⟩ := gd_e hf
              refine go_laldg (f := a22) (pc' := 93) hC 107 layX_107 rfl rfl dX8_spread_92 (okx_in h27) rfl ?_
              refine go_bipush (pc' := 95) hC dX8_spread_93 kb_16 rfl ?_
              refine go_iload_n (pc' := 96) hC dX8_spread_95 rfl rfl ?_
              refine go_isub (pc' := 97) hC dX8_spread_96 rfl ?_
              refine go_i2l (pc' := 98) hC dX8_spread_97 rfl ?_
              refine go_lmul (pc' := 99) hC dX8_spread_98 rfl ?_
              refine go_namel (fun x28 hx => ?_)
              have hf := lz_r hx hf
              clear hx
              obtain ⟨h29, hf⟩ := gd_e hf
              refine go_lastg (f := a22) (pc' := 100) hC 107 layX_107 rfl rfl dX8_spread_99 (okx_in h29) rfl rfl (fun a30 ha L4' hL => ?_)
              have hf := lz_r ha hf
              clear ha
              obtain rfl : L4' = [(107, a30)] := hL.symm
              refine go_aload_n (pc' := 101) hC dX8_spread_100 rfl rfl ?_
              refine go_getg (pc' := 104) hC 106 6 layX_106 rfl rfl inlX8 (Nat.le_of_ble_eq_true rfl) mw_94 rfl dX8_spread_101 rfl ?_
              refine go_iload (pc' := 106) hC dX8_spread_104 rfl rfl ?_
              refine go_dup2 (pc' := 107) hC dX8_spread_106 rfl rfl rfl ?_
              obtain ⟨h31, hf⟩ := gd_e hf
              refine go_ialdg (f := a26) (pc' := 108) hC 109 layX_109 rfl rfl dX8_spread_107 (okx_in h31) rfl ?_
              refine go_aload_n (pc' := 109) hC dX8_spread_108 rfl rfl ?_
              refine go_getq (pc' := 112) hC 106 1 layX_106 rfl rfl inlX8 (Nat.le_of_ble_eq_true rfl) mw_104 rfl dX8_spread_109 rfl ?_
              refine go_getq (pc' := 115) hC 117 2 layX_117 rfl rfl inlX10 (Nat.le_of_ble_eq_true rfl) mw_703 rfl dX8_spread_112 rfl ?_
              refine go_iload_n (pc' := 116) hC dX8_spread_115 rfl rfl ?_
              obtain ⟨h32, hf⟩ := gd_e hf
              refine go_iald (f := (S.2.2.1 119)) (pc' := 117) hC 119 layX_119 rfl rfl dX8_spread_116 (okx_in h32) rfl ?_
              refine go_ior (pc' := 118) hC dX8_spread_117 rfl ?_
              refine go_namei (fun x33 hx => ?_)
              have hf := lz_r hx hf
              clear hx
              obtain ⟨h34, hf⟩ := gd_e hf
              refine go_iastg (f := a26) (pc' := 119) hC 109 layX_109 rfl rfl dX8_spread_118 (okx_in h34) rfl rfl (fun a35 ha L3' hL => ?_)
              have hf := lz_r ha hf
              clear ha
              obtain rfl : L3' = [(109, a35)] := hL.symm
              refine go_iinc (lc' := [(0, .ref (x_q X 106)), (1, .int x5), (2, .int x9), (3, .int x11), (4, .int (x15 + (1 : Int32)))]) (pc' := 122) hC dX8_spread_119 rfl ki_1 (Nat.le_of_ble_eq_true rfl) rfl rfl ?_
              refine go_goto (tgt := 44) hC dX8_spread_122 (by decide) ?_
              exact ih (x15 + (1 : Int32)) a35 a30 hf
        exact l44_37 fuel (0 : Int32) a6 a7 hf
  exact l16_39 fuel (0 : Int32) a4 a2 hf
theorem dJ7_fill_d0a16_0 : decode cJ7_fill_d0a16 0 = .ok (.iconst 0, 1) := by decide +kernel
theorem dJ7_fill_d0a16_1 : decode cJ7_fill_d0a16 1 = .ok (.istore_n 3, 1) := by decide +kernel
theorem dJ7_fill_d0a16_2 : decode cJ7_fill_d0a16 2 = .ok (.aload_n 0, 1) := by decide +kernel
theorem dJ7_fill_d0a16_3 : decode cJ7_fill_d0a16 3 = .ok (.arraylength, 1) := by decide +kernel
theorem dJ7_fill_d0a16_4 : decode cJ7_fill_d0a16 4 = .ok (.istore 4, 2) := by decide +kernel
theorem dJ7_fill_d0a16_6 : decode cJ7_fill_d0a16 6 = .ok (.iload_n 3, 1) := by decide +kernel
theorem dJ7_fill_d0a16_7 : decode cJ7_fill_d0a16 7 = .ok (.iload 4, 2) := by decide +kernel
theorem dJ7_fill_d0a16_9 : decode cJ7_fill_d0a16 9 = .ok (.if_icmp .ge 13, 3) := by decide +kernel
theorem dJ7_fill_d0a16_12 : decode cJ7_fill_d0a16 12 = .ok (.aload_n 0, 1) := by decide +kernel
theorem dJ7_fill_d0a16_13 : decode cJ7_fill_d0a16 13 = .ok (.iload_n 3, 1) := by decide +kernel
theorem dJ7_fill_d0a16_14 : decode cJ7_fill_d0a16 14 = .ok (.lload_n 1, 1) := by decide +kernel
theorem dJ7_fill_d0a16_15 : decode cJ7_fill_d0a16 15 = .ok (.lastore, 1) := by decide +kernel
theorem dJ7_fill_d0a16_16 : decode cJ7_fill_d0a16 16 = .ok (.iinc 3 1, 3) := by decide +kernel
theorem dJ7_fill_d0a16_19 : decode cJ7_fill_d0a16 19 = .ok (.goto (-13), 3) := by decide +kernel
theorem dJ7_fill_d0a16_22 : decode cJ7_fill_d0a16 22 = .ok (.return_, 1) := by decide +kernel
abbrev o_J7_fill_d0a16_g108 : Type := (Nat → Int64)
def f_J7_fill_d0a16_g108_L6 (S : wd_W) (p1 : Int64) (x1 : Int32) (r4 : (Int32) → (Nat → Int64) → (Option o_J7_fill_d0a16_g108)) (x2 : Int32) (a3 : Nat → Int64) : Option o_J7_fill_d0a16_g108 :=
if x1 ≤ x2 then (
some a3) else (
gd (okx x2 (S.2.2.2.2 108)) <|
lz (vp_updL a3 x2.toNatClampNeg p1) fun a6 =>
r4 (x2 + (1 : Int32)) a6)
def f_J7_fill_d0a16_g108 (S : wd_W) (p1 : Int64) : Option o_J7_fill_d0a16_g108 :=
lz (Int32.ofNat (S.2.2.2.2 108)) fun x1 =>
it2 (f_J7_fill_d0a16_g108_L6 S p1 x1) fuel (0 : Int32) (S.2.2.2.1 108)
set_option maxRecDepth 100000 in
set_option maxHeartbeats 4000000 in
theorem c_J7_fill_d0a16_g108 (l : Launch) (D : va_G) (q g : Nat → Nat) (cy : Nat → ClassId) (z : (Nat → Nat) × (Nat → Nat) × Nat) (S : wd_W) (p1 : Int64) (o : o_J7_fill_d0a16_g108) (hf : f_J7_fill_d0a16_g108 S p1 = some o) : MX layX l yJ7_fill_d0a16 cJ7_fill_d0a16 5 none ({ frames := 0, cells := 0, slots := 0, locals := 0 } : Room) D q g cy z [.ref (g 108), .long p1] S false (none) (wd_o S [] [] [] [(108, o)] []) 0 0 := by
  refine mx_of (own := RJ7) (lc := [(0, .ref (g 108)), (1, .long p1)]) (by decide +kernel) rfl layX_ok (Nat.le_of_ble_eq_true rfl) rfl ?_
  intro X hXl hXq hXz hC hQ
  subst hXl; subst hXq; subst hXz
  unfold f_J7_fill_d0a16_g108 at hf
  refine go_keys (L1 := []) (L2 := []) (L3 := []) (L4 := [(108, (S.2.2.2.1 108))]) (L5 := []) [] [] [] [108] [] rfl rfl rfl rfl rfl ?_
  refine go_iconst (pc' := 1) hC dJ7_fill_d0a16_0 ki_0 rfl ?_
  refine go_istore_n (lc' := [(0, .ref (g 108)), (1, .long p1), (3, .int (0 : Int32))]) (pc' := 2) hC dJ7_fill_d0a16_1 (Nat.le_of_ble_eq_true rfl) rfl rfl ?_
  refine go_aload_n (pc' := 3) hC dJ7_fill_d0a16_2 rfl rfl ?_
  refine go_aleng (v := Int32.ofNat (S.2.2.2.2 108)) (pc' := 4) hC 108 layX_108 (Nat.le_of_ble_eq_true rfl) rfl rfl dJ7_fill_d0a16_3 rfl ?_
  refine go_namei (fun x1 hx => ?_)
  have hf := lz_r hx hf
  clear hx
  refine go_istore (lc' := [(0, .ref (g 108)), (1, .long p1), (3, .int (0 : Int32)), (4, .int x1)]) (pc' := 6) hC dJ7_fill_d0a16_4 (Nat.le_of_ble_eq_true rfl) rfl rfl ?_
  have l6_8 : ∀ (nn : Nat) (x2 : Int32) (a3 : Nat → Int64), it2 (f_J7_fill_d0a16_g108_L6 S p1 x1) nn x2 a3 = some o → Go X layX S 6 [(0, .ref (g 108)), (1, .long p1), (3, .int x2), (4, .int x1)] [] g [] [] [] [(108, a3)] [] 0 0 := by
    intro nn
    induction nn with
    | zero =>
      intro x2 a3 hf
      exact none_no hf
    | succ nn ih =>
      intro x2 a3 hf
      have hf : f_J7_fill_d0a16_g108_L6 S p1 x1 (it2 (f_J7_fill_d0a16_g108_L6 S p1 x1) nn) x2 a3 = some o := hf
      generalize it2 (f_J7_fill_d0a16_g108_L6 S p1 x1) nn = r4 at ih hf
      unfold f_J7_fill_d0a16_g108_L6 at hf
      refine go_iload_n (pc' := 7) hC dJ7_fill_d0a16_6 rfl rfl ?_
      refine go_iload (pc' := 9) hC dJ7_fill_d0a16_7 rfl rfl ?_
      refine go_icmp_ge (tgt := 22) (pc' := 12) hC dJ7_fill_d0a16_9 (by decide) rfl (fun h7 => ?_) (fun h7 => ?_)
      · have hf := ite_t h7 hf
        obtain rfl := Option.some.inj hf
        exact go_vret hC hQ dJ7_fill_d0a16_22 rfl rfl rfl (fun _ => rfl) rfl rfl
      · have hf := ite_f h7 hf
        refine go_aload_n (pc' := 13) hC dJ7_fill_d0a16_12 rfl rfl ?_
        refine go_iload_n (pc' := 14) hC dJ7_fill_d0a16_13 rfl rfl ?_
        refine go_lload_n (pc' := 15) hC dJ7_fill_d0a16_14 rfl rfl ?_
        obtain ⟨h5, hf⟩ := gd_e hf
        refine go_lastg (f := a3) (pc' := 16) hC 108 layX_108 rfl rfl dJ7_fill_d0a16_15 (okx_in h5) rfl rfl (fun a6 ha L4' hL => ?_)
        have hf := lz_r ha hf
        clear ha
        obtain rfl : L4' = [(108, a6)] := hL.symm
        refine go_iinc (lc' := [(0, .ref (g 108)), (1, .long p1), (3, .int (x2 + (1 : Int32))), (4, .int x1)]) (pc' := 19) hC dJ7_fill_d0a16_16 rfl ki_1 (Nat.le_of_ble_eq_true rfl) rfl rfl ?_
        refine go_goto (tgt := 6) hC dJ7_fill_d0a16_19 (by decide) ?_
        exact ih (x2 + (1 : Int32)) a6 hf
  exact l6_8 fuel (0 : Int32) (S.2.2.2.1 108) hf
theorem dX8_openIn_0 : decode cX8_openIn 0 = .ok (.aload_n 0, 1) := by decide +kernel
theorem dX8_openIn_1 : decode cX8_openIn 1 = .ok (.getfield 70, 3) := by decide +kernel
theorem dX8_openIn_4 : decode cX8_openIn 4 = .ok (.aload_n 0, 1) := by decide +kernel
theorem dX8_openIn_5 : decode cX8_openIn 5 = .ok (.getfield 18, 3) := by decide +kernel
theorem dX8_openIn_8 : decode cX8_openIn 8 = .ok (.iload_n 1, 1) := by decide +kernel
theorem dX8_openIn_9 : decode cX8_openIn 9 = .ok (.iaload, 1) := by decide +kernel
theorem dX8_openIn_10 : decode cX8_openIn 10 = .ok (.iconst (-1), 1) := by decide +kernel
theorem dX8_openIn_11 : decode cX8_openIn 11 = .ok (.ixor, 1) := by decide +kernel
theorem dX8_openIn_12 : decode cX8_openIn 12 = .ok (.iand, 1) := by decide +kernel
theorem dX8_openIn_13 : decode cX8_openIn 13 = .ok (.ireturn, 1) := by decide +kernel
abbrev o_X8_openIn_q106 : Type := Int32
def f_X8_openIn_q106 (S : wd_W) (p1 : Int32) : Option o_X8_openIn_q106 :=
gd (okx p1 (S.2.2.2.2 109)) <|
some ((S.1 10603) &&& (((S.2.2.1 109) p1.toNatClampNeg) ^^^ (-1 : Int32)))
set_option maxRecDepth 100000 in
set_option maxHeartbeats 4000000 in
theorem c_X8_openIn_q106 (l : Launch) (D : va_G) (q g : Nat → Nat) (cy : Nat → ClassId) (z : (Nat → Nat) × (Nat → Nat) × Nat) (S : wd_W) (p1 : Int32) (o : o_X8_openIn_q106) (hf : f_X8_openIn_q106 S p1 = some o) : MX layX l yX8_openIn cX8_openIn 2 (some .int) ({ frames := 0, cells := 0, slots := 0, locals := 0 } : Room) D q g cy z [.ref (q 106), .int p1] S false (some (.int o)) (wd_o S [] [] [] [] []) 0 0 := by
  refine mx_of (own := RX8) (lc := [(0, .ref (q 106)), (1, .int p1)]) (by decide +kernel) rfl layX_ok (Nat.le_of_ble_eq_true rfl) rfl ?_
  intro X hXl hXq hXz hC hQ
  subst hXl; subst hXq; subst hXz
  unfold f_X8_openIn_q106 at hf
  refine go_aload_n (pc' := 1) hC dX8_openIn_0 rfl rfl ?_
  refine go_geti (v := (S.1 10603)) (pc' := 4) hC 106 3 layX_106 rfl rfl inlX8 (Nat.le_of_ble_eq_true rfl) mw_612 rfl dX8_openIn_1 rfl rfl ?_
  refine go_aload_n (pc' := 5) hC dX8_openIn_4 rfl rfl ?_
  refine go_getg (pc' := 8) hC 106 6 layX_106 rfl rfl inlX8 (Nat.le_of_ble_eq_true rfl) mw_94 rfl dX8_openIn_5 rfl ?_
  refine go_iload_n (pc' := 9) hC dX8_openIn_8 rfl rfl ?_
  obtain ⟨h1, hf⟩ := gd_e hf
  refine go_ialdg (f := (S.2.2.1 109)) (pc' := 10) hC 109 layX_109 rfl rfl dX8_openIn_9 (okx_in h1) rfl ?_
  refine go_iconst (pc' := 11) hC dX8_openIn_10 ki_m1 rfl ?_
  refine go_ixor (pc' := 12) hC dX8_openIn_11 rfl ?_
  refine go_iand (pc' := 13) hC dX8_openIn_12 rfl ?_
  obtain rfl := Option.some.inj hf
  exact go_iret hC hQ dX8_openIn_13 rfl rfl rfl rfl (fun _ => rfl) rfl rfl
theorem dX8_workOut_0 : decode cX8_workOut 0 = .ok (.aload_n 0, 1) := by decide +kernel
theorem dX8_workOut_1 : decode cX8_workOut 1 = .ok (.getfield 31, 3) := by decide +kernel
theorem dX8_workOut_4 : decode cX8_workOut 4 = .ok (.invokevirtual 53, 3) := by decide +kernel
theorem dX8_workOut_7 : decode cX8_workOut 7 = .ok (.aload_n 0, 1) := by decide +kernel
theorem dX8_workOut_8 : decode cX8_workOut 8 = .ok (.getfield 40, 3) := by decide +kernel
theorem dX8_workOut_11 : decode cX8_workOut 11 = .ok (.iconst 0, 1) := by decide +kernel
theorem dX8_workOut_12 : decode cX8_workOut 12 = .ok (.invokevirtual 56, 3) := by decide +kernel
theorem dX8_workOut_15 : decode cX8_workOut 15 = .ok (.aload_n 0, 1) := by decide +kernel
theorem dX8_workOut_16 : decode cX8_workOut 16 = .ok (.iconst 1, 1) := by decide +kernel
theorem dX8_workOut_17 : decode cX8_workOut 17 = .ok (.aload_n 0, 1) := by decide +kernel
theorem dX8_workOut_18 : decode cX8_workOut 18 = .ok (.getfield 40, 3) := by decide +kernel
theorem dX8_workOut_21 : decode cX8_workOut 21 = .ok (.getfield 60, 3) := by decide +kernel
theorem dX8_workOut_24 : decode cX8_workOut 24 = .ok (.ishl, 1) := by decide +kernel
theorem dX8_workOut_25 : decode cX8_workOut 25 = .ok (.putfield 64, 3) := by decide +kernel
theorem dX8_workOut_28 : decode cX8_workOut 28 = .ok (.aload_n 0, 1) := by decide +kernel
theorem dX8_workOut_29 : decode cX8_workOut 29 = .ok (.iconst 1, 1) := by decide +kernel
theorem dX8_workOut_30 : decode cX8_workOut 30 = .ok (.aload_n 0, 1) := by decide +kernel
theorem dX8_workOut_31 : decode cX8_workOut 31 = .ok (.getfield 31, 3) := by decide +kernel
theorem dX8_workOut_34 : decode cX8_workOut 34 = .ok (.getfield 67, 3) := by decide +kernel
theorem dX8_workOut_37 : decode cX8_workOut 37 = .ok (.ishl, 1) := by decide +kernel
theorem dX8_workOut_38 : decode cX8_workOut 38 = .ok (.iconst 1, 1) := by decide +kernel
theorem dX8_workOut_39 : decode cX8_workOut 39 = .ok (.isub, 1) := by decide +kernel
theorem dX8_workOut_40 : decode cX8_workOut 40 = .ok (.putfield 70, 3) := by decide +kernel
theorem dX8_workOut_43 : decode cX8_workOut 43 = .ok (.aload_n 0, 1) := by decide +kernel
theorem dX8_workOut_44 : decode cX8_workOut 44 = .ok (.aload_n 0, 1) := by decide +kernel
theorem dX8_workOut_45 : decode cX8_workOut 45 = .ok (.getfield 64, 3) := by decide +kernel
theorem dX8_workOut_48 : decode cX8_workOut 48 = .ok (.aload_n 0, 1) := by decide +kernel
theorem dX8_workOut_49 : decode cX8_workOut 49 = .ok (.getfield 70, 3) := by decide +kernel
theorem dX8_workOut_52 : decode cX8_workOut 52 = .ok (.iconst 1, 1) := by decide +kernel
theorem dX8_workOut_53 : decode cX8_workOut 53 = .ok (.iadd, 1) := by decide +kernel
theorem dX8_workOut_54 : decode cX8_workOut 54 = .ok (.invokevirtual 73, 3) := by decide +kernel
theorem dX8_workOut_57 : decode cX8_workOut 57 = .ok (.iconst 0, 1) := by decide +kernel
theorem dX8_workOut_58 : decode cX8_workOut 58 = .ok (.istore_n 1, 1) := by decide +kernel
theorem dX8_workOut_59 : decode cX8_workOut 59 = .ok (.iload_n 1, 1) := by decide +kernel
theorem dX8_workOut_60 : decode cX8_workOut 60 = .ok (.aload_n 0, 1) := by decide +kernel
theorem dX8_workOut_61 : decode cX8_workOut 61 = .ok (.getfield 70, 3) := by decide +kernel
theorem dX8_workOut_64 : decode cX8_workOut 64 = .ok (.if_icmp .gt 32, 3) := by decide +kernel
theorem dX8_workOut_67 : decode cX8_workOut 67 = .ok (.aload_n 0, 1) := by decide +kernel
theorem dX8_workOut_68 : decode cX8_workOut 68 = .ok (.getfield 22, 3) := by decide +kernel
theorem dX8_workOut_71 : decode cX8_workOut 71 = .ok (.iload_n 1, 1) := by decide +kernel
theorem dX8_workOut_72 : decode cX8_workOut 72 = .ok (.aload_n 0, 1) := by decide +kernel
theorem dX8_workOut_73 : decode cX8_workOut 73 = .ok (.getfield 31, 3) := by decide +kernel
theorem dX8_workOut_76 : decode cX8_workOut 76 = .ok (.iload_n 1, 1) := by decide +kernel
theorem dX8_workOut_77 : decode cX8_workOut 77 = .ok (.invokevirtual 77, 3) := by decide +kernel
theorem dX8_workOut_80 : decode cX8_workOut 80 = .ok (.ifCond .eq 7, 3) := by decide +kernel
theorem dX8_workOut_83 : decode cX8_workOut 83 = .ok (.iconst 1, 1) := by decide +kernel
theorem dX8_workOut_84 : decode cX8_workOut 84 = .ok (.goto 4, 3) := by decide +kernel
theorem dX8_workOut_87 : decode cX8_workOut 87 = .ok (.iconst 0, 1) := by decide +kernel
theorem dX8_workOut_88 : decode cX8_workOut 88 = .ok (.i2b, 1) := by decide +kernel
theorem dX8_workOut_89 : decode cX8_workOut 89 = .ok (.bastore, 1) := by decide +kernel
theorem dX8_workOut_90 : decode cX8_workOut 90 = .ok (.iinc 1 1, 3) := by decide +kernel
theorem dX8_workOut_93 : decode cX8_workOut 93 = .ok (.goto (-34), 3) := by decide +kernel
theorem dX8_workOut_96 : decode cX8_workOut 96 = .ok (.aload_n 0, 1) := by decide +kernel
theorem dX8_workOut_97 : decode cX8_workOut 97 = .ok (.invokevirtual 80, 3) := by decide +kernel
theorem dX8_workOut_100 : decode cX8_workOut 100 = .ok (.aload_n 0, 1) := by decide +kernel
theorem dX8_workOut_101 : decode cX8_workOut 101 = .ok (.getfield 15, 3) := by decide +kernel
theorem dX8_workOut_104 : decode cX8_workOut 104 = .ok (.lconst 0, 1) := by decide +kernel
theorem dX8_workOut_105 : decode cX8_workOut 105 = .ok (.invokestatic 83, 3) := by decide +kernel
theorem dX8_workOut_108 : decode cX8_workOut 108 = .ok (.iconst 0, 1) := by decide +kernel
theorem dX8_workOut_109 : decode cX8_workOut 109 = .ok (.istore_n 1, 1) := by decide +kernel
theorem dX8_workOut_110 : decode cX8_workOut 110 = .ok (.iload_n 1, 1) := by decide +kernel
theorem dX8_workOut_111 : decode cX8_workOut 111 = .ok (.aload_n 0, 1) := by decide +kernel
theorem dX8_workOut_112 : decode cX8_workOut 112 = .ok (.getfield 64, 3) := by decide +kernel
theorem dX8_workOut_115 : decode cX8_workOut 115 = .ok (.if_icmp .ge 28, 3) := by decide +kernel
theorem dX8_workOut_118 : decode cX8_workOut 118 = .ok (.aload_n 0, 1) := by decide +kernel
theorem dX8_workOut_119 : decode cX8_workOut 119 = .ok (.getfield 15, 3) := by decide +kernel
theorem dX8_workOut_122 : decode cX8_workOut 122 = .ok (.aload_n 0, 1) := by decide +kernel
theorem dX8_workOut_123 : decode cX8_workOut 123 = .ok (.iload_n 1, 1) := by decide +kernel
theorem dX8_workOut_124 : decode cX8_workOut 124 = .ok (.invokevirtual 89, 3) := by decide +kernel
theorem dX8_workOut_127 : decode cX8_workOut 127 = .ok (.dup2, 1) := by decide +kernel
theorem dX8_workOut_128 : decode cX8_workOut 128 = .ok (.laload, 1) := by decide +kernel
theorem dX8_workOut_129 : decode cX8_workOut 129 = .ok (.aload_n 0, 1) := by decide +kernel
theorem dX8_workOut_130 : decode cX8_workOut 130 = .ok (.getfield 9, 3) := by decide +kernel
theorem dX8_workOut_133 : decode cX8_workOut 133 = .ok (.iload_n 1, 1) := by decide +kernel
theorem dX8_workOut_134 : decode cX8_workOut 134 = .ok (.laload, 1) := by decide +kernel
theorem dX8_workOut_135 : decode cX8_workOut 135 = .ok (.ladd, 1) := by decide +kernel
theorem dX8_workOut_136 : decode cX8_workOut 136 = .ok (.lastore, 1) := by decide +kernel
theorem dX8_workOut_137 : decode cX8_workOut 137 = .ok (.iinc 1 1, 3) := by decide +kernel
theorem dX8_workOut_140 : decode cX8_workOut 140 = .ok (.goto (-30), 3) := by decide +kernel
theorem dX8_workOut_143 : decode cX8_workOut 143 = .ok (.return_, 1) := by decide +kernel
abbrev o_X8_workOut_q106 : Type := Int32 × Int32 × Int32 × Int32 × Int32 × Int32 × Int32 × (Nat → Int32) × (Nat → Int32) × (Nat → Int32) × (Nat → Int32) × (Nat → Int32) × (Nat → Int32) × (Nat → Int32) × (Nat → Int32) × (Nat → Int64) × (Nat → Int64) × Nat × Nat × Nat × Nat × Nat × Nat
def f_X8_workOut_q106_L110 (S : wd_W) (o1 : o_X7_follow_q111) (o2 : o_X10_take_q117) (x3 : Int32) (x4 : Int32) (o5 : o_X8_makeRoom_q106) (a6 : Nat → Int32) (a7 : Nat → Int32) (o9 : o_X8_spread_q106) (r15 : (Int32) → (Nat → Int64) → (Option o_X8_workOut_q106)) (x13 : Int32) (a14 : Nat → Int64) : Option o_X8_workOut_q106 :=
if x3 ≤ x13 then (
some (x3, x4, o1.1, o1.2.1, o1.2.2.1, o1.2.2.2.1, o2.1, o9.1, a6, o1.2.2.2.2.1, o1.2.2.2.2.2.1, o1.2.2.2.2.2.2, a7, o2.2.1, o2.2.2, o9.2, a14, o5.2.2.2.2.1, o5.2.2.2.2.2.1, o5.2.2.2.2.2.2.1, o5.2.2.2.2.2.2.2.1, 0 + o5.2.2.2.2.2.2.2.2.1, 0 + o5.2.2.2.2.2.2.2.2.2)) else (
gd (okr (0 + o5.2.2.2.2.2.2.2.2.1) (0 + o5.2.2.2.2.2.2.2.2.2) 0 0 4 80000) <|
bd (f_X8_openIn_q106 (wd_o S [(10602, x3), (10603, x4), (11100, o1.1), (11101, o1.2.1), (11102, o1.2.2.1), (11103, o1.2.2.2.1), (11700, o2.1)] [] [(109, o9.1), (110, a6), (112, o1.2.2.2.2.1), (113, o1.2.2.2.2.2.1), (114, o1.2.2.2.2.2.2), (115, a7), (118, o2.2.1), (119, o2.2.2)] [(107, o9.2), (108, a14)] [(107, o5.2.2.2.2.1), (108, o5.2.2.2.2.2.1), (109, o5.2.2.2.2.2.2.1), (110, o5.2.2.2.2.2.2.2.1)]) x13) fun o16 =>
gd (okx o16 o5.2.2.2.2.2.1) <|
gd (okx x13 o5.2.2.2.2.1) <|
lz ((a14 o16.toNatClampNeg) + (o9.2 x13.toNatClampNeg)) fun x20 =>
gd (okx o16 o5.2.2.2.2.2.1) <|
lz (vp_updL a14 o16.toNatClampNeg x20) fun a22 =>
r15 (x13 + (1 : Int32)) a22)
def f_X8_workOut_q106_L59 (S : wd_W) (o1 : o_X7_follow_q111) (o2 : o_X10_take_q117) (x3 : Int32) (x4 : Int32) (o5 : o_X8_makeRoom_q106) (k96_8 : (Nat → Int32) → (Nat → Int32) → (Option o_X8_workOut_q106)) (r28 : (Int32) → (Nat → Int32) → (Nat → Int32) → (Option o_X8_workOut_q106)) (x25 : Int32) (a26 : Nat → Int32) (a27 : Nat → Int32) : Option o_X8_workOut_q106 :=
if x4 < x25 then (
k96_8 a26 a27) else (
gd (okr (0 + o5.2.2.2.2.2.2.2.2.1) (0 + o5.2.2.2.2.2.2.2.2.2) 0 0 4 80000) <|
bd (f_X7_carries_q111 (wd_o S [(10602, x3), (10603, x4), (11100, o1.1), (11101, o1.2.1), (11102, o1.2.2.1), (11103, o1.2.2.2.1), (11700, o2.1)] [] [(109, o5.1), (110, a26), (112, o1.2.2.2.2.1), (113, o1.2.2.2.2.2.1), (114, o1.2.2.2.2.2.2), (115, a27), (118, o2.2.1), (119, o2.2.2)] [(107, o5.2.2.1), (108, o5.2.2.2.1)] [(107, o5.2.2.2.2.1), (108, o5.2.2.2.2.2.1), (109, o5.2.2.2.2.2.2.1), (110, o5.2.2.2.2.2.2.2.1)]) x25) fun o29 =>
lk (fun x31 x32 =>
lz (x31.toInt8.toInt32) fun x34 =>
gd (okx x32 o5.2.2.2.2.2.2.2.1) <|
lz (upd a26 x32.toNatClampNeg (vp_nar .byte x34)) fun a36 =>
r28 (x25 + (1 : Int32)) a36 o29.2) fun k88_33 =>
if o29.1 = 0 then (
k88_33 (0 : Int32) x25) else (
k88_33 (1 : Int32) x25))
def f_X8_workOut_q106 (S : wd_W) : Option o_X8_workOut_q106 :=
bd (f_X7_follow_q111 (wd_o S [(10602, (S.1 10602)), (10603, (S.1 10603)), (11100, (S.1 11100)), (11101, (S.1 11101)), (11102, (S.1 11102)), (11103, (S.1 11103)), (11700, (S.1 11700))] [] [(109, (S.2.2.1 109)), (110, (S.2.2.1 110)), (112, (S.2.2.1 112)), (113, (S.2.2.1 113)), (114, (S.2.2.1 114)), (115, (S.2.2.1 115)), (118, (S.2.2.1 118)), (119, (S.2.2.1 119))] [(107, (S.2.2.2.1 107)), (108, (S.2.2.2.1 108))] [(107, (S.2.2.2.2 107)), (108, (S.2.2.2.2 108)), (109, (S.2.2.2.2 109)), (110, (S.2.2.2.2 110))])) fun o1 =>
bd (f_X10_take_q117 (wd_o S [(10602, (S.1 10602)), (10603, (S.1 10603)), (11100, o1.1), (11101, o1.2.1), (11102, o1.2.2.1), (11103, o1.2.2.2.1), (11700, (S.1 11700))] [] [(109, (S.2.2.1 109)), (110, (S.2.2.1 110)), (112, o1.2.2.2.2.1), (113, o1.2.2.2.2.2.1), (114, o1.2.2.2.2.2.2), (115, (S.2.2.1 115)), (118, (S.2.2.1 118)), (119, (S.2.2.1 119))] [(107, (S.2.2.2.1 107)), (108, (S.2.2.2.1 108))] [(107, (S.2.2.2.2 107)), (108, (S.2.2.2.2 108)), (109, (S.2.2.2.2 109)), (110, (S.2.2.2.2 110))]) (0 : Int32)) fun o2 =>
lz ((1 : Int32) <<< (o2.1 &&& 31)) fun x3 =>
lz (((1 : Int32) <<< (o1.1 &&& 31)) - (1 : Int32)) fun x4 =>
bd (f_X8_makeRoom_q106 (wd_o S [(10602, x3), (10603, x4), (11100, o1.1), (11101, o1.2.1), (11102, o1.2.2.1), (11103, o1.2.2.2.1), (11700, o2.1)] [] [(109, (S.2.2.1 109)), (110, (S.2.2.1 110)), (112, o1.2.2.2.2.1), (113, o1.2.2.2.2.2.1), (114, o1.2.2.2.2.2.2), (115, (S.2.2.1 115)), (118, o2.2.1), (119, o2.2.2)] [(107, (S.2.2.2.1 107)), (108, (S.2.2.2.1 108))] [(107, (S.2.2.2.2 107)), (108, (S.2.2.2.2 108)), (109, (S.2.2.2.2 109)), (110, (S.2.2.2.2 110))]) x3 (x4 + (1 : Int32))) fun o5 =>
lk (fun a6 a7 =>
gd (okr (0 + o5.2.2.2.2.2.2.2.2.1) (0 + o5.2.2.2.2.2.2.2.2.2) 0 0 4 80000) <|
bd (f_X8_spread_q106 (wd_o S [(10602, x3), (10603, x4), (11100, o1.1), (11101, o1.2.1), (11102, o1.2.2.1), (11103, o1.2.2.2.1), (11700, o2.1)] [] [(109, o5.1), (110, a6), (112, o1.2.2.2.2.1), (113, o1.2.2.2.2.2.1), (114, o1.2.2.2.2.2.2), (115, a7), (118, o2.2.1), (119, o2.2.2)] [(107, o5.2.2.1), (108, o5.2.2.2.1)] [(107, o5.2.2.2.2.1), (108, o5.2.2.2.2.2.1), (109, o5.2.2.2.2.2.2.1), (110, o5.2.2.2.2.2.2.2.1)])) fun o9 =>
gd (okr (0 + o5.2.2.2.2.2.2.2.2.1) (0 + o5.2.2.2.2.2.2.2.2.2) 0 0 4 80000) <|
bd (f_J7_fill_d0a16_g108 (wd_o S [(10602, x3), (10603, x4), (11100, o1.1), (11101, o1.2.1), (11102, o1.2.2.1), (11103, o1.2.2.2.1), (11700, o2.1)] [] [(109, o9.1), (110, a6), (112, o1.2.2.2.2.1), (113, o1.2.2.2.2.2.1), (114, o1.2.2.2.2.2.2), (115, a7), (118, o2.2.1), (119, o2.2.2)] [(107, o9.2), (108, o5.2.2.2.1)] [(107, o5.2.2.2.2.1), (108, o5.2.2.2.2.2.1), (109, o5.2.2.2.2.2.2.1), (110, o5.2.2.2.2.2.2.2.1)]) (0 : Int64)) fun o11 =>
it2 (f_X8_workOut_q106_L110 S o1 o2 x3 x4 o5 a6 a7 o9) fuel (0 : Int32) o11) fun k96_8 =>
it3 (f_X8_workOut_q106_L59 S o1 o2 x3 x4 o5 k96_8) fuel (0 : Int32) o5.2.1 (S.2.2.1 115)
set_option maxRecDepth 100000 in
set_option maxHeartbeats 4000000 in
theorem c_X8_workOut_q106 (l : Launch) (D : va_G) (q g : Nat → Nat) (cy : Nat → ClassId) (z : (Nat → Nat) × (Nat → Nat) × Nat) (S : wd_W) (o : o_X8_workOut_q106) (hf : f_X8_workOut_q106 S = some o) : MX layX l yX8_workOut cX8_workOut 2 none ({ frames := 3, cells := 4, slots := 80000, locals := 74 } : Room) D q g cy z [.ref (q 106)] S true (none) (wd_o S [(10602, o.1), (10603, o.2.1), (11100, o.2.2.1), (11101, o.2.2.2.1), (11102, o.2.2.2.2.1), (11103, o.2.2.2.2.2.1), (11700, o.2.2.2.2.2.2.1)] [] [(109, o.2.2.2.2.2.2.2.1), (110, o.2.2.2.2.2.2.2.2.1), (112, o.2.2.2.2.2.2.2.2.2.1), (113, o.2.2.2.2.2.2.2.2.2.2.1), (114, o.2.2.2.2.2.2.2.2.2.2.2.1), (115, o.2.2.2.2.2.2.2.2.2.2.2.2.1), (118, o.2.2.2.2.2.2.2.2.2.2.2.2.2.1), (119, o.2.2.2.2.2.2.2.2.2.2.2.2.2.2.1)] [(107, o.2.2.2.2.2.2.2.2.2.2.2.2.2.2.2.1), (108, o.2.2.2.2.2.2.2.2.2.2.2.2.2.2.2.2.1)] [(107, o.2.2.2.2.2.2.2.2.2.2.2.2.2.2.2.2.2.1), (108, o.2.2.2.2.2.2.2.2.2.2.2.2.2.2.2.2.2.2.1), (109, o.2.2.2.2.2.2.2.2.2.2.2.2.2.2.2.2.2.2.2.1), (110, o.2.2.2.2.2.2.2.2.2.2.2.2.2.2.2.2.2.2.2.2.1)]) o.2.2.2.2.2.2.2.2.2.2.2.2.2.2.2.2.2.2.2.2.2.1 o.2.2.2.2.2.2.2.2.2.2.2.2.2.2.2.2.2.2.2.2.2.2 := by
  refine mx_of (own := RX8) (lc := [(0, .ref (q 106))]) (by decide +kernel) rfl layX_ok (Nat.le_of_ble_eq_true rfl) rfl ?_
  intro X hXl hXq hXz hC hQ
  subst hXl; subst hXq; subst hXz
  unfold f_X8_workOut_q106 at hf
  refine go_keys (L1 := [(10602, (S.1 10602)), (10603, (S.1 10603)), (11100, (S.1 11100)), (11101, (S.1 11101)), (11102, (S.1 11102)), (11103, (S.1 11103)), (11700, (S.1 11700))]) (L2 := []) (L3 := [(109, (S.2.2.1 109)), (110, (S.2.2.1 110)), (112, (S.2.2.1 112)), (113, (S.2.2.1 113)), (114, (S.2.2.1 114)), (115, (S.2.2.1 115)), (118, (S.2.2.1 118)), (119, (S.2.2.1 119))]) (L4 := [(107, (S.2.2.2.1 107)), (108, (S.2.2.2.1 108))]) (L5 := [(107, (S.2.2.2.2 107)), (108, (S.2.2.2.2 108)), (109, (S.2.2.2.2 109)), (110, (S.2.2.2.2 110))]) [10602, 10603, 11100, 11101, 11102, 11103, 11700] [] [109, 110, 112, 113, 114, 115, 118, 119] [107, 108] [107, 108, 109, 110] rfl rfl rfl rfl rfl ?_
  refine go_aload_n (pc' := 1) hC dX8_workOut_0 rfl rfl ?_
  refine go_getq (pc' := 4) hC 106 0 layX_106 rfl rfl inlX8 (Nat.le_of_ble_eq_true rfl) mw_100 rfl dX8_workOut_1 rfl ?_
  obtain ⟨o1, ho1, hf⟩ := bd_e hf
  refine go_callV1 (pc' := 7) (As := []) (st := []) (st' := []) (L1' := [(10602, (S.1 10602)), (10603, (S.1 10603)), (11100, o1.1), (11101, o1.2.1), (11102, o1.2.2.1), (11103, o1.2.2.2.1), (11700, (S.1 11700))]) (L2' := []) (L3' := [(109, (S.2.2.1 109)), (110, (S.2.2.1 110)), (112, o1.2.2.2.2.1), (113, o1.2.2.2.2.2.1), (114, o1.2.2.2.2.2.2), (115, (S.2.2.1 115)), (118, (S.2.2.1 118)), (119, (S.2.2.1 119))]) (L4' := [(107, (S.2.2.2.1 107)), (108, (S.2.2.2.1 108))]) (L5' := [(107, (S.2.2.2.2 107)), (108, (S.2.2.2.2 108)), (109, (S.2.2.2.2 109)), (110, (S.2.2.2.2 110))]) (cells' := 0) (slots' := 0)  (b := 111) hC dX8_workOut_4 ⟨mw_613, mw_616, mw_99, yd_yX7_follow, yp_yX7_follow, Nat.le_of_ble_eq_true rfl, Nat.le_of_ble_eq_true rfl, (Nat.le_of_ble_eq_true rfl), (Nat.le_of_ble_eq_true rfl)⟩ mw_614 mw_615 layX_111 rfl rfl rfl (Nat.le_of_ble_eq_true rfl) (c_X7_follow_q111 (x_l X) (x_D X) (x_q X) g (x_cy X) (x_z X) _  o1 ho1) rfl rfl rfl rfl rfl rfl rfl rfl rfl rfl rfl rfl rfl rfl ?_
  refine go_aload_n (pc' := 8) hC dX8_workOut_7 rfl rfl ?_
  refine go_getq (pc' := 11) hC 106 1 layX_106 rfl rfl inlX8 (Nat.le_of_ble_eq_true rfl) mw_104 rfl dX8_workOut_8 rfl ?_
  refine go_iconst (pc' := 12) hC dX8_workOut_11 ki_0 rfl ?_
  obtain ⟨o2, ho2, hf⟩ := bd_e hf
  refine go_callV1 (pc' := 15) (As := [.int (0 : Int32)]) (st := []) (st' := []) (L1' := [(10602, (S.1 10602)), (10603, (S.1 10603)), (11100, o1.1), (11101, o1.2.1), (11102, o1.2.2.1), (11103, o1.2.2.2.1), (11700, o2.1)]) (L2' := []) (L3' := [(109, (S.2.2.1 109)), (110, (S.2.2.1 110)), (112, o1.2.2.2.2.1), (113, o1.2.2.2.2.2.1), (114, o1.2.2.2.2.2.2), (115, (S.2.2.1 115)), (118, o2.2.1), (119, o2.2.2)]) (L4' := [(107, (S.2.2.2.1 107)), (108, (S.2.2.2.1 108))]) (L5' := [(107, (S.2.2.2.2 107)), (108, (S.2.2.2.2 108)), (109, (S.2.2.2.2 109)), (110, (S.2.2.2.2 110))]) (cells' := 0) (slots' := 0)  (b := 117) hC dX8_workOut_12 ⟨mw_633, mw_636, mw_103, yd_yX10_take, yp_yX10_take, Nat.le_of_ble_eq_true rfl, Nat.le_of_ble_eq_true rfl, (Nat.le_of_ble_eq_true rfl), (Nat.le_of_ble_eq_true rfl)⟩ mw_634 mw_635 layX_117 rfl rfl rfl (Nat.le_of_ble_eq_true rfl) (c_X10_take_q117 (x_l X) (x_D X) (x_q X) g (x_cy X) (x_z X) _ (0 : Int32) o2 ho2) rfl rfl rfl rfl rfl rfl rfl rfl rfl rfl rfl rfl rfl rfl ?_
  refine go_aload_n (pc' := 16) hC dX8_workOut_15 rfl rfl ?_
  refine go_iconst (pc' := 17) hC dX8_workOut_16 ki_1 rfl ?_
  refine go_aload_n (pc' := 18) hC dX8_workOut_17 rfl rfl ?_
  refine go_getq (pc' := 21) hC 106 1 layX_106 rfl rfl inlX8 (Nat.le_of_ble_eq_true rfl) mw_104 rfl dX8_workOut_18 rfl ?_
  refine go_geti (v := o2.1) (pc' := 24) hC 117 0 layX_117 rfl rfl inlX10 (Nat.le_of_ble_eq_true rfl) mw_609 rfl dX8_workOut_21 rfl rfl ?_
  refine go_ishl (pc' := 25) hC dX8_workOut_24 rfl ?_
  refine go_namei (fun x3 hx => ?_)
  have hf := lz_r hx hf
  clear hx
  refine go_puti (L1' := [(10602, x3), (10603, (S.1 10603)), (11100, o1.1), (11101, o1.2.1), (11102, o1.2.2.1), (11103, o1.2.2.2.1), (11700, o2.1)]) (pc' := 28) hC 106 2 layX_106 rfl rfl inlX8 tyX8_ok nmX8 (Nat.le_of_ble_eq_true rfl) mw_610 rfl rfl rfl rfl dX8_workOut_25 rfl rfl rfl ?_
  refine go_aload_n (pc' := 29) hC dX8_workOut_28 rfl rfl ?_
  refine go_iconst (pc' := 30) hC dX8_workOut_29 ki_1 rfl ?_
  refine go_aload_n (pc' := 31) hC dX8_workOut_30 rfl rfl ?_
  refine go_getq (pc' := 34) hC 106 0 layX_106 rfl rfl inlX8 (Nat.le_of_ble_eq_true rfl) mw_100 rfl dX8_workOut_31 rfl ?_
  refine go_geti (v := o1.1) (pc' := 37) hC 111 0 layX_111 rfl rfl inlX7 (Nat.le_of_ble_eq_true rfl) mw_611 rfl dX8_workOut_34 rfl rfl ?_
  refine go_ishl (pc' := 38) hC dX8_workOut_37 rfl ?_
  refine go_iconst (pc' := 39) hC dX8_workOut_38 ki_1 rfl ?_
  refine go_isub (pc' := 40) hC dX8_workOut_39 rfl ?_
  refine go_namei (fun x4 hx => ?_)
  have hf := lz_r hx hf
  clear hx
  refine go_puti (L1' := [(10602, x3), (10603, x4), (11100, o1.1), (11101, o1.2.1), (11102, o1.2.2.1), (11103, o1.2.2.2.1), (11700, o2.1)]) (pc' := 43) hC 106 3 layX_106 rfl rfl inlX8 tyX8_ok nmX8 (Nat.le_of_ble_eq_true rfl) mw_612 rfl rfl rfl rfl dX8_workOut_40 rfl rfl rfl ?_
  refine go_aload_n (pc' := 44) hC dX8_workOut_43 rfl rfl ?_
  refine go_aload_n (pc' := 45) hC dX8_workOut_44 rfl rfl ?_
  refine go_geti (v := x3) (pc' := 48) hC 106 2 layX_106 rfl rfl inlX8 (Nat.le_of_ble_eq_true rfl) mw_610 rfl dX8_workOut_45 rfl rfl ?_
  refine go_aload_n (pc' := 49) hC dX8_workOut_48 rfl rfl ?_
  refine go_geti (v := x4) (pc' := 52) hC 106 3 layX_106 rfl rfl inlX8 (Nat.le_of_ble_eq_true rfl) mw_612 rfl dX8_workOut_49 rfl rfl ?_
  refine go_iconst (pc' := 53) hC dX8_workOut_52 ki_1 rfl ?_
  refine go_iadd (pc' := 54) hC dX8_workOut_53 rfl ?_
  obtain ⟨o5, ho5, hf⟩ := bd_e hf
  refine go_callV (pc' := 57) (As := [.int x3, .int (x4 + (1 : Int32))]) (st := []) (st' := []) (L1' := [(10602, x3), (10603, x4), (11100, o1.1), (11101, o1.2.1), (11102, o1.2.2.1), (11103, o1.2.2.2.1), (11700, o2.1)]) (L2' := []) (L3' := [(109, o5.1), (110, o5.2.1), (112, o1.2.2.2.2.1), (113, o1.2.2.2.2.2.1), (114, o1.2.2.2.2.2.2), (115, (S.2.2.1 115)), (118, o2.2.1), (119, o2.2.2)]) (L4' := [(107, o5.2.2.1), (108, o5.2.2.2.1)]) (L5' := [(107, o5.2.2.2.2.1), (108, o5.2.2.2.2.2.1), (109, o5.2.2.2.2.2.2.1), (110, o5.2.2.2.2.2.2.2.1)]) (cells' := 0 + o5.2.2.2.2.2.2.2.2.1) (slots' := 0 + o5.2.2.2.2.2.2.2.2.2)  (b := 106) hC dX8_workOut_54 ⟨mw_657, mw_660, mw_31, yd_yX8_makeRoom, yp_yX8_makeRoom, Nat.le_of_ble_eq_true rfl, Nat.le_of_ble_eq_true rfl, (Nat.le_of_ble_eq_true rfl), (Nat.le_of_ble_eq_true rfl)⟩ mw_658 mw_659 layX_106 rfl rfl rfl (Nat.le_of_ble_eq_true rfl) (c_X8_makeRoom_q106 (x_l X) (x_D X) (x_q X) g (x_cy X) (x_z X) _ x3 (x4 + (1 : Int32)) o5 ho5) rfl rfl rfl rfl rfl rfl rfl rfl rfl rfl rfl rfl rfl rfl (fun g _ => ?_)
  refine go_iconst (pc' := 58) hC dX8_workOut_57 ki_0 rfl ?_
  refine go_istore_n (lc' := [(0, .ref (x_q X 106)), (1, .int (0 : Int32))]) (pc' := 59) hC dX8_workOut_58 (Nat.le_of_ble_eq_true rfl) rfl rfl ?_
  obtain ⟨k96_8, hk96_8, hf⟩ := lk_e2 hf
  have jk96_8 : ∀ (a6 : Nat → Int32) (a7 : Nat → Int32) (g : Nat → Nat), k96_8 a6 a7 = some o → Go X layX S 96 [(0, .ref (x_q X 106))] [] g [(10602, x3), (10603, x4), (11100, o1.1), (11101, o1.2.1), (11102, o1.2.2.1), (11103, o1.2.2.2.1), (11700, o2.1)] [] [(109, o5.1), (110, a6), (112, o1.2.2.2.2.1), (113, o1.2.2.2.2.2.1), (114, o1.2.2.2.2.2.2), (115, a7), (118, o2.2.1), (119, o2.2.2)] [(107, o5.2.2.1), (108, o5.2.2.2.1)] [(107, o5.2.2.2.2.1), (108, o5.2.2.2.2.2.1), (109, o5.2.2.2.2.2.2.1), (110, o5.2.2.2.2.2.2.2.1)] (0 + o5.2.2.2.2.2.2.2.2.1) (0 + o5.2.2.2.2.2.2.2.2.2) := by
    intro a6 a7 g hf
    have hf := hk96_8 a6 a7 hf
    clear hk96_8
    refine go_aload_n (pc' := 97) hC dX8_workOut_96 rfl rfl ?_
    obtain ⟨h10, hf⟩ := gd_e hf
    obtain ⟨o9, ho9, hf⟩ := bd_e hf
    refine go_callV1 (pc' := 100) (As := []) (st := []) (st' := []) (L1' := [(10602, x3), (10603, x4), (11100, o1.1), (11101, o1.2.1), (11102, o1.2.2.1), (11103, o1.2.2.2.1), (11700, o2.1)]) (L2' := []) (L3' := [(109, o9.1), (110, a6), (112, o1.2.2.2.2.1), (113, o1.2.2.2.2.2.1), (114, o1.2.2.2.2.2.2), (115, a7), (118, o2.2.1), (119, o2.2.2)]) (L4' := [(107, o9.2), (108, o5.2.2.2.1)]) (L5' := [(107, o5.2.2.2.2.1), (108, o5.2.2.2.2.2.1), (109, o5.2.2.2.2.2.2.1), (110, o5.2.2.2.2.2.2.2.1)]) (cells' := 0 + o5.2.2.2.2.2.2.2.2.1) (slots' := 0 + o5.2.2.2.2.2.2.2.2.2) (rc := { frames := 0, cells := 0, slots := 0, locals := 0 }) (b := 106) hC dX8_workOut_97 ⟨mw_698, mw_701, mw_31, yd_yX8_spread, yp_yX8_spread, Nat.le_of_ble_eq_true rfl, Nat.le_of_ble_eq_true rfl, (okr_c h10), (okr_s h10)⟩ mw_699 mw_700 layX_106 rfl rfl rfl (Nat.le_of_ble_eq_true rfl) (c_X8_spread_q106 (x_l X) (x_D X) (x_q X) g (x_cy X) (x_z X) _  o9 ho9) rfl rfl rfl rfl rfl rfl rfl rfl rfl rfl rfl rfl rfl rfl ?_
    refine go_aload_n (pc' := 101) hC dX8_workOut_100 rfl rfl ?_
    refine go_getg (pc' := 104) hC 106 5 layX_106 rfl rfl inlX8 (Nat.le_of_ble_eq_true rfl) mw_93 rfl dX8_workOut_101 rfl ?_
    refine go_lconst (pc' := 105) hC dX8_workOut_104 kl_0 rfl ?_
    obtain ⟨h12, hf⟩ := gd_e hf
    obtain ⟨o11, ho11, hf⟩ := bd_e hf
    refine go_callS1 (pc' := 108) (As := [.ref (g 108), .long (0 : Int64)]) (st := []) (st' := []) (L1' := [(10602, x3), (10603, x4), (11100, o1.1), (11101, o1.2.1), (11102, o1.2.2.1), (11103, o1.2.2.2.1), (11700, o2.1)]) (L2' := []) (L3' := [(109, o9.1), (110, a6), (112, o1.2.2.2.2.1), (113, o1.2.2.2.2.2.1), (114, o1.2.2.2.2.2.2), (115, a7), (118, o2.2.1), (119, o2.2.2)]) (L4' := [(107, o9.2), (108, o11)]) (L5' := [(107, o5.2.2.2.2.1), (108, o5.2.2.2.2.2.1), (109, o5.2.2.2.2.2.2.1), (110, o5.2.2.2.2.2.2.2.1)]) (cells' := 0 + o5.2.2.2.2.2.2.2.2.1) (slots' := 0 + o5.2.2.2.2.2.2.2.2.2) (rc := { frames := 0, cells := 0, slots := 0, locals := 0 }) hC dX8_workOut_105 ⟨mw_704, mw_706, mw_687, yd_yJ7_fill_d0a16, yp_yJ7_fill_d0a16, Nat.le_of_ble_eq_true rfl, Nat.le_of_ble_eq_true rfl, (okr_c h12), (okr_s h12)⟩ mw_705 rfl rfl (Nat.le_of_ble_eq_true rfl) (c_J7_fill_d0a16_g108 (x_l X) (x_D X) (x_q X) g (x_cy X) (x_z X) _ (0 : Int64) o11 ho11) rfl rfl rfl rfl rfl rfl rfl rfl rfl rfl rfl rfl rfl rfl ?_
    refine go_iconst (pc' := 109) hC dX8_workOut_108 ki_0 rfl ?_
    refine go_istore_n (lc' := [(0, .ref (x_q X 106)), (1, .int (0 : Int32))]) (pc' := 110) hC dX8_workOut_109 (Nat.le_of_ble_eq_true rfl) rfl rfl ?_
    have l110_24 : ∀ (nn : Nat) (x13 : Int32) (a14 : Nat → Int64) (g : Nat → Nat), it2 (f_X8_workOut_q106_L110 S o1 o2 x3 x4 o5 a6 a7 o9) nn x13 a14 = some o → Go X layX S 110 [(0, .ref (x_q X 106)), (1, .int x13)] [] g [(10602, x3), (10603, x4), (11100, o1.1), (11101, o1.2.1), (11102, o1.2.2.1), (11103, o1.2.2.2.1), (11700, o2.1)] [] [(109, o9.1), (110, a6), (112, o1.2.2.2.2.1), (113, o1.2.2.2.2.2.1), (114, o1.2.2.2.2.2.2), (115, a7), (118, o2.2.1), (119, o2.2.2)] [(107, o9.2), (108, a14)] [(107, o5.2.2.2.2.1), (108, o5.2.2.2.2.2.1), (109, o5.2.2.2.2.2.2.1), (110, o5.2.2.2.2.2.2.2.1)] (0 + o5.2.2.2.2.2.2.2.2.1) (0 + o5.2.2.2.2.2.2.2.2.2) := by
      intro nn
      induction nn with
      | zero =>
        intro x13 a14 g hf
        exact none_no hf
      | succ nn ih =>
        intro x13 a14 g hf
        have hf : f_X8_workOut_q106_L110 S o1 o2 x3 x4 o5 a6 a7 o9 (it2 (f_X8_workOut_q106_L110 S o1 o2 x3 x4 o5 a6 a7 o9) nn) x13 a14 = some o := hf
        generalize it2 (f_X8_workOut_q106_L110 S o1 o2 x3 x4 o5 a6 a7 o9) nn = r15 at ih hf
        unfold f_X8_workOut_q106_L110 at hf
        refine go_iload_n (pc' := 111) hC dX8_workOut_110 rfl rfl ?_
        refine go_aload_n (pc' := 112) hC dX8_workOut_111 rfl rfl ?_
        refine go_geti (v := x3) (pc' := 115) hC 106 2 layX_106 rfl rfl inlX8 (Nat.le_of_ble_eq_true rfl) mw_610 rfl dX8_workOut_112 rfl rfl ?_
        refine go_icmp_ge (tgt := 143) (pc' := 118) hC dX8_workOut_115 (by decide) rfl (fun h23 => ?_) (fun h23 => ?_)
        · have hf := ite_t h23 hf
          obtain rfl := Option.some.inj hf
          exact go_vret hC hQ dX8_workOut_143 rfl rfl rfl (fun h => nomatch h) rfl rfl
        · have hf := ite_f h23 hf
          refine go_aload_n (pc' := 119) hC dX8_workOut_118 rfl rfl ?_
          refine go_getg (pc' := 122) hC 106 5 layX_106 rfl rfl inlX8 (Nat.le_of_ble_eq_true rfl) mw_93 rfl dX8_workOut_119 rfl ?_
          refine go_aload_n (pc' := 123) hC dX8_workOut_122 rfl rfl ?_
          refine go_iload_n (pc' := 124) hC dX8_workOut_123 rfl rfl ?_
          obtain ⟨h17, hf⟩ := gd_e hf
          obtain ⟨o16, ho16, hf⟩ := bd_e hf
          refine go_callV0 (pc' := 127) (As := [.int x13]) (st := [.ref (g 108)]) (st' := [.int o16, .ref (g 108)])   (rc := { frames := 0, cells := 0, slots := 0, locals := 0 }) (b := 106) hC dX8_workOut_124 ⟨mw_707, mw_710, mw_31, yd_yX8_openIn, yp_yX8_openIn, Nat.le_of_ble_eq_true rfl, Nat.le_of_ble_eq_true rfl, (okr_c h17), (okr_s h17)⟩ mw_708 mw_709 layX_106 rfl rfl rfl (Nat.le_of_ble_eq_true rfl) (c_X8_openIn_q106 (x_l X) (x_D X) (x_q X) g (x_cy X) (x_z X) _ x13 o16 ho16) rfl rfl ?_
          refine go_dup2 (pc' := 128) hC dX8_workOut_127 rfl rfl rfl ?_
          obtain ⟨h18, hf⟩ := gd_e hf
          refine go_laldg (f := a14) (pc' := 129) hC 108 layX_108 rfl rfl dX8_workOut_128 (okx_in h18) rfl ?_
          refine go_aload_n (pc' := 130) hC dX8_workOut_129 rfl rfl ?_
          refine go_getg (pc' := 133) hC 106 4 layX_106 rfl rfl inlX8 (Nat.le_of_ble_eq_true rfl) mw_92 rfl dX8_workOut_130 rfl ?_
          refine go_iload_n (pc' := 134) hC dX8_workOut_133 rfl rfl ?_
          obtain ⟨h19, hf⟩ := gd_e hf
          refine go_laldg (f := o9.2) (pc' := 135) hC 107 layX_107 rfl rfl dX8_workOut_134 (okx_in h19) rfl ?_
          refine go_ladd (pc' := 136) hC dX8_workOut_135 rfl ?_
          refine go_namel (fun x20 hx => ?_)
          have hf := lz_r hx hf
          clear hx
          obtain ⟨h21, hf⟩ := gd_e hf
          refine go_lastg (f := a14) (pc' := 137) hC 108 layX_108 rfl rfl dX8_workOut_136 (okx_in h21) rfl rfl (fun a22 ha L4' hL => ?_)
          have hf := lz_r ha hf
          clear ha
          obtain rfl : L4' = [(107, o9.2), (108, a22)] := hL.symm
          refine go_iinc (lc' := [(0, .ref (x_q X 106)), (1, .int (x13 + (1 : Int32)))]) (pc' := 140) hC dX8_workOut_137 rfl ki_1 (Nat.le_of_ble_eq_true rfl) rfl rfl ?_
          refine go_goto (tgt := 110) hC dX8_workOut_140 (by decide) ?_
          exact ih (x13 + (1 : Int32)) a22 g hf
    exact l110_24 fuel (0 : Int32) o11 g hf
  clear hk96_8
  have l59_39 : ∀ (nn : Nat) (x25 : Int32) (a26 : Nat → Int32) (a27 : Nat → Int32) (g : Nat → Nat), it3 (f_X8_workOut_q106_L59 S o1 o2 x3 x4 o5 k96_8) nn x25 a26 a27 = some o → Go X layX S 59 [(0, .ref (x_q X 106)), (1, .int x25)] [] g [(10602, x3), (10603, x4), (11100, o1.1), (11101, o1.2.1), (11102, o1.2.2.1), (11103, o1.2.2.2.1), (11700, o2.1)] [] [(109, o5.1), (110, a26), (112, o1.2.2.2.2.1), (113, o1.2.2.2.2.2.1), (114, o1.2.2.2.2.2.2), (115, a27), (118, o2.2.1), (119, o2.2.2)] [(107, o5.2.2.1), (108, o5.2.2.2.1)] [(107, o5.2.2.2.2.1), (108, o5.2.2.2.2.2.1), (109, o5.2.2.2.2.2.2.1), (110, o5.2.2.2.2.2.2.2.1)] (0 + o5.2.2.2.2.2.2.2.2.1) (0 + o5.2.2.2.2.2.2.2.2.2) := by
    intro nn
    induction nn with
    | zero =>
      intro x25 a26 a27 g hf
      exact none_no hf
    | succ nn ih =>
      intro x25 a26 a27 g hf
      have hf : f_X8_workOut_q106_L59 S o1 o2 x3 x4 o5 k96_8 (it3 (f_X8_workOut_q106_L59 S o1 o2 x3 x4 o5 k96_8) nn) x25 a26 a27 = some o := hf
      generalize it3 (f_X8_workOut_q106_L59 S o1 o2 x3 x4 o5 k96_8) nn = r28 at ih hf
      unfold f_X8_workOut_q106_L59 at hf
      refine go_iload_n (pc' := 60) hC dX8_workOut_59 rfl rfl ?_
      refine go_aload_n (pc' := 61) hC dX8_workOut_60 rfl rfl ?_
      refine go_geti (v := x4) (pc' := 64) hC 106 3 layX_106 rfl rfl inlX8 (Nat.le_of_ble_eq_true rfl) mw_612 rfl dX8_workOut_61 rfl rfl ?_
      refine go_icmp_gt (tgt := 96) (pc' := 67) hC dX8_workOut_64 (by decide) rfl (fun h38 => ?_) (fun h38 => ?_)
      · have hf := ite_t h38 hf
        refine go_sub [0] rfl ?_
        exact jk96_8 a26 a27 g hf
      · have hf := ite_f h38 hf
        refine go_aload_n (pc' := 68) hC dX8_workOut_67 rfl rfl ?_
        refine go_getg (pc' := 71) hC 106 7 layX_106 rfl rfl inlX8 (Nat.le_of_ble_eq_true rfl) mw_96 rfl dX8_workOut_68 rfl ?_
        refine go_iload_n (pc' := 72) hC dX8_workOut_71 rfl rfl ?_
        refine go_aload_n (pc' := 73) hC dX8_workOut_72 rfl rfl ?_
        refine go_getq (pc' := 76) hC 106 0 layX_106 rfl rfl inlX8 (Nat.le_of_ble_eq_true rfl) mw_100 rfl dX8_workOut_73 rfl ?_
        refine go_iload_n (pc' := 77) hC dX8_workOut_76 rfl rfl ?_
        obtain ⟨h30, hf⟩ := gd_e hf
        obtain ⟨o29, ho29, hf⟩ := bd_e hf
        refine go_callV1 (pc' := 80) (As := [.int x25]) (st := [.int x25, .ref (g 110)]) (st' := [.int o29.1, .int x25, .ref (g 110)]) (L1' := [(10602, x3), (10603, x4), (11100, o1.1), (11101, o1.2.1), (11102, o1.2.2.1), (11103, o1.2.2.2.1), (11700, o2.1)]) (L2' := []) (L3' := [(109, o5.1), (110, a26), (112, o1.2.2.2.2.1), (113, o1.2.2.2.2.2.1), (114, o1.2.2.2.2.2.2), (115, o29.2), (118, o2.2.1), (119, o2.2.2)]) (L4' := [(107, o5.2.2.1), (108, o5.2.2.2.1)]) (L5' := [(107, o5.2.2.2.2.1), (108, o5.2.2.2.2.2.1), (109, o5.2.2.2.2.2.2.1), (110, o5.2.2.2.2.2.2.2.1)]) (cells' := 0 + o5.2.2.2.2.2.2.2.2.1) (slots' := 0 + o5.2.2.2.2.2.2.2.2.2) (rc := { frames := 2, cells := 0, slots := 0, locals := 51 }) (b := 111) hC dX8_workOut_77 ⟨mw_661, mw_664, mw_99, yd_yX7_carries, yp_yX7_carries, Nat.le_of_ble_eq_true rfl, Nat.le_of_ble_eq_true rfl, (okr_c h30), (okr_s h30)⟩ mw_662 mw_663 layX_111 rfl rfl rfl (Nat.le_of_ble_eq_true rfl) (c_X7_carries_q111 (x_l X) (x_D X) (x_q X) g (x_cy X) (x_z X) _ x25 o29 ho29) rfl rfl rfl rfl rfl rfl rfl rfl rfl rfl rfl rfl rfl rfl ?_
        obtain ⟨k88_33, hk88_33, hf⟩ := lk_e2 hf
        have jk88_33 : ∀ (x31 : Int32) (x32 : Int32) (g : Nat → Nat), k88_33 x31 x32 = some o → Go X layX S 88 [(0, .ref (x_q X 106)), (1, .int x25)] [.int x31, .int x32, .ref (g 110)] g [(10602, x3), (10603, x4), (11100, o1.1), (11101, o1.2.1), (11102, o1.2.2.1), (11103, o1.2.2.2.1), (11700, o2.1)] [] [(109, o5.1), (110, a26), (112, o1.2.2.2.2.1), (113, o1.2.2.2.2.2.1), (114, o1.2.2.2.2.2.2), (115, o29.2), (118, o2.2.1), (119, o2.2.2)] [(107, o5.2.2.1), (108, o5.2.2.2.1)] [(107, o5.2.2.2.2.1), (108, o5.2.2.2.2.2.1), (109, o5.2.2.2.2.2.2.1), (110, o5.2.2.2.2.2.2.2.1)] (0 + o5.2.2.2.2.2.2.2.2.1) (0 + o5.2.2.2.2.2.2.2.2.2) := by
          intro x31 x32 g hf
          have hf := hk88_33 x31 x32 hf
          clear hk88_33
          refine go_i2b (pc' := 89) hC dX8_workOut_88 rfl ?_
          refine go_namei (fun x34 hx => ?_)
          have hf := lz_r hx hf
          clear hx
          obtain ⟨h35, hf⟩ := gd_e hf
          refine go_bastg (f := a26) (pc' := 90) hC 110 layX_110 rfl rfl dX8_workOut_89 (okx_in h35) rfl rfl (fun a36 ha L3' hL => ?_)
          have hf := lz_r ha hf
          clear ha
          obtain rfl : L3' = [(109, o5.1), (110, a36), (112, o1.2.2.2.2.1), (113, o1.2.2.2.2.2.1), (114, o1.2.2.2.2.2.2), (115, o29.2), (118, o2.2.1), (119, o2.2.2)] := hL.symm
          refine go_iinc (lc' := [(0, .ref (x_q X 106)), (1, .int (x25 + (1 : Int32)))]) (pc' := 93) hC dX8_workOut_90 rfl ki_1 (Nat.le_of_ble_eq_true rfl) rfl rfl ?_
          refine go_goto (tgt := 59) hC dX8_workOut_93 (by decide) ?_
          exact ih (x25 + (1 : Int32)) a36 o29.2 g hf
        clear hk88_33
        refine go_if_eq (tgt := 87) (pc' := 83) hC dX8_workOut_80 (by decide) rfl (fun h37 => ?_) (fun h37 => ?_)
        · have hf := ite_t h37 hf
          refine go_iconst (pc' := 88) hC dX8_workOut_87 ki_0 rfl ?_
          exact jk88_33 (0 : Int32) x25 g hf
        · have hf := ite_f h37 hf
          refine go_iconst (pc' := 84) hC dX8_workOut_83 ki_1 rfl ?_
          refine go_goto (tgt := 88) hC dX8_workOut_84 (by decide) ?_
          exact jk88_33 (1 : Int32) x25 g hf
  exact l59_39 fuel (0 : Int32) o5.2.1 (S.2.2.1 115) g hf
theorem dX11_lacks_0 : decode cX11_lacks 0 = .ok (.iload_n 1, 1) := by decide +kernel
theorem dX11_lacks_1 : decode cX11_lacks 1 = .ok (.iload_n 2, 1) := by decide +kernel
theorem dX11_lacks_2 : decode cX11_lacks 2 = .ok (.iand, 1) := by decide +kernel
theorem dX11_lacks_3 : decode cX11_lacks 3 = .ok (.ifCond .eq 15, 3) := by decide +kernel
theorem dX11_lacks_6 : decode cX11_lacks 6 = .ok (.aload_n 0, 1) := by decide +kernel
theorem dX11_lacks_7 : decode cX11_lacks 7 = .ok (.iload_n 2, 1) := by decide +kernel
theorem dX11_lacks_8 : decode cX11_lacks 8 = .ok (.invokevirtual 246, 3) := by decide +kernel
theorem dX11_lacks_11 : decode cX11_lacks 11 = .ok (.ifCond .eq 7, 3) := by decide +kernel
theorem dX11_lacks_14 : decode cX11_lacks 14 = .ok (.iconst 1, 1) := by decide +kernel
theorem dX11_lacks_15 : decode cX11_lacks 15 = .ok (.goto 4, 3) := by decide +kernel
theorem dX11_lacks_18 : decode cX11_lacks 18 = .ok (.iconst 0, 1) := by decide +kernel
theorem dX11_lacks_19 : decode cX11_lacks 19 = .ok (.ireturn, 1) := by decide +kernel
abbrev o_X11_lacks : Type := Int32 × Int32
def f_X11_lacks (S : wd_W) (p1 : Int32) (p2 : Int32) : Option o_X11_lacks :=
if (p1 &&& p2) = 0 then (
some ((0 : Int32), (S.1 7))) else (
bd (f_X11_isNew (wd_o S [(7, (S.1 7))] [] [] [] []) p2) fun o1 =>
if o1.1 = 0 then (
some ((0 : Int32), o1.2)) else (
some ((1 : Int32), o1.2)))
set_option maxRecDepth 100000 in
set_option maxHeartbeats 4000000 in
theorem c_X11_lacks (l : Launch) (D : va_G) (q g : Nat → Nat) (cy : Nat → ClassId) (z : (Nat → Nat) × (Nat → Nat) × Nat) (S : wd_W) (p1 : Int32) (p2 : Int32) (o : o_X11_lacks) (hf : f_X11_lacks S p1 p2 = some o) : MX layX l yX11_lacks cX11_lacks 3 (some .boolean) ({ frames := 1, cells := 0, slots := 0, locals := 22 } : Room) D q g cy z [.ref (q 0), .int p1, .int p2] S false (some (.int o.1)) (wd_o S [(7, o.2)] [] [] [] []) 0 0 := by
  refine mx_of (own := RX11) (lc := [(0, .ref (q 0)), (1, .int p1), (2, .int p2)]) (by decide +kernel) rfl layX_ok (Nat.le_of_ble_eq_true rfl) rfl ?_
  intro X hXl hXq hXz hC hQ
  subst hXl; subst hXq; subst hXz
  unfold f_X11_lacks at hf
  refine go_keys (L1 := [(7, (S.1 7))]) (L2 := []) (L3 := []) (L4 := []) (L5 := []) [7] [] [] [] [] rfl rfl rfl rfl rfl ?_
  refine go_iload_n (pc' := 1) hC dX11_lacks_0 rfl rfl ?_
  refine go_iload_n (pc' := 2) hC dX11_lacks_1 rfl rfl ?_
  refine go_iand (pc' := 3) hC dX11_lacks_2 rfl ?_
  refine go_if_eq (tgt := 18) (pc' := 6) hC dX11_lacks_3 (by decide) rfl (fun h3 => ?_) (fun h3 => ?_)
  · have hf := ite_t h3 hf
    refine go_iconst (pc' := 19) hC dX11_lacks_18 ki_0 rfl ?_
    obtain rfl := Option.some.inj hf
    exact go_iret hC hQ dX11_lacks_19 rfl rfl rfl rfl (fun _ => rfl) rfl rfl
  · have hf := ite_f h3 hf
    refine go_aload_n (pc' := 7) hC dX11_lacks_6 rfl rfl ?_
    refine go_iload_n (pc' := 8) hC dX11_lacks_7 rfl rfl ?_
    obtain ⟨o1, ho1, hf⟩ := bd_e hf
    refine go_callV1 (pc' := 11) (As := [.int p2]) (st := []) (st' := [.int o1.1]) (L1' := [(7, o1.2)]) (L2' := []) (L3' := []) (L4' := []) (L5' := []) (cells' := 0) (slots' := 0)  (b := 0) hC dX11_lacks_8 ⟨mw_601, mw_604, mw_2, yd_yX11_isNew, yp_yX11_isNew, Nat.le_of_ble_eq_true rfl, Nat.le_of_ble_eq_true rfl, (Nat.le_of_ble_eq_true rfl), (Nat.le_of_ble_eq_true rfl)⟩ mw_602 mw_603 layX_0 rfl rfl rfl (Nat.le_of_ble_eq_true rfl) (c_X11_isNew (x_l X) (x_D X) (x_q X) g (x_cy X) (x_z X) _ p2 o1 ho1) rfl rfl rfl rfl rfl rfl rfl rfl rfl rfl rfl rfl rfl rfl ?_
    refine go_if_eq (tgt := 18) (pc' := 14) hC dX11_lacks_11 (by decide) rfl (fun h2 => ?_) (fun h2 => ?_)
    · have hf := ite_t h2 hf
      refine go_iconst (pc' := 19) hC dX11_lacks_18 ki_0 rfl ?_
      obtain rfl := Option.some.inj hf
      exact go_iret hC hQ dX11_lacks_19 rfl rfl rfl rfl (fun _ => rfl) rfl rfl
    · have hf := ite_f h2 hf
      refine go_iconst (pc' := 15) hC dX11_lacks_14 ki_1 rfl ?_
      refine go_goto (tgt := 19) hC dX11_lacks_15 (by decide) ?_
      obtain rfl := Option.some.inj hf
      exact go_iret hC hQ dX11_lacks_19 rfl rfl rfl rfl (fun _ => rfl) rfl rfl
theorem dX3_holding_0 : decode cX3_holding 0 = .ok (.aload_n 0, 1) := by decide +kernel
theorem dX3_holding_1 : decode cX3_holding 1 = .ok (.getfield 33, 3) := by decide +kernel
theorem dX3_holding_4 : decode cX3_holding 4 = .ok (.ifCond .eq 17, 3) := by decide +kernel
theorem dX3_holding_7 : decode cX3_holding 7 = .ok (.aload_n 0, 1) := by decide +kernel
theorem dX3_holding_8 : decode cX3_holding 8 = .ok (.getfield 22, 3) := by decide +kernel
theorem dX3_holding_11 : decode cX3_holding 11 = .ok (.getfield 44, 3) := by decide +kernel
theorem dX3_holding_14 : decode cX3_holding 14 = .ok (.iconst 1, 1) := by decide +kernel
theorem dX3_holding_15 : decode cX3_holding 15 = .ok (.isub, 1) := by decide +kernel
theorem dX3_holding_16 : decode cX3_holding 16 = .ok (.iload_n 1, 1) := by decide +kernel
theorem dX3_holding_17 : decode cX3_holding 17 = .ok (.ixor, 1) := by decide +kernel
theorem dX3_holding_18 : decode cX3_holding 18 = .ok (.goto 4, 3) := by decide +kernel
theorem dX3_holding_21 : decode cX3_holding 21 = .ok (.iload_n 1, 1) := by decide +kernel
theorem dX3_holding_22 : decode cX3_holding 22 = .ok (.ireturn, 1) := by decide +kernel
abbrev o_X3_holding_q123 : Type := Int32
def f_X3_holding_q123 (S : wd_W) (p1 : Int32) : Option o_X3_holding_q123 :=
if (S.1 12303) = 0 then (
some p1) else (
some (((S.1 10602) - (1 : Int32)) ^^^ p1))
set_option maxRecDepth 100000 in
set_option maxHeartbeats 4000000 in
theorem c_X3_holding_q123 (l : Launch) (D : va_G) (q g : Nat → Nat) (cy : Nat → ClassId) (z : (Nat → Nat) × (Nat → Nat) × Nat) (S : wd_W) (p1 : Int32) (o : o_X3_holding_q123) (hf : f_X3_holding_q123 S p1 = some o) : MX layX l yX3_holding cX3_holding 2 (some .int) ({ frames := 0, cells := 0, slots := 0, locals := 0 } : Room) D q g cy z [.ref (q 123), .int p1] S false (some (.int o)) (wd_o S [] [] [] [] []) 0 0 := by
  refine mx_of (own := RX3) (lc := [(0, .ref (q 123)), (1, .int p1)]) (by decide +kernel) rfl layX_ok (Nat.le_of_ble_eq_true rfl) rfl ?_
  intro X hXl hXq hXz hC hQ
  subst hXl; subst hXq; subst hXz
  unfold f_X3_holding_q123 at hf
  refine go_aload_n (pc' := 1) hC dX3_holding_0 rfl rfl ?_
  refine go_geti (v := (S.1 12303)) (pc' := 4) hC 123 3 layX_123 rfl rfl inlX3 (Nat.le_of_ble_eq_true rfl) mw_134 rfl dX3_holding_1 rfl rfl ?_
  refine go_if_eq (tgt := 21) (pc' := 7) hC dX3_holding_4 (by decide) rfl (fun h1 => ?_) (fun h1 => ?_)
  · have hf := ite_t h1 hf
    refine go_iload_n (pc' := 22) hC dX3_holding_21 rfl rfl ?_
    obtain rfl := Option.some.inj hf
    exact go_iret hC hQ dX3_holding_22 rfl rfl rfl rfl (fun _ => rfl) rfl rfl
  · have hf := ite_f h1 hf
    refine go_aload_n (pc' := 8) hC dX3_holding_7 rfl rfl ?_
    refine go_getq (pc' := 11) hC 123 6 layX_123 rfl rfl inlX3 (Nat.le_of_ble_eq_true rfl) mw_131 rfl dX3_holding_8 rfl ?_
    refine go_geti (v := (S.1 10602)) (pc' := 14) hC 106 2 layX_106 rfl rfl inlX8 (Nat.le_of_ble_eq_true rfl) mw_721 rfl dX3_holding_11 rfl rfl ?_
    refine go_iconst (pc' := 15) hC dX3_holding_14 ki_1 rfl ?_
    refine go_isub (pc' := 16) hC dX3_holding_15 rfl ?_
    refine go_iload_n (pc' := 17) hC dX3_holding_16 rfl rfl ?_
    refine go_ixor (pc' := 18) hC dX3_holding_17 rfl ?_
    refine go_goto (tgt := 22) hC dX3_holding_18 (by decide) ?_
    obtain rfl := Option.some.inj hf
    exact go_iret hC hQ dX3_holding_22 rfl rfl rfl rfl (fun _ => rfl) rfl rfl
theorem dX8_isThroughAfter_0 : decode cX8_isThroughAfter 0 = .ok (.iload_n 1, 1) := by decide +kernel
theorem dX8_isThroughAfter_1 : decode cX8_isThroughAfter 1 = .ok (.bipush 12, 2) := by decide +kernel
theorem dX8_isThroughAfter_3 : decode cX8_isThroughAfter 3 = .ok (.ishr, 1) := by decide +kernel
theorem dX8_isThroughAfter_4 : decode cX8_isThroughAfter 4 = .ok (.aload_n 0, 1) := by decide +kernel
theorem dX8_isThroughAfter_5 : decode cX8_isThroughAfter 5 = .ok (.getfield 31, 3) := by decide +kernel
theorem dX8_isThroughAfter_8 : decode cX8_isThroughAfter 8 = .ok (.getfield 100, 3) := by decide +kernel
theorem dX8_isThroughAfter_11 : decode cX8_isThroughAfter 11 = .ok (.iand, 1) := by decide +kernel
theorem dX8_isThroughAfter_12 : decode cX8_isThroughAfter 12 = .ok (.ifCond .ne 23, 3) := by decide +kernel
theorem dX8_isThroughAfter_15 : decode cX8_isThroughAfter 15 = .ok (.aload_n 0, 1) := by decide +kernel
theorem dX8_isThroughAfter_16 : decode cX8_isThroughAfter 16 = .ok (.getfield 22, 3) := by decide +kernel
theorem dX8_isThroughAfter_19 : decode cX8_isThroughAfter 19 = .ok (.aload_n 0, 1) := by decide +kernel
theorem dX8_isThroughAfter_20 : decode cX8_isThroughAfter 20 = .ok (.getfield 70, 3) := by decide +kernel
theorem dX8_isThroughAfter_23 : decode cX8_isThroughAfter 23 = .ok (.iload_n 1, 1) := by decide +kernel
theorem dX8_isThroughAfter_24 : decode cX8_isThroughAfter 24 = .ok (.iconst (-1), 1) := by decide +kernel
theorem dX8_isThroughAfter_25 : decode cX8_isThroughAfter 25 = .ok (.ixor, 1) := by decide +kernel
theorem dX8_isThroughAfter_26 : decode cX8_isThroughAfter 26 = .ok (.iand, 1) := by decide +kernel
theorem dX8_isThroughAfter_27 : decode cX8_isThroughAfter 27 = .ok (.baload, 1) := by decide +kernel
theorem dX8_isThroughAfter_28 : decode cX8_isThroughAfter 28 = .ok (.ifCond .eq 7, 3) := by decide +kernel
theorem dX8_isThroughAfter_31 : decode cX8_isThroughAfter 31 = .ok (.iconst 1, 1) := by decide +kernel
theorem dX8_isThroughAfter_32 : decode cX8_isThroughAfter 32 = .ok (.goto 4, 3) := by decide +kernel
theorem dX8_isThroughAfter_35 : decode cX8_isThroughAfter 35 = .ok (.iconst 0, 1) := by decide +kernel
theorem dX8_isThroughAfter_36 : decode cX8_isThroughAfter 36 = .ok (.ireturn, 1) := by decide +kernel
abbrev o_X8_isThroughAfter_q106 : Type := Int32
def f_X8_isThroughAfter_q106 (S : wd_W) (p1 : Int32) : Option o_X8_isThroughAfter_q106 :=
if ((p1 >>> ((12 : Int32) &&& 31)) &&& (S.1 11102)) = 0 then (
gd (okx ((S.1 10603) &&& (p1 ^^^ (-1 : Int32))) (S.2.2.2.2 110)) <|
if ((S.2.2.1 110) ((S.1 10603) &&& (p1 ^^^ (-1 : Int32))).toNatClampNeg) = 0 then (
some (0 : Int32)) else (
some (1 : Int32))) else (
some (0 : Int32))
set_option maxRecDepth 100000 in
set_option maxHeartbeats 4000000 in
theorem c_X8_isThroughAfter_q106 (l : Launch) (D : va_G) (q g : Nat → Nat) (cy : Nat → ClassId) (z : (Nat → Nat) × (Nat → Nat) × Nat) (S : wd_W) (p1 : Int32) (o : o_X8_isThroughAfter_q106) (hf : f_X8_isThroughAfter_q106 S p1 = some o) : MX layX l yX8_isThroughAfter cX8_isThroughAfter 2 (some .boolean) ({ frames := 0, cells := 0, slots := 0, locals := 0 } : Room) D q g cy z [.ref (q 106), .int p1] S false (some (.int o)) (wd_o S [] [] [] [] []) 0 0 := by
  refine mx_of (own := RX8) (lc := [(0, .ref (q 106)), (1, .int p1)]) (by decide +kernel) rfl layX_ok (Nat.le_of_ble_eq_true rfl) rfl ?_
  intro X hXl hXq hXz hC hQ
  subst hXl; subst hXq; subst hXz
  unfold f_X8_isThroughAfter_q106 at hf
  refine go_iload_n (pc' := 1) hC dX8_isThroughAfter_0 rfl rfl ?_
  refine go_bipush (pc' := 3) hC dX8_isThroughAfter_1 kb_12 rfl ?_
  refine go_ishr (pc' := 4) hC dX8_isThroughAfter_3 rfl ?_
  refine go_aload_n (pc' := 5) hC dX8_isThroughAfter_4 rfl rfl ?_
  refine go_getq (pc' := 8) hC 106 0 layX_106 rfl rfl inlX8 (Nat.le_of_ble_eq_true rfl) mw_100 rfl dX8_isThroughAfter_5 rfl ?_
  refine go_geti (v := (S.1 11102)) (pc' := 11) hC 111 2 layX_111 rfl rfl inlX7 (Nat.le_of_ble_eq_true rfl) mw_739 rfl dX8_isThroughAfter_8 rfl rfl ?_
  refine go_iand (pc' := 12) hC dX8_isThroughAfter_11 rfl ?_
  refine go_if_ne (tgt := 35) (pc' := 15) hC dX8_isThroughAfter_12 (by decide) rfl (fun h3 => ?_) (fun h3 => ?_)
  · have hf := ite_f h3 hf
    refine go_iconst (pc' := 36) hC dX8_isThroughAfter_35 ki_0 rfl ?_
    obtain rfl := Option.some.inj hf
    exact go_iret hC hQ dX8_isThroughAfter_36 rfl rfl rfl rfl (fun _ => rfl) rfl rfl
  · have hf := ite_t h3 hf
    refine go_aload_n (pc' := 16) hC dX8_isThroughAfter_15 rfl rfl ?_
    refine go_getg (pc' := 19) hC 106 7 layX_106 rfl rfl inlX8 (Nat.le_of_ble_eq_true rfl) mw_96 rfl dX8_isThroughAfter_16 rfl ?_
    refine go_aload_n (pc' := 20) hC dX8_isThroughAfter_19 rfl rfl ?_
    refine go_geti (v := (S.1 10603)) (pc' := 23) hC 106 3 layX_106 rfl rfl inlX8 (Nat.le_of_ble_eq_true rfl) mw_612 rfl dX8_isThroughAfter_20 rfl rfl ?_
    refine go_iload_n (pc' := 24) hC dX8_isThroughAfter_23 rfl rfl ?_
    refine go_iconst (pc' := 25) hC dX8_isThroughAfter_24 ki_m1 rfl ?_
    refine go_ixor (pc' := 26) hC dX8_isThroughAfter_25 rfl ?_
    refine go_iand (pc' := 27) hC dX8_isThroughAfter_26 rfl ?_
    obtain ⟨h1, hf⟩ := gd_e hf
    refine go_baldg (f := (S.2.2.1 110)) (pc' := 28) hC 110 layX_110 rfl rfl dX8_isThroughAfter_27 (okx_in h1) rfl ?_
    refine go_if_eq (tgt := 35) (pc' := 31) hC dX8_isThroughAfter_28 (by decide) rfl (fun h2 => ?_) (fun h2 => ?_)
    · have hf := ite_t h2 hf
      refine go_iconst (pc' := 36) hC dX8_isThroughAfter_35 ki_0 rfl ?_
      obtain rfl := Option.some.inj hf
      exact go_iret hC hQ dX8_isThroughAfter_36 rfl rfl rfl rfl (fun _ => rfl) rfl rfl
    · have hf := ite_f h2 hf
      refine go_iconst (pc' := 32) hC dX8_isThroughAfter_31 ki_1 rfl ?_
      refine go_goto (tgt := 36) hC dX8_isThroughAfter_32 (by decide) ?_
      obtain rfl := Option.some.inj hf
      exact go_iret hC hQ dX8_isThroughAfter_36 rfl rfl rfl rfl (fun _ => rfl) rfl rfl
theorem dX8_isThrough_0 : decode cX8_isThrough 0 = .ok (.aload_n 0, 1) := by decide +kernel
theorem dX8_isThrough_1 : decode cX8_isThrough 1 = .ok (.aload_n 0, 1) := by decide +kernel
theorem dX8_isThrough_2 : decode cX8_isThrough 2 = .ok (.getfield 18, 3) := by decide +kernel
theorem dX8_isThrough_5 : decode cX8_isThrough 5 = .ok (.iload_n 1, 1) := by decide +kernel
theorem dX8_isThrough_6 : decode cX8_isThrough 6 = .ok (.iaload, 1) := by decide +kernel
theorem dX8_isThrough_7 : decode cX8_isThrough 7 = .ok (.invokevirtual 97, 3) := by decide +kernel
theorem dX8_isThrough_10 : decode cX8_isThrough 10 = .ok (.ireturn, 1) := by decide +kernel
abbrev o_X8_isThrough_q106 : Type := Int32
def f_X8_isThrough_q106 (S : wd_W) (p1 : Int32) : Option o_X8_isThrough_q106 :=
gd (okx p1 (S.2.2.2.2 109)) <|
bd (f_X8_isThroughAfter_q106 (wd_o S [] [] [] [] []) ((S.2.2.1 109) p1.toNatClampNeg)) fun o2 =>
gd (okz o2) <|
some o2
set_option maxRecDepth 100000 in
set_option maxHeartbeats 4000000 in
theorem c_X8_isThrough_q106 (l : Launch) (D : va_G) (q g : Nat → Nat) (cy : Nat → ClassId) (z : (Nat → Nat) × (Nat → Nat) × Nat) (S : wd_W) (p1 : Int32) (o : o_X8_isThrough_q106) (hf : f_X8_isThrough_q106 S p1 = some o) : MX layX l yX8_isThrough cX8_isThrough 2 (some .boolean) ({ frames := 1, cells := 0, slots := 0, locals := 21 } : Room) D q g cy z [.ref (q 106), .int p1] S false (some (.int o)) (wd_o S [] [] [] [] []) 0 0 := by
  refine mx_of (own := RX8) (lc := [(0, .ref (q 106)), (1, .int p1)]) (by decide +kernel) rfl layX_ok (Nat.le_of_ble_eq_true rfl) rfl ?_
  intro X hXl hXq hXz hC hQ
  subst hXl; subst hXq; subst hXz
  unfold f_X8_isThrough_q106 at hf
  refine go_aload_n (pc' := 1) hC dX8_isThrough_0 rfl rfl ?_
  refine go_aload_n (pc' := 2) hC dX8_isThrough_1 rfl rfl ?_
  refine go_getg (pc' := 5) hC 106 6 layX_106 rfl rfl inlX8 (Nat.le_of_ble_eq_true rfl) mw_94 rfl dX8_isThrough_2 rfl ?_
  refine go_iload_n (pc' := 6) hC dX8_isThrough_5 rfl rfl ?_
  obtain ⟨h1, hf⟩ := gd_e hf
  refine go_ialdg (f := (S.2.2.1 109)) (pc' := 7) hC 109 layX_109 rfl rfl dX8_isThrough_6 (okx_in h1) rfl ?_
  obtain ⟨o2, ho2, hf⟩ := bd_e hf
  refine go_callV0 (pc' := 10) (As := [.int ((S.2.2.1 109) p1.toNatClampNeg)]) (st := []) (st' := [.int o2])    (b := 106) hC dX8_isThrough_7 ⟨mw_735, mw_738, mw_31, yd_yX8_isThroughAfter, yp_yX8_isThroughAfter, Nat.le_of_ble_eq_true rfl, Nat.le_of_ble_eq_true rfl, (Nat.le_of_ble_eq_true rfl), (Nat.le_of_ble_eq_true rfl)⟩ mw_736 mw_737 layX_106 rfl rfl rfl (Nat.le_of_ble_eq_true rfl) (c_X8_isThroughAfter_q106 (x_l X) (x_D X) (x_q X) g (x_cy X) (x_z X) _ ((S.2.2.1 109) p1.toNatClampNeg) o2 ho2) rfl rfl ?_
  obtain ⟨h3, hf⟩ := gd_e hf
  obtain rfl := Option.some.inj hf
  exact go_iret hC hQ dX8_isThrough_10 rfl (okz_n h3) rfl rfl (fun _ => rfl) rfl rfl
theorem dX3_isLeast_0 : decode cX3_isLeast 0 = .ok (.aload_n 0, 1) := by decide +kernel
theorem dX3_isLeast_1 : decode cX3_isLeast 1 = .ok (.iload_n 1, 1) := by decide +kernel
theorem dX3_isLeast_2 : decode cX3_isLeast 2 = .ok (.invokevirtual 62, 3) := by decide +kernel
theorem dX3_isLeast_5 : decode cX3_isLeast 5 = .ok (.istore_n 2, 1) := by decide +kernel
theorem dX3_isLeast_6 : decode cX3_isLeast 6 = .ok (.aload_n 0, 1) := by decide +kernel
theorem dX3_isLeast_7 : decode cX3_isLeast 7 = .ok (.getfield 22, 3) := by decide +kernel
theorem dX3_isLeast_10 : decode cX3_isLeast 10 = .ok (.iload_n 2, 1) := by decide +kernel
theorem dX3_isLeast_11 : decode cX3_isLeast 11 = .ok (.invokevirtual 66, 3) := by decide +kernel
theorem dX3_isLeast_14 : decode cX3_isLeast 14 = .ok (.aload_n 0, 1) := by decide +kernel
theorem dX3_isLeast_15 : decode cX3_isLeast 15 = .ok (.getfield 33, 3) := by decide +kernel
theorem dX3_isLeast_18 : decode cX3_isLeast 18 = .ok (.if_icmp .ne 5, 3) := by decide +kernel
theorem dX3_isLeast_21 : decode cX3_isLeast 21 = .ok (.iconst 0, 1) := by decide +kernel
theorem dX3_isLeast_22 : decode cX3_isLeast 22 = .ok (.ireturn, 1) := by decide +kernel
theorem dX3_isLeast_23 : decode cX3_isLeast 23 = .ok (.iconst 0, 1) := by decide +kernel
theorem dX3_isLeast_24 : decode cX3_isLeast 24 = .ok (.istore_n 3, 1) := by decide +kernel
theorem dX3_isLeast_25 : decode cX3_isLeast 25 = .ok (.iload_n 3, 1) := by decide +kernel
theorem dX3_isLeast_26 : decode cX3_isLeast 26 = .ok (.aload_n 0, 1) := by decide +kernel
theorem dX3_isLeast_27 : decode cX3_isLeast 27 = .ok (.getfield 32, 3) := by decide +kernel
theorem dX3_isLeast_30 : decode cX3_isLeast 30 = .ok (.getfield 69, 3) := by decide +kernel
theorem dX3_isLeast_33 : decode cX3_isLeast 33 = .ok (.if_icmp .ge 38, 3) := by decide +kernel
theorem dX3_isLeast_36 : decode cX3_isLeast 36 = .ok (.iload_n 1, 1) := by decide +kernel
theorem dX3_isLeast_37 : decode cX3_isLeast 37 = .ok (.iload_n 3, 1) := by decide +kernel
theorem dX3_isLeast_38 : decode cX3_isLeast 38 = .ok (.ishr, 1) := by decide +kernel
theorem dX3_isLeast_39 : decode cX3_isLeast 39 = .ok (.iconst 1, 1) := by decide +kernel
theorem dX3_isLeast_40 : decode cX3_isLeast 40 = .ok (.iand, 1) := by decide +kernel
theorem dX3_isLeast_41 : decode cX3_isLeast 41 = .ok (.ifCond .eq 24, 3) := by decide +kernel
theorem dX3_isLeast_44 : decode cX3_isLeast 44 = .ok (.aload_n 0, 1) := by decide +kernel
theorem dX3_isLeast_45 : decode cX3_isLeast 45 = .ok (.getfield 22, 3) := by decide +kernel
theorem dX3_isLeast_48 : decode cX3_isLeast 48 = .ok (.iload_n 2, 1) := by decide +kernel
theorem dX3_isLeast_49 : decode cX3_isLeast 49 = .ok (.iconst 1, 1) := by decide +kernel
theorem dX3_isLeast_50 : decode cX3_isLeast 50 = .ok (.iload_n 3, 1) := by decide +kernel
theorem dX3_isLeast_51 : decode cX3_isLeast 51 = .ok (.ishl, 1) := by decide +kernel
theorem dX3_isLeast_52 : decode cX3_isLeast 52 = .ok (.ixor, 1) := by decide +kernel
theorem dX3_isLeast_53 : decode cX3_isLeast 53 = .ok (.invokevirtual 66, 3) := by decide +kernel
theorem dX3_isLeast_56 : decode cX3_isLeast 56 = .ok (.aload_n 0, 1) := by decide +kernel
theorem dX3_isLeast_57 : decode cX3_isLeast 57 = .ok (.getfield 33, 3) := by decide +kernel
theorem dX3_isLeast_60 : decode cX3_isLeast 60 = .ok (.if_icmp .eq 5, 3) := by decide +kernel
theorem dX3_isLeast_63 : decode cX3_isLeast 63 = .ok (.iconst 0, 1) := by decide +kernel
theorem dX3_isLeast_64 : decode cX3_isLeast 64 = .ok (.ireturn, 1) := by decide +kernel
theorem dX3_isLeast_65 : decode cX3_isLeast 65 = .ok (.iinc 3 1, 3) := by decide +kernel
theorem dX3_isLeast_68 : decode cX3_isLeast 68 = .ok (.goto (-43), 3) := by decide +kernel
theorem dX3_isLeast_71 : decode cX3_isLeast 71 = .ok (.iconst 1, 1) := by decide +kernel
theorem dX3_isLeast_72 : decode cX3_isLeast 72 = .ok (.ireturn, 1) := by decide +kernel
abbrev o_X3_isLeast_q123 : Type := Int32
def f_X3_isLeast_q123_L25 (S : wd_W) (p1 : Int32) (o1 : o_X3_holding_q123) (r4 : (Int32) → (Option o_X3_isLeast_q123)) (x3 : Int32) : Option o_X3_isLeast_q123 :=
if (S.1 11700) ≤ x3 then (
some (1 : Int32)) else (
lk (r4 (x3 + (1 : Int32))) fun k65_5 =>
if ((p1 >>> (x3 &&& 31)) &&& (1 : Int32)) = 0 then (
k65_5) else (
bd (f_X8_isThrough_q106 (wd_o S [] [] [] [] []) (o1 ^^^ ((1 : Int32) <<< (x3 &&& 31)))) fun o6 =>
if o6 = (S.1 12303) then (
k65_5) else (
some (0 : Int32))))
def f_X3_isLeast_q123 (S : wd_W) (p1 : Int32) : Option o_X3_isLeast_q123 :=
bd (f_X3_holding_q123 (wd_o S [] [] [] [] []) p1) fun o1 =>
bd (f_X8_isThrough_q106 (wd_o S [] [] [] [] []) o1) fun o2 =>
if o2 = (S.1 12303) then (
some (0 : Int32)) else (
it1 (f_X3_isLeast_q123_L25 S p1 o1) fuel (0 : Int32))
set_option maxRecDepth 100000 in
set_option maxHeartbeats 4000000 in
theorem c_X3_isLeast_q123 (l : Launch) (D : va_G) (q g : Nat → Nat) (cy : Nat → ClassId) (z : (Nat → Nat) × (Nat → Nat) × Nat) (S : wd_W) (p1 : Int32) (o : o_X3_isLeast_q123) (hf : f_X3_isLeast_q123 S p1 = some o) : MX layX l yX3_isLeast cX3_isLeast 4 (some .boolean) ({ frames := 2, cells := 0, slots := 0, locals := 42 } : Room) D q g cy z [.ref (q 123), .int p1] S false (some (.int o)) (wd_o S [] [] [] [] []) 0 0 := by
  refine mx_of (own := RX3) (lc := [(0, .ref (q 123)), (1, .int p1)]) (by decide +kernel) rfl layX_ok (Nat.le_of_ble_eq_true rfl) rfl ?_
  intro X hXl hXq hXz hC hQ
  subst hXl; subst hXq; subst hXz
  unfold f_X3_isLeast_q123 at hf
  refine go_aload_n (pc' := 1) hC dX3_isLeast_0 rfl rfl ?_
  refine go_iload_n (pc' := 2) hC dX3_isLeast_1 rfl rfl ?_
  obtain ⟨o1, ho1, hf⟩ := bd_e hf
  refine go_callV0 (pc' := 5) (As := [.int p1]) (st := []) (st' := [.int o1])    (b := 123) hC dX3_isLeast_2 ⟨mw_727, mw_730, mw_35, yd_yX3_holding, yp_yX3_holding, Nat.le_of_ble_eq_true rfl, Nat.le_of_ble_eq_true rfl, (Nat.le_of_ble_eq_true rfl), (Nat.le_of_ble_eq_true rfl)⟩ mw_728 mw_729 layX_123 rfl rfl rfl (Nat.le_of_ble_eq_true rfl) (c_X3_holding_q123 (x_l X) (x_D X) (x_q X) g (x_cy X) (x_z X) _ p1 o1 ho1) rfl rfl ?_
  refine go_istore_n (lc' := [(0, .ref (x_q X 123)), (1, .int p1), (2, .int o1)]) (pc' := 6) hC dX3_isLeast_5 (Nat.le_of_ble_eq_true rfl) rfl rfl ?_
  refine go_aload_n (pc' := 7) hC dX3_isLeast_6 rfl rfl ?_
  refine go_getq (pc' := 10) hC 123 6 layX_123 rfl rfl inlX3 (Nat.le_of_ble_eq_true rfl) mw_131 rfl dX3_isLeast_7 rfl ?_
  refine go_iload_n (pc' := 11) hC dX3_isLeast_10 rfl rfl ?_
  obtain ⟨o2, ho2, hf⟩ := bd_e hf
  refine go_callV0 (pc' := 14) (As := [.int o1]) (st := []) (st' := [.int o2])    (b := 106) hC dX3_isLeast_11 ⟨mw_731, mw_734, mw_31, yd_yX8_isThrough, yp_yX8_isThrough, Nat.le_of_ble_eq_true rfl, Nat.le_of_ble_eq_true rfl, (Nat.le_of_ble_eq_true rfl), (Nat.le_of_ble_eq_true rfl)⟩ mw_732 mw_733 layX_106 rfl rfl rfl (Nat.le_of_ble_eq_true rfl) (c_X8_isThrough_q106 (x_l X) (x_D X) (x_q X) g (x_cy X) (x_z X) _ o1 o2 ho2) rfl rfl ?_
  refine go_aload_n (pc' := 15) hC dX3_isLeast_14 rfl rfl ?_
  refine go_geti (v := (S.1 12303)) (pc' := 18) hC 123 3 layX_123 rfl rfl inlX3 (Nat.le_of_ble_eq_true rfl) mw_134 rfl dX3_isLeast_15 rfl rfl ?_
  refine go_icmp_ne (tgt := 23) (pc' := 21) hC dX3_isLeast_18 (by decide) rfl (fun h11 => ?_) (fun h11 => ?_)
  · have hf := ite_f h11 hf
    refine go_iconst (pc' := 24) hC dX3_isLeast_23 ki_0 rfl ?_
    refine go_istore_n (lc' := [(0, .ref (x_q X 123)), (1, .int p1), (2, .int o1), (3, .int (0 : Int32))]) (pc' := 25) hC dX3_isLeast_24 (Nat.le_of_ble_eq_true rfl) rfl rfl ?_
    have l25_10 : ∀ (nn : Nat) (x3 : Int32), it1 (f_X3_isLeast_q123_L25 S p1 o1) nn x3 = some o → Go X layX S 25 [(0, .ref (x_q X 123)), (1, .int p1), (2, .int o1), (3, .int x3)] [] g [] [] [] [] [] 0 0 := by
      intro nn
      induction nn with
      | zero =>
        intro x3 hf
        exact none_no hf
      | succ nn ih =>
        intro x3 hf
        have hf : f_X3_isLeast_q123_L25 S p1 o1 (it1 (f_X3_isLeast_q123_L25 S p1 o1) nn) x3 = some o := hf
        generalize it1 (f_X3_isLeast_q123_L25 S p1 o1) nn = r4 at ih hf
        unfold f_X3_isLeast_q123_L25 at hf
        refine go_iload_n (pc' := 26) hC dX3_isLeast_25 rfl rfl ?_
        refine go_aload_n (pc' := 27) hC dX3_isLeast_26 rfl rfl ?_
        refine go_getq (pc' := 30) hC 123 7 layX_123 rfl rfl inlX3 (Nat.le_of_ble_eq_true rfl) mw_133 rfl dX3_isLeast_27 rfl ?_
        refine go_geti (v := (S.1 11700)) (pc' := 33) hC 117 0 layX_117 rfl rfl inlX10 (Nat.le_of_ble_eq_true rfl) mw_726 rfl dX3_isLeast_30 rfl rfl ?_
        refine go_icmp_ge (tgt := 71) (pc' := 36) hC dX3_isLeast_33 (by decide) rfl (fun h9 => ?_) (fun h9 => ?_)
        · have hf := ite_t h9 hf
          refine go_iconst (pc' := 72) hC dX3_isLeast_71 ki_1 rfl ?_
          obtain rfl := Option.some.inj hf
          exact go_iret hC hQ dX3_isLeast_72 rfl rfl rfl rfl (fun _ => rfl) rfl rfl
        · have hf := ite_f h9 hf
          refine go_iload_n (pc' := 37) hC dX3_isLeast_36 rfl rfl ?_
          refine go_iload_n (pc' := 38) hC dX3_isLeast_37 rfl rfl ?_
          refine go_ishr (pc' := 39) hC dX3_isLeast_38 rfl ?_
          refine go_iconst (pc' := 40) hC dX3_isLeast_39 ki_1 rfl ?_
          refine go_iand (pc' := 41) hC dX3_isLeast_40 rfl ?_
          obtain ⟨k65_5, hk65_5, hf⟩ := lk_e0 hf
          have jk65_5 : ∀ (_ : Unit), k65_5 = some o → Go X layX S 65 [(0, .ref (x_q X 123)), (1, .int p1), (2, .int o1), (3, .int x3)] [] g [] [] [] [] [] 0 0 := by
            intro _ hf
            have hf := hk65_5 hf
            clear hk65_5
            refine go_iinc (lc' := [(0, .ref (x_q X 123)), (1, .int p1), (2, .int o1), (3, .int (x3 + (1 : Int32)))]) (pc' := 68) hC dX3_isLeast_65 rfl ki_1 (Nat.le_of_ble_eq_true rfl) rfl rfl ?_
            refine go_goto (tgt := 25) hC dX3_isLeast_68 (by decide) ?_
            exact ih (x3 + (1 : Int32)) hf
          clear hk65_5
          refine go_if_eq (tgt := 65) (pc' := 44) hC dX3_isLeast_41 (by decide) rfl (fun h8 => ?_) (fun h8 => ?_)
          · have hf := ite_t h8 hf
            exact jk65_5 () hf
          · have hf := ite_f h8 hf
            refine go_aload_n (pc' := 45) hC dX3_isLeast_44 rfl rfl ?_
            refine go_getq (pc' := 48) hC 123 6 layX_123 rfl rfl inlX3 (Nat.le_of_ble_eq_true rfl) mw_131 rfl dX3_isLeast_45 rfl ?_
            refine go_iload_n (pc' := 49) hC dX3_isLeast_48 rfl rfl ?_
            refine go_iconst (pc' := 50) hC dX3_isLeast_49 ki_1 rfl ?_
            refine go_iload_n (pc' := 51) hC dX3_isLeast_50 rfl rfl ?_
            refine go_ishl (pc' := 52) hC dX3_isLeast_51 rfl ?_
            refine go_ixor (pc' := 53) hC dX3_isLeast_52 rfl ?_
            obtain ⟨o6, ho6, hf⟩ := bd_e hf
            refine go_callV0 (pc' := 56) (As := [.int (o1 ^^^ ((1 : Int32) <<< (x3 &&& 31)))]) (st := []) (st' := [.int o6])    (b := 106) hC dX3_isLeast_53 ⟨mw_731, mw_734, mw_31, yd_yX8_isThrough, yp_yX8_isThrough, Nat.le_of_ble_eq_true rfl, Nat.le_of_ble_eq_true rfl, (Nat.le_of_ble_eq_true rfl), (Nat.le_of_ble_eq_true rfl)⟩ mw_732 mw_733 layX_106 rfl rfl rfl (Nat.le_of_ble_eq_true rfl) (c_X8_isThrough_q106 (x_l X) (x_D X) (x_q X) g (x_cy X) (x_z X) _ (o1 ^^^ ((1 : Int32) <<< (x3 &&& 31))) o6 ho6) rfl rfl ?_
            refine go_aload_n (pc' := 57) hC dX3_isLeast_56 rfl rfl ?_
            refine go_geti (v := (S.1 12303)) (pc' := 60) hC 123 3 layX_123 rfl rfl inlX3 (Nat.le_of_ble_eq_true rfl) mw_134 rfl dX3_isLeast_57 rfl rfl ?_
            refine go_icmp_eq (tgt := 65) (pc' := 63) hC dX3_isLeast_60 (by decide) rfl (fun h7 => ?_) (fun h7 => ?_)
            · have hf := ite_t h7 hf
              exact jk65_5 () hf
            · have hf := ite_f h7 hf
              refine go_iconst (pc' := 64) hC dX3_isLeast_63 ki_0 rfl ?_
              obtain rfl := Option.some.inj hf
              exact go_iret hC hQ dX3_isLeast_64 rfl rfl rfl rfl (fun _ => rfl) rfl rfl
    exact l25_10 fuel (0 : Int32) hf
  · have hf := ite_t h11 hf
    refine go_iconst (pc' := 22) hC dX3_isLeast_21 ki_0 rfl ?_
    obtain rfl := Option.some.inj hf
    exact go_iret hC hQ dX3_isLeast_22 rfl rfl rfl rfl (fun _ => rfl) rfl rfl
theorem dX3_valueOf_0 : decode cX3_valueOf 0 = .ok (.lconst 1, 1) := by decide +kernel
theorem dX3_valueOf_1 : decode cX3_valueOf 1 = .ok (.lstore_n 2, 1) := by decide +kernel
theorem dX3_valueOf_2 : decode cX3_valueOf 2 = .ok (.iconst 0, 1) := by decide +kernel
theorem dX3_valueOf_3 : decode cX3_valueOf 3 = .ok (.istore 4, 2) := by decide +kernel
theorem dX3_valueOf_5 : decode cX3_valueOf 5 = .ok (.iload 4, 2) := by decide +kernel
theorem dX3_valueOf_7 : decode cX3_valueOf 7 = .ok (.aload_n 0, 1) := by decide +kernel
theorem dX3_valueOf_8 : decode cX3_valueOf 8 = .ok (.getfield 32, 3) := by decide +kernel
theorem dX3_valueOf_11 : decode cX3_valueOf 11 = .ok (.getfield 69, 3) := by decide +kernel
theorem dX3_valueOf_14 : decode cX3_valueOf 14 = .ok (.if_icmp .ge 65, 3) := by decide +kernel
theorem dX3_valueOf_17 : decode cX3_valueOf 17 = .ok (.aload_n 0, 1) := by decide +kernel
theorem dX3_valueOf_18 : decode cX3_valueOf 18 = .ok (.getfield 33, 3) := by decide +kernel
theorem dX3_valueOf_21 : decode cX3_valueOf 21 = .ok (.ifCond .eq 19, 3) := by decide +kernel
theorem dX3_valueOf_24 : decode cX3_valueOf 24 = .ok (.bipush 16, 2) := by decide +kernel
theorem dX3_valueOf_26 : decode cX3_valueOf 26 = .ok (.aload_n 0, 1) := by decide +kernel
theorem dX3_valueOf_27 : decode cX3_valueOf 27 = .ok (.getfield 32, 3) := by decide +kernel
theorem dX3_valueOf_30 : decode cX3_valueOf 30 = .ok (.getfield 74, 3) := by decide +kernel
theorem dX3_valueOf_33 : decode cX3_valueOf 33 = .ok (.iload 4, 2) := by decide +kernel
theorem dX3_valueOf_35 : decode cX3_valueOf 35 = .ok (.iaload, 1) := by decide +kernel
theorem dX3_valueOf_36 : decode cX3_valueOf 36 = .ok (.isub, 1) := by decide +kernel
theorem dX3_valueOf_37 : decode cX3_valueOf 37 = .ok (.goto 13, 3) := by decide +kernel
theorem dX3_valueOf_40 : decode cX3_valueOf 40 = .ok (.aload_n 0, 1) := by decide +kernel
theorem dX3_valueOf_41 : decode cX3_valueOf 41 = .ok (.getfield 32, 3) := by decide +kernel
theorem dX3_valueOf_44 : decode cX3_valueOf 44 = .ok (.getfield 74, 3) := by decide +kernel
theorem dX3_valueOf_47 : decode cX3_valueOf 47 = .ok (.iload 4, 2) := by decide +kernel
theorem dX3_valueOf_49 : decode cX3_valueOf 49 = .ok (.iaload, 1) := by decide +kernel
theorem dX3_valueOf_50 : decode cX3_valueOf 50 = .ok (.istore 5, 2) := by decide +kernel
theorem dX3_valueOf_52 : decode cX3_valueOf 52 = .ok (.lload_n 2, 1) := by decide +kernel
theorem dX3_valueOf_53 : decode cX3_valueOf 53 = .ok (.iload_n 1, 1) := by decide +kernel
theorem dX3_valueOf_54 : decode cX3_valueOf 54 = .ok (.iload 4, 2) := by decide +kernel
theorem dX3_valueOf_56 : decode cX3_valueOf 56 = .ok (.ishr, 1) := by decide +kernel
theorem dX3_valueOf_57 : decode cX3_valueOf 57 = .ok (.iconst 1, 1) := by decide +kernel
theorem dX3_valueOf_58 : decode cX3_valueOf 58 = .ok (.iand, 1) := by decide +kernel
theorem dX3_valueOf_59 : decode cX3_valueOf 59 = .ok (.ifCond .eq 9, 3) := by decide +kernel
theorem dX3_valueOf_62 : decode cX3_valueOf 62 = .ok (.iload 5, 2) := by decide +kernel
theorem dX3_valueOf_64 : decode cX3_valueOf 64 = .ok (.i2l, 1) := by decide +kernel
theorem dX3_valueOf_65 : decode cX3_valueOf 65 = .ok (.goto 6, 3) := by decide +kernel
theorem dX3_valueOf_68 : decode cX3_valueOf 68 = .ok (.ldc2_w 77, 3) := by decide +kernel
theorem dX3_valueOf_71 : decode cX3_valueOf 71 = .ok (.lmul, 1) := by decide +kernel
theorem dX3_valueOf_72 : decode cX3_valueOf 72 = .ok (.lstore_n 2, 1) := by decide +kernel
theorem dX3_valueOf_73 : decode cX3_valueOf 73 = .ok (.iinc 4 1, 3) := by decide +kernel
theorem dX3_valueOf_76 : decode cX3_valueOf 76 = .ok (.goto (-71), 3) := by decide +kernel
theorem dX3_valueOf_79 : decode cX3_valueOf 79 = .ok (.lload_n 2, 1) := by decide +kernel
theorem dX3_valueOf_80 : decode cX3_valueOf 80 = .ok (.lreturn, 1) := by decide +kernel
abbrev o_X3_valueOf_q123 : Type := Int64
def f_X3_valueOf_q123_L5 (S : wd_W) (p1 : Int32) (r3 : (Int64) → (Int32) → (Option o_X3_valueOf_q123)) (x1 : Int64) (x2 : Int32) : Option o_X3_valueOf_q123 :=
if (S.1 11700) ≤ x2 then (
some x1) else (
lk (fun x4 =>
lk (fun x6 x7 =>
lz (x7 * x6) fun x9 =>
r3 x9 (x2 + (1 : Int32))) fun k71_8 =>
if ((p1 >>> (x2 &&& 31)) &&& (1 : Int32)) = 0 then (
k71_8 (16 : Int64) x1) else (
k71_8 x4.toInt64 x1)) fun k50_5 =>
if (S.1 12303) = 0 then (
gd (okx x2 15) <|
k50_5 ((S.2.2.1 118) x2.toNatClampNeg)) else (
gd (okx x2 15) <|
k50_5 ((16 : Int32) - ((S.2.2.1 118) x2.toNatClampNeg))))
def f_X3_valueOf_q123 (S : wd_W) (p1 : Int32) : Option o_X3_valueOf_q123 :=
it2 (f_X3_valueOf_q123_L5 S p1) fuel (1 : Int64) (0 : Int32)
set_option maxRecDepth 100000 in
set_option maxHeartbeats 4000000 in
theorem c_X3_valueOf_q123 (l : Launch) (D : va_G) (q g : Nat → Nat) (cy : Nat → ClassId) (z : (Nat → Nat) × (Nat → Nat) × Nat) (S : wd_W) (p1 : Int32) (o : o_X3_valueOf_q123) (hf : f_X3_valueOf_q123 S p1 = some o) : MX layX l yX3_valueOf cX3_valueOf 6 (some .long) ({ frames := 0, cells := 0, slots := 0, locals := 0 } : Room) D q g cy z [.ref (q 123), .int p1] S false (some (.long o)) (wd_o S [] [] [] [] []) 0 0 := by
  refine mx_of (own := RX3) (lc := [(0, .ref (q 123)), (1, .int p1)]) (by decide +kernel) rfl layX_ok (Nat.le_of_ble_eq_true rfl) rfl ?_
  intro X hXl hXq hXz hC hQ
  subst hXl; subst hXq; subst hXz
  unfold f_X3_valueOf_q123 at hf
  refine go_lconst (pc' := 1) hC dX3_valueOf_0 kl_1 rfl ?_
  refine go_lstore_n (lc' := [(0, .ref (x_q X 123)), (1, .int p1), (2, .long (1 : Int64))]) (pc' := 2) hC dX3_valueOf_1 (Nat.le_of_ble_eq_true rfl) rfl rfl ?_
  refine go_iconst (pc' := 3) hC dX3_valueOf_2 ki_0 rfl ?_
  refine go_istore (lc' := [(0, .ref (x_q X 123)), (1, .int p1), (2, .long (1 : Int64)), (4, .int (0 : Int32))]) (pc' := 5) hC dX3_valueOf_3 (Nat.le_of_ble_eq_true rfl) rfl rfl ?_
  have l5_15 : ∀ (nn : Nat) (x1 : Int64) (x2 : Int32), it2 (f_X3_valueOf_q123_L5 S p1) nn x1 x2 = some o → Go X layX S 5 [(0, .ref (x_q X 123)), (1, .int p1), (2, .long x1), (4, .int x2)] [] g [] [] [] [] [] 0 0 := by
    intro nn
    induction nn with
    | zero =>
      intro x1 x2 hf
      exact none_no hf
    | succ nn ih =>
      intro x1 x2 hf
      have hf : f_X3_valueOf_q123_L5 S p1 (it2 (f_X3_valueOf_q123_L5 S p1) nn) x1 x2 = some o := hf
      generalize it2 (f_X3_valueOf_q123_L5 S p1) nn = r3 at ih hf
      unfold f_X3_valueOf_q123_L5 at hf
      refine go_iload (pc' := 7) hC dX3_valueOf_5 rfl rfl ?_
      refine go_aload_n (pc' := 8) hC dX3_valueOf_7 rfl rfl ?_
      refine go_getq (pc' := 11) hC 123 7 layX_123 rfl rfl inlX3 (Nat.le_of_ble_eq_true rfl) mw_133 rfl dX3_valueOf_8 rfl ?_
      refine go_geti (v := (S.1 11700)) (pc' := 14) hC 117 0 layX_117 rfl rfl inlX10 (Nat.le_of_ble_eq_true rfl) mw_726 rfl dX3_valueOf_11 rfl rfl ?_
      refine go_icmp_ge (tgt := 79) (pc' := 17) hC dX3_valueOf_14 (by decide) rfl (fun h14 => ?_) (fun h14 => ?_)
      · have hf := ite_t h14 hf
        refine go_lload_n (pc' := 80) hC dX3_valueOf_79 rfl rfl ?_
        obtain rfl := Option.some.inj hf
        exact go_lret hC hQ dX3_valueOf_80 rfl rfl rfl (fun _ => rfl) rfl rfl
      · have hf := ite_f h14 hf
        refine go_aload_n (pc' := 18) hC dX3_valueOf_17 rfl rfl ?_
        refine go_geti (v := (S.1 12303)) (pc' := 21) hC 123 3 layX_123 rfl rfl inlX3 (Nat.le_of_ble_eq_true rfl) mw_134 rfl dX3_valueOf_18 rfl rfl ?_
        obtain ⟨k50_5, hk50_5, hf⟩ := lk_e1 hf
        have jk50_5 : ∀ (x4 : Int32), k50_5 x4 = some o → Go X layX S 50 [(0, .ref (x_q X 123)), (1, .int p1), (2, .long x1), (4, .int x2)] [.int x4] g [] [] [] [] [] 0 0 := by
          intro x4 hf
          have hf := hk50_5 x4 hf
          clear hk50_5
          refine go_istore (lc' := [(0, .ref (x_q X 123)), (1, .int p1), (2, .long x1), (4, .int x2), (5, .int x4)]) (pc' := 52) hC dX3_valueOf_50 (Nat.le_of_ble_eq_true rfl) rfl rfl ?_
          refine go_lload_n (pc' := 53) hC dX3_valueOf_52 rfl rfl ?_
          refine go_iload_n (pc' := 54) hC dX3_valueOf_53 rfl rfl ?_
          refine go_iload (pc' := 56) hC dX3_valueOf_54 rfl rfl ?_
          refine go_ishr (pc' := 57) hC dX3_valueOf_56 rfl ?_
          refine go_iconst (pc' := 58) hC dX3_valueOf_57 ki_1 rfl ?_
          refine go_iand (pc' := 59) hC dX3_valueOf_58 rfl ?_
          obtain ⟨k71_8, hk71_8, hf⟩ := lk_e2 hf
          have jk71_8 : ∀ (x6 : Int64) (x7 : Int64), k71_8 x6 x7 = some o → Go X layX S 71 [(0, .ref (x_q X 123)), (1, .int p1), (4, .int x2)] [.long x6, .long x7] g [] [] [] [] [] 0 0 := by
            intro x6 x7 hf
            have hf := hk71_8 x6 x7 hf
            clear hk71_8
            refine go_lmul (pc' := 72) hC dX3_valueOf_71 rfl ?_
            refine go_namel (fun x9 hx => ?_)
            have hf := lz_r hx hf
            clear hx
            refine go_lstore_n (lc' := [(0, .ref (x_q X 123)), (1, .int p1), (2, .long x9), (4, .int x2)]) (pc' := 73) hC dX3_valueOf_72 (Nat.le_of_ble_eq_true rfl) rfl rfl ?_
            refine go_iinc (lc' := [(0, .ref (x_q X 123)), (1, .int p1), (2, .long x9), (4, .int (x2 + (1 : Int32)))]) (pc' := 76) hC dX3_valueOf_73 rfl ki_1 (Nat.le_of_ble_eq_true rfl) rfl rfl ?_
            refine go_goto (tgt := 5) hC dX3_valueOf_76 (by decide) ?_
            exact ih x9 (x2 + (1 : Int32)) hf
          clear hk71_8
          refine go_if_eq (tgt := 68) (pc' := 62) hC dX3_valueOf_59 (by decide) rfl (fun h10 => ?_) (fun h10 => ?_)
          · have hf := ite_t h10 hf
            refine go_ldc2 (pc' := 71) hC dX3_valueOf_68 mw_745 rfl ?_
            refine go_sub [0, 1, 4] rfl ?_
            exact jk71_8 (16 : Int64) x1 hf
          · have hf := ite_f h10 hf
            refine go_iload (pc' := 64) hC dX3_valueOf_62 rfl rfl ?_
            refine go_i2l (pc' := 65) hC dX3_valueOf_64 rfl ?_
            refine go_goto (tgt := 71) hC dX3_valueOf_65 (by decide) ?_
            refine go_sub [0, 1, 4] rfl ?_
            exact jk71_8 x4.toInt64 x1 hf
        clear hk50_5
        refine go_if_eq (tgt := 40) (pc' := 24) hC dX3_valueOf_21 (by decide) rfl (fun h13 => ?_) (fun h13 => ?_)
        · have hf := ite_t h13 hf
          refine go_aload_n (pc' := 41) hC dX3_valueOf_40 rfl rfl ?_
          refine go_getq (pc' := 44) hC 123 7 layX_123 rfl rfl inlX3 (Nat.le_of_ble_eq_true rfl) mw_133 rfl dX3_valueOf_41 rfl ?_
          refine go_getq (pc' := 47) hC 117 1 layX_117 rfl rfl inlX10 (Nat.le_of_ble_eq_true rfl) mw_744 rfl dX3_valueOf_44 rfl ?_
          refine go_iload (pc' := 49) hC dX3_valueOf_47 rfl rfl ?_
          obtain ⟨h11, hf⟩ := gd_e hf
          refine go_iald (f := (S.2.2.1 118)) (pc' := 50) hC 118 layX_118 rfl rfl dX3_valueOf_49 (okx_in h11) rfl ?_
          exact jk50_5 ((S.2.2.1 118) x2.toNatClampNeg) hf
        · have hf := ite_f h13 hf
          refine go_bipush (pc' := 26) hC dX3_valueOf_24 kb_16 rfl ?_
          refine go_aload_n (pc' := 27) hC dX3_valueOf_26 rfl rfl ?_
          refine go_getq (pc' := 30) hC 123 7 layX_123 rfl rfl inlX3 (Nat.le_of_ble_eq_true rfl) mw_133 rfl dX3_valueOf_27 rfl ?_
          refine go_getq (pc' := 33) hC 117 1 layX_117 rfl rfl inlX10 (Nat.le_of_ble_eq_true rfl) mw_744 rfl dX3_valueOf_30 rfl ?_
          refine go_iload (pc' := 35) hC dX3_valueOf_33 rfl rfl ?_
          obtain ⟨h12, hf⟩ := gd_e hf
          refine go_iald (f := (S.2.2.1 118)) (pc' := 36) hC 118 layX_118 rfl rfl dX3_valueOf_35 (okx_in h12) rfl ?_
          refine go_isub (pc' := 37) hC dX3_valueOf_36 rfl ?_
          refine go_goto (tgt := 50) hC dX3_valueOf_37 (by decide) ?_
          exact jk50_5 ((16 : Int32) - ((S.2.2.1 118) x2.toNatClampNeg)) hf
  exact l5_15 fuel (1 : Int64) (0 : Int32) hf
theorem dX3_tell_0 : decode cX3_tell 0 = .ok (.aload_n 0, 1) := by decide +kernel
theorem dX3_tell_1 : decode cX3_tell 1 = .ok (.getfield 41, 3) := by decide +kernel
theorem dX3_tell_4 : decode cX3_tell 4 = .ok (.istore 4, 2) := by decide +kernel
theorem dX3_tell_6 : decode cX3_tell 6 = .ok (.iload 4, 2) := by decide +kernel
theorem dX3_tell_8 : decode cX3_tell 8 = .ok (.ifCond .le 23, 3) := by decide +kernel
theorem dX3_tell_11 : decode cX3_tell 11 = .ok (.aload_n 0, 1) := by decide +kernel
theorem dX3_tell_12 : decode cX3_tell 12 = .ok (.getfield 15, 3) := by decide +kernel
theorem dX3_tell_15 : decode cX3_tell 15 = .ok (.iload 4, 2) := by decide +kernel
theorem dX3_tell_17 : decode cX3_tell 17 = .ok (.iconst 1, 1) := by decide +kernel
theorem dX3_tell_18 : decode cX3_tell 18 = .ok (.isub, 1) := by decide +kernel
theorem dX3_tell_19 : decode cX3_tell 19 = .ok (.laload, 1) := by decide +kernel
theorem dX3_tell_20 : decode cX3_tell 20 = .ok (.lload_n 2, 1) := by decide +kernel
theorem dX3_tell_21 : decode cX3_tell 21 = .ok (.lcmp, 1) := by decide +kernel
theorem dX3_tell_22 : decode cX3_tell 22 = .ok (.ifCond .ge 9, 3) := by decide +kernel
theorem dX3_tell_25 : decode cX3_tell 25 = .ok (.iinc 4 (-1), 3) := by decide +kernel
theorem dX3_tell_28 : decode cX3_tell 28 = .ok (.goto (-22), 3) := by decide +kernel
theorem dX3_tell_31 : decode cX3_tell 31 = .ok (.iload 4, 2) := by decide +kernel
theorem dX3_tell_33 : decode cX3_tell 33 = .ok (.bipush 60, 2) := by decide +kernel
theorem dX3_tell_35 : decode cX3_tell 35 = .ok (.if_icmp .lt 4, 3) := by decide +kernel
theorem dX3_tell_38 : decode cX3_tell 38 = .ok (.return_, 1) := by decide +kernel
theorem dX3_tell_39 : decode cX3_tell 39 = .ok (.aload_n 0, 1) := by decide +kernel
theorem dX3_tell_40 : decode cX3_tell 40 = .ok (.aload_n 0, 1) := by decide +kernel
theorem dX3_tell_41 : decode cX3_tell 41 = .ok (.getfield 41, 3) := by decide +kernel
theorem dX3_tell_44 : decode cX3_tell 44 = .ok (.iconst 1, 1) := by decide +kernel
theorem dX3_tell_45 : decode cX3_tell 45 = .ok (.iadd, 1) := by decide +kernel
theorem dX3_tell_46 : decode cX3_tell 46 = .ok (.bipush 60, 2) := by decide +kernel
theorem dX3_tell_48 : decode cX3_tell 48 = .ok (.invokestatic 79, 3) := by decide +kernel
theorem dX3_tell_51 : decode cX3_tell 51 = .ok (.putfield 41, 3) := by decide +kernel
theorem dX3_tell_54 : decode cX3_tell 54 = .ok (.aload_n 0, 1) := by decide +kernel
theorem dX3_tell_55 : decode cX3_tell 55 = .ok (.getfield 41, 3) := by decide +kernel
theorem dX3_tell_58 : decode cX3_tell 58 = .ok (.iconst 1, 1) := by decide +kernel
theorem dX3_tell_59 : decode cX3_tell 59 = .ok (.isub, 1) := by decide +kernel
theorem dX3_tell_60 : decode cX3_tell 60 = .ok (.istore 5, 2) := by decide +kernel
theorem dX3_tell_62 : decode cX3_tell 62 = .ok (.iload 5, 2) := by decide +kernel
theorem dX3_tell_64 : decode cX3_tell 64 = .ok (.iload 4, 2) := by decide +kernel
theorem dX3_tell_66 : decode cX3_tell 66 = .ok (.if_icmp .le 41, 3) := by decide +kernel
theorem dX3_tell_69 : decode cX3_tell 69 = .ok (.aload_n 0, 1) := by decide +kernel
theorem dX3_tell_70 : decode cX3_tell 70 = .ok (.getfield 9, 3) := by decide +kernel
theorem dX3_tell_73 : decode cX3_tell 73 = .ok (.iload 5, 2) := by decide +kernel
theorem dX3_tell_75 : decode cX3_tell 75 = .ok (.aload_n 0, 1) := by decide +kernel
theorem dX3_tell_76 : decode cX3_tell 76 = .ok (.getfield 9, 3) := by decide +kernel
theorem dX3_tell_79 : decode cX3_tell 79 = .ok (.iload 5, 2) := by decide +kernel
theorem dX3_tell_81 : decode cX3_tell 81 = .ok (.iconst 1, 1) := by decide +kernel
theorem dX3_tell_82 : decode cX3_tell 82 = .ok (.isub, 1) := by decide +kernel
theorem dX3_tell_83 : decode cX3_tell 83 = .ok (.iaload, 1) := by decide +kernel
theorem dX3_tell_84 : decode cX3_tell 84 = .ok (.iastore, 1) := by decide +kernel
theorem dX3_tell_85 : decode cX3_tell 85 = .ok (.aload_n 0, 1) := by decide +kernel
theorem dX3_tell_86 : decode cX3_tell 86 = .ok (.getfield 15, 3) := by decide +kernel
theorem dX3_tell_89 : decode cX3_tell 89 = .ok (.iload 5, 2) := by decide +kernel
theorem dX3_tell_91 : decode cX3_tell 91 = .ok (.aload_n 0, 1) := by decide +kernel
theorem dX3_tell_92 : decode cX3_tell 92 = .ok (.getfield 15, 3) := by decide +kernel
theorem dX3_tell_95 : decode cX3_tell 95 = .ok (.iload 5, 2) := by decide +kernel
theorem dX3_tell_97 : decode cX3_tell 97 = .ok (.iconst 1, 1) := by decide +kernel
theorem dX3_tell_98 : decode cX3_tell 98 = .ok (.isub, 1) := by decide +kernel
theorem dX3_tell_99 : decode cX3_tell 99 = .ok (.laload, 1) := by decide +kernel
theorem dX3_tell_100 : decode cX3_tell 100 = .ok (.lastore, 1) := by decide +kernel
theorem dX3_tell_101 : decode cX3_tell 101 = .ok (.iinc 5 (-1), 3) := by decide +kernel
theorem dX3_tell_104 : decode cX3_tell 104 = .ok (.goto (-42), 3) := by decide +kernel
theorem dX3_tell_107 : decode cX3_tell 107 = .ok (.aload_n 0, 1) := by decide +kernel
theorem dX3_tell_108 : decode cX3_tell 108 = .ok (.getfield 9, 3) := by decide +kernel
theorem dX3_tell_111 : decode cX3_tell 111 = .ok (.iload 4, 2) := by decide +kernel
theorem dX3_tell_113 : decode cX3_tell 113 = .ok (.iload_n 1, 1) := by decide +kernel
theorem dX3_tell_114 : decode cX3_tell 114 = .ok (.iastore, 1) := by decide +kernel
theorem dX3_tell_115 : decode cX3_tell 115 = .ok (.aload_n 0, 1) := by decide +kernel
theorem dX3_tell_116 : decode cX3_tell 116 = .ok (.getfield 15, 3) := by decide +kernel
theorem dX3_tell_119 : decode cX3_tell 119 = .ok (.iload 4, 2) := by decide +kernel
theorem dX3_tell_121 : decode cX3_tell 121 = .ok (.lload_n 2, 1) := by decide +kernel
theorem dX3_tell_122 : decode cX3_tell 122 = .ok (.lastore, 1) := by decide +kernel
theorem dX3_tell_123 : decode cX3_tell 123 = .ok (.return_, 1) := by decide +kernel
abbrev o_X3_tell_q123 : Type := Int32 × (Nat → Int32) × (Nat → Int64)
def f_X3_tell_q123_L62 (x2 : Int32) (k107_8 : (Nat → Int32) → (Nat → Int64) → (Option o_X3_tell_q123)) (r16 : (Int32) → (Nat → Int32) → (Nat → Int64) → (Option o_X3_tell_q123)) (x13 : Int32) (a14 : Nat → Int32) (a15 : Nat → Int64) : Option o_X3_tell_q123 :=
if x13 ≤ x2 then (
k107_8 a14 a15) else (
gd (okx (x13 - (1 : Int32)) 60) <|
lz (a14 (x13 - (1 : Int32)).toNatClampNeg) fun x18 =>
gd (okx x13 60) <|
lz (upd a14 x13.toNatClampNeg x18) fun a20 =>
gd (okx (x13 - (1 : Int32)) 60) <|
lz (a15 (x13 - (1 : Int32)).toNatClampNeg) fun x22 =>
gd (okx x13 60) <|
lz (vp_updL a15 x13.toNatClampNeg x22) fun a24 =>
r16 (x13 + (-1 : Int32)) a20 a24)
def f_X3_tell_q123_L6 (S : wd_W) (p2 : Int64) (k31_3 : (Int32) → (Option o_X3_tell_q123)) (r29 : (Int32) → (Option o_X3_tell_q123)) (x28 : Int32) : Option o_X3_tell_q123 :=
if x28 ≤ 0 then (
k31_3 x28) else (
gd (okx (x28 - (1 : Int32)) 60) <|
if p2 ≤ ((S.2.2.2.1 125) (x28 - (1 : Int32)).toNatClampNeg) then (
k31_3 x28) else (
r29 (x28 + (-1 : Int32))))
def f_X3_tell_q123 (S : wd_W) (p1 : Int32) (p2 : Int64) : Option o_X3_tell_q123 :=
lz ((S.1 12301)) fun x1 =>
lk (fun x2 =>
if x2 < (60 : Int32) then (
lz ((if (60 : Int32) < ((S.1 12301) + (1 : Int32)) then (60 : Int32) else ((S.1 12301) + (1 : Int32)))) fun x4 =>
lz (x4 - (1 : Int32)) fun x5 =>
lk (fun a6 a7 =>
gd (okx x2 60) <|
lz (upd a6 x2.toNatClampNeg p1) fun a10 =>
gd (okx x2 60) <|
lz (vp_updL a7 x2.toNatClampNeg p2) fun a12 =>
some (x4, a10, a12)) fun k107_8 =>
it3 (f_X3_tell_q123_L62 x2 k107_8) fuel x5 (S.2.2.1 124) (S.2.2.2.1 125)) else (
some ((S.1 12301), (S.2.2.1 124), (S.2.2.2.1 125)))) fun k31_3 =>
it1 (f_X3_tell_q123_L6 S p2 k31_3) fuel x1
set_option maxRecDepth 100000 in
set_option maxHeartbeats 4000000 in
theorem c_X3_tell_q123 (l : Launch) (D : va_G) (q g : Nat → Nat) (cy : Nat → ClassId) (z : (Nat → Nat) × (Nat → Nat) × Nat) (S : wd_W) (p1 : Int32) (p2 : Int64) (o : o_X3_tell_q123) (hf : f_X3_tell_q123 S p1 p2 = some o) : MX layX l yX3_tell cX3_tell 6 none ({ frames := 1, cells := 0, slots := 0, locals := 21 } : Room) D q g cy z [.ref (q 123), .int p1, .long p2] S false (none) (wd_o S [(12301, o.1)] [] [(124, o.2.1)] [(125, o.2.2)] []) 0 0 := by
  refine mx_of (own := RX3) (lc := [(0, .ref (q 123)), (1, .int p1), (2, .long p2)]) (by decide +kernel) rfl layX_ok (Nat.le_of_ble_eq_true rfl) rfl ?_
  intro X hXl hXq hXz hC hQ
  subst hXl; subst hXq; subst hXz
  unfold f_X3_tell_q123 at hf
  refine go_keys (L1 := [(12301, (S.1 12301))]) (L2 := []) (L3 := [(124, (S.2.2.1 124))]) (L4 := [(125, (S.2.2.2.1 125))]) (L5 := []) [12301] [] [124] [125] [] rfl rfl rfl rfl rfl ?_
  refine go_aload_n (pc' := 1) hC dX3_tell_0 rfl rfl ?_
  refine go_geti (v := (S.1 12301)) (pc' := 4) hC 123 1 layX_123 rfl rfl inlX3 (Nat.le_of_ble_eq_true rfl) mw_720 rfl dX3_tell_1 rfl rfl ?_
  refine go_namei (fun x1 hx => ?_)
  have hf := lz_r hx hf
  clear hx
  refine go_istore (lc' := [(0, .ref (x_q X 123)), (1, .int p1), (2, .long p2), (4, .int x1)]) (pc' := 6) hC dX3_tell_4 (Nat.le_of_ble_eq_true rfl) rfl rfl ?_
  obtain ⟨k31_3, hk31_3, hf⟩ := lk_e1 hf
  have jk31_3 : ∀ (x2 : Int32), k31_3 x2 = some o → Go X layX S 31 [(0, .ref (x_q X 123)), (1, .int p1), (2, .long p2), (4, .int x2)] [] g [(12301, (S.1 12301))] [] [(124, (S.2.2.1 124))] [(125, (S.2.2.2.1 125))] [] 0 0 := by
    intro x2 hf
    have hf := hk31_3 x2 hf
    clear hk31_3
    refine go_iload (pc' := 33) hC dX3_tell_31 rfl rfl ?_
    refine go_bipush (pc' := 35) hC dX3_tell_33 kb_60 rfl ?_
    refine go_icmp_lt (tgt := 39) (pc' := 38) hC dX3_tell_35 (by decide) rfl (fun h27 => ?_) (fun h27 => ?_)
    · have hf := ite_t h27 hf
      refine go_aload_n (pc' := 40) hC dX3_tell_39 rfl rfl ?_
      refine go_aload_n (pc' := 41) hC dX3_tell_40 rfl rfl ?_
      refine go_geti (v := (S.1 12301)) (pc' := 44) hC 123 1 layX_123 rfl rfl inlX3 (Nat.le_of_ble_eq_true rfl) mw_720 rfl dX3_tell_41 rfl rfl ?_
      refine go_iconst (pc' := 45) hC dX3_tell_44 ki_1 rfl ?_
      refine go_iadd (pc' := 46) hC dX3_tell_45 rfl ?_
      refine go_bipush (pc' := 48) hC dX3_tell_46 kb_60 rfl ?_
      refine go_mmin (pc' := 51) hC dX3_tell_48 mw_750 (Nat.le_of_ble_eq_true rfl) (Nat.le_of_ble_eq_true rfl) (Nat.le_of_ble_eq_true rfl) (Nat.le_of_ble_eq_true rfl) rfl ?_
      refine go_namei (fun x4 hx => ?_)
      have hf := lz_r hx hf
      clear hx
      refine go_puti (L1' := [(12301, x4)]) (pc' := 54) hC 123 1 layX_123 rfl rfl inlX3 tyX3_ok nmX3 (Nat.le_of_ble_eq_true rfl) mw_720 rfl rfl rfl rfl dX3_tell_51 rfl rfl rfl ?_
      refine go_aload_n (pc' := 55) hC dX3_tell_54 rfl rfl ?_
      refine go_geti (v := x4) (pc' := 58) hC 123 1 layX_123 rfl rfl inlX3 (Nat.le_of_ble_eq_true rfl) mw_720 rfl dX3_tell_55 rfl rfl ?_
      refine go_iconst (pc' := 59) hC dX3_tell_58 ki_1 rfl ?_
      refine go_isub (pc' := 60) hC dX3_tell_59 rfl ?_
      refine go_namei (fun x5 hx => ?_)
      have hf := lz_r hx hf
      clear hx
      refine go_istore (lc' := [(0, .ref (x_q X 123)), (1, .int p1), (2, .long p2), (4, .int x2), (5, .int x5)]) (pc' := 62) hC dX3_tell_60 (Nat.le_of_ble_eq_true rfl) rfl rfl ?_
      obtain ⟨k107_8, hk107_8, hf⟩ := lk_e2 hf
      have jk107_8 : ∀ (a6 : Nat → Int32) (a7 : Nat → Int64), k107_8 a6 a7 = some o → Go X layX S 107 [(0, .ref (x_q X 123)), (1, .int p1), (2, .long p2), (4, .int x2)] [] g [(12301, x4)] [] [(124, a6)] [(125, a7)] [] 0 0 := by
        intro a6 a7 hf
        have hf := hk107_8 a6 a7 hf
        clear hk107_8
        refine go_aload_n (pc' := 108) hC dX3_tell_107 rfl rfl ?_
        refine go_getq (pc' := 111) hC 123 2 layX_123 rfl rfl inlX3 (Nat.le_of_ble_eq_true rfl) mw_128 rfl dX3_tell_108 rfl ?_
        refine go_iload (pc' := 113) hC dX3_tell_111 rfl rfl ?_
        refine go_iload_n (pc' := 114) hC dX3_tell_113 rfl rfl ?_
        obtain ⟨h9, hf⟩ := gd_e hf
        refine go_iast (f := a6) (pc' := 115) hC 124 layX_124 rfl rfl dX3_tell_114 (okx_in h9) rfl rfl (fun a10 ha L3' hL => ?_)
        have hf := lz_r ha hf
        clear ha
        obtain rfl : L3' = [(124, a10)] := hL.symm
        refine go_aload_n (pc' := 116) hC dX3_tell_115 rfl rfl ?_
        refine go_getq (pc' := 119) hC 123 4 layX_123 rfl rfl inlX3 (Nat.le_of_ble_eq_true rfl) mw_129 rfl dX3_tell_116 rfl ?_
        refine go_iload (pc' := 121) hC dX3_tell_119 rfl rfl ?_
        refine go_lload_n (pc' := 122) hC dX3_tell_121 rfl rfl ?_
        obtain ⟨h11, hf⟩ := gd_e hf
        refine go_last (f := a7) (pc' := 123) hC 125 layX_125 rfl rfl dX3_tell_122 (okx_in h11) rfl rfl (fun a12 ha L4' hL => ?_)
        have hf := lz_r ha hf
        clear ha
        obtain rfl : L4' = [(125, a12)] := hL.symm
        obtain rfl := Option.some.inj hf
        exact go_vret hC hQ dX3_tell_123 rfl rfl rfl (fun _ => rfl) rfl rfl
      clear hk107_8
      have l62_26 : ∀ (nn : Nat) (x13 : Int32) (a14 : Nat → Int32) (a15 : Nat → Int64), it3 (f_X3_tell_q123_L62 x2 k107_8) nn x13 a14 a15 = some o → Go X layX S 62 [(0, .ref (x_q X 123)), (1, .int p1), (2, .long p2), (4, .int x2), (5, .int x13)] [] g [(12301, x4)] [] [(124, a14)] [(125, a15)] [] 0 0 := by
        intro nn
        induction nn with
        | zero =>
          intro x13 a14 a15 hf
          exact none_no hf
        | succ nn ih =>
          intro x13 a14 a15 hf
          have hf : f_X3_tell_q123_L62 x2 k107_8 (it3 (f_X3_tell_q123_L62 x2 k107_8) nn) x13 a14 a15 = some o := hf
          generalize it3 (f_X3_tell_q123_L62 x2 k107_8) nn = r16 at ih hf
          unfold f_X3_tell_q123_L62 at hf
          refine go_iload (pc' := 64) hC dX3_tell_62 rfl rfl ?_
          refine go_iload (pc' := 66) hC dX3_tell_64 rfl rfl ?_
          refine go_icmp_le (tgt := 107) (pc' := 69) hC dX3_tell_66 (by decide) rfl (fun h25 => ?_) (fun h25 => ?_)
          · have hf := ite_t h25 hf
            refine go_sub [0, 1, 2, 4] rfl ?_
            exact jk107_8 a14 a15 hf
          · have hf := ite_f h25 hf
            refine go_aload_n (pc' := 70) hC dX3_tell_69 rfl rfl ?_
            refine go_getq (pc' := 73) hC 123 2 layX_123 rfl rfl inlX3 (Nat.le_of_ble_eq_true rfl) mw_128 rfl dX3_tell_70 rfl ?_
            refine go_iload (pc' := 75) hC dX3_tell_73 rfl rfl ?_
            refine go_aload_n (pc' := 76) hC dX3_tell_75 rfl rfl ?_
            refine go_getq (pc' := 79) hC 123 2 layX_123 rfl rfl inlX3 (Nat.le_of_ble_eq_true rfl) mw_128 rfl dX3_tell_76 rfl ?_
            refine go_iload (pc' := 81) hC dX3_tell_79 rfl rfl ?_
            refine go_iconst (pc' := 82) hC dX3_tell_81 ki_1 rfl ?_
            refine go_isub (pc' := 83) hC dX3_tell_82 rfl ?_
            obtain ⟨h17, hf⟩ := gd_e hf
            refine go_iald (f := a14) (pc' := 84) hC 124 layX_124 rfl rfl dX3_tell_83 (okx_in h17) rfl ?_
            refine go_namei (fun x18 hx => ?_)
            have hf := lz_r hx hf
            clear hx
            obtain ⟨h19, hf⟩ := gd_e hf
            refine go_iast (f := a14) (pc' := 85) hC 124 layX_124 rfl rfl dX3_tell_84 (okx_in h19) rfl rfl (fun a20 ha L3' hL => ?_)
            have hf := lz_r ha hf
            clear ha
            obtain rfl : L3' = [(124, a20)] := hL.symm
            refine go_aload_n (pc' := 86) hC dX3_tell_85 rfl rfl ?_
            refine go_getq (pc' := 89) hC 123 4 layX_123 rfl rfl inlX3 (Nat.le_of_ble_eq_true rfl) mw_129 rfl dX3_tell_86 rfl ?_
            refine go_iload (pc' := 91) hC dX3_tell_89 rfl rfl ?_
            refine go_aload_n (pc' := 92) hC dX3_tell_91 rfl rfl ?_
            refine go_getq (pc' := 95) hC 123 4 layX_123 rfl rfl inlX3 (Nat.le_of_ble_eq_true rfl) mw_129 rfl dX3_tell_92 rfl ?_
            refine go_iload (pc' := 97) hC dX3_tell_95 rfl rfl ?_
            refine go_iconst (pc' := 98) hC dX3_tell_97 ki_1 rfl ?_
            refine go_isub (pc' := 99) hC dX3_tell_98 rfl ?_
            obtain ⟨h21, hf⟩ := gd_e hf
            refine go_lald (f := a15) (pc' := 100) hC 125 layX_125 rfl rfl dX3_tell_99 (okx_in h21) rfl ?_
            refine go_namel (fun x22 hx => ?_)
            have hf := lz_r hx hf
            clear hx
            obtain ⟨h23, hf⟩ := gd_e hf
            refine go_last (f := a15) (pc' := 101) hC 125 layX_125 rfl rfl dX3_tell_100 (okx_in h23) rfl rfl (fun a24 ha L4' hL => ?_)
            have hf := lz_r ha hf
            clear ha
            obtain rfl : L4' = [(125, a24)] := hL.symm
            refine go_iinc (lc' := [(0, .ref (x_q X 123)), (1, .int p1), (2, .long p2), (4, .int x2), (5, .int (x13 + (-1 : Int32)))]) (pc' := 104) hC dX3_tell_101 rfl ki_m1 (Nat.le_of_ble_eq_true rfl) rfl rfl ?_
            refine go_goto (tgt := 62) hC dX3_tell_104 (by decide) ?_
            exact ih (x13 + (-1 : Int32)) a20 a24 hf
      exact l62_26 fuel x5 (S.2.2.1 124) (S.2.2.2.1 125) hf
    · have hf := ite_f h27 hf
      obtain rfl := Option.some.inj hf
      exact go_vret hC hQ dX3_tell_38 rfl rfl rfl (fun _ => rfl) rfl rfl
  clear hk31_3
  have l6_33 : ∀ (nn : Nat) (x28 : Int32), it1 (f_X3_tell_q123_L6 S p2 k31_3) nn x28 = some o → Go X layX S 6 [(0, .ref (x_q X 123)), (1, .int p1), (2, .long p2), (4, .int x28)] [] g [(12301, (S.1 12301))] [] [(124, (S.2.2.1 124))] [(125, (S.2.2.2.1 125))] [] 0 0 := by
    intro nn
    induction nn with
    | zero =>
      intro x28 hf
      exact none_no hf
    | succ nn ih =>
      intro x28 hf
      have hf : f_X3_tell_q123_L6 S p2 k31_3 (it1 (f_X3_tell_q123_L6 S p2 k31_3) nn) x28 = some o := hf
      generalize it1 (f_X3_tell_q123_L6 S p2 k31_3) nn = r29 at ih hf
      unfold f_X3_tell_q123_L6 at hf
      refine go_iload (pc' := 8) hC dX3_tell_6 rfl rfl ?_
      refine go_if_le (tgt := 31) (pc' := 11) hC dX3_tell_8 (by decide) rfl (fun h32 => ?_) (fun h32 => ?_)
      · have hf := ite_t h32 hf
        exact jk31_3 x28 hf
      · have hf := ite_f h32 hf
        refine go_aload_n (pc' := 12) hC dX3_tell_11 rfl rfl ?_
        refine go_getq (pc' := 15) hC 123 4 layX_123 rfl rfl inlX3 (Nat.le_of_ble_eq_true rfl) mw_129 rfl dX3_tell_12 rfl ?_
        refine go_iload (pc' := 17) hC dX3_tell_15 rfl rfl ?_
        refine go_iconst (pc' := 18) hC dX3_tell_17 ki_1 rfl ?_
        refine go_isub (pc' := 19) hC dX3_tell_18 rfl ?_
        obtain ⟨h30, hf⟩ := gd_e hf
        refine go_lald (f := (S.2.2.2.1 125)) (pc' := 20) hC 125 layX_125 rfl rfl dX3_tell_19 (okx_in h30) rfl ?_
        refine go_lload_n (pc' := 21) hC dX3_tell_20 rfl rfl ?_
        refine go_lcmp (pc' := 22) hC dX3_tell_21 rfl ?_
        refine go_if_ge (tgt := 31) (pc' := 25) hC dX3_tell_22 (by decide) rfl (fun h31 => ?_) (fun h31 => ?_)
        · have hf := ite_t (lg_ge.mp h31) hf
          exact jk31_3 x28 hf
        · have hf := ite_f (mt lg_ge.mpr h31) hf
          refine go_iinc (lc' := [(0, .ref (x_q X 123)), (1, .int p1), (2, .long p2), (4, .int (x28 + (-1 : Int32)))]) (pc' := 28) hC dX3_tell_25 rfl ki_m1 (Nat.le_of_ble_eq_true rfl) rfl rfl ?_
          refine go_goto (tgt := 6) hC dX3_tell_28 (by decide) ?_
          exact ih (x28 + (-1 : Int32)) hf
  exact l6_33 fuel x1 hf
abbrev o_J7_fill_d0a16_q126 : Type := (Nat → Int64)
def f_J7_fill_d0a16_q126_L6 (p1 : Int64) (r3 : (Int32) → (Nat → Int64) → (Option o_J7_fill_d0a16_q126)) (x1 : Int32) (a2 : Nat → Int64) : Option o_J7_fill_d0a16_q126 :=
if (60 : Int32) ≤ x1 then (
some a2) else (
gd (okx x1 60) <|
lz (vp_updL a2 x1.toNatClampNeg p1) fun a5 =>
r3 (x1 + (1 : Int32)) a5)
def f_J7_fill_d0a16_q126 (S : wd_W) (p1 : Int64) : Option o_J7_fill_d0a16_q126 :=
it2 (f_J7_fill_d0a16_q126_L6 p1) fuel (0 : Int32) (S.2.2.2.1 126)
set_option maxRecDepth 100000 in
set_option maxHeartbeats 4000000 in
theorem c_J7_fill_d0a16_q126 (l : Launch) (D : va_G) (q g : Nat → Nat) (cy : Nat → ClassId) (z : (Nat → Nat) × (Nat → Nat) × Nat) (S : wd_W) (p1 : Int64) (o : o_J7_fill_d0a16_q126) (hf : f_J7_fill_d0a16_q126 S p1 = some o) : MX layX l yJ7_fill_d0a16 cJ7_fill_d0a16 5 none ({ frames := 0, cells := 0, slots := 0, locals := 0 } : Room) D q g cy z [.ref (q 126), .long p1] S false (none) (wd_o S [] [] [] [(126, o)] []) 0 0 := by
  refine mx_of (own := RJ7) (lc := [(0, .ref (q 126)), (1, .long p1)]) (by decide +kernel) rfl layX_ok (Nat.le_of_ble_eq_true rfl) rfl ?_
  intro X hXl hXq hXz hC hQ
  subst hXl; subst hXq; subst hXz
  unfold f_J7_fill_d0a16_q126 at hf
  refine go_keys (L1 := []) (L2 := []) (L3 := []) (L4 := [(126, (S.2.2.2.1 126))]) (L5 := []) [] [] [] [126] [] rfl rfl rfl rfl rfl ?_
  refine go_iconst (pc' := 1) hC dJ7_fill_d0a16_0 ki_0 rfl ?_
  refine go_istore_n (lc' := [(0, .ref (x_q X 126)), (1, .long p1), (3, .int (0 : Int32))]) (pc' := 2) hC dJ7_fill_d0a16_1 (Nat.le_of_ble_eq_true rfl) rfl rfl ?_
  refine go_aload_n (pc' := 3) hC dJ7_fill_d0a16_2 rfl rfl ?_
  refine go_alen (v := (60 : Int32)) (pc' := 4) hC 126 layX_126 rfl (Nat.le_of_ble_eq_true rfl) kn_60 dJ7_fill_d0a16_3 rfl ?_
  refine go_istore (lc' := [(0, .ref (x_q X 126)), (1, .long p1), (3, .int (0 : Int32)), (4, .int (60 : Int32))]) (pc' := 6) hC dJ7_fill_d0a16_4 (Nat.le_of_ble_eq_true rfl) rfl rfl ?_
  have l6_7 : ∀ (nn : Nat) (x1 : Int32) (a2 : Nat → Int64), it2 (f_J7_fill_d0a16_q126_L6 p1) nn x1 a2 = some o → Go X layX S 6 [(0, .ref (x_q X 126)), (1, .long p1), (3, .int x1), (4, .int (60 : Int32))] [] g [] [] [] [(126, a2)] [] 0 0 := by
    intro nn
    induction nn with
    | zero =>
      intro x1 a2 hf
      exact none_no hf
    | succ nn ih =>
      intro x1 a2 hf
      have hf : f_J7_fill_d0a16_q126_L6 p1 (it2 (f_J7_fill_d0a16_q126_L6 p1) nn) x1 a2 = some o := hf
      generalize it2 (f_J7_fill_d0a16_q126_L6 p1) nn = r3 at ih hf
      unfold f_J7_fill_d0a16_q126_L6 at hf
      refine go_iload_n (pc' := 7) hC dJ7_fill_d0a16_6 rfl rfl ?_
      refine go_iload (pc' := 9) hC dJ7_fill_d0a16_7 rfl rfl ?_
      refine go_icmp_ge (tgt := 22) (pc' := 12) hC dJ7_fill_d0a16_9 (by decide) rfl (fun h6 => ?_) (fun h6 => ?_)
      · have hf := ite_t h6 hf
        obtain rfl := Option.some.inj hf
        exact go_vret hC hQ dJ7_fill_d0a16_22 rfl rfl rfl (fun _ => rfl) rfl rfl
      · have hf := ite_f h6 hf
        refine go_aload_n (pc' := 13) hC dJ7_fill_d0a16_12 rfl rfl ?_
        refine go_iload_n (pc' := 14) hC dJ7_fill_d0a16_13 rfl rfl ?_
        refine go_lload_n (pc' := 15) hC dJ7_fill_d0a16_14 rfl rfl ?_
        obtain ⟨h4, hf⟩ := gd_e hf
        refine go_last (f := a2) (pc' := 16) hC 126 layX_126 rfl rfl dJ7_fill_d0a16_15 (okx_in h4) rfl rfl (fun a5 ha L4' hL => ?_)
        have hf := lz_r ha hf
        clear ha
        obtain rfl : L4' = [(126, a5)] := hL.symm
        refine go_iinc (lc' := [(0, .ref (x_q X 126)), (1, .long p1), (3, .int (x1 + (1 : Int32))), (4, .int (60 : Int32))]) (pc' := 19) hC dJ7_fill_d0a16_16 rfl ki_1 (Nat.le_of_ble_eq_true rfl) rfl rfl ?_
        refine go_goto (tgt := 6) hC dJ7_fill_d0a16_19 (by decide) ?_
        exact ih (x1 + (1 : Int32)) a5 hf
  exact l6_7 fuel (0 : Int32) (S.2.2.2.1 126) hf
theorem dX3_firstIn_0 : decode cX3_firstIn 0 = .ok (.iconst 0, 1) := by decide +kernel
theorem dX3_firstIn_1 : decode cX3_firstIn 1 = .ok (.istore_n 2, 1) := by decide +kernel
theorem dX3_firstIn_2 : decode cX3_firstIn 2 = .ok (.iload_n 2, 1) := by decide +kernel
theorem dX3_firstIn_3 : decode cX3_firstIn 3 = .ok (.aload_n 0, 1) := by decide +kernel
theorem dX3_firstIn_4 : decode cX3_firstIn 4 = .ok (.getfield 41, 3) := by decide +kernel
theorem dX3_firstIn_7 : decode cX3_firstIn 7 = .ok (.if_icmp .ge 24, 3) := by decide +kernel
theorem dX3_firstIn_10 : decode cX3_firstIn 10 = .ok (.aload_n 0, 1) := by decide +kernel
theorem dX3_firstIn_11 : decode cX3_firstIn 11 = .ok (.getfield 9, 3) := by decide +kernel
theorem dX3_firstIn_14 : decode cX3_firstIn 14 = .ok (.iload_n 2, 1) := by decide +kernel
theorem dX3_firstIn_15 : decode cX3_firstIn 15 = .ok (.iaload, 1) := by decide +kernel
theorem dX3_firstIn_16 : decode cX3_firstIn 16 = .ok (.iload_n 1, 1) := by decide +kernel
theorem dX3_firstIn_17 : decode cX3_firstIn 17 = .ok (.iconst (-1), 1) := by decide +kernel
theorem dX3_firstIn_18 : decode cX3_firstIn 18 = .ok (.ixor, 1) := by decide +kernel
theorem dX3_firstIn_19 : decode cX3_firstIn 19 = .ok (.iand, 1) := by decide +kernel
theorem dX3_firstIn_20 : decode cX3_firstIn 20 = .ok (.ifCond .ne 5, 3) := by decide +kernel
theorem dX3_firstIn_23 : decode cX3_firstIn 23 = .ok (.iload_n 2, 1) := by decide +kernel
theorem dX3_firstIn_24 : decode cX3_firstIn 24 = .ok (.ireturn, 1) := by decide +kernel
theorem dX3_firstIn_25 : decode cX3_firstIn 25 = .ok (.iinc 2 1, 3) := by decide +kernel
theorem dX3_firstIn_28 : decode cX3_firstIn 28 = .ok (.goto (-26), 3) := by decide +kernel
theorem dX3_firstIn_31 : decode cX3_firstIn 31 = .ok (.aload_n 0, 1) := by decide +kernel
theorem dX3_firstIn_32 : decode cX3_firstIn 32 = .ok (.getfield 41, 3) := by decide +kernel
theorem dX3_firstIn_35 : decode cX3_firstIn 35 = .ok (.ireturn, 1) := by decide +kernel
abbrev o_X3_firstIn_q123 : Type := Int32
def f_X3_firstIn_q123_L2 (S : wd_W) (p1 : Int32) (k31_1 : (Option o_X3_firstIn_q123)) (r3 : (Int32) → (Option o_X3_firstIn_q123)) (x2 : Int32) : Option o_X3_firstIn_q123 :=
if (S.1 12301) ≤ x2 then (
k31_1) else (
gd (okx x2 60) <|
if (((S.2.2.1 124) x2.toNatClampNeg) &&& (p1 ^^^ (-1 : Int32))) = 0 then (
some x2) else (
r3 (x2 + (1 : Int32))))
def f_X3_firstIn_q123 (S : wd_W) (p1 : Int32) : Option o_X3_firstIn_q123 :=
lk (some (S.1 12301)) fun k31_1 =>
it1 (f_X3_firstIn_q123_L2 S p1 k31_1) fuel (0 : Int32)
set_option maxRecDepth 100000 in
set_option maxHeartbeats 4000000 in
theorem c_X3_firstIn_q123 (l : Launch) (D : va_G) (q g : Nat → Nat) (cy : Nat → ClassId) (z : (Nat → Nat) × (Nat → Nat) × Nat) (S : wd_W) (p1 : Int32) (o : o_X3_firstIn_q123) (hf : f_X3_firstIn_q123 S p1 = some o) : MX layX l yX3_firstIn cX3_firstIn 3 (some .int) ({ frames := 0, cells := 0, slots := 0, locals := 0 } : Room) D q g cy z [.ref (q 123), .int p1] S false (some (.int o)) (wd_o S [] [] [] [] []) 0 0 := by
  refine mx_of (own := RX3) (lc := [(0, .ref (q 123)), (1, .int p1)]) (by decide +kernel) rfl layX_ok (Nat.le_of_ble_eq_true rfl) rfl ?_
  intro X hXl hXq hXz hC hQ
  subst hXl; subst hXq; subst hXz
  unfold f_X3_firstIn_q123 at hf
  refine go_iconst (pc' := 1) hC dX3_firstIn_0 ki_0 rfl ?_
  refine go_istore_n (lc' := [(0, .ref (x_q X 123)), (1, .int p1), (2, .int (0 : Int32))]) (pc' := 2) hC dX3_firstIn_1 (Nat.le_of_ble_eq_true rfl) rfl rfl ?_
  obtain ⟨k31_1, hk31_1, hf⟩ := lk_e0 hf
  have jk31_1 : ∀ (_ : Unit), k31_1 = some o → Go X layX S 31 [(0, .ref (x_q X 123))] [] g [] [] [] [] [] 0 0 := by
    intro _ hf
    have hf := hk31_1 hf
    clear hk31_1
    refine go_aload_n (pc' := 32) hC dX3_firstIn_31 rfl rfl ?_
    refine go_geti (v := (S.1 12301)) (pc' := 35) hC 123 1 layX_123 rfl rfl inlX3 (Nat.le_of_ble_eq_true rfl) mw_720 rfl dX3_firstIn_32 rfl rfl ?_
    obtain rfl := Option.some.inj hf
    exact go_iret hC hQ dX3_firstIn_35 rfl rfl rfl rfl (fun _ => rfl) rfl rfl
  clear hk31_1
  have l2_7 : ∀ (nn : Nat) (x2 : Int32), it1 (f_X3_firstIn_q123_L2 S p1 k31_1) nn x2 = some o → Go X layX S 2 [(0, .ref (x_q X 123)), (1, .int p1), (2, .int x2)] [] g [] [] [] [] [] 0 0 := by
    intro nn
    induction nn with
    | zero =>
      intro x2 hf
      exact none_no hf
    | succ nn ih =>
      intro x2 hf
      have hf : f_X3_firstIn_q123_L2 S p1 k31_1 (it1 (f_X3_firstIn_q123_L2 S p1 k31_1) nn) x2 = some o := hf
      generalize it1 (f_X3_firstIn_q123_L2 S p1 k31_1) nn = r3 at ih hf
      unfold f_X3_firstIn_q123_L2 at hf
      refine go_iload_n (pc' := 3) hC dX3_firstIn_2 rfl rfl ?_
      refine go_aload_n (pc' := 4) hC dX3_firstIn_3 rfl rfl ?_
      refine go_geti (v := (S.1 12301)) (pc' := 7) hC 123 1 layX_123 rfl rfl inlX3 (Nat.le_of_ble_eq_true rfl) mw_720 rfl dX3_firstIn_4 rfl rfl ?_
      refine go_icmp_ge (tgt := 31) (pc' := 10) hC dX3_firstIn_7 (by decide) rfl (fun h6 => ?_) (fun h6 => ?_)
      · have hf := ite_t h6 hf
        refine go_sub [0] rfl ?_
        exact jk31_1 () hf
      · have hf := ite_f h6 hf
        refine go_aload_n (pc' := 11) hC dX3_firstIn_10 rfl rfl ?_
        refine go_getq (pc' := 14) hC 123 2 layX_123 rfl rfl inlX3 (Nat.le_of_ble_eq_true rfl) mw_128 rfl dX3_firstIn_11 rfl ?_
        refine go_iload_n (pc' := 15) hC dX3_firstIn_14 rfl rfl ?_
        obtain ⟨h4, hf⟩ := gd_e hf
        refine go_iald (f := (S.2.2.1 124)) (pc' := 16) hC 124 layX_124 rfl rfl dX3_firstIn_15 (okx_in h4) rfl ?_
        refine go_iload_n (pc' := 17) hC dX3_firstIn_16 rfl rfl ?_
        refine go_iconst (pc' := 18) hC dX3_firstIn_17 ki_m1 rfl ?_
        refine go_ixor (pc' := 19) hC dX3_firstIn_18 rfl ?_
        refine go_iand (pc' := 20) hC dX3_firstIn_19 rfl ?_
        refine go_if_ne (tgt := 25) (pc' := 23) hC dX3_firstIn_20 (by decide) rfl (fun h5 => ?_) (fun h5 => ?_)
        · have hf := ite_f h5 hf
          refine go_iinc (lc' := [(0, .ref (x_q X 123)), (1, .int p1), (2, .int (x2 + (1 : Int32)))]) (pc' := 28) hC dX3_firstIn_25 rfl ki_1 (Nat.le_of_ble_eq_true rfl) rfl rfl ?_
          refine go_goto (tgt := 2) hC dX3_firstIn_28 (by decide) ?_
          exact ih (x2 + (1 : Int32)) hf
        · have hf := ite_t h5 hf
          refine go_iload_n (pc' := 24) hC dX3_firstIn_23 rfl rfl ?_
          obtain rfl := Option.some.inj hf
          exact go_iret hC hQ dX3_firstIn_24 rfl rfl rfl rfl (fun _ => rfl) rfl rfl
  exact l2_7 fuel (0 : Int32) hf
theorem dX3_shareOut_0 : decode cX3_shareOut 0 = .ok (.aload_n 0, 1) := by decide +kernel
theorem dX3_shareOut_1 : decode cX3_shareOut 1 = .ok (.getfield 19, 3) := by decide +kernel
theorem dX3_shareOut_4 : decode cX3_shareOut 4 = .ok (.lconst 0, 1) := by decide +kernel
theorem dX3_shareOut_5 : decode cX3_shareOut 5 = .ok (.invokestatic 85, 3) := by decide +kernel
theorem dX3_shareOut_8 : decode cX3_shareOut 8 = .ok (.iconst 0, 1) := by decide +kernel
theorem dX3_shareOut_9 : decode cX3_shareOut 9 = .ok (.istore_n 1, 1) := by decide +kernel
theorem dX3_shareOut_10 : decode cX3_shareOut 10 = .ok (.iload_n 1, 1) := by decide +kernel
theorem dX3_shareOut_11 : decode cX3_shareOut 11 = .ok (.aload_n 0, 1) := by decide +kernel
theorem dX3_shareOut_12 : decode cX3_shareOut 12 = .ok (.getfield 22, 3) := by decide +kernel
theorem dX3_shareOut_15 : decode cX3_shareOut 15 = .ok (.getfield 44, 3) := by decide +kernel
theorem dX3_shareOut_18 : decode cX3_shareOut 18 = .ok (.if_icmp .ge 45, 3) := by decide +kernel
theorem dX3_shareOut_21 : decode cX3_shareOut 21 = .ok (.aload_n 0, 1) := by decide +kernel
theorem dX3_shareOut_22 : decode cX3_shareOut 22 = .ok (.aload_n 0, 1) := by decide +kernel
theorem dX3_shareOut_23 : decode cX3_shareOut 23 = .ok (.iload_n 1, 1) := by decide +kernel
theorem dX3_shareOut_24 : decode cX3_shareOut 24 = .ok (.invokevirtual 62, 3) := by decide +kernel
theorem dX3_shareOut_27 : decode cX3_shareOut 27 = .ok (.invokevirtual 91, 3) := by decide +kernel
theorem dX3_shareOut_30 : decode cX3_shareOut 30 = .ok (.istore_n 2, 1) := by decide +kernel
theorem dX3_shareOut_31 : decode cX3_shareOut 31 = .ok (.iload_n 2, 1) := by decide +kernel
theorem dX3_shareOut_32 : decode cX3_shareOut 32 = .ok (.aload_n 0, 1) := by decide +kernel
theorem dX3_shareOut_33 : decode cX3_shareOut 33 = .ok (.getfield 41, 3) := by decide +kernel
theorem dX3_shareOut_36 : decode cX3_shareOut 36 = .ok (.if_icmp .ge 21, 3) := by decide +kernel
theorem dX3_shareOut_39 : decode cX3_shareOut 39 = .ok (.aload_n 0, 1) := by decide +kernel
theorem dX3_shareOut_40 : decode cX3_shareOut 40 = .ok (.getfield 19, 3) := by decide +kernel
theorem dX3_shareOut_43 : decode cX3_shareOut 43 = .ok (.iload_n 2, 1) := by decide +kernel
theorem dX3_shareOut_44 : decode cX3_shareOut 44 = .ok (.dup2, 1) := by decide +kernel
theorem dX3_shareOut_45 : decode cX3_shareOut 45 = .ok (.laload, 1) := by decide +kernel
theorem dX3_shareOut_46 : decode cX3_shareOut 46 = .ok (.aload_n 0, 1) := by decide +kernel
theorem dX3_shareOut_47 : decode cX3_shareOut 47 = .ok (.getfield 22, 3) := by decide +kernel
theorem dX3_shareOut_50 : decode cX3_shareOut 50 = .ok (.getfield 94, 3) := by decide +kernel
theorem dX3_shareOut_53 : decode cX3_shareOut 53 = .ok (.iload_n 1, 1) := by decide +kernel
theorem dX3_shareOut_54 : decode cX3_shareOut 54 = .ok (.laload, 1) := by decide +kernel
theorem dX3_shareOut_55 : decode cX3_shareOut 55 = .ok (.ladd, 1) := by decide +kernel
theorem dX3_shareOut_56 : decode cX3_shareOut 56 = .ok (.lastore, 1) := by decide +kernel
theorem dX3_shareOut_57 : decode cX3_shareOut 57 = .ok (.iinc 1 1, 3) := by decide +kernel
theorem dX3_shareOut_60 : decode cX3_shareOut 60 = .ok (.goto (-50), 3) := by decide +kernel
theorem dX3_shareOut_63 : decode cX3_shareOut 63 = .ok (.return_, 1) := by decide +kernel
abbrev o_X3_shareOut_q123 : Type := (Nat → Int64)
def f_X3_shareOut_q123_L10 (S : wd_W) (r4 : (Int32) → (Nat → Int64) → (Option o_X3_shareOut_q123)) (x2 : Int32) (a3 : Nat → Int64) : Option o_X3_shareOut_q123 :=
if (S.1 10602) ≤ x2 then (
some a3) else (
bd (f_X3_holding_q123 (wd_o S [] [] [] [(126, a3)] []) x2) fun o5 =>
bd (f_X3_firstIn_q123 (wd_o S [] [] [] [(126, a3)] []) o5) fun o6 =>
lk (fun a7 =>
r4 (x2 + (1 : Int32)) a7) fun k57_8 =>
if (S.1 12301) ≤ o6 then (
k57_8 a3) else (
gd (okx o6 60) <|
gd (okx x2 (S.2.2.2.2 107)) <|
lz ((a3 o6.toNatClampNeg) + ((S.2.2.2.1 107) x2.toNatClampNeg)) fun x11 =>
gd (okx o6 60) <|
lz (vp_updL a3 o6.toNatClampNeg x11) fun a13 =>
k57_8 a13))
def f_X3_shareOut_q123 (S : wd_W) : Option o_X3_shareOut_q123 :=
bd (f_J7_fill_d0a16_q126 (wd_o S [] [] [] [(126, (S.2.2.2.1 126))] []) (0 : Int64)) fun o1 =>
it2 (f_X3_shareOut_q123_L10 S) fuel (0 : Int32) o1
set_option maxRecDepth 100000 in
set_option maxHeartbeats 4000000 in
theorem c_X3_shareOut_q123 (l : Launch) (D : va_G) (q g : Nat → Nat) (cy : Nat → ClassId) (z : (Nat → Nat) × (Nat → Nat) × Nat) (S : wd_W) (o : o_X3_shareOut_q123) (hf : f_X3_shareOut_q123 S = some o) : MX layX l yX3_shareOut cX3_shareOut 3 none ({ frames := 1, cells := 0, slots := 0, locals := 24 } : Room) D q g cy z [.ref (q 123)] S false (none) (wd_o S [] [] [] [(126, o)] []) 0 0 := by
  refine mx_of (own := RX3) (lc := [(0, .ref (q 123))]) (by decide +kernel) rfl layX_ok (Nat.le_of_ble_eq_true rfl) rfl ?_
  intro X hXl hXq hXz hC hQ
  subst hXl; subst hXq; subst hXz
  unfold f_X3_shareOut_q123 at hf
  refine go_keys (L1 := []) (L2 := []) (L3 := []) (L4 := [(126, (S.2.2.2.1 126))]) (L5 := []) [] [] [] [126] [] rfl rfl rfl rfl rfl ?_
  refine go_aload_n (pc' := 1) hC dX3_shareOut_0 rfl rfl ?_
  refine go_getq (pc' := 4) hC 123 5 layX_123 rfl rfl inlX3 (Nat.le_of_ble_eq_true rfl) mw_130 rfl dX3_shareOut_1 rfl ?_
  refine go_lconst (pc' := 5) hC dX3_shareOut_4 kl_0 rfl ?_
  obtain ⟨o1, ho1, hf⟩ := bd_e hf
  refine go_callS1 (pc' := 8) (As := [.ref (x_q X 126), .long (0 : Int64)]) (st := []) (st' := []) (L1' := []) (L2' := []) (L3' := []) (L4' := [(126, o1)]) (L5' := []) (cells' := 0) (slots' := 0)  hC dX3_shareOut_5 ⟨mw_756, mw_706, mw_687, yd_yJ7_fill_d0a16, yp_yJ7_fill_d0a16, Nat.le_of_ble_eq_true rfl, Nat.le_of_ble_eq_true rfl, (Nat.le_of_ble_eq_true rfl), (Nat.le_of_ble_eq_true rfl)⟩ mw_705 rfl rfl (Nat.le_of_ble_eq_true rfl) (c_J7_fill_d0a16_q126 (x_l X) (x_D X) (x_q X) g (x_cy X) (x_z X) _ (0 : Int64) o1 ho1) rfl rfl rfl rfl rfl rfl rfl rfl rfl rfl rfl rfl rfl rfl ?_
  refine go_iconst (pc' := 9) hC dX3_shareOut_8 ki_0 rfl ?_
  refine go_istore_n (lc' := [(0, .ref (x_q X 123)), (1, .int (0 : Int32))]) (pc' := 10) hC dX3_shareOut_9 (Nat.le_of_ble_eq_true rfl) rfl rfl ?_
  have l10_16 : ∀ (nn : Nat) (x2 : Int32) (a3 : Nat → Int64), it2 (f_X3_shareOut_q123_L10 S) nn x2 a3 = some o → Go X layX S 10 [(0, .ref (x_q X 123)), (1, .int x2)] [] g [] [] [] [(126, a3)] [] 0 0 := by
    intro nn
    induction nn with
    | zero =>
      intro x2 a3 hf
      exact none_no hf
    | succ nn ih =>
      intro x2 a3 hf
      have hf : f_X3_shareOut_q123_L10 S (it2 (f_X3_shareOut_q123_L10 S) nn) x2 a3 = some o := hf
      generalize it2 (f_X3_shareOut_q123_L10 S) nn = r4 at ih hf
      unfold f_X3_shareOut_q123_L10 at hf
      refine go_iload_n (pc' := 11) hC dX3_shareOut_10 rfl rfl ?_
      refine go_aload_n (pc' := 12) hC dX3_shareOut_11 rfl rfl ?_
      refine go_getq (pc' := 15) hC 123 6 layX_123 rfl rfl inlX3 (Nat.le_of_ble_eq_true rfl) mw_131 rfl dX3_shareOut_12 rfl ?_
      refine go_geti (v := (S.1 10602)) (pc' := 18) hC 106 2 layX_106 rfl rfl inlX8 (Nat.le_of_ble_eq_true rfl) mw_721 rfl dX3_shareOut_15 rfl rfl ?_
      refine go_icmp_ge (tgt := 63) (pc' := 21) hC dX3_shareOut_18 (by decide) rfl (fun h15 => ?_) (fun h15 => ?_)
      · have hf := ite_t h15 hf
        obtain rfl := Option.some.inj hf
        exact go_vret hC hQ dX3_shareOut_63 rfl rfl rfl (fun _ => rfl) rfl rfl
      · have hf := ite_f h15 hf
        refine go_aload_n (pc' := 22) hC dX3_shareOut_21 rfl rfl ?_
        refine go_aload_n (pc' := 23) hC dX3_shareOut_22 rfl rfl ?_
        refine go_iload_n (pc' := 24) hC dX3_shareOut_23 rfl rfl ?_
        obtain ⟨o5, ho5, hf⟩ := bd_e hf
        refine go_callV0 (pc' := 27) (As := [.int x2]) (st := [.ref (x_q X 123)]) (st' := [.int o5, .ref (x_q X 123)])    (b := 123) hC dX3_shareOut_24 ⟨mw_727, mw_730, mw_35, yd_yX3_holding, yp_yX3_holding, Nat.le_of_ble_eq_true rfl, Nat.le_of_ble_eq_true rfl, (Nat.le_of_ble_eq_true rfl), (Nat.le_of_ble_eq_true rfl)⟩ mw_728 mw_729 layX_123 rfl rfl rfl (Nat.le_of_ble_eq_true rfl) (c_X3_holding_q123 (x_l X) (x_D X) (x_q X) g (x_cy X) (x_z X) _ x2 o5 ho5) rfl rfl ?_
        obtain ⟨o6, ho6, hf⟩ := bd_e hf
        refine go_callV0 (pc' := 30) (As := [.int o5]) (st := []) (st' := [.int o6])    (b := 123) hC dX3_shareOut_27 ⟨mw_757, mw_760, mw_35, yd_yX3_firstIn, yp_yX3_firstIn, Nat.le_of_ble_eq_true rfl, Nat.le_of_ble_eq_true rfl, (Nat.le_of_ble_eq_true rfl), (Nat.le_of_ble_eq_true rfl)⟩ mw_758 mw_759 layX_123 rfl rfl rfl (Nat.le_of_ble_eq_true rfl) (c_X3_firstIn_q123 (x_l X) (x_D X) (x_q X) g (x_cy X) (x_z X) _ o5 o6 ho6) rfl rfl ?_
        refine go_istore_n (lc' := [(0, .ref (x_q X 123)), (1, .int x2), (2, .int o6)]) (pc' := 31) hC dX3_shareOut_30 (Nat.le_of_ble_eq_true rfl) rfl rfl ?_
        refine go_iload_n (pc' := 32) hC dX3_shareOut_31 rfl rfl ?_
        refine go_aload_n (pc' := 33) hC dX3_shareOut_32 rfl rfl ?_
        refine go_geti (v := (S.1 12301)) (pc' := 36) hC 123 1 layX_123 rfl rfl inlX3 (Nat.le_of_ble_eq_true rfl) mw_720 rfl dX3_shareOut_33 rfl rfl ?_
        obtain ⟨k57_8, hk57_8, hf⟩ := lk_e1 hf
        have jk57_8 : ∀ (a7 : Nat → Int64), k57_8 a7 = some o → Go X layX S 57 [(0, .ref (x_q X 123)), (1, .int x2)] [] g [] [] [] [(126, a7)] [] 0 0 := by
          intro a7 hf
          have hf := hk57_8 a7 hf
          clear hk57_8
          refine go_iinc (lc' := [(0, .ref (x_q X 123)), (1, .int (x2 + (1 : Int32)))]) (pc' := 60) hC dX3_shareOut_57 rfl ki_1 (Nat.le_of_ble_eq_true rfl) rfl rfl ?_
          refine go_goto (tgt := 10) hC dX3_shareOut_60 (by decide) ?_
          exact ih (x2 + (1 : Int32)) a7 hf
        clear hk57_8
        refine go_icmp_ge (tgt := 57) (pc' := 39) hC dX3_shareOut_36 (by decide) rfl (fun h14 => ?_) (fun h14 => ?_)
        · have hf := ite_t h14 hf
          refine go_sub [0, 1] rfl ?_
          exact jk57_8 a3 hf
        · have hf := ite_f h14 hf
          refine go_aload_n (pc' := 40) hC dX3_shareOut_39 rfl rfl ?_
          refine go_getq (pc' := 43) hC 123 5 layX_123 rfl rfl inlX3 (Nat.le_of_ble_eq_true rfl) mw_130 rfl dX3_shareOut_40 rfl ?_
          refine go_iload_n (pc' := 44) hC dX3_shareOut_43 rfl rfl ?_
          refine go_dup2 (pc' := 45) hC dX3_shareOut_44 rfl rfl rfl ?_
          obtain ⟨h9, hf⟩ := gd_e hf
          refine go_lald (f := a3) (pc' := 46) hC 126 layX_126 rfl rfl dX3_shareOut_45 (okx_in h9) rfl ?_
          refine go_aload_n (pc' := 47) hC dX3_shareOut_46 rfl rfl ?_
          refine go_getq (pc' := 50) hC 123 6 layX_123 rfl rfl inlX3 (Nat.le_of_ble_eq_true rfl) mw_131 rfl dX3_shareOut_47 rfl ?_
          refine go_getg (pc' := 53) hC 106 4 layX_106 rfl rfl inlX8 (Nat.le_of_ble_eq_true rfl) mw_755 rfl dX3_shareOut_50 rfl ?_
          refine go_iload_n (pc' := 54) hC dX3_shareOut_53 rfl rfl ?_
          obtain ⟨h10, hf⟩ := gd_e hf
          refine go_laldg (f := (S.2.2.2.1 107)) (pc' := 55) hC 107 layX_107 rfl rfl dX3_shareOut_54 (okx_in h10) rfl ?_
          refine go_ladd (pc' := 56) hC dX3_shareOut_55 rfl ?_
          refine go_namel (fun x11 hx => ?_)
          have hf := lz_r hx hf
          clear hx
          obtain ⟨h12, hf⟩ := gd_e hf
          refine go_last (f := a3) (pc' := 57) hC 126 layX_126 rfl rfl dX3_shareOut_56 (okx_in h12) rfl rfl (fun a13 ha L4' hL => ?_)
          have hf := lz_r ha hf
          clear ha
          obtain rfl : L4' = [(126, a13)] := hL.symm
          refine go_sub [0, 1] rfl ?_
          exact jk57_8 a13 hf
  exact l10_16 fuel (0 : Int32) o1 hf
theorem dX3_find_0 : decode cX3_find 0 = .ok (.aload_n 0, 1) := by decide +kernel
theorem dX3_find_1 : decode cX3_find 1 = .ok (.iconst 0, 1) := by decide +kernel
theorem dX3_find_2 : decode cX3_find 2 = .ok (.putfield 37, 3) := by decide +kernel
theorem dX3_find_5 : decode cX3_find 5 = .ok (.aload_n 0, 1) := by decide +kernel
theorem dX3_find_6 : decode cX3_find 6 = .ok (.iconst 0, 1) := by decide +kernel
theorem dX3_find_7 : decode cX3_find 7 = .ok (.putfield 41, 3) := by decide +kernel
theorem dX3_find_10 : decode cX3_find 10 = .ok (.iconst 0, 1) := by decide +kernel
theorem dX3_find_11 : decode cX3_find 11 = .ok (.istore_n 1, 1) := by decide +kernel
theorem dX3_find_12 : decode cX3_find 12 = .ok (.iload_n 1, 1) := by decide +kernel
theorem dX3_find_13 : decode cX3_find 13 = .ok (.aload_n 0, 1) := by decide +kernel
theorem dX3_find_14 : decode cX3_find 14 = .ok (.getfield 22, 3) := by decide +kernel
theorem dX3_find_17 : decode cX3_find 17 = .ok (.getfield 44, 3) := by decide +kernel
theorem dX3_find_20 : decode cX3_find 20 = .ok (.if_icmp .ge 37, 3) := by decide +kernel
theorem dX3_find_23 : decode cX3_find 23 = .ok (.aload_n 0, 1) := by decide +kernel
theorem dX3_find_24 : decode cX3_find 24 = .ok (.iload_n 1, 1) := by decide +kernel
theorem dX3_find_25 : decode cX3_find 25 = .ok (.invokevirtual 47, 3) := by decide +kernel
theorem dX3_find_28 : decode cX3_find 28 = .ok (.ifCond .eq 23, 3) := by decide +kernel
theorem dX3_find_31 : decode cX3_find 31 = .ok (.aload_n 0, 1) := by decide +kernel
theorem dX3_find_32 : decode cX3_find 32 = .ok (.dup, 1) := by decide +kernel
theorem dX3_find_33 : decode cX3_find 33 = .ok (.getfield 37, 3) := by decide +kernel
theorem dX3_find_36 : decode cX3_find 36 = .ok (.iconst 1, 1) := by decide +kernel
theorem dX3_find_37 : decode cX3_find 37 = .ok (.iadd, 1) := by decide +kernel
theorem dX3_find_38 : decode cX3_find 38 = .ok (.putfield 37, 3) := by decide +kernel
theorem dX3_find_41 : decode cX3_find 41 = .ok (.aload_n 0, 1) := by decide +kernel
theorem dX3_find_42 : decode cX3_find 42 = .ok (.iload_n 1, 1) := by decide +kernel
theorem dX3_find_43 : decode cX3_find 43 = .ok (.aload_n 0, 1) := by decide +kernel
theorem dX3_find_44 : decode cX3_find 44 = .ok (.iload_n 1, 1) := by decide +kernel
theorem dX3_find_45 : decode cX3_find 45 = .ok (.invokevirtual 51, 3) := by decide +kernel
theorem dX3_find_48 : decode cX3_find 48 = .ok (.invokevirtual 55, 3) := by decide +kernel
theorem dX3_find_51 : decode cX3_find 51 = .ok (.iinc 1 1, 3) := by decide +kernel
theorem dX3_find_54 : decode cX3_find 54 = .ok (.goto (-42), 3) := by decide +kernel
theorem dX3_find_57 : decode cX3_find 57 = .ok (.aload_n 0, 1) := by decide +kernel
theorem dX3_find_58 : decode cX3_find 58 = .ok (.invokevirtual 59, 3) := by decide +kernel
theorem dX3_find_61 : decode cX3_find 61 = .ok (.return_, 1) := by decide +kernel
abbrev o_X3_find_q123 : Type := Int32 × Int32 × (Nat → Int32) × (Nat → Int64) × (Nat → Int64)
def f_X3_find_q123_L12 (S : wd_W) (k57_5 : (Int32) → (Int32) → (Nat → Int32) → (Nat → Int64) → (Option o_X3_find_q123)) (r12 : (Int32) → (Int32) → (Int32) → (Nat → Int32) → (Nat → Int64) → (Option o_X3_find_q123)) (x7 : Int32) (x8 : Int32) (x9 : Int32) (a10 : Nat → Int32) (a11 : Nat → Int64) : Option o_X3_find_q123 :=
if (S.1 10602) ≤ x7 then (
k57_5 x8 x9 a10 a11) else (
bd (f_X3_isLeast_q123 (wd_o S [(12300, x8), (12301, x9)] [] [(124, a10)] [(125, a11), (126, (S.2.2.2.1 126))] []) x7) fun o13 =>
lk (fun x14 x15 a16 a17 =>
r12 (x7 + (1 : Int32)) x14 x15 a16 a17) fun k51_18 =>
if o13 = 0 then (
k51_18 x8 x9 a10 a11) else (
lz (x8 + (1 : Int32)) fun x19 =>
bd (f_X3_valueOf_q123 (wd_o S [(12300, x19), (12301, x9)] [] [(124, a10)] [(125, a11), (126, (S.2.2.2.1 126))] []) x7) fun o20 =>
bd (f_X3_tell_q123 (wd_o S [(12300, x19), (12301, x9)] [] [(124, a10)] [(125, a11), (126, (S.2.2.2.1 126))] []) x7 o20) fun o21 =>
k51_18 x19 o21.1 o21.2.1 o21.2.2))
def f_X3_find_q123 (S : wd_W) : Option o_X3_find_q123 :=
lk (fun x1 x2 a3 a4 =>
bd (f_X3_shareOut_q123 (wd_o S [(12300, x1), (12301, x2)] [] [(124, a3)] [(125, a4), (126, (S.2.2.2.1 126))] [])) fun o6 =>
some (x1, x2, a3, a4, o6)) fun k57_5 =>
it5 (f_X3_find_q123_L12 S k57_5) fuel (0 : Int32) (0 : Int32) (0 : Int32) (S.2.2.1 124) (S.2.2.2.1 125)
set_option maxRecDepth 100000 in
set_option maxHeartbeats 4000000 in
theorem c_X3_find_q123 (l : Launch) (D : va_G) (q g : Nat → Nat) (cy : Nat → ClassId) (z : (Nat → Nat) × (Nat → Nat) × Nat) (S : wd_W) (o : o_X3_find_q123) (hf : f_X3_find_q123 S = some o) : MX layX l yX3_find cX3_find 2 none ({ frames := 3, cells := 0, slots := 0, locals := 65 } : Room) D q g cy z [.ref (q 123)] S false (none) (wd_o S [(12300, o.1), (12301, o.2.1)] [] [(124, o.2.2.1)] [(125, o.2.2.2.1), (126, o.2.2.2.2)] []) 0 0 := by
  refine mx_of (own := RX3) (lc := [(0, .ref (q 123))]) (by decide +kernel) rfl layX_ok (Nat.le_of_ble_eq_true rfl) rfl ?_
  intro X hXl hXq hXz hC hQ
  subst hXl; subst hXq; subst hXz
  unfold f_X3_find_q123 at hf
  refine go_keys (L1 := [(12300, (S.1 12300)), (12301, (S.1 12301))]) (L2 := []) (L3 := [(124, (S.2.2.1 124))]) (L4 := [(125, (S.2.2.2.1 125)), (126, (S.2.2.2.1 126))]) (L5 := []) [12300, 12301] [] [124] [125, 126] [] rfl rfl rfl rfl rfl ?_
  refine go_aload_n (pc' := 1) hC dX3_find_0 rfl rfl ?_
  refine go_iconst (pc' := 2) hC dX3_find_1 ki_0 rfl ?_
  refine go_puti (L1' := [(12300, (0 : Int32)), (12301, (S.1 12301))]) (pc' := 5) hC 123 0 layX_123 rfl rfl inlX3 tyX3_ok nmX3 (Nat.le_of_ble_eq_true rfl) mw_719 rfl rfl rfl rfl dX3_find_2 rfl rfl rfl ?_
  refine go_aload_n (pc' := 6) hC dX3_find_5 rfl rfl ?_
  refine go_iconst (pc' := 7) hC dX3_find_6 ki_0 rfl ?_
  refine go_puti (L1' := [(12300, (0 : Int32)), (12301, (0 : Int32))]) (pc' := 10) hC 123 1 layX_123 rfl rfl inlX3 tyX3_ok nmX3 (Nat.le_of_ble_eq_true rfl) mw_720 rfl rfl rfl rfl dX3_find_7 rfl rfl rfl ?_
  refine go_iconst (pc' := 11) hC dX3_find_10 ki_0 rfl ?_
  refine go_istore_n (lc' := [(0, .ref (x_q X 123)), (1, .int (0 : Int32))]) (pc' := 12) hC dX3_find_11 (Nat.le_of_ble_eq_true rfl) rfl rfl ?_
  obtain ⟨k57_5, hk57_5, hf⟩ := lk_e4 hf
  have jk57_5 : ∀ (x1 : Int32) (x2 : Int32) (a3 : Nat → Int32) (a4 : Nat → Int64), k57_5 x1 x2 a3 a4 = some o → Go X layX S 57 [(0, .ref (x_q X 123))] [] g [(12300, x1), (12301, x2)] [] [(124, a3)] [(125, a4), (126, (S.2.2.2.1 126))] [] 0 0 := by
    intro x1 x2 a3 a4 hf
    have hf := hk57_5 x1 x2 a3 a4 hf
    clear hk57_5
    refine go_aload_n (pc' := 58) hC dX3_find_57 rfl rfl ?_
    obtain ⟨o6, ho6, hf⟩ := bd_e hf
    refine go_callV1 (pc' := 61) (As := []) (st := []) (st' := []) (L1' := [(12300, x1), (12301, x2)]) (L2' := []) (L3' := [(124, a3)]) (L4' := [(125, a4), (126, o6)]) (L5' := []) (cells' := 0) (slots' := 0)  (b := 123) hC dX3_find_58 ⟨mw_751, mw_754, mw_35, yd_yX3_shareOut, yp_yX3_shareOut, Nat.le_of_ble_eq_true rfl, Nat.le_of_ble_eq_true rfl, (Nat.le_of_ble_eq_true rfl), (Nat.le_of_ble_eq_true rfl)⟩ mw_752 mw_753 layX_123 rfl rfl rfl (Nat.le_of_ble_eq_true rfl) (c_X3_shareOut_q123 (x_l X) (x_D X) (x_q X) g (x_cy X) (x_z X) _  o6 ho6) rfl rfl rfl rfl rfl rfl rfl rfl rfl rfl rfl rfl rfl rfl ?_
    obtain rfl := Option.some.inj hf
    exact go_vret hC hQ dX3_find_61 rfl rfl rfl (fun _ => rfl) rfl rfl
  clear hk57_5
  have l12_24 : ∀ (nn : Nat) (x7 : Int32) (x8 : Int32) (x9 : Int32) (a10 : Nat → Int32) (a11 : Nat → Int64), it5 (f_X3_find_q123_L12 S k57_5) nn x7 x8 x9 a10 a11 = some o → Go X layX S 12 [(0, .ref (x_q X 123)), (1, .int x7)] [] g [(12300, x8), (12301, x9)] [] [(124, a10)] [(125, a11), (126, (S.2.2.2.1 126))] [] 0 0 := by
    intro nn
    induction nn with
    | zero =>
      intro x7 x8 x9 a10 a11 hf
      exact none_no hf
    | succ nn ih =>
      intro x7 x8 x9 a10 a11 hf
      have hf : f_X3_find_q123_L12 S k57_5 (it5 (f_X3_find_q123_L12 S k57_5) nn) x7 x8 x9 a10 a11 = some o := hf
      generalize it5 (f_X3_find_q123_L12 S k57_5) nn = r12 at ih hf
      unfold f_X3_find_q123_L12 at hf
      refine go_iload_n (pc' := 13) hC dX3_find_12 rfl rfl ?_
      refine go_aload_n (pc' := 14) hC dX3_find_13 rfl rfl ?_
      refine go_getq (pc' := 17) hC 123 6 layX_123 rfl rfl inlX3 (Nat.le_of_ble_eq_true rfl) mw_131 rfl dX3_find_14 rfl ?_
      refine go_geti (v := (S.1 10602)) (pc' := 20) hC 106 2 layX_106 rfl rfl inlX8 (Nat.le_of_ble_eq_true rfl) mw_721 rfl dX3_find_17 rfl rfl ?_
      refine go_icmp_ge (tgt := 57) (pc' := 23) hC dX3_find_20 (by decide) rfl (fun h23 => ?_) (fun h23 => ?_)
      · have hf := ite_t h23 hf
        refine go_sub [0] rfl ?_
        exact jk57_5 x8 x9 a10 a11 hf
      · have hf := ite_f h23 hf
        refine go_aload_n (pc' := 24) hC dX3_find_23 rfl rfl ?_
        refine go_iload_n (pc' := 25) hC dX3_find_24 rfl rfl ?_
        obtain ⟨o13, ho13, hf⟩ := bd_e hf
        refine go_callV0 (pc' := 28) (As := [.int x7]) (st := []) (st' := [.int o13])    (b := 123) hC dX3_find_25 ⟨mw_722, mw_725, mw_35, yd_yX3_isLeast, yp_yX3_isLeast, Nat.le_of_ble_eq_true rfl, Nat.le_of_ble_eq_true rfl, (Nat.le_of_ble_eq_true rfl), (Nat.le_of_ble_eq_true rfl)⟩ mw_723 mw_724 layX_123 rfl rfl rfl (Nat.le_of_ble_eq_true rfl) (c_X3_isLeast_q123 (x_l X) (x_D X) (x_q X) g (x_cy X) (x_z X) _ x7 o13 ho13) rfl rfl ?_
        obtain ⟨k51_18, hk51_18, hf⟩ := lk_e4 hf
        have jk51_18 : ∀ (x14 : Int32) (x15 : Int32) (a16 : Nat → Int32) (a17 : Nat → Int64), k51_18 x14 x15 a16 a17 = some o → Go X layX S 51 [(0, .ref (x_q X 123)), (1, .int x7)] [] g [(12300, x14), (12301, x15)] [] [(124, a16)] [(125, a17), (126, (S.2.2.2.1 126))] [] 0 0 := by
          intro x14 x15 a16 a17 hf
          have hf := hk51_18 x14 x15 a16 a17 hf
          clear hk51_18
          refine go_iinc (lc' := [(0, .ref (x_q X 123)), (1, .int (x7 + (1 : Int32)))]) (pc' := 54) hC dX3_find_51 rfl ki_1 (Nat.le_of_ble_eq_true rfl) rfl rfl ?_
          refine go_goto (tgt := 12) hC dX3_find_54 (by decide) ?_
          exact ih (x7 + (1 : Int32)) x14 x15 a16 a17 hf
        clear hk51_18
        refine go_if_eq (tgt := 51) (pc' := 31) hC dX3_find_28 (by decide) rfl (fun h22 => ?_) (fun h22 => ?_)
        · have hf := ite_t h22 hf
          exact jk51_18 x8 x9 a10 a11 hf
        · have hf := ite_f h22 hf
          refine go_aload_n (pc' := 32) hC dX3_find_31 rfl rfl ?_
          refine go_dup (pc' := 33) hC dX3_find_32 rfl rfl ?_
          refine go_geti (v := x8) (pc' := 36) hC 123 0 layX_123 rfl rfl inlX3 (Nat.le_of_ble_eq_true rfl) mw_719 rfl dX3_find_33 rfl rfl ?_
          refine go_iconst (pc' := 37) hC dX3_find_36 ki_1 rfl ?_
          refine go_iadd (pc' := 38) hC dX3_find_37 rfl ?_
          refine go_namei (fun x19 hx => ?_)
          have hf := lz_r hx hf
          clear hx
          refine go_puti (L1' := [(12300, x19), (12301, x9)]) (pc' := 41) hC 123 0 layX_123 rfl rfl inlX3 tyX3_ok nmX3 (Nat.le_of_ble_eq_true rfl) mw_719 rfl rfl rfl rfl dX3_find_38 rfl rfl rfl ?_
          refine go_aload_n (pc' := 42) hC dX3_find_41 rfl rfl ?_
          refine go_iload_n (pc' := 43) hC dX3_find_42 rfl rfl ?_
          refine go_aload_n (pc' := 44) hC dX3_find_43 rfl rfl ?_
          refine go_iload_n (pc' := 45) hC dX3_find_44 rfl rfl ?_
          obtain ⟨o20, ho20, hf⟩ := bd_e hf
          refine go_callV0 (pc' := 48) (As := [.int x7]) (st := [.int x7, .ref (x_q X 123)]) (st' := [.long o20, .int x7, .ref (x_q X 123)])    (b := 123) hC dX3_find_45 ⟨mw_740, mw_743, mw_35, yd_yX3_valueOf, yp_yX3_valueOf, Nat.le_of_ble_eq_true rfl, Nat.le_of_ble_eq_true rfl, (Nat.le_of_ble_eq_true rfl), (Nat.le_of_ble_eq_true rfl)⟩ mw_741 mw_742 layX_123 rfl rfl rfl (Nat.le_of_ble_eq_true rfl) (c_X3_valueOf_q123 (x_l X) (x_D X) (x_q X) g (x_cy X) (x_z X) _ x7 o20 ho20) rfl rfl ?_
          obtain ⟨o21, ho21, hf⟩ := bd_e hf
          refine go_callV1 (pc' := 51) (As := [.int x7, .long o20]) (st := []) (st' := []) (L1' := [(12300, x19), (12301, o21.1)]) (L2' := []) (L3' := [(124, o21.2.1)]) (L4' := [(125, o21.2.2), (126, (S.2.2.2.1 126))]) (L5' := []) (cells' := 0) (slots' := 0)  (b := 123) hC dX3_find_48 ⟨mw_746, mw_749, mw_35, yd_yX3_tell, yp_yX3_tell, Nat.le_of_ble_eq_true rfl, Nat.le_of_ble_eq_true rfl, (Nat.le_of_ble_eq_true rfl), (Nat.le_of_ble_eq_true rfl)⟩ mw_747 mw_748 layX_123 rfl rfl rfl (Nat.le_of_ble_eq_true rfl) (c_X3_tell_q123 (x_l X) (x_D X) (x_q X) g (x_cy X) (x_z X) _ x7 o20 o21 ho21) rfl rfl rfl rfl rfl rfl rfl rfl rfl rfl rfl rfl rfl rfl ?_
          exact jk51_18 x19 o21.1 o21.2.1 o21.2.2 hf
  exact l12_24 fuel (0 : Int32) (0 : Int32) (0 : Int32) (S.2.2.1 124) (S.2.2.2.1 125) hf
abbrev o_X3_holding_q127 : Type := Int32
def f_X3_holding_q127 (S : wd_W) (p1 : Int32) : Option o_X3_holding_q127 :=
if (S.1 12703) = 0 then (
some p1) else (
some (((S.1 10602) - (1 : Int32)) ^^^ p1))
set_option maxRecDepth 100000 in
set_option maxHeartbeats 4000000 in
theorem c_X3_holding_q127 (l : Launch) (D : va_G) (q g : Nat → Nat) (cy : Nat → ClassId) (z : (Nat → Nat) × (Nat → Nat) × Nat) (S : wd_W) (p1 : Int32) (o : o_X3_holding_q127) (hf : f_X3_holding_q127 S p1 = some o) : MX layX l yX3_holding cX3_holding 2 (some .int) ({ frames := 0, cells := 0, slots := 0, locals := 0 } : Room) D q g cy z [.ref (q 127), .int p1] S false (some (.int o)) (wd_o S [] [] [] [] []) 0 0 := by
  refine mx_of (own := RX3) (lc := [(0, .ref (q 127)), (1, .int p1)]) (by decide +kernel) rfl layX_ok (Nat.le_of_ble_eq_true rfl) rfl ?_
  intro X hXl hXq hXz hC hQ
  subst hXl; subst hXq; subst hXz
  unfold f_X3_holding_q127 at hf
  refine go_aload_n (pc' := 1) hC dX3_holding_0 rfl rfl ?_
  refine go_geti (v := (S.1 12703)) (pc' := 4) hC 127 3 layX_127 rfl rfl inlX3 (Nat.le_of_ble_eq_true rfl) mw_134 rfl dX3_holding_1 rfl rfl ?_
  refine go_if_eq (tgt := 21) (pc' := 7) hC dX3_holding_4 (by decide) rfl (fun h1 => ?_) (fun h1 => ?_)
  · have hf := ite_t h1 hf
    refine go_iload_n (pc' := 22) hC dX3_holding_21 rfl rfl ?_
    obtain rfl := Option.some.inj hf
    exact go_iret hC hQ dX3_holding_22 rfl rfl rfl rfl (fun _ => rfl) rfl rfl
  · have hf := ite_f h1 hf
    refine go_aload_n (pc' := 8) hC dX3_holding_7 rfl rfl ?_
    refine go_getq (pc' := 11) hC 127 6 layX_127 rfl rfl inlX3 (Nat.le_of_ble_eq_true rfl) mw_131 rfl dX3_holding_8 rfl ?_
    refine go_geti (v := (S.1 10602)) (pc' := 14) hC 106 2 layX_106 rfl rfl inlX8 (Nat.le_of_ble_eq_true rfl) mw_721 rfl dX3_holding_11 rfl rfl ?_
    refine go_iconst (pc' := 15) hC dX3_holding_14 ki_1 rfl ?_
    refine go_isub (pc' := 16) hC dX3_holding_15 rfl ?_
    refine go_iload_n (pc' := 17) hC dX3_holding_16 rfl rfl ?_
    refine go_ixor (pc' := 18) hC dX3_holding_17 rfl ?_
    refine go_goto (tgt := 22) hC dX3_holding_18 (by decide) ?_
    obtain rfl := Option.some.inj hf
    exact go_iret hC hQ dX3_holding_22 rfl rfl rfl rfl (fun _ => rfl) rfl rfl
abbrev o_X3_isLeast_q127 : Type := Int32
def f_X3_isLeast_q127_L25 (S : wd_W) (p1 : Int32) (o1 : o_X3_holding_q127) (r4 : (Int32) → (Option o_X3_isLeast_q127)) (x3 : Int32) : Option o_X3_isLeast_q127 :=
if (S.1 11700) ≤ x3 then (
some (1 : Int32)) else (
lk (r4 (x3 + (1 : Int32))) fun k65_5 =>
if ((p1 >>> (x3 &&& 31)) &&& (1 : Int32)) = 0 then (
k65_5) else (
bd (f_X8_isThrough_q106 (wd_o S [] [] [] [] []) (o1 ^^^ ((1 : Int32) <<< (x3 &&& 31)))) fun o6 =>
if o6 = (S.1 12703) then (
k65_5) else (
some (0 : Int32))))
def f_X3_isLeast_q127 (S : wd_W) (p1 : Int32) : Option o_X3_isLeast_q127 :=
bd (f_X3_holding_q127 (wd_o S [] [] [] [] []) p1) fun o1 =>
bd (f_X8_isThrough_q106 (wd_o S [] [] [] [] []) o1) fun o2 =>
if o2 = (S.1 12703) then (
some (0 : Int32)) else (
it1 (f_X3_isLeast_q127_L25 S p1 o1) fuel (0 : Int32))
set_option maxRecDepth 100000 in
set_option maxHeartbeats 4000000 in
theorem c_X3_isLeast_q127 (l : Launch) (D : va_G) (q g : Nat → Nat) (cy : Nat → ClassId) (z : (Nat → Nat) × (Nat → Nat) × Nat) (S : wd_W) (p1 : Int32) (o : o_X3_isLeast_q127) (hf : f_X3_isLeast_q127 S p1 = some o) : MX layX l yX3_isLeast cX3_isLeast 4 (some .boolean) ({ frames := 2, cells := 0, slots := 0, locals := 42 } : Room) D q g cy z [.ref (q 127), .int p1] S false (some (.int o)) (wd_o S [] [] [] [] []) 0 0 := by
  refine mx_of (own := RX3) (lc := [(0, .ref (q 127)), (1, .int p1)]) (by decide +kernel) rfl layX_ok (Nat.le_of_ble_eq_true rfl) rfl ?_
  intro X hXl hXq hXz hC hQ
  subst hXl; subst hXq; subst hXz
  unfold f_X3_isLeast_q127 at hf
  refine go_aload_n (pc' := 1) hC dX3_isLeast_0 rfl rfl ?_
  refine go_iload_n (pc' := 2) hC dX3_isLeast_1 rfl rfl ?_
  obtain ⟨o1, ho1, hf⟩ := bd_e hf
  refine go_callV0 (pc' := 5) (As := [.int p1]) (st := []) (st' := [.int o1])    (b := 127) hC dX3_isLeast_2 ⟨mw_727, mw_730, mw_35, yd_yX3_holding, yp_yX3_holding, Nat.le_of_ble_eq_true rfl, Nat.le_of_ble_eq_true rfl, (Nat.le_of_ble_eq_true rfl), (Nat.le_of_ble_eq_true rfl)⟩ mw_728 mw_729 layX_127 rfl rfl rfl (Nat.le_of_ble_eq_true rfl) (c_X3_holding_q127 (x_l X) (x_D X) (x_q X) g (x_cy X) (x_z X) _ p1 o1 ho1) rfl rfl ?_
  refine go_istore_n (lc' := [(0, .ref (x_q X 127)), (1, .int p1), (2, .int o1)]) (pc' := 6) hC dX3_isLeast_5 (Nat.le_of_ble_eq_true rfl) rfl rfl ?_
  refine go_aload_n (pc' := 7) hC dX3_isLeast_6 rfl rfl ?_
  refine go_getq (pc' := 10) hC 127 6 layX_127 rfl rfl inlX3 (Nat.le_of_ble_eq_true rfl) mw_131 rfl dX3_isLeast_7 rfl ?_
  refine go_iload_n (pc' := 11) hC dX3_isLeast_10 rfl rfl ?_
  obtain ⟨o2, ho2, hf⟩ := bd_e hf
  refine go_callV0 (pc' := 14) (As := [.int o1]) (st := []) (st' := [.int o2])    (b := 106) hC dX3_isLeast_11 ⟨mw_731, mw_734, mw_31, yd_yX8_isThrough, yp_yX8_isThrough, Nat.le_of_ble_eq_true rfl, Nat.le_of_ble_eq_true rfl, (Nat.le_of_ble_eq_true rfl), (Nat.le_of_ble_eq_true rfl)⟩ mw_732 mw_733 layX_106 rfl rfl rfl (Nat.le_of_ble_eq_true rfl) (c_X8_isThrough_q106 (x_l X) (x_D X) (x_q X) g (x_cy X) (x_z X) _ o1 o2 ho2) rfl rfl ?_
  refine go_aload_n (pc' := 15) hC dX3_isLeast_14 rfl rfl ?_
  refine go_geti (v := (S.1 12703)) (pc' := 18) hC 127 3 layX_127 rfl rfl inlX3 (Nat.le_of_ble_eq_true rfl) mw_134 rfl dX3_isLeast_15 rfl rfl ?_
  refine go_icmp_ne (tgt := 23) (pc' := 21) hC dX3_isLeast_18 (by decide) rfl (fun h11 => ?_) (fun h11 => ?_)
  · have hf := ite_f h11 hf
    refine go_iconst (pc' := 24) hC dX3_isLeast_23 ki_0 rfl ?_
    refine go_istore_n (lc' := [(0, .ref (x_q X 127)), (1, .int p1), (2, .int o1), (3, .int (0 : Int32))]) (pc' := 25) hC dX3_isLeast_24 (Nat.le_of_ble_eq_true rfl) rfl rfl ?_
    have l25_10 : ∀ (nn : Nat) (x3 : Int32), it1 (f_X3_isLeast_q127_L25 S p1 o1) nn x3 = some o → Go X layX S 25 [(0, .ref (x_q X 127)), (1, .int p1), (2, .int o1), (3, .int x3)] [] g [] [] [] [] [] 0 0 := by
      intro nn
      induction nn with
      | zero =>
        intro x3 hf
        exact none_no hf
      | succ nn ih =>
        intro x3 hf
        have hf : f_X3_isLeast_q127_L25 S p1 o1 (it1 (f_X3_isLeast_q127_L25 S p1 o1) nn) x3 = some o := hf
        generalize it1 (f_X3_isLeast_q127_L25 S p1 o1) nn = r4 at ih hf
        unfold f_X3_isLeast_q127_L25 at hf
        refine go_iload_n (pc' := 26) hC dX3_isLeast_25 rfl rfl ?_
        refine go_aload_n (pc' := 27) hC dX3_isLeast_26 rfl rfl ?_
        refine go_getq (pc' := 30) hC 127 7 layX_127 rfl rfl inlX3 (Nat.le_of_ble_eq_true rfl) mw_133 rfl dX3_isLeast_27 rfl ?_
        refine go_geti (v := (S.1 11700)) (pc' := 33) hC 117 0 layX_117 rfl rfl inlX10 (Nat.le_of_ble_eq_true rfl) mw_726 rfl dX3_isLeast_30 rfl rfl ?_
        refine go_icmp_ge (tgt := 71) (pc' := 36) hC dX3_isLeast_33 (by decide) rfl (fun h9 => ?_) (fun h9 => ?_)
        · have hf := ite_t h9 hf
          refine go_iconst (pc' := 72) hC dX3_isLeast_71 ki_1 rfl ?_
          obtain rfl := Option.some.inj hf
          exact go_iret hC hQ dX3_isLeast_72 rfl rfl rfl rfl (fun _ => rfl) rfl rfl
        · have hf := ite_f h9 hf
          refine go_iload_n (pc' := 37) hC dX3_isLeast_36 rfl rfl ?_
          refine go_iload_n (pc' := 38) hC dX3_isLeast_37 rfl rfl ?_
          refine go_ishr (pc' := 39) hC dX3_isLeast_38 rfl ?_
          refine go_iconst (pc' := 40) hC dX3_isLeast_39 ki_1 rfl ?_
          refine go_iand (pc' := 41) hC dX3_isLeast_40 rfl ?_
          obtain ⟨k65_5, hk65_5, hf⟩ := lk_e0 hf
          have jk65_5 : ∀ (_ : Unit), k65_5 = some o → Go X layX S 65 [(0, .ref (x_q X 127)), (1, .int p1), (2, .int o1), (3, .int x3)] [] g [] [] [] [] [] 0 0 := by
            intro _ hf
            have hf := hk65_5 hf
            clear hk65_5
            refine go_iinc (lc' := [(0, .ref (x_q X 127)), (1, .int p1), (2, .int o1), (3, .int (x3 + (1 : Int32)))]) (pc' := 68) hC dX3_isLeast_65 rfl ki_1 (Nat.le_of_ble_eq_true rfl) rfl rfl ?_
            refine go_goto (tgt := 25) hC dX3_isLeast_68 (by decide) ?_
            exact ih (x3 + (1 : Int32)) hf
          clear hk65_5
          refine go_if_eq (tgt := 65) (pc' := 44) hC dX3_isLeast_41 (by decide) rfl (fun h8 => ?_) (fun h8 => ?_)
          · have hf := ite_t h8 hf
            exact jk65_5 () hf
          · have hf := ite_f h8 hf
            refine go_aload_n (pc' := 45) hC dX3_isLeast_44 rfl rfl ?_
            refine go_getq (pc' := 48) hC 127 6 layX_127 rfl rfl inlX3 (Nat.le_of_ble_eq_true rfl) mw_131 rfl dX3_isLeast_45 rfl ?_
            refine go_iload_n (pc' := 49) hC dX3_isLeast_48 rfl rfl ?_
            refine go_iconst (pc' := 50) hC dX3_isLeast_49 ki_1 rfl ?_
            refine go_iload_n (pc' := 51) hC dX3_isLeast_50 rfl rfl ?_
            refine go_ishl (pc' := 52) hC dX3_isLeast_51 rfl ?_
            refine go_ixor (pc' := 53) hC dX3_isLeast_52 rfl ?_
            obtain ⟨o6, ho6, hf⟩ := bd_e hf
            refine go_callV0 (pc' := 56) (As := [.int (o1 ^^^ ((1 : Int32) <<< (x3 &&& 31)))]) (st := []) (st' := [.int o6])    (b := 106) hC dX3_isLeast_53 ⟨mw_731, mw_734, mw_31, yd_yX8_isThrough, yp_yX8_isThrough, Nat.le_of_ble_eq_true rfl, Nat.le_of_ble_eq_true rfl, (Nat.le_of_ble_eq_true rfl), (Nat.le_of_ble_eq_true rfl)⟩ mw_732 mw_733 layX_106 rfl rfl rfl (Nat.le_of_ble_eq_true rfl) (c_X8_isThrough_q106 (x_l X) (x_D X) (x_q X) g (x_cy X) (x_z X) _ (o1 ^^^ ((1 : Int32) <<< (x3 &&& 31))) o6 ho6) rfl rfl ?_
            refine go_aload_n (pc' := 57) hC dX3_isLeast_56 rfl rfl ?_
            refine go_geti (v := (S.1 12703)) (pc' := 60) hC 127 3 layX_127 rfl rfl inlX3 (Nat.le_of_ble_eq_true rfl) mw_134 rfl dX3_isLeast_57 rfl rfl ?_
            refine go_icmp_eq (tgt := 65) (pc' := 63) hC dX3_isLeast_60 (by decide) rfl (fun h7 => ?_) (fun h7 => ?_)
            · have hf := ite_t h7 hf
              exact jk65_5 () hf
            · have hf := ite_f h7 hf
              refine go_iconst (pc' := 64) hC dX3_isLeast_63 ki_0 rfl ?_
              obtain rfl := Option.some.inj hf
              exact go_iret hC hQ dX3_isLeast_64 rfl rfl rfl rfl (fun _ => rfl) rfl rfl
    exact l25_10 fuel (0 : Int32) hf
  · have hf := ite_t h11 hf
    refine go_iconst (pc' := 22) hC dX3_isLeast_21 ki_0 rfl ?_
    obtain rfl := Option.some.inj hf
    exact go_iret hC hQ dX3_isLeast_22 rfl rfl rfl rfl (fun _ => rfl) rfl rfl
