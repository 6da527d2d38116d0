abbrev o_X3_valueOf_q127 : Type := Int64
def f_X3_valueOf_q127_L5 (S : wd_W) (p1 : Int32) (r3 : (Int64) → (Int32) → (Option o_X3_valueOf_q127)) (x1 : Int64) (x2 : Int32) : Option o_X3_valueOf_q127 :=
if (S.1 11700) ≤ x2 then (
some x1) else (
lk (fun x4 =>
lk (fun x6 x7 =>
lz (x7 * x6) fun x9 =>
r3 x9 (x2 + (1 : Int32))) fun k71_8 =>
if ((p1 >>> (x2 &&& 31)) &&& (1 : Int32)) = 0 then (
k71_8 (16 : Int64) x1) else (
k71_8 x4.toInt64 x1)) fun k50_5 =>
if (S.1 12703) = 0 then (
gd (okx x2 15) <|
k50_5 ((S.2.2.1 118) x2.toNatClampNeg)) else (
gd (okx x2 15) <|
k50_5 ((16 : Int32) - ((S.2.2.1 118) x2.toNatClampNeg))))
def f_X3_valueOf_q127 (S : wd_W) (p1 : Int32) : Option o_X3_valueOf_q127 :=
it2 (f_X3_valueOf_q127_L5 S p1) fuel (1 : Int64) (0 : Int32)
set_option maxRecDepth 100000 in
set_option maxHeartbeats 4000000 in
theorem c_X3_valueOf_q127 (l : Launch) (D : va_G) (q g : Nat → Nat) (cy : Nat → ClassId) (z : (Nat → Nat) × (Nat → Nat) × Nat) (S : wd_W) (p1 : Int32) (o : o_X3_valueOf_q127) (hf : f_X3_valueOf_q127 S p1 = some o) : MX layX l yX3_valueOf cX3_valueOf 6 (some .long) ({ frames := 0, cells := 0, slots := 0, locals := 0 } : Room) D q g cy z [.ref (q 127), .int p1] S false (some (.long o)) (wd_o S [] [] [] [] []) 0 0 := by
  refine mx_of (own := RX3) (lc := [(0, .ref (q 127)), (1, .int p1)]) (by decide +kernel) rfl layX_ok (Nat.le_of_ble_eq_true rfl) rfl ?_
  intro X hXl hXq hXz hC hQ
  subst hXl; subst hXq; subst hXz
  unfold f_X3_valueOf_q127 at hf
  refine go_lconst (pc' := 1) hC dX3_valueOf_0 kl_1 rfl ?_
  refine go_lstore_n (lc' := [(0, .ref (x_q X 127)), (1, .int p1), (2, .long (1 : Int64))]) (pc' := 2) hC dX3_valueOf_1 (Nat.le_of_ble_eq_true rfl) rfl rfl ?_
  refine go_iconst (pc' := 3) hC dX3_valueOf_2 ki_0 rfl ?_
  refine go_istore (lc' := [(0, .ref (x_q X 127)), (1, .int p1), (2, .long (1 : Int64)), (4, .int (0 : Int32))]) (pc' := 5) hC dX3_valueOf_3 (Nat.le_of_ble_eq_true rfl) rfl rfl ?_
  have l5_15 : ∀ (nn : Nat) (x1 : Int64) (x2 : Int32), it2 (f_X3_valueOf_q127_L5 S p1) nn x1 x2 = some o → Go X layX S 5 [(0, .ref (x_q X 127)), (1, .int p1), (2, .long x1), (4, .int x2)] [] g [] [] [] [] [] 0 0 := by
    intro nn
    induction nn with
    | zero =>
      intro x1 x2 hf
      exact none_no hf
    | succ nn ih =>
      intro x1 x2 hf
      have hf : f_X3_valueOf_q127_L5 S p1 (it2 (f_X3_valueOf_q127_L5 S p1) nn) x1 x2 = some o := hf
      generalize it2 (f_X3_valueOf_q127_L5 S p1) nn = r3 at ih hf
      unfold f_X3_valueOf_q127_L5 at hf
      refine go_iload (pc' := 7) hC dX3_valueOf_5 rfl rfl ?_
      refine go_aload_n (pc' := 8) hC dX3_valueOf_7 rfl rfl ?_
      refine go_getq (pc' := 11) hC 127 7 layX_127 rfl rfl inlX3 (Nat.le_of_ble_eq_true rfl) mw_133 rfl dX3_valueOf_8 rfl ?_
      refine go_geti (v := (S.1 11700)) (pc' := 14) hC 117 0 layX_117 rfl rfl inlX10 (Nat.le_of_ble_eq_true rfl) mw_726 rfl dX3_valueOf_11 rfl rfl ?_
      refine go_icmp_ge (tgt := 79) (pc' := 17) hC dX3_valueOf_14 (by decide) rfl (fun h14 => ?_) (fun h14 => ?_)
      · have hf := ite_t h14 hf
        refine go_lload_n (pc' := 80) hC dX3_valueOf_79 rfl rfl ?_
        obtain rfl := Option.some.inj hf
        exact go_lret hC hQ dX3_valueOf_80 rfl rfl rfl (fun _ => rfl) rfl rfl
      · have hf := ite_f h14 hf
        refine go_aload_n (pc' := 18) hC dX3_valueOf_17 rfl rfl ?_
        refine go_geti (v := (S.1 12703)) (pc' := 21) hC 127 3 layX_127 rfl rfl inlX3 (Nat.le_of_ble_eq_true rfl) mw_134 rfl dX3_valueOf_18 rfl rfl ?_
        obtain ⟨k50_5, hk50_5, hf⟩ := lk_e1 hf
        have jk50_5 : ∀ (x4 : Int32), k50_5 x4 = some o → Go X layX S 50 [(0, .ref (x_q X 127)), (1, .int p1), (2, .long x1), (4, .int x2)] [.int x4] g [] [] [] [] [] 0 0 := by
          intro x4 hf
          have hf := hk50_5 x4 hf
          clear hk50_5
          refine go_istore (lc' := [(0, .ref (x_q X 127)), (1, .int p1), (2, .long x1), (4, .int x2), (5, .int x4)]) (pc' := 52) hC dX3_valueOf_50 (Nat.le_of_ble_eq_true rfl) rfl rfl ?_
          refine go_lload_n (pc' := 53) hC dX3_valueOf_52 rfl rfl ?_
          refine go_iload_n (pc' := 54) hC dX3_valueOf_53 rfl rfl ?_
          refine go_iload (pc' := 56) hC dX3_valueOf_54 rfl rfl ?_
          refine go_ishr (pc' := 57) hC dX3_valueOf_56 rfl ?_
          refine go_iconst (pc' := 58) hC dX3_valueOf_57 ki_1 rfl ?_
          refine go_iand (pc' := 59) hC dX3_valueOf_58 rfl ?_
          obtain ⟨k71_8, hk71_8, hf⟩ := lk_e2 hf
          have jk71_8 : ∀ (x6 : Int64) (x7 : Int64), k71_8 x6 x7 = some o → Go X layX S 71 [(0, .ref (x_q X 127)), (1, .int p1), (4, .int x2)] [.long x6, .long x7] g [] [] [] [] [] 0 0 := by
            intro x6 x7 hf
            have hf := hk71_8 x6 x7 hf
            clear hk71_8
            refine go_lmul (pc' := 72) hC dX3_valueOf_71 rfl ?_
            refine go_namel (fun x9 hx => ?_)
            have hf := lz_r hx hf
            clear hx
            refine go_lstore_n (lc' := [(0, .ref (x_q X 127)), (1, .int p1), (2, .long x9), (4, .int x2)]) (pc' := 73) hC dX3_valueOf_72 (Nat.le_of_ble_eq_true rfl) rfl rfl ?_
            refine go_iinc (lc' := [(0, .ref (x_q X 127)), (1, .int p1), (2, .long x9), (4, .int (x2 + (1 : Int32)))]) (pc' := 76) hC dX3_valueOf_73 rfl ki_1 (Nat.le_of_ble_eq_true rfl) rfl rfl ?_
            refine go_goto (tgt := 5) hC dX3_valueOf_76 (by decide) ?_
            exact ih x9 (x2 + (1 : Int32)) hf
          clear hk71_8
          refine go_if_eq (tgt := 68) (pc' := 62) hC dX3_valueOf_59 (by decide) rfl (fun h10 => ?_) (fun h10 => ?_)
          · have hf := ite_t h10 hf
            refine go_ldc2 (pc' := 71) hC dX3_valueOf_68 mw_745 rfl ?_
            refine go_sub [0, 1, 4] rfl ?_
            exact jk71_8 (16 : Int64) x1 hf
          · have hf := ite_f h10 hf
            refine go_iload (pc' := 64) hC dX3_valueOf_62 rfl rfl ?_
            refine go_i2l (pc' := 65) hC dX3_valueOf_64 rfl ?_
            refine go_goto (tgt := 71) hC dX3_valueOf_65 (by decide) ?_
            refine go_sub [0, 1, 4] rfl ?_
            exact jk71_8 x4.toInt64 x1 hf
        clear hk50_5
        refine go_if_eq (tgt := 40) (pc' := 24) hC dX3_valueOf_21 (by decide) rfl (fun h13 => ?_) (fun h13 => ?_)
        · have hf := ite_t h13 hf
          refine go_aload_n (pc' := 41) hC dX3_valueOf_40 rfl rfl ?_
          refine go_getq (pc' := 44) hC 127 7 layX_127 rfl rfl inlX3 (Nat.le_of_ble_eq_true rfl) mw_133 rfl dX3_valueOf_41 rfl ?_
          refine go_getq (pc' := 47) hC 117 1 layX_117 rfl rfl inlX10 (Nat.le_of_ble_eq_true rfl) mw_744 rfl dX3_valueOf_44 rfl ?_
          refine go_iload (pc' := 49) hC dX3_valueOf_47 rfl rfl ?_
          obtain ⟨h11, hf⟩ := gd_e hf
          refine go_iald (f := (S.2.2.1 118)) (pc' := 50) hC 118 layX_118 rfl rfl dX3_valueOf_49 (okx_in h11) rfl ?_
          exact jk50_5 ((S.2.2.1 118) x2.toNatClampNeg) hf
        · have hf := ite_f h13 hf
          refine go_bipush (pc' := 26) hC dX3_valueOf_24 kb_16 rfl ?_
          refine go_aload_n (pc' := 27) hC dX3_valueOf_26 rfl rfl ?_
          refine go_getq (pc' := 30) hC 127 7 layX_127 rfl rfl inlX3 (Nat.le_of_ble_eq_true rfl) mw_133 rfl dX3_valueOf_27 rfl ?_
          refine go_getq (pc' := 33) hC 117 1 layX_117 rfl rfl inlX10 (Nat.le_of_ble_eq_true rfl) mw_744 rfl dX3_valueOf_30 rfl ?_
          refine go_iload (pc' := 35) hC dX3_valueOf_33 rfl rfl ?_
          obtain ⟨h12, hf⟩ := gd_e hf
          refine go_iald (f := (S.2.2.1 118)) (pc' := 36) hC 118 layX_118 rfl rfl dX3_valueOf_35 (okx_in h12) rfl ?_
          refine go_isub (pc' := 37) hC dX3_valueOf_36 rfl ?_
          refine go_goto (tgt := 50) hC dX3_valueOf_37 (by decide) ?_
          exact jk50_5 ((16 : Int32) - ((S.2.2.1 118) x2.toNatClampNeg)) hf
  exact l5_15 fuel (1 : Int64) (0 : Int32) hf
abbrev o_X3_tell_q127 : Type := Int32 × (Nat → Int32) × (Nat → Int64)
def f_X3_tell_q127_L62 (x2 : Int32) (k107_8 : (Nat → Int32) → (Nat → Int64) → (Option o_X3_tell_q127)) (r16 : (Int32) → (Nat → Int32) → (Nat → Int64) → (Option o_X3_tell_q127)) (x13 : Int32) (a14 : Nat → Int32) (a15 : Nat → Int64) : Option o_X3_tell_q127 :=
if x13 ≤ x2 then (
k107_8 a14 a15) else (
gd (okx (x13 - (1 : Int32)) 60) <|
lz (a14 (x13 - (1 : Int32)).toNatClampNeg) fun x18 =>
gd (okx x13 60) <|
lz (upd a14 x13.toNatClampNeg x18) fun a20 =>
gd (okx (x13 - (1 : Int32)) 60) <|
lz (a15 (x13 - (1 : Int32)).toNatClampNeg) fun x22 =>
gd (okx x13 60) <|
lz (vp_updL a15 x13.toNatClampNeg x22) fun a24 =>
r16 (x13 + (-1 : Int32)) a20 a24)
def f_X3_tell_q127_L6 (S : wd_W) (p2 : Int64) (k31_3 : (Int32) → (Option o_X3_tell_q127)) (r29 : (Int32) → (Option o_X3_tell_q127)) (x28 : Int32) : Option o_X3_tell_q127 :=
if x28 ≤ 0 then (
k31_3 x28) else (
gd (okx (x28 - (1 : Int32)) 60) <|
if p2 ≤ ((S.2.2.2.1 129) (x28 - (1 : Int32)).toNatClampNeg) then (
k31_3 x28) else (
r29 (x28 + (-1 : Int32))))
def f_X3_tell_q127 (S : wd_W) (p1 : Int32) (p2 : Int64) : Option o_X3_tell_q127 :=
lz ((S.1 12701)) fun x1 =>
lk (fun x2 =>
if x2 < (60 : Int32) then (
lz ((if (60 : Int32) < ((S.1 12701) + (1 : Int32)) then (60 : Int32) else ((S.1 12701) + (1 : Int32)))) fun x4 =>
lz (x4 - (1 : Int32)) fun x5 =>
lk (fun a6 a7 =>
gd (okx x2 60) <|
lz (upd a6 x2.toNatClampNeg p1) fun a10 =>
gd (okx x2 60) <|
lz (vp_updL a7 x2.toNatClampNeg p2) fun a12 =>
some (x4, a10, a12)) fun k107_8 =>
it3 (f_X3_tell_q127_L62 x2 k107_8) fuel x5 (S.2.2.1 128) (S.2.2.2.1 129)) else (
some ((S.1 12701), (S.2.2.1 128), (S.2.2.2.1 129)))) fun k31_3 =>
it1 (f_X3_tell_q127_L6 S p2 k31_3) fuel x1
set_option maxRecDepth 100000 in
set_option maxHeartbeats 4000000 in
theorem c_X3_tell_q127 (l : Launch) (D : va_G) (q g : Nat → Nat) (cy : Nat → ClassId) (z : (Nat → Nat) × (Nat → Nat) × Nat) (S : wd_W) (p1 : Int32) (p2 : Int64) (o : o_X3_tell_q127) (hf : f_X3_tell_q127 S p1 p2 = some o) : MX layX l yX3_tell cX3_tell 6 none ({ frames := 1, cells := 0, slots := 0, locals := 21 } : Room) D q g cy z [.ref (q 127), .int p1, .long p2] S false (none) (wd_o S [(12701, o.1)] [] [(128, o.2.1)] [(129, o.2.2)] []) 0 0 := by
  refine mx_of (own := RX3) (lc := [(0, .ref (q 127)), (1, .int p1), (2, .long p2)]) (by decide +kernel) rfl layX_ok (Nat.le_of_ble_eq_true rfl) rfl ?_
  intro X hXl hXq hXz hC hQ
  subst hXl; subst hXq; subst hXz
  unfold f_X3_tell_q127 at hf
  refine go_keys (L1 := [(12701, (S.1 12701))]) (L2 := []) (L3 := [(128, (S.2.2.1 128))]) (L4 := [(129, (S.2.2.2.1 129))]) (L5 := []) [12701] [] [128] [129] [] rfl rfl rfl rfl rfl ?_
  refine go_aload_n (pc' := 1) hC dX3_tell_0 rfl rfl ?_
  refine go_geti (v := (S.1 12701)) (pc' := 4) hC 127 1 layX_127 rfl rfl inlX3 (Nat.le_of_ble_eq_true rfl) mw_720 rfl dX3_tell_1 rfl rfl ?_
  refine go_namei (fun x1 hx => ?_)
  have hf := lz_r hx hf
  clear hx
  refine go_istore (lc' := [(0, .ref (x_q X 127)), (1, .int p1), (2, .long p2), (4, .int x1)]) (pc' := 6) hC dX3_tell_4 (Nat.le_of_ble_eq_true rfl) rfl rfl ?_
  obtain ⟨k31_3, hk31_3, hf⟩ := lk_e1 hf
  have jk31_3 : ∀ (x2 : Int32), k31_3 x2 = some o → Go X layX S 31 [(0, .ref (x_q X 127)), (1, .int p1), (2, .long p2), (4, .int x2)] [] g [(12701, (S.1 12701))] [] [(128, (S.2.2.1 128))] [(129, (S.2.2.2.1 129))] [] 0 0 := by
    intro x2 hf
    have hf := hk31_3 x2 hf
    clear hk31_3
    refine go_iload (pc' := 33) hC dX3_tell_31 rfl rfl ?_
    refine go_bipush (pc' := 35) hC dX3_tell_33 kb_60 rfl ?_
    refine go_icmp_lt (tgt := 39) (pc' := 38) hC dX3_tell_35 (by decide) rfl (fun h27 => ?_) (fun h27 => ?_)
    · have hf := ite_t h27 hf
      refine go_aload_n (pc' := 40) hC dX3_tell_39 rfl rfl ?_
      refine go_aload_n (pc' := 41) hC dX3_tell_40 rfl rfl ?_
      refine go_geti (v := (S.1 12701)) (pc' := 44) hC 127 1 layX_127 rfl rfl inlX3 (Nat.le_of_ble_eq_true rfl) mw_720 rfl dX3_tell_41 rfl rfl ?_
      refine go_iconst (pc' := 45) hC dX3_tell_44 ki_1 rfl ?_
      refine go_iadd (pc' := 46) hC dX3_tell_45 rfl ?_
      refine go_bipush (pc' := 48) hC dX3_tell_46 kb_60 rfl ?_
      refine go_mmin (pc' := 51) hC dX3_tell_48 mw_750 (Nat.le_of_ble_eq_true rfl) (Nat.le_of_ble_eq_true rfl) (Nat.le_of_ble_eq_true rfl) (Nat.le_of_ble_eq_true rfl) rfl ?_
      refine go_namei (fun x4 hx => ?_)
      have hf := lz_r hx hf
      clear hx
      refine go_puti (L1' := [(12701, x4)]) (pc' := 54) hC 127 1 layX_127 rfl rfl inlX3 tyX3_ok nmX3 (Nat.le_of_ble_eq_true rfl) mw_720 rfl rfl rfl rfl dX3_tell_51 rfl rfl rfl ?_
      refine go_aload_n (pc' := 55) hC dX3_tell_54 rfl rfl ?_
      refine go_geti (v := x4) (pc' := 58) hC 127 1 layX_127 rfl rfl inlX3 (Nat.le_of_ble_eq_true rfl) mw_720 rfl dX3_tell_55 rfl rfl ?_
      refine go_iconst (pc' := 59) hC dX3_tell_58 ki_1 rfl ?_
      refine go_isub (pc' := 60) hC dX3_tell_59 rfl ?_
      refine go_namei (fun x5 hx => ?_)
      have hf := lz_r hx hf
      clear hx
      refine go_istore (lc' := [(0, .ref (x_q X 127)), (1, .int p1), (2, .long p2), (4, .int x2), (5, .int x5)]) (pc' := 62) hC dX3_tell_60 (Nat.le_of_ble_eq_true rfl) rfl rfl ?_
      obtain ⟨k107_8, hk107_8, hf⟩ := lk_e2 hf
      have jk107_8 : ∀ (a6 : Nat → Int32) (a7 : Nat → Int64), k107_8 a6 a7 = some o → Go X layX S 107 [(0, .ref (x_q X 127)), (1, .int p1), (2, .long p2), (4, .int x2)] [] g [(12701, x4)] [] [(128, a6)] [(129, a7)] [] 0 0 := by
        intro a6 a7 hf
        have hf := hk107_8 a6 a7 hf
        clear hk107_8
        refine go_aload_n (pc' := 108) hC dX3_tell_107 rfl rfl ?_
        refine go_getq (pc' := 111) hC 127 2 layX_127 rfl rfl inlX3 (Nat.le_of_ble_eq_true rfl) mw_128 rfl dX3_tell_108 rfl ?_
        refine go_iload (pc' := 113) hC dX3_tell_111 rfl rfl ?_
        refine go_iload_n (pc' := 114) hC dX3_tell_113 rfl rfl ?_
        obtain ⟨h9, hf⟩ := gd_e hf
        refine go_iast (f := a6) (pc' := 115) hC 128 layX_128 rfl rfl dX3_tell_114 (okx_in h9) rfl rfl (fun a10 ha L3' hL => ?_)
        have hf := lz_r ha hf
        clear ha
        obtain rfl : L3' = [(128, a10)] := hL.symm
        refine go_aload_n (pc' := 116) hC dX3_tell_115 rfl rfl ?_
        refine go_getq (pc' := 119) hC 127 4 layX_127 rfl rfl inlX3 (Nat.le_of_ble_eq_true rfl) mw_129 rfl dX3_tell_116 rfl ?_
        refine go_iload (pc' := 121) hC dX3_tell_119 rfl rfl ?_
        refine go_lload_n (pc' := 122) hC dX3_tell_121 rfl rfl ?_
        obtain ⟨h11, hf⟩ := gd_e hf
        refine go_last (f := a7) (pc' := 123) hC 129 layX_129 rfl rfl dX3_tell_122 (okx_in h11) rfl rfl (fun a12 ha L4' hL => ?_)
        have hf := lz_r ha hf
        clear ha
        obtain rfl : L4' = [(129, a12)] := hL.symm
        obtain rfl := Option.some.inj hf
        exact go_vret hC hQ dX3_tell_123 rfl rfl rfl (fun _ => rfl) rfl rfl
      clear hk107_8
      have l62_26 : ∀ (nn : Nat) (x13 : Int32) (a14 : Nat → Int32) (a15 : Nat → Int64), it3 (f_X3_tell_q127_L62 x2 k107_8) nn x13 a14 a15 = some o → Go X layX S 62 [(0, .ref (x_q X 127)), (1, .int p1), (2, .long p2), (4, .int x2), (5, .int x13)] [] g [(12701, x4)] [] [(128, a14)] [(129, a15)] [] 0 0 := by
        intro nn
        induction nn with
        | zero =>
          intro x13 a14 a15 hf
          exact none_no hf
        | succ nn ih =>
          intro x13 a14 a15 hf
          have hf : f_X3_tell_q127_L62 x2 k107_8 (it3 (f_X3_tell_q127_L62 x2 k107_8) nn) x13 a14 a15 = some o := hf
          generalize it3 (f_X3_tell_q127_L62 x2 k107_8) nn = r16 at ih hf
          unfold f_X3_tell_q127_L62 at hf
          refine go_iload (pc' := 64) hC dX3_tell_62 rfl rfl ?_
          refine go_iload (pc' := 66) hC dX3_tell_64 rfl rfl ?_
          refine go_icmp_le (tgt := 107) (pc' := 69) hC dX3_tell_66 (by decide) rfl (fun h25 => ?_) (fun h25 => ?_)
          · have hf := ite_t h25 hf
            refine go_sub [0, 1, 2, 4] rfl ?_
            exact jk107_8 a14 a15 hf
          · have hf := ite_f h25 hf
            refine go_aload_n (pc' := 70) hC dX3_tell_69 rfl rfl ?_
            refine go_getq (pc' := 73) hC 127 2 layX_127 rfl rfl inlX3 (Nat.le_of_ble_eq_true rfl) mw_128 rfl dX3_tell_70 rfl ?_
            refine go_iload (pc' := 75) hC dX3_tell_73 rfl rfl ?_
            refine go_aload_n (pc' := 76) hC dX3_tell_75 rfl rfl ?_
            refine go_getq (pc' := 79) hC 127 2 layX_127 rfl rfl inlX3 (Nat.le_of_ble_eq_true rfl) mw_128 rfl dX3_tell_76 rfl ?_
            refine go_iload (pc' := 81) hC dX3_tell_79 rfl rfl ?_
            refine go_iconst (pc' := 82) hC dX3_tell_81 ki_1 rfl ?_
            refine go_isub (pc' := 83) hC dX3_tell_82 rfl ?_
            obtain ⟨h17, hf⟩ := gd_e hf
            refine go_iald (f := a14) (pc' := 84) hC 128 layX_128 rfl rfl dX3_tell_83 (okx_in h17) rfl ?_
            refine go_namei (fun x18 hx => ?_)
            have hf := lz_r hx hf
            clear hx
            obtain ⟨h19, hf⟩ := gd_e hf
            refine go_iast (f := a14) (pc' := 85) hC 128 layX_128 rfl rfl dX3_tell_84 (okx_in h19) rfl rfl (fun a20 ha L3' hL => ?_)
            have hf := lz_r ha hf
            clear ha
            obtain rfl : L3' = [(128, a20)] := hL.symm
            refine go_aload_n (pc' := 86) hC dX3_tell_85 rfl rfl ?_
            refine go_getq (pc' := 89) hC 127 4 layX_127 rfl rfl inlX3 (Nat.le_of_ble_eq_true rfl) mw_129 rfl dX3_tell_86 rfl ?_
            refine go_iload (pc' := 91) hC dX3_tell_89 rfl rfl ?_
            refine go_aload_n (pc' := 92) hC dX3_tell_91 rfl rfl ?_
            refine go_getq (pc' := 95) hC 127 4 layX_127 rfl rfl inlX3 (Nat.le_of_ble_eq_true rfl) mw_129 rfl dX3_tell_92 rfl ?_
            refine go_iload (pc' := 97) hC dX3_tell_95 rfl rfl ?_
            refine go_iconst (pc' := 98) hC dX3_tell_97 ki_1 rfl ?_
            refine go_isub (pc' := 99) hC dX3_tell_98 rfl ?_
            obtain ⟨h21, hf⟩ := gd_e hf
            refine go_lald (f := a15) (pc' := 100) hC 129 layX_129 rfl rfl dX3_tell_99 (okx_in h21) rfl ?_
            refine go_namel (fun x22 hx => ?_)
            have hf := lz_r hx hf
            clear hx
            obtain ⟨h23, hf⟩ := gd_e hf
            refine go_last (f := a15) (pc' := 101) hC 129 layX_129 rfl rfl dX3_tell_100 (okx_in h23) rfl rfl (fun a24 ha L4' hL => ?_)
            have hf := lz_r ha hf
            clear ha
            obtain rfl : L4' = [(129, a24)] := hL.symm
            refine go_iinc (lc' := [(0, .ref (x_q X 127)), (1, .int p1), (2, .long p2), (4, .int x2), (5, .int (x13 + (-1 : Int32)))]) (pc' := 104) hC dX3_tell_101 rfl ki_m1 (Nat.le_of_ble_eq_true rfl) rfl rfl ?_
            refine go_goto (tgt := 62) hC dX3_tell_104 (by decide) ?_
            exact ih (x13 + (-1 : Int32)) a20 a24 hf
      exact l62_26 fuel x5 (S.2.2.1 128) (S.2.2.2.1 129) hf
    · have hf := ite_f h27 hf
      obtain rfl := Option.some.inj hf
      exact go_vret hC hQ dX3_tell_38 rfl rfl rfl (fun _ => rfl) rfl rfl
  clear hk31_3
  have l6_33 : ∀ (nn : Nat) (x28 : Int32), it1 (f_X3_tell_q127_L6 S p2 k31_3) nn x28 = some o → Go X layX S 6 [(0, .ref (x_q X 127)), (1, .int p1), (2, .long p2), (4, .int x28)] [] g [(12701, (S.1 12701))] [] [(128, (S.2.2.1 128))] [(129, (S.2.2.2.1 129))] [] 0 0 := by
    intro nn
    induction nn with
    | zero =>
      intro x28 hf
      exact none_no hf
    | succ nn ih =>
      intro x28 hf
      have hf : f_X3_tell_q127_L6 S p2 k31_3 (it1 (f_X3_tell_q127_L6 S p2 k31_3) nn) x28 = some o := hf
      generalize it1 (f_X3_tell_q127_L6 S p2 k31_3) nn = r29 at ih hf
      unfold f_X3_tell_q127_L6 at hf
      refine go_iload (pc' := 8) hC dX3_tell_6 rfl rfl ?_
      refine go_if_le (tgt := 31) (pc' := 11) hC dX3_tell_8 (by decide) rfl (fun h32 => ?_) (fun h32 => ?_)
      · have hf := ite_t h32 hf
        exact jk31_3 x28 hf
      · have hf := ite_f h32 hf
        refine go_aload_n (pc' := 12) hC dX3_tell_11 rfl rfl ?_
        refine go_getq (pc' := 15) hC 127 4 layX_127 rfl rfl inlX3 (Nat.le_of_ble_eq_true rfl) mw_129 rfl dX3_tell_12 rfl ?_
        refine go_iload (pc' := 17) hC dX3_tell_15 rfl rfl ?_
        refine go_iconst (pc' := 18) hC dX3_tell_17 ki_1 rfl ?_
        refine go_isub (pc' := 19) hC dX3_tell_18 rfl ?_
        obtain ⟨h30, hf⟩ := gd_e hf
        refine go_lald (f := (S.2.2.2.1 129)) (pc' := 20) hC 129 layX_129 rfl rfl dX3_tell_19 (okx_in h30) rfl ?_
        refine go_lload_n (pc' := 21) hC dX3_tell_20 rfl rfl ?_
        refine go_lcmp (pc' := 22) hC dX3_tell_21 rfl ?_
        refine go_if_ge (tgt := 31) (pc' := 25) hC dX3_tell_22 (by decide) rfl (fun h31 => ?_) (fun h31 => ?_)
        · have hf := ite_t (lg_ge.mp h31) hf
          exact jk31_3 x28 hf
        · have hf := ite_f (mt lg_ge.mpr h31) hf
          refine go_iinc (lc' := [(0, .ref (x_q X 127)), (1, .int p1), (2, .long p2), (4, .int (x28 + (-1 : Int32)))]) (pc' := 28) hC dX3_tell_25 rfl ki_m1 (Nat.le_of_ble_eq_true rfl) rfl rfl ?_
          refine go_goto (tgt := 6) hC dX3_tell_28 (by decide) ?_
          exact ih (x28 + (-1 : Int32)) hf
  exact l6_33 fuel x1 hf
abbrev o_J7_fill_d0a16_q130 : Type := (Nat → Int64)
def f_J7_fill_d0a16_q130_L6 (p1 : Int64) (r3 : (Int32) → (Nat → Int64) → (Option o_J7_fill_d0a16_q130)) (x1 : Int32) (a2 : Nat → Int64) : Option o_J7_fill_d0a16_q130 :=
if (60 : Int32) ≤ x1 then (
some a2) else (
gd (okx x1 60) <|
lz (vp_updL a2 x1.toNatClampNeg p1) fun a5 =>
r3 (x1 + (1 : Int32)) a5)
def f_J7_fill_d0a16_q130 (S : wd_W) (p1 : Int64) : Option o_J7_fill_d0a16_q130 :=
it2 (f_J7_fill_d0a16_q130_L6 p1) fuel (0 : Int32) (S.2.2.2.1 130)
set_option maxRecDepth 100000 in
set_option maxHeartbeats 4000000 in
theorem c_J7_fill_d0a16_q130 (l : Launch) (D : va_G) (q g : Nat → Nat) (cy : Nat → ClassId) (z : (Nat → Nat) × (Nat → Nat) × Nat) (S : wd_W) (p1 : Int64) (o : o_J7_fill_d0a16_q130) (hf : f_J7_fill_d0a16_q130 S p1 = some o) : MX layX l yJ7_fill_d0a16 cJ7_fill_d0a16 5 none ({ frames := 0, cells := 0, slots := 0, locals := 0 } : Room) D q g cy z [.ref (q 130), .long p1] S false (none) (wd_o S [] [] [] [(130, o)] []) 0 0 := by
  refine mx_of (own := RJ7) (lc := [(0, .ref (q 130)), (1, .long p1)]) (by decide +kernel) rfl layX_ok (Nat.le_of_ble_eq_true rfl) rfl ?_
  intro X hXl hXq hXz hC hQ
  subst hXl; subst hXq; subst hXz
  unfold f_J7_fill_d0a16_q130 at hf
  refine go_keys (L1 := []) (L2 := []) (L3 := []) (L4 := [(130, (S.2.2.2.1 130))]) (L5 := []) [] [] [] [130] [] rfl rfl rfl rfl rfl ?_
  refine go_iconst (pc' := 1) hC dJ7_fill_d0a16_0 ki_0 rfl ?_
  refine go_istore_n (lc' := [(0, .ref (x_q X 130)), (1, .long p1), (3, .int (0 : Int32))]) (pc' := 2) hC dJ7_fill_d0a16_1 (Nat.le_of_ble_eq_true rfl) rfl rfl ?_
  refine go_aload_n (pc' := 3) hC dJ7_fill_d0a16_2 rfl rfl ?_
  refine go_alen (v := (60 : Int32)) (pc' := 4) hC 130 layX_130 rfl (Nat.le_of_ble_eq_true rfl) kn_60 dJ7_fill_d0a16_3 rfl ?_
  refine go_istore (lc' := [(0, .ref (x_q X 130)), (1, .long p1), (3, .int (0 : Int32)), (4, .int (60 : Int32))]) (pc' := 6) hC dJ7_fill_d0a16_4 (Nat.le_of_ble_eq_true rfl) rfl rfl ?_
  have l6_7 : ∀ (nn : Nat) (x1 : Int32) (a2 : Nat → Int64), it2 (f_J7_fill_d0a16_q130_L6 p1) nn x1 a2 = some o → Go X layX S 6 [(0, .ref (x_q X 130)), (1, .long p1), (3, .int x1), (4, .int (60 : Int32))] [] g [] [] [] [(130, a2)] [] 0 0 := by
    intro nn
    induction nn with
    | zero =>
      intro x1 a2 hf
      exact none_no hf
    | succ nn ih =>
      intro x1 a2 hf
      have hf : f_J7_fill_d0a16_q130_L6 p1 (it2 (f_J7_fill_d0a16_q130_L6 p1) nn) x1 a2 = some o := hf
      generalize it2 (f_J7_fill_d0a16_q130_L6 p1) nn = r3 at ih hf
      unfold f_J7_fill_d0a16_q130_L6 at hf
      refine go_iload_n (pc' := 7) hC dJ7_fill_d0a16_6 rfl rfl ?_
      refine go_iload (pc' := 9) hC dJ7_fill_d0a16_7 rfl rfl ?_
      refine go_icmp_ge (tgt := 22) (pc' := 12) hC dJ7_fill_d0a16_9 (by decide) rfl (fun h6 => ?_) (fun h6 => ?_)
      · have hf := ite_t h6 hf
        obtain rfl := Option.some.inj hf
        exact go_vret hC hQ dJ7_fill_d0a16_22 rfl rfl rfl (fun _ => rfl) rfl rfl
      · have hf := ite_f h6 hf
        refine go_aload_n (pc' := 13) hC dJ7_fill_d0a16_12 rfl rfl ?_
        refine go_iload_n (pc' := 14) hC dJ7_fill_d0a16_13 rfl rfl ?_
        refine go_lload_n (pc' := 15) hC dJ7_fill_d0a16_14 rfl rfl ?_
        obtain ⟨h4, hf⟩ := gd_e hf
        refine go_last (f := a2) (pc' := 16) hC 130 layX_130 rfl rfl dJ7_fill_d0a16_15 (okx_in h4) rfl rfl (fun a5 ha L4' hL => ?_)
        have hf := lz_r ha hf
        clear ha
        obtain rfl : L4' = [(130, a5)] := hL.symm
        refine go_iinc (lc' := [(0, .ref (x_q X 130)), (1, .long p1), (3, .int (x1 + (1 : Int32))), (4, .int (60 : Int32))]) (pc' := 19) hC dJ7_fill_d0a16_16 rfl ki_1 (Nat.le_of_ble_eq_true rfl) rfl rfl ?_
        refine go_goto (tgt := 6) hC dJ7_fill_d0a16_19 (by decide) ?_
        exact ih (x1 + (1 : Int32)) a5 hf
  exact l6_7 fuel (0 : Int32) (S.2.2.2.1 130) hf
abbrev o_X3_firstIn_q127 : Type := Int32
def f_X3_firstIn_q127_L2 (S : wd_W) (p1 : Int32) (k31_1 : (Option o_X3_firstIn_q127)) (r3 : (Int32) → (Option o_X3_firstIn_q127)) (x2 : Int32) : Option o_X3_firstIn_q127 :=
if (S.1 12701) ≤ x2 then (
k31_1) else (
gd (okx x2 60) <|
if (((S.2.2.1 128) x2.toNatClampNeg) &&& (p1 ^^^ (-1 : Int32))) = 0 then (
some x2) else (
r3 (x2 + (1 : Int32))))
def f_X3_firstIn_q127 (S : wd_W) (p1 : Int32) : Option o_X3_firstIn_q127 :=
lk (some (S.1 12701)) fun k31_1 =>
it1 (f_X3_firstIn_q127_L2 S p1 k31_1) fuel (0 : Int32)
set_option maxRecDepth 100000 in
set_option maxHeartbeats 4000000 in
theorem c_X3_firstIn_q127 (l : Launch) (D : va_G) (q g : Nat → Nat) (cy : Nat → ClassId) (z : (Nat → Nat) × (Nat → Nat) × Nat) (S : wd_W) (p1 : Int32) (o : o_X3_firstIn_q127) (hf : f_X3_firstIn_q127 S p1 = some o) : MX layX l yX3_firstIn cX3_firstIn 3 (some .int) ({ frames := 0, cells := 0, slots := 0, locals := 0 } : Room) D q g cy z [.ref (q 127), .int p1] S false (some (.int o)) (wd_o S [] [] [] [] []) 0 0 := by
  refine mx_of (own := RX3) (lc := [(0, .ref (q 127)), (1, .int p1)]) (by decide +kernel) rfl layX_ok (Nat.le_of_ble_eq_true rfl) rfl ?_
  intro X hXl hXq hXz hC hQ
  subst hXl; subst hXq; subst hXz
  unfold f_X3_firstIn_q127 at hf
  refine go_iconst (pc' := 1) hC dX3_firstIn_0 ki_0 rfl ?_
  refine go_istore_n (lc' := [(0, .ref (x_q X 127)), (1, .int p1), (2, .int (0 : Int32))]) (pc' := 2) hC dX3_firstIn_1 (Nat.le_of_ble_eq_true rfl) rfl rfl ?_
  obtain ⟨k31_1, hk31_1, hf⟩ := lk_e0 hf
  have jk31_1 : ∀ (_ : Unit), k31_1 = some o → Go X layX S 31 [(0, .ref (x_q X 127))] [] g [] [] [] [] [] 0 0 := by
    intro _ hf
    have hf := hk31_1 hf
    clear hk31_1
    refine go_aload_n (pc' := 32) hC dX3_firstIn_31 rfl rfl ?_
    refine go_geti (v := (S.1 12701)) (pc' := 35) hC 127 1 layX_127 rfl rfl inlX3 (Nat.le_of_ble_eq_true rfl) mw_720 rfl dX3_firstIn_32 rfl rfl ?_
    obtain rfl := Option.some.inj hf
    exact go_iret hC hQ dX3_firstIn_35 rfl rfl rfl rfl (fun _ => rfl) rfl rfl
  clear hk31_1
  have l2_7 : ∀ (nn : Nat) (x2 : Int32), it1 (f_X3_firstIn_q127_L2 S p1 k31_1) nn x2 = some o → Go X layX S 2 [(0, .ref (x_q X 127)), (1, .int p1), (2, .int x2)] [] g [] [] [] [] [] 0 0 := by
    intro nn
    induction nn with
    | zero =>
      intro x2 hf
      exact none_no hf
    | succ nn ih =>
      intro x2 hf
      have hf : f_X3_firstIn_q127_L2 S p1 k31_1 (it1 (f_X3_firstIn_q127_L2 S p1 k31_1) nn) x2 = some o := hf
      generalize it1 (f_X3_firstIn_q127_L2 S p1 k31_1) nn = r3 at ih hf
      unfold f_X3_firstIn_q127_L2 at hf
      refine go_iload_n (pc' := 3) hC dX3_firstIn_2 rfl rfl ?_
      refine go_aload_n (pc' := 4) hC dX3_firstIn_3 rfl rfl ?_
      refine go_geti (v := (S.1 12701)) (pc' := 7) hC 127 1 layX_127 rfl rfl inlX3 (Nat.le_of_ble_eq_true rfl) mw_720 rfl dX3_firstIn_4 rfl rfl ?_
      refine go_icmp_ge (tgt := 31) (pc' := 10) hC dX3_firstIn_7 (by decide) rfl (fun h6 => ?_) (fun h6 => ?_)
      · have hf := ite_t h6 hf
        refine go_sub [0] rfl ?_
        exact jk31_1 () hf
      · have hf := ite_f h6 hf
        refine go_aload_n (pc' := 11) hC dX3_firstIn_10 rfl rfl ?_
        refine go_getq (pc' := 14) hC 127 2 layX_127 rfl rfl inlX3 (Nat.le_of_ble_eq_true rfl) mw_128 rfl dX3_firstIn_11 rfl ?_
        refine go_iload_n (pc' := 15) hC dX3_firstIn_14 rfl rfl ?_
        obtain ⟨h4, hf⟩ := gd_e hf
        refine go_iald (f := (S.2.2.1 128)) (pc' := 16) hC 128 layX_128 rfl rfl dX3_firstIn_15 (okx_in h4) rfl ?_
        refine go_iload_n (pc' := 17) hC dX3_firstIn_16 rfl rfl ?_
        refine go_iconst (pc' := 18) hC dX3_firstIn_17 ki_m1 rfl ?_
        refine go_ixor (pc' := 19) hC dX3_firstIn_18 rfl ?_
        refine go_iand (pc' := 20) hC dX3_firstIn_19 rfl ?_
        refine go_if_ne (tgt := 25) (pc' := 23) hC dX3_firstIn_20 (by decide) rfl (fun h5 => ?_) (fun h5 => ?_)
        · have hf := ite_f h5 hf
          refine go_iinc (lc' := [(0, .ref (x_q X 127)), (1, .int p1), (2, .int (x2 + (1 : Int32)))]) (pc' := 28) hC dX3_firstIn_25 rfl ki_1 (Nat.le_of_ble_eq_true rfl) rfl rfl ?_
          refine go_goto (tgt := 2) hC dX3_firstIn_28 (by decide) ?_
          exact ih (x2 + (1 : Int32)) hf
        · have hf := ite_t h5 hf
          refine go_iload_n (pc' := 24) hC dX3_firstIn_23 rfl rfl ?_
          obtain rfl := Option.some.inj hf
          exact go_iret hC hQ dX3_firstIn_24 rfl rfl rfl rfl (fun _ => rfl) rfl rfl
  exact l2_7 fuel (0 : Int32) hf
abbrev o_X3_shareOut_q127 : Type := (Nat → Int64)
def f_X3_shareOut_q127_L10 (S : wd_W) (r4 : (Int32) → (Nat → Int64) → (Option o_X3_shareOut_q127)) (x2 : Int32) (a3 : Nat → Int64) : Option o_X3_shareOut_q127 :=
if (S.1 10602) ≤ x2 then (
some a3) else (
bd (f_X3_holding_q127 (wd_o S [] [] [] [(130, a3)] []) x2) fun o5 =>
bd (f_X3_firstIn_q127 (wd_o S [] [] [] [(130, a3)] []) o5) fun o6 =>
lk (fun a7 =>
r4 (x2 + (1 : Int32)) a7) fun k57_8 =>
if (S.1 12701) ≤ o6 then (
k57_8 a3) else (
gd (okx o6 60) <|
gd (okx x2 (S.2.2.2.2 107)) <|
lz ((a3 o6.toNatClampNeg) + ((S.2.2.2.1 107) x2.toNatClampNeg)) fun x11 =>
gd (okx o6 60) <|
lz (vp_updL a3 o6.toNatClampNeg x11) fun a13 =>
k57_8 a13))
def f_X3_shareOut_q127 (S : wd_W) : Option o_X3_shareOut_q127 :=
bd (f_J7_fill_d0a16_q130 (wd_o S [] [] [] [(130, (S.2.2.2.1 130))] []) (0 : Int64)) fun o1 =>
it2 (f_X3_shareOut_q127_L10 S) fuel (0 : Int32) o1
set_option maxRecDepth 100000 in
set_option maxHeartbeats 4000000 in
theorem c_X3_shareOut_q127 (l : Launch) (D : va_G) (q g : Nat → Nat) (cy : Nat → ClassId) (z : (Nat → Nat) × (Nat → Nat) × Nat) (S : wd_W) (o : o_X3_shareOut_q127) (hf : f_X3_shareOut_q127 S = some o) : MX layX l yX3_shareOut cX3_shareOut 3 none ({ frames := 1, cells := 0, slots := 0, locals := 24 } : Room) D q g cy z [.ref (q 127)] S false (none) (wd_o S [] [] [] [(130, o)] []) 0 0 := by
  refine mx_of (own := RX3) (lc := [(0, .ref (q 127))]) (by decide +kernel) rfl layX_ok (Nat.le_of_ble_eq_true rfl) rfl ?_
  intro X hXl hXq hXz hC hQ
  subst hXl; subst hXq; subst hXz
  unfold f_X3_shareOut_q127 at hf
  refine go_keys (L1 := []) (L2 := []) (L3 := []) (L4 := [(130, (S.2.2.2.1 130))]) (L5 := []) [] [] [] [130] [] rfl rfl rfl rfl rfl ?_
  refine go_aload_n (pc' := 1) hC dX3_shareOut_0 rfl rfl ?_
  refine go_getq (pc' := 4) hC 127 5 layX_127 rfl rfl inlX3 (Nat.le_of_ble_eq_true rfl) mw_130 rfl dX3_shareOut_1 rfl ?_
  refine go_lconst (pc' := 5) hC dX3_shareOut_4 kl_0 rfl ?_
  obtain ⟨o1, ho1, hf⟩ := bd_e hf
  refine go_callS1 (pc' := 8) (As := [.ref (x_q X 130), .long (0 : Int64)]) (st := []) (st' := []) (L1' := []) (L2' := []) (L3' := []) (L4' := [(130, o1)]) (L5' := []) (cells' := 0) (slots' := 0)  hC dX3_shareOut_5 ⟨mw_756, mw_706, mw_687, yd_yJ7_fill_d0a16, yp_yJ7_fill_d0a16, Nat.le_of_ble_eq_true rfl, Nat.le_of_ble_eq_true rfl, (Nat.le_of_ble_eq_true rfl), (Nat.le_of_ble_eq_true rfl)⟩ mw_705 rfl rfl (Nat.le_of_ble_eq_true rfl) (c_J7_fill_d0a16_q130 (x_l X) (x_D X) (x_q X) g (x_cy X) (x_z X) _ (0 : Int64) o1 ho1) rfl rfl rfl rfl rfl rfl rfl rfl rfl rfl rfl rfl rfl rfl ?_
  refine go_iconst (pc' := 9) hC dX3_shareOut_8 ki_0 rfl ?_
  refine go_istore_n (lc' := [(0, .ref (x_q X 127)), (1, .int (0 : Int32))]) (pc' := 10) hC dX3_shareOut_9 (Nat.le_of_ble_eq_true rfl) rfl rfl ?_
  have l10_16 : ∀ (nn : Nat) (x2 : Int32) (a3 : Nat → Int64), it2 (f_X3_shareOut_q127_L10 S) nn x2 a3 = some o → Go X layX S 10 [(0, .ref (x_q X 127)), (1, .int x2)] [] g [] [] [] [(130, a3)] [] 0 0 := by
    intro nn
    induction nn with
    | zero =>
      intro x2 a3 hf
      exact none_no hf
    | succ nn ih =>
      intro x2 a3 hf
      have hf : f_X3_shareOut_q127_L10 S (it2 (f_X3_shareOut_q127_L10 S) nn) x2 a3 = some o := hf
      generalize it2 (f_X3_shareOut_q127_L10 S) nn = r4 at ih hf
      unfold f_X3_shareOut_q127_L10 at hf
      refine go_iload_n (pc' := 11) hC dX3_shareOut_10 rfl rfl ?_
      refine go_aload_n (pc' := 12) hC dX3_shareOut_11 rfl rfl ?_
      refine go_getq (pc' := 15) hC 127 6 layX_127 rfl rfl inlX3 (Nat.le_of_ble_eq_true rfl) mw_131 rfl dX3_shareOut_12 rfl ?_
      refine go_geti (v := (S.1 10602)) (pc' := 18) hC 106 2 layX_106 rfl rfl inlX8 (Nat.le_of_ble_eq_true rfl) mw_721 rfl dX3_shareOut_15 rfl rfl ?_
      refine go_icmp_ge (tgt := 63) (pc' := 21) hC dX3_shareOut_18 (by decide) rfl (fun h15 => ?_) (fun h15 => ?_)
      · have hf := ite_t h15 hf
        obtain rfl := Option.some.inj hf
        exact go_vret hC hQ dX3_shareOut_63 rfl rfl rfl (fun _ => rfl) rfl rfl
      · have hf := ite_f h15 hf
        refine go_aload_n (pc' := 22) hC dX3_shareOut_21 rfl rfl ?_
        refine go_aload_n (pc' := 23) hC dX3_shareOut_22 rfl rfl ?_
        refine go_iload_n (pc' := 24) hC dX3_shareOut_23 rfl rfl ?_
        obtain ⟨o5, ho5, hf⟩ := bd_e hf
        refine go_callV0 (pc' := 27) (As := [.int x2]) (st := [.ref (x_q X 127)]) (st' := [.int o5, .ref (x_q X 127)])    (b := 127) hC dX3_shareOut_24 ⟨mw_727, mw_730, mw_35, yd_yX3_holding, yp_yX3_holding, Nat.le_of_ble_eq_true rfl, Nat.le_of_ble_eq_true rfl, (Nat.le_of_ble_eq_true rfl), (Nat.le_of_ble_eq_true rfl)⟩ mw_728 mw_729 layX_127 rfl rfl rfl (Nat.le_of_ble_eq_true rfl) (c_X3_holding_q127 (x_l X) (x_D X) (x_q X) g (x_cy X) (x_z X) _ x2 o5 ho5) rfl rfl ?_
        obtain ⟨o6, ho6, hf⟩ := bd_e hf
        refine go_callV0 (pc' := 30) (As := [.int o5]) (st := []) (st' := [.int o6])    (b := 127) hC dX3_shareOut_27 ⟨mw_757, mw_760, mw_35, yd_yX3_firstIn, yp_yX3_firstIn, Nat.le_of_ble_eq_true rfl, Nat.le_of_ble_eq_true rfl, (Nat.le_of_ble_eq_true rfl), (Nat.le_of_ble_eq_true rfl)⟩ mw_758 mw_759 layX_127 rfl rfl rfl (Nat.le_of_ble_eq_true rfl) (c_X3_firstIn_q127 (x_l X) (x_D X) (x_q X) g (x_cy X) (x_z X) _ o5 o6 ho6) rfl rfl ?_
        refine go_istore_n (lc' := [(0, .ref (x_q X 127)), (1, .int x2), (2, .int o6)]) (pc' := 31) hC dX3_shareOut_30 (Nat.le_of_ble_eq_true rfl) rfl rfl ?_
        refine go_iload_n (pc' := 32) hC dX3_shareOut_31 rfl rfl ?_
        refine go_aload_n (pc' := 33) hC dX3_shareOut_32 rfl rfl ?_
        refine go_geti (v := (S.1 12701)) (pc' := 36) hC 127 1 layX_127 rfl rfl inlX3 (Nat.le_of_ble_eq_true rfl) mw_720 rfl dX3_shareOut_33 rfl rfl ?_
        obtain ⟨k57_8, hk57_8, hf⟩ := lk_e1 hf
        have jk57_8 : ∀ (a7 : Nat → Int64), k57_8 a7 = some o → Go X layX S 57 [(0, .ref (x_q X 127)), (1, .int x2)] [] g [] [] [] [(130, a7)] [] 0 0 := by
          intro a7 hf
          have hf := hk57_8 a7 hf
          clear hk57_8
          refine go_iinc (lc' := [(0, .ref (x_q X 127)), (1, .int (x2 + (1 : Int32)))]) (pc' := 60) hC dX3_shareOut_57 rfl ki_1 (Nat.le_of_ble_eq_true rfl) rfl rfl ?_
          refine go_goto (tgt := 10) hC dX3_shareOut_60 (by decide) ?_
          exact ih (x2 + (1 : Int32)) a7 hf
        clear hk57_8
        refine go_icmp_ge (tgt := 57) (pc' := 39) hC dX3_shareOut_36 (by decide) rfl (fun h14 => ?_) (fun h14 => ?_)
        · have hf := ite_t h14 hf
          refine go_sub [0, 1] rfl ?_
          exact jk57_8 a3 hf
        · have hf := ite_f h14 hf
          refine go_aload_n (pc' := 40) hC dX3_shareOut_39 rfl rfl ?_
          refine go_getq (pc' := 43) hC 127 5 layX_127 rfl rfl inlX3 (Nat.le_of_ble_eq_true rfl) mw_130 rfl dX3_shareOut_40 rfl ?_
          refine go_iload_n (pc' := 44) hC dX3_shareOut_43 rfl rfl ?_
          refine go_dup2 (pc' := 45) hC dX3_shareOut_44 rfl rfl rfl ?_
          obtain ⟨h9, hf⟩ := gd_e hf
          refine go_lald (f := a3) (pc' := 46) hC 130 layX_130 rfl rfl dX3_shareOut_45 (okx_in h9) rfl ?_
          refine go_aload_n (pc' := 47) hC dX3_shareOut_46 rfl rfl ?_
          refine go_getq (pc' := 50) hC 127 6 layX_127 rfl rfl inlX3 (Nat.le_of_ble_eq_true rfl) mw_131 rfl dX3_shareOut_47 rfl ?_
          refine go_getg (pc' := 53) hC 106 4 layX_106 rfl rfl inlX8 (Nat.le_of_ble_eq_true rfl) mw_755 rfl dX3_shareOut_50 rfl ?_
          refine go_iload_n (pc' := 54) hC dX3_shareOut_53 rfl rfl ?_
          obtain ⟨h10, hf⟩ := gd_e hf
          refine go_laldg (f := (S.2.2.2.1 107)) (pc' := 55) hC 107 layX_107 rfl rfl dX3_shareOut_54 (okx_in h10) rfl ?_
          refine go_ladd (pc' := 56) hC dX3_shareOut_55 rfl ?_
          refine go_namel (fun x11 hx => ?_)
          have hf := lz_r hx hf
          clear hx
          obtain ⟨h12, hf⟩ := gd_e hf
          refine go_last (f := a3) (pc' := 57) hC 130 layX_130 rfl rfl dX3_shareOut_56 (okx_in h12) rfl rfl (fun a13 ha L4' hL => ?_)
          have hf := lz_r ha hf
          clear ha
          obtain rfl : L4' = [(130, a13)] := hL.symm
          refine go_sub [0, 1] rfl ?_
          exact jk57_8 a13 hf
  exact l10_16 fuel (0 : Int32) o1 hf
abbrev o_X3_find_q127 : Type := Int32 × Int32 × (Nat → Int32) × (Nat → Int64) × (Nat → Int64)
def f_X3_find_q127_L12 (S : wd_W) (k57_5 : (Int32) → (Int32) → (Nat → Int32) → (Nat → Int64) → (Option o_X3_find_q127)) (r12 : (Int32) → (Int32) → (Int32) → (Nat → Int32) → (Nat → Int64) → (Option o_X3_find_q127)) (x7 : Int32) (x8 : Int32) (x9 : Int32) (a10 : Nat → Int32) (a11 : Nat → Int64) : Option o_X3_find_q127 :=
if (S.1 10602) ≤ x7 then (
k57_5 x8 x9 a10 a11) else (
bd (f_X3_isLeast_q127 (wd_o S [(12700, x8), (12701, x9)] [] [(128, a10)] [(129, a11), (130, (S.2.2.2.1 130))] []) x7) fun o13 =>
lk (fun x14 x15 a16 a17 =>
r12 (x7 + (1 : Int32)) x14 x15 a16 a17) fun k51_18 =>
if o13 = 0 then (
k51_18 x8 x9 a10 a11) else (
lz (x8 + (1 : Int32)) fun x19 =>
bd (f_X3_valueOf_q127 (wd_o S [(12700, x19), (12701, x9)] [] [(128, a10)] [(129, a11), (130, (S.2.2.2.1 130))] []) x7) fun o20 =>
bd (f_X3_tell_q127 (wd_o S [(12700, x19), (12701, x9)] [] [(128, a10)] [(129, a11), (130, (S.2.2.2.1 130))] []) x7 o20) fun o21 =>
k51_18 x19 o21.1 o21.2.1 o21.2.2))
def f_X3_find_q127 (S : wd_W) : Option o_X3_find_q127 :=
lk (fun x1 x2 a3 a4 =>
bd (f_X3_shareOut_q127 (wd_o S [(12700, x1), (12701, x2)] [] [(128, a3)] [(129, a4), (130, (S.2.2.2.1 130))] [])) fun o6 =>
some (x1, x2, a3, a4, o6)) fun k57_5 =>
it5 (f_X3_find_q127_L12 S k57_5) fuel (0 : Int32) (0 : Int32) (0 : Int32) (S.2.2.1 128) (S.2.2.2.1 129)
set_option maxRecDepth 100000 in
set_option maxHeartbeats 4000000 in
theorem c_X3_find_q127 (l : Launch) (D : va_G) (q g : Nat → Nat) (cy : Nat → ClassId) (z : (Nat → Nat) × (Nat → Nat) × Nat) (S : wd_W) (o : o_X3_find_q127) (hf : f_X3_find_q127 S = some o) : MX layX l yX3_find cX3_find 2 none ({ frames := 3, cells := 0, slots := 0, locals := 65 } : Room) D q g cy z [.ref (q 127)] S false (none) (wd_o S [(12700, o.1), (12701, o.2.1)] [] [(128, o.2.2.1)] [(129, o.2.2.2.1), (130, o.2.2.2.2)] []) 0 0 := by
  refine mx_of (own := RX3) (lc := [(0, .ref (q 127))]) (by decide +kernel) rfl layX_ok (Nat.le_of_ble_eq_true rfl) rfl ?_
  intro X hXl hXq hXz hC hQ
  subst hXl; subst hXq; subst hXz
  unfold f_X3_find_q127 at hf
  refine go_keys (L1 := [(12700, (S.1 12700)), (12701, (S.1 12701))]) (L2 := []) (L3 := [(128, (S.2.2.1 128))]) (L4 := [(129, (S.2.2.2.1 129)), (130, (S.2.2.2.1 130))]) (L5 := []) [12700, 12701] [] [128] [129, 130] [] rfl rfl rfl rfl rfl ?_
  refine go_aload_n (pc' := 1) hC dX3_find_0 rfl rfl ?_
  refine go_iconst (pc' := 2) hC dX3_find_1 ki_0 rfl ?_
  refine go_puti (L1' := [(12700, (0 : Int32)), (12701, (S.1 12701))]) (pc' := 5) hC 127 0 layX_127 rfl rfl inlX3 tyX3_ok nmX3 (Nat.le_of_ble_eq_true rfl) mw_719 rfl rfl rfl rfl dX3_find_2 rfl rfl rfl ?_
  refine go_aload_n (pc' := 6) hC dX3_find_5 rfl rfl ?_
  refine go_iconst (pc' := 7) hC dX3_find_6 ki_0 rfl ?_
  refine go_puti (L1' := [(12700, (0 : Int32)), (12701, (0 : Int32))]) (pc' := 10) hC 127 1 layX_127 rfl rfl inlX3 tyX3_ok nmX3 (Nat.le_of_ble_eq_true rfl) mw_720 rfl rfl rfl rfl dX3_find_7 rfl rfl rfl ?_
  refine go_iconst (pc' := 11) hC dX3_find_10 ki_0 rfl ?_
  refine go_istore_n (lc' := [(0, .ref (x_q X 127)), (1, .int (0 : Int32))]) (pc' := 12) hC dX3_find_11 (Nat.le_of_ble_eq_true rfl) rfl rfl ?_
  obtain ⟨k57_5, hk57_5, hf⟩ := lk_e4 hf
  have jk57_5 : ∀ (x1 : Int32) (x2 : Int32) (a3 : Nat → Int32) (a4 : Nat → Int64), k57_5 x1 x2 a3 a4 = some o → Go X layX S 57 [(0, .ref (x_q X 127))] [] g [(12700, x1), (12701, x2)] [] [(128, a3)] [(129, a4), (130, (S.2.2.2.1 130))] [] 0 0 := by
    intro x1 x2 a3 a4 hf
    have hf := hk57_5 x1 x2 a3 a4 hf
    clear hk57_5
    refine go_aload_n (pc' := 58) hC dX3_find_57 rfl rfl ?_
    obtain ⟨o6, ho6, hf⟩ := bd_e hf
    refine go_callV1 (pc' := 61) (As := []) (st := []) (st' := []) (L1' := [(12700, x1), (12701, x2)]) (L2' := []) (L3' := [(128, a3)]) (L4' := [(129, a4), (130, o6)]) (L5' := []) (cells' := 0) (slots' := 0)  (b := 127) hC dX3_find_58 ⟨mw_751, mw_754, mw_35, yd_yX3_shareOut, yp_yX3_shareOut, Nat.le_of_ble_eq_true rfl, Nat.le_of_ble_eq_true rfl, (Nat.le_of_ble_eq_true rfl), (Nat.le_of_ble_eq_true rfl)⟩ mw_752 mw_753 layX_127 rfl rfl rfl (Nat.le_of_ble_eq_true rfl) (c_X3_shareOut_q127 (x_l X) (x_D X) (x_q X) g (x_cy X) (x_z X) _  o6 ho6) rfl rfl rfl rfl rfl rfl rfl rfl rfl rfl rfl rfl rfl rfl ?_
    obtain rfl := Option.some.inj hf
    exact go_vret hC hQ dX3_find_61 rfl rfl rfl (fun _ => rfl) rfl rfl
  clear hk57_5
  have l12_24 : ∀ (nn : Nat) (x7 : Int32) (x8 : Int32) (x9 : Int32) (a10 : Nat → Int32) (a11 : Nat → Int64), it5 (f_X3_find_q127_L12 S k57_5) nn x7 x8 x9 a10 a11 = some o → Go X layX S 12 [(0, .ref (x_q X 127)), (1, .int x7)] [] g [(12700, x8), (12701, x9)] [] [(128, a10)] [(129, a11), (130, (S.2.2.2.1 130))] [] 0 0 := by
    intro nn
    induction nn with
    | zero =>
      intro x7 x8 x9 a10 a11 hf
      exact none_no hf
    | succ nn ih =>
      intro x7 x8 x9 a10 a11 hf
      have hf : f_X3_find_q127_L12 S k57_5 (it5 (f_X3_find_q127_L12 S k57_5) nn) x7 x8 x9 a10 a11 = some o := hf
      generalize it5 (f_X3_find_q127_L12 S k57_5) nn = r12 at ih hf
      unfold f_X3_find_q127_L12 at hf
      refine go_iload_n (pc' := 13) hC dX3_find_12 rfl rfl ?_
      refine go_aload_n (pc' := 14) hC dX3_find_13 rfl rfl ?_
      refine go_getq (pc' := 17) hC 127 6 layX_127 rfl rfl inlX3 (Nat.le_of_ble_eq_true rfl) mw_131 rfl dX3_find_14 rfl ?_
      refine go_geti (v := (S.1 10602)) (pc' := 20) hC 106 2 layX_106 rfl rfl inlX8 (Nat.le_of_ble_eq_true rfl) mw_721 rfl dX3_find_17 rfl rfl ?_
      refine go_icmp_ge (tgt := 57) (pc' := 23) hC dX3_find_20 (by decide) rfl (fun h23 => ?_) (fun h23 => ?_)
      · have hf := ite_t h23 hf
        refine go_sub [0] rfl ?_
        exact jk57_5 x8 x9 a10 a11 hf
      · have hf := ite_f h23 hf
        refine go_aload_n (pc' := 24) hC dX3_find_23 rfl rfl ?_
        refine go_iload_n (pc' := 25) hC dX3_find_24 rfl rfl ?_
        obtain ⟨o13, ho13, hf⟩ := bd_e hf
        refine go_callV0 (pc' := 28) (As := [.int x7]) (st := []) (st' := [.int o13])    (b := 127) hC dX3_find_25 ⟨mw_722, mw_725, mw_35, yd_yX3_isLeast, yp_yX3_isLeast, Nat.le_of_ble_eq_true rfl, Nat.le_of_ble_eq_true rfl, (Nat.le_of_ble_eq_true rfl), (Nat.le_of_ble_eq_true rfl)⟩ mw_723 mw_724 layX_127 rfl rfl rfl (Nat.le_of_ble_eq_true rfl) (c_X3_isLeast_q127 (x_l X) (x_D X) (x_q X) g (x_cy X) (x_z X) _ x7 o13 ho13) rfl rfl ?_
        obtain ⟨k51_18, hk51_18, hf⟩ := lk_e4 hf
        have jk51_18 : ∀ (x14 : Int32) (x15 : Int32) (a16 : Nat → Int32) (a17 : Nat → Int64), k51_18 x14 x15 a16 a17 = some o → Go X layX S 51 [(0, .ref (x_q X 127)), (1, .int x7)] [] g [(12700, x14), (12701, x15)] [] [(128, a16)] [(129, a17), (130, (S.2.2.2.1 130))] [] 0 0 := by
          intro x14 x15 a16 a17 hf
          have hf := hk51_18 x14 x15 a16 a17 hf
          clear hk51_18
          refine go_iinc (lc' := [(0, .ref (x_q X 127)), (1, .int (x7 + (1 : Int32)))]) (pc' := 54) hC dX3_find_51 rfl ki_1 (Nat.le_of_ble_eq_true rfl) rfl rfl ?_
          refine go_goto (tgt := 12) hC dX3_find_54 (by decide) ?_
          exact ih (x7 + (1 : Int32)) x14 x15 a16 a17 hf
        clear hk51_18
        refine go_if_eq (tgt := 51) (pc' := 31) hC dX3_find_28 (by decide) rfl (fun h22 => ?_) (fun h22 => ?_)
        · have hf := ite_t h22 hf
          exact jk51_18 x8 x9 a10 a11 hf
        · have hf := ite_f h22 hf
          refine go_aload_n (pc' := 32) hC dX3_find_31 rfl rfl ?_
          refine go_dup (pc' := 33) hC dX3_find_32 rfl rfl ?_
          refine go_geti (v := x8) (pc' := 36) hC 127 0 layX_127 rfl rfl inlX3 (Nat.le_of_ble_eq_true rfl) mw_719 rfl dX3_find_33 rfl rfl ?_
          refine go_iconst (pc' := 37) hC dX3_find_36 ki_1 rfl ?_
          refine go_iadd (pc' := 38) hC dX3_find_37 rfl ?_
          refine go_namei (fun x19 hx => ?_)
          have hf := lz_r hx hf
          clear hx
          refine go_puti (L1' := [(12700, x19), (12701, x9)]) (pc' := 41) hC 127 0 layX_127 rfl rfl inlX3 tyX3_ok nmX3 (Nat.le_of_ble_eq_true rfl) mw_719 rfl rfl rfl rfl dX3_find_38 rfl rfl rfl ?_
          refine go_aload_n (pc' := 42) hC dX3_find_41 rfl rfl ?_
          refine go_iload_n (pc' := 43) hC dX3_find_42 rfl rfl ?_
          refine go_aload_n (pc' := 44) hC dX3_find_43 rfl rfl ?_
          refine go_iload_n (pc' := 45) hC dX3_find_44 rfl rfl ?_
          obtain ⟨o20, ho20, hf⟩ := bd_e hf
          refine go_callV0 (pc' := 48) (As := [.int x7]) (st := [.int x7, .ref (x_q X 127)]) (st' := [.long o20, .int x7, .ref (x_q X 127)])    (b := 127) hC dX3_find_45 ⟨mw_740, mw_743, mw_35, yd_yX3_valueOf, yp_yX3_valueOf, Nat.le_of_ble_eq_true rfl, Nat.le_of_ble_eq_true rfl, (Nat.le_of_ble_eq_true rfl), (Nat.le_of_ble_eq_true rfl)⟩ mw_741 mw_742 layX_127 rfl rfl rfl (Nat.le_of_ble_eq_true rfl) (c_X3_valueOf_q127 (x_l X) (x_D X) (x_q X) g (x_cy X) (x_z X) _ x7 o20 ho20) rfl rfl ?_
          obtain ⟨o21, ho21, hf⟩ := bd_e hf
          refine go_callV1 (pc' := 51) (As := [.int x7, .long o20]) (st := []) (st' := []) (L1' := [(12700, x19), (12701, o21.1)]) (L2' := []) (L3' := [(128, o21.2.1)]) (L4' := [(129, o21.2.2), (130, (S.2.2.2.1 130))]) (L5' := []) (cells' := 0) (slots' := 0)  (b := 127) hC dX3_find_48 ⟨mw_746, mw_749, mw_35, yd_yX3_tell, yp_yX3_tell, Nat.le_of_ble_eq_true rfl, Nat.le_of_ble_eq_true rfl, (Nat.le_of_ble_eq_true rfl), (Nat.le_of_ble_eq_true rfl)⟩ mw_747 mw_748 layX_127 rfl rfl rfl (Nat.le_of_ble_eq_true rfl) (c_X3_tell_q127 (x_l X) (x_D X) (x_q X) g (x_cy X) (x_z X) _ x7 o20 o21 ho21) rfl rfl rfl rfl rfl rfl rfl rfl rfl rfl rfl rfl rfl rfl ?_
          exact jk51_18 x19 o21.1 o21.2.1 o21.2.2 hf
  exact l12_24 fuel (0 : Int32) (0 : Int32) (0 : Int32) (S.2.2.1 128) (S.2.2.2.1 129) hf
abbrev o_J7_fill_d0a16_g134 : Type := (Nat → Int64)
def f_J7_fill_d0a16_g134_L6 (S : wd_W) (p1 : Int64) (x1 : Int32) (r4 : (Int32) → (Nat → Int64) → (Option o_J7_fill_d0a16_g134)) (x2 : Int32) (a3 : Nat → Int64) : Option o_J7_fill_d0a16_g134 :=
if x1 ≤ x2 then (
some a3) else (
gd (okx x2 (S.2.2.2.2 134)) <|
lz (vp_updL a3 x2.toNatClampNeg p1) fun a6 =>
r4 (x2 + (1 : Int32)) a6)
def f_J7_fill_d0a16_g134 (S : wd_W) (p1 : Int64) : Option o_J7_fill_d0a16_g134 :=
lz (Int32.ofNat (S.2.2.2.2 134)) fun x1 =>
it2 (f_J7_fill_d0a16_g134_L6 S p1 x1) fuel (0 : Int32) (S.2.2.2.1 134)
set_option maxRecDepth 100000 in
set_option maxHeartbeats 4000000 in
theorem c_J7_fill_d0a16_g134 (l : Launch) (D : va_G) (q g : Nat → Nat) (cy : Nat → ClassId) (z : (Nat → Nat) × (Nat → Nat) × Nat) (S : wd_W) (p1 : Int64) (o : o_J7_fill_d0a16_g134) (hf : f_J7_fill_d0a16_g134 S p1 = some o) : MX layX l yJ7_fill_d0a16 cJ7_fill_d0a16 5 none ({ frames := 0, cells := 0, slots := 0, locals := 0 } : Room) D q g cy z [.ref (g 134), .long p1] S false (none) (wd_o S [] [] [] [(134, o)] []) 0 0 := by
  refine mx_of (own := RJ7) (lc := [(0, .ref (g 134)), (1, .long p1)]) (by decide +kernel) rfl layX_ok (Nat.le_of_ble_eq_true rfl) rfl ?_
  intro X hXl hXq hXz hC hQ
  subst hXl; subst hXq; subst hXz
  unfold f_J7_fill_d0a16_g134 at hf
  refine go_keys (L1 := []) (L2 := []) (L3 := []) (L4 := [(134, (S.2.2.2.1 134))]) (L5 := []) [] [] [] [134] [] rfl rfl rfl rfl rfl ?_
  refine go_iconst (pc' := 1) hC dJ7_fill_d0a16_0 ki_0 rfl ?_
  refine go_istore_n (lc' := [(0, .ref (g 134)), (1, .long p1), (3, .int (0 : Int32))]) (pc' := 2) hC dJ7_fill_d0a16_1 (Nat.le_of_ble_eq_true rfl) rfl rfl ?_
  refine go_aload_n (pc' := 3) hC dJ7_fill_d0a16_2 rfl rfl ?_
  refine go_aleng (v := Int32.ofNat (S.2.2.2.2 134)) (pc' := 4) hC 134 layX_134 (Nat.le_of_ble_eq_true rfl) rfl rfl dJ7_fill_d0a16_3 rfl ?_
  refine go_namei (fun x1 hx => ?_)
  have hf := lz_r hx hf
  clear hx
  refine go_istore (lc' := [(0, .ref (g 134)), (1, .long p1), (3, .int (0 : Int32)), (4, .int x1)]) (pc' := 6) hC dJ7_fill_d0a16_4 (Nat.le_of_ble_eq_true rfl) rfl rfl ?_
  have l6_8 : ∀ (nn : Nat) (x2 : Int32) (a3 : Nat → Int64), it2 (f_J7_fill_d0a16_g134_L6 S p1 x1) nn x2 a3 = some o → Go X layX S 6 [(0, .ref (g 134)), (1, .long p1), (3, .int x2), (4, .int x1)] [] g [] [] [] [(134, a3)] [] 0 0 := by
    intro nn
    induction nn with
    | zero =>
      intro x2 a3 hf
      exact none_no hf
    | succ nn ih =>
      intro x2 a3 hf
      have hf : f_J7_fill_d0a16_g134_L6 S p1 x1 (it2 (f_J7_fill_d0a16_g134_L6 S p1 x1) nn) x2 a3 = some o := hf
      generalize it2 (f_J7_fill_d0a16_g134_L6 S p1 x1) nn = r4 at ih hf
      unfold f_J7_fill_d0a16_g134_L6 at hf
      refine go_iload_n (pc' := 7) hC dJ7_fill_d0a16_6 rfl rfl ?_
      refine go_iload (pc' := 9) hC dJ7_fill_d0a16_7 rfl rfl ?_
      refine go_icmp_ge (tgt := 22) (pc' := 12) hC dJ7_fill_d0a16_9 (by decide) rfl (fun h7 => ?_) (fun h7 => ?_)
      · have hf := ite_t h7 hf
        obtain rfl := Option.some.inj hf
        exact go_vret hC hQ dJ7_fill_d0a16_22 rfl rfl rfl (fun _ => rfl) rfl rfl
      · have hf := ite_f h7 hf
        refine go_aload_n (pc' := 13) hC dJ7_fill_d0a16_12 rfl rfl ?_
        refine go_iload_n (pc' := 14) hC dJ7_fill_d0a16_13 rfl rfl ?_
        refine go_lload_n (pc' := 15) hC dJ7_fill_d0a16_14 rfl rfl ?_
        obtain ⟨h5, hf⟩ := gd_e hf
        refine go_lastg (f := a3) (pc' := 16) hC 134 layX_134 rfl rfl dJ7_fill_d0a16_15 (okx_in h5) rfl rfl (fun a6 ha L4' hL => ?_)
        have hf := lz_r ha hf
        clear ha
        obtain rfl : L4' = [(134, a6)] := hL.symm
        refine go_iinc (lc' := [(0, .ref (g 134)), (1, .long p1), (3, .int (x2 + (1 : Int32))), (4, .int x1)]) (pc' := 19) hC dJ7_fill_d0a16_16 rfl ki_1 (Nat.le_of_ble_eq_true rfl) rfl rfl ?_
        refine go_goto (tgt := 6) hC dJ7_fill_d0a16_19 (by decide) ?_
        exact ih (x2 + (1 : Int32)) a6 hf
  exact l6_8 fuel (0 : Int32) (S.2.2.2.1 134) hf
theorem dX10_product_0 : decode cX10_product 0 = .ok (.lconst 1, 1) := by decide +kernel
theorem dX10_product_1 : decode cX10_product 1 = .ok (.lstore_n 3, 1) := by decide +kernel
theorem dX10_product_2 : decode cX10_product 2 = .ok (.iload_n 2, 1) := by decide +kernel
theorem dX10_product_3 : decode cX10_product 3 = .ok (.istore 5, 2) := by decide +kernel
theorem dX10_product_5 : decode cX10_product 5 = .ok (.iload 5, 2) := by decide +kernel
theorem dX10_product_7 : decode cX10_product 7 = .ok (.aload_n 0, 1) := by decide +kernel
theorem dX10_product_8 : decode cX10_product 8 = .ok (.getfield 26, 3) := by decide +kernel
theorem dX10_product_11 : decode cX10_product 11 = .ok (.if_icmp .ge 43, 3) := by decide +kernel
theorem dX10_product_14 : decode cX10_product 14 = .ok (.lload_n 3, 1) := by decide +kernel
theorem dX10_product_15 : decode cX10_product 15 = .ok (.iload_n 1, 1) := by decide +kernel
theorem dX10_product_16 : decode cX10_product 16 = .ok (.iload 5, 2) := by decide +kernel
theorem dX10_product_18 : decode cX10_product 18 = .ok (.ishr, 1) := by decide +kernel
theorem dX10_product_19 : decode cX10_product 19 = .ok (.iconst 1, 1) := by decide +kernel
theorem dX10_product_20 : decode cX10_product 20 = .ok (.iand, 1) := by decide +kernel
theorem dX10_product_21 : decode cX10_product 21 = .ok (.ifCond .eq 14, 3) := by decide +kernel
theorem dX10_product_24 : decode cX10_product 24 = .ok (.aload_n 0, 1) := by decide +kernel
theorem dX10_product_25 : decode cX10_product 25 = .ok (.getfield 9, 3) := by decide +kernel
theorem dX10_product_28 : decode cX10_product 28 = .ok (.iload 5, 2) := by decide +kernel
theorem dX10_product_30 : decode cX10_product 30 = .ok (.iaload, 1) := by decide +kernel
theorem dX10_product_31 : decode cX10_product 31 = .ok (.i2l, 1) := by decide +kernel
theorem dX10_product_32 : decode cX10_product 32 = .ok (.goto 14, 3) := by decide +kernel
theorem dX10_product_35 : decode cX10_product 35 = .ok (.bipush 16, 2) := by decide +kernel
theorem dX10_product_37 : decode cX10_product 37 = .ok (.aload_n 0, 1) := by decide +kernel
theorem dX10_product_38 : decode cX10_product 38 = .ok (.getfield 9, 3) := by decide +kernel
theorem dX10_product_41 : decode cX10_product 41 = .ok (.iload 5, 2) := by decide +kernel
theorem dX10_product_43 : decode cX10_product 43 = .ok (.iaload, 1) := by decide +kernel
theorem dX10_product_44 : decode cX10_product 44 = .ok (.isub, 1) := by decide +kernel
theorem dX10_product_45 : decode cX10_product 45 = .ok (.i2l, 1) := by decide +kernel
theorem dX10_product_46 : decode cX10_product 46 = .ok (.lmul, 1) := by decide +kernel
theorem dX10_product_47 : decode cX10_product 47 = .ok (.lstore_n 3, 1) := by decide +kernel
theorem dX10_product_48 : decode cX10_product 48 = .ok (.iinc 5 1, 3) := by decide +kernel
theorem dX10_product_51 : decode cX10_product 51 = .ok (.goto (-46), 3) := by decide +kernel
theorem dX10_product_54 : decode cX10_product 54 = .ok (.lload_n 3, 1) := by decide +kernel
theorem dX10_product_55 : decode cX10_product 55 = .ok (.lreturn, 1) := by decide +kernel
abbrev o_X10_product_q117 : Type := Int64
def f_X10_product_q117_L5 (S : wd_W) (p1 : Int32) (r3 : (Int64) → (Int32) → (Option o_X10_product_q117)) (x1 : Int64) (x2 : Int32) : Option o_X10_product_q117 :=
if (S.1 11700) ≤ x2 then (
some x1) else (
lk (fun x4 x5 =>
lz (x5 * x4) fun x7 =>
r3 x7 (x2 + (1 : Int32))) fun k46_6 =>
if ((p1 >>> (x2 &&& 31)) &&& (1 : Int32)) = 0 then (
gd (okx x2 15) <|
k46_6 (((16 : Int32) - ((S.2.2.1 118) x2.toNatClampNeg)).toInt64) x1) else (
gd (okx x2 15) <|
k46_6 (((S.2.2.1 118) x2.toNatClampNeg).toInt64) x1))
def f_X10_product_q117 (S : wd_W) (p1 : Int32) (p2 : Int32) : Option o_X10_product_q117 :=
it2 (f_X10_product_q117_L5 S p1) fuel (1 : Int64) p2
set_option maxRecDepth 100000 in
set_option maxHeartbeats 4000000 in
theorem c_X10_product_q117 (l : Launch) (D : va_G) (q g : Nat → Nat) (cy : Nat → ClassId) (z : (Nat → Nat) × (Nat → Nat) × Nat) (S : wd_W) (p1 : Int32) (p2 : Int32) (o : o_X10_product_q117) (hf : f_X10_product_q117 S p1 p2 = some o) : MX layX l yX10_product cX10_product 6 (some .long) ({ frames := 0, cells := 0, slots := 0, locals := 0 } : Room) D q g cy z [.ref (q 117), .int p1, .int p2] S false (some (.long o)) (wd_o S [] [] [] [] []) 0 0 := by
  refine mx_of (own := RX10) (lc := [(0, .ref (q 117)), (1, .int p1), (2, .int p2)]) (by decide +kernel) rfl layX_ok (Nat.le_of_ble_eq_true rfl) rfl ?_
  intro X hXl hXq hXz hC hQ
  subst hXl; subst hXq; subst hXz
  unfold f_X10_product_q117 at hf
  refine go_lconst (pc' := 1) hC dX10_product_0 kl_1 rfl ?_
  refine go_lstore_n (lc' := [(0, .ref (x_q X 117)), (1, .int p1), (2, .int p2), (3, .long (1 : Int64))]) (pc' := 2) hC dX10_product_1 (Nat.le_of_ble_eq_true rfl) rfl rfl ?_
  refine go_iload_n (pc' := 3) hC dX10_product_2 rfl rfl ?_
  refine go_istore (lc' := [(0, .ref (x_q X 117)), (1, .int p1), (2, .int p2), (3, .long (1 : Int64)), (5, .int p2)]) (pc' := 5) hC dX10_product_3 (Nat.le_of_ble_eq_true rfl) rfl rfl ?_
  have l5_12 : ∀ (nn : Nat) (x1 : Int64) (x2 : Int32), it2 (f_X10_product_q117_L5 S p1) nn x1 x2 = some o → Go X layX S 5 [(0, .ref (x_q X 117)), (1, .int p1), (3, .long x1), (5, .int x2)] [] g [] [] [] [] [] 0 0 := by
    intro nn
    induction nn with
    | zero =>
      intro x1 x2 hf
      exact none_no hf
    | succ nn ih =>
      intro x1 x2 hf
      have hf : f_X10_product_q117_L5 S p1 (it2 (f_X10_product_q117_L5 S p1) nn) x1 x2 = some o := hf
      generalize it2 (f_X10_product_q117_L5 S p1) nn = r3 at ih hf
      unfold f_X10_product_q117_L5 at hf
      refine go_iload (pc' := 7) hC dX10_product_5 rfl rfl ?_
      refine go_aload_n (pc' := 8) hC dX10_product_7 rfl rfl ?_
      refine go_geti (v := (S.1 11700)) (pc' := 11) hC 117 0 layX_117 rfl rfl inlX10 (Nat.le_of_ble_eq_true rfl) mw_637 rfl dX10_product_8 rfl rfl ?_
      refine go_icmp_ge (tgt := 54) (pc' := 14) hC dX10_product_11 (by decide) rfl (fun h11 => ?_) (fun h11 => ?_)
      · have hf := ite_t h11 hf
        refine go_lload_n (pc' := 55) hC dX10_product_54 rfl rfl ?_
        obtain rfl := Option.some.inj hf
        exact go_lret hC hQ dX10_product_55 rfl rfl rfl (fun _ => rfl) rfl rfl
      · have hf := ite_f h11 hf
        refine go_lload_n (pc' := 15) hC dX10_product_14 rfl rfl ?_
        refine go_iload_n (pc' := 16) hC dX10_product_15 rfl rfl ?_
        refine go_iload (pc' := 18) hC dX10_product_16 rfl rfl ?_
        refine go_ishr (pc' := 19) hC dX10_product_18 rfl ?_
        refine go_iconst (pc' := 20) hC dX10_product_19 ki_1 rfl ?_
        refine go_iand (pc' := 21) hC dX10_product_20 rfl ?_
        obtain ⟨k46_6, hk46_6, hf⟩ := lk_e2 hf
        have jk46_6 : ∀ (x4 : Int64) (x5 : Int64), k46_6 x4 x5 = some o → Go X layX S 46 [(0, .ref (x_q X 117)), (1, .int p1), (5, .int x2)] [.long x4, .long x5] g [] [] [] [] [] 0 0 := by
          intro x4 x5 hf
          have hf := hk46_6 x4 x5 hf
          clear hk46_6
          refine go_lmul (pc' := 47) hC dX10_product_46 rfl ?_
          refine go_namel (fun x7 hx => ?_)
          have hf := lz_r hx hf
          clear hx
          refine go_lstore_n (lc' := [(0, .ref (x_q X 117)), (1, .int p1), (3, .long x7), (5, .int x2)]) (pc' := 48) hC dX10_product_47 (Nat.le_of_ble_eq_true rfl) rfl rfl ?_
          refine go_iinc (lc' := [(0, .ref (x_q X 117)), (1, .int p1), (3, .long x7), (5, .int (x2 + (1 : Int32)))]) (pc' := 51) hC dX10_product_48 rfl ki_1 (Nat.le_of_ble_eq_true rfl) rfl rfl ?_
          refine go_goto (tgt := 5) hC dX10_product_51 (by decide) ?_
          exact ih x7 (x2 + (1 : Int32)) hf
        clear hk46_6
        refine go_if_eq (tgt := 35) (pc' := 24) hC dX10_product_21 (by decide) rfl (fun h10 => ?_) (fun h10 => ?_)
        · have hf := ite_t h10 hf
          refine go_bipush (pc' := 37) hC dX10_product_35 kb_16 rfl ?_
          refine go_aload_n (pc' := 38) hC dX10_product_37 rfl rfl ?_
          refine go_getq (pc' := 41) hC 117 1 layX_117 rfl rfl inlX10 (Nat.le_of_ble_eq_true rfl) mw_120 rfl dX10_product_38 rfl ?_
          refine go_iload (pc' := 43) hC dX10_product_41 rfl rfl ?_
          obtain ⟨h8, hf⟩ := gd_e hf
          refine go_iald (f := (S.2.2.1 118)) (pc' := 44) hC 118 layX_118 rfl rfl dX10_product_43 (okx_in h8) rfl ?_
          refine go_isub (pc' := 45) hC dX10_product_44 rfl ?_
          refine go_i2l (pc' := 46) hC dX10_product_45 rfl ?_
          refine go_sub [0, 1, 5] rfl ?_
          exact jk46_6 (((16 : Int32) - ((S.2.2.1 118) x2.toNatClampNeg)).toInt64) x1 hf
        · have hf := ite_f h10 hf
          refine go_aload_n (pc' := 25) hC dX10_product_24 rfl rfl ?_
          refine go_getq (pc' := 28) hC 117 1 layX_117 rfl rfl inlX10 (Nat.le_of_ble_eq_true rfl) mw_120 rfl dX10_product_25 rfl ?_
          refine go_iload (pc' := 30) hC dX10_product_28 rfl rfl ?_
          obtain ⟨h9, hf⟩ := gd_e hf
          refine go_iald (f := (S.2.2.1 118)) (pc' := 31) hC 118 layX_118 rfl rfl dX10_product_30 (okx_in h9) rfl ?_
          refine go_i2l (pc' := 32) hC dX10_product_31 rfl ?_
          refine go_goto (tgt := 46) hC dX10_product_32 (by decide) ?_
          refine go_sub [0, 1, 5] rfl ?_
          exact jk46_6 (((S.2.2.1 118) x2.toNatClampNeg).toInt64) x1 hf
  refine go_sub [0, 1, 3, 5] rfl ?_
  exact l5_12 fuel (1 : Int64) p2 hf
theorem dX0_fillBare_0 : decode cX0_fillBare 0 = .ok (.aload_n 0, 1) := by decide +kernel
theorem dX0_fillBare_1 : decode cX0_fillBare 1 = .ok (.getfield 18, 3) := by decide +kernel
theorem dX0_fillBare_4 : decode cX0_fillBare 4 = .ok (.lconst 0, 1) := by decide +kernel
theorem dX0_fillBare_5 : decode cX0_fillBare 5 = .ok (.invokestatic 64, 3) := by decide +kernel
theorem dX0_fillBare_8 : decode cX0_fillBare 8 = .ok (.iconst 0, 1) := by decide +kernel
theorem dX0_fillBare_9 : decode cX0_fillBare 9 = .ok (.istore_n 2, 1) := by decide +kernel
theorem dX0_fillBare_10 : decode cX0_fillBare 10 = .ok (.iload_n 2, 1) := by decide +kernel
theorem dX0_fillBare_11 : decode cX0_fillBare 11 = .ok (.aload_n 0, 1) := by decide +kernel
theorem dX0_fillBare_12 : decode cX0_fillBare 12 = .ok (.getfield 35, 3) := by decide +kernel
theorem dX0_fillBare_15 : decode cX0_fillBare 15 = .ok (.getfield 70, 3) := by decide +kernel
theorem dX0_fillBare_18 : decode cX0_fillBare 18 = .ok (.if_icmp .ge 66, 3) := by decide +kernel
theorem dX0_fillBare_21 : decode cX0_fillBare 21 = .ok (.aload_n 0, 1) := by decide +kernel
theorem dX0_fillBare_22 : decode cX0_fillBare 22 = .ok (.getfield 35, 3) := by decide +kernel
theorem dX0_fillBare_25 : decode cX0_fillBare 25 = .ok (.getfield 75, 3) := by decide +kernel
theorem dX0_fillBare_28 : decode cX0_fillBare 28 = .ok (.iload_n 2, 1) := by decide +kernel
theorem dX0_fillBare_29 : decode cX0_fillBare 29 = .ok (.aload_n 0, 1) := by decide +kernel
theorem dX0_fillBare_30 : decode cX0_fillBare 30 = .ok (.getfield 45, 3) := by decide +kernel
theorem dX0_fillBare_33 : decode cX0_fillBare 33 = .ok (.invokevirtual 79, 3) := by decide +kernel
theorem dX0_fillBare_36 : decode cX0_fillBare 36 = .ok (.lstore_n 3, 1) := by decide +kernel
theorem dX0_fillBare_37 : decode cX0_fillBare 37 = .ok (.iconst 0, 1) := by decide +kernel
theorem dX0_fillBare_38 : decode cX0_fillBare 38 = .ok (.istore 5, 2) := by decide +kernel
theorem dX0_fillBare_40 : decode cX0_fillBare 40 = .ok (.iload 5, 2) := by decide +kernel
theorem dX0_fillBare_42 : decode cX0_fillBare 42 = .ok (.iload_n 1, 1) := by decide +kernel
theorem dX0_fillBare_43 : decode cX0_fillBare 43 = .ok (.if_icmp .ge 34, 3) := by decide +kernel
theorem dX0_fillBare_46 : decode cX0_fillBare 46 = .ok (.aload_n 0, 1) := by decide +kernel
theorem dX0_fillBare_47 : decode cX0_fillBare 47 = .ok (.getfield 35, 3) := by decide +kernel
theorem dX0_fillBare_50 : decode cX0_fillBare 50 = .ok (.iload_n 2, 1) := by decide +kernel
theorem dX0_fillBare_51 : decode cX0_fillBare 51 = .ok (.iload 5, 2) := by decide +kernel
theorem dX0_fillBare_53 : decode cX0_fillBare 53 = .ok (.ior, 1) := by decide +kernel
theorem dX0_fillBare_54 : decode cX0_fillBare 54 = .ok (.invokevirtual 85, 3) := by decide +kernel
theorem dX0_fillBare_57 : decode cX0_fillBare 57 = .ok (.ifCond .eq 14, 3) := by decide +kernel
theorem dX0_fillBare_60 : decode cX0_fillBare 60 = .ok (.aload_n 0, 1) := by decide +kernel
theorem dX0_fillBare_61 : decode cX0_fillBare 61 = .ok (.getfield 18, 3) := by decide +kernel
theorem dX0_fillBare_64 : decode cX0_fillBare 64 = .ok (.iload 5, 2) := by decide +kernel
theorem dX0_fillBare_66 : decode cX0_fillBare 66 = .ok (.dup2, 1) := by decide +kernel
theorem dX0_fillBare_67 : decode cX0_fillBare 67 = .ok (.laload, 1) := by decide +kernel
theorem dX0_fillBare_68 : decode cX0_fillBare 68 = .ok (.lload_n 3, 1) := by decide +kernel
theorem dX0_fillBare_69 : decode cX0_fillBare 69 = .ok (.ladd, 1) := by decide +kernel
theorem dX0_fillBare_70 : decode cX0_fillBare 70 = .ok (.lastore, 1) := by decide +kernel
theorem dX0_fillBare_71 : decode cX0_fillBare 71 = .ok (.iinc 5 1, 3) := by decide +kernel
theorem dX0_fillBare_74 : decode cX0_fillBare 74 = .ok (.goto (-34), 3) := by decide +kernel
theorem dX0_fillBare_77 : decode cX0_fillBare 77 = .ok (.iload_n 2, 1) := by decide +kernel
theorem dX0_fillBare_78 : decode cX0_fillBare 78 = .ok (.iload_n 1, 1) := by decide +kernel
theorem dX0_fillBare_79 : decode cX0_fillBare 79 = .ok (.iadd, 1) := by decide +kernel
theorem dX0_fillBare_80 : decode cX0_fillBare 80 = .ok (.istore_n 2, 1) := by decide +kernel
theorem dX0_fillBare_81 : decode cX0_fillBare 81 = .ok (.goto (-71), 3) := by decide +kernel
theorem dX0_fillBare_84 : decode cX0_fillBare 84 = .ok (.return_, 1) := by decide +kernel
abbrev o_X0_fillBare_q131 : Type := (Nat → Int64)
def f_X0_fillBare_q131_L40 (S : wd_W) (p1 : Int32) (x2 : Int32) (o5 : o_X10_product_q117) (k77_7 : (Nat → Int64) → (Option o_X0_fillBare_q131)) (r11 : (Int32) → (Nat → Int64) → (Option o_X0_fillBare_q131)) (x9 : Int32) (a10 : Nat → Int64) : Option o_X0_fillBare_q131 :=
if p1 ≤ x9 then (
k77_7 a10) else (
bd (f_X8_isThrough_q106 (wd_o S [] [] [] [(134, a10)] []) (x2 ||| x9)) fun o12 =>
lk (fun a13 =>
r11 (x9 + (1 : Int32)) a13) fun k71_14 =>
if o12 = 0 then (
k71_14 a10) else (
gd (okx x9 (S.2.2.2.2 134)) <|
lz ((a10 x9.toNatClampNeg) + o5) fun x16 =>
gd (okx x9 (S.2.2.2.2 134)) <|
lz (vp_updL a10 x9.toNatClampNeg x16) fun a18 =>
k71_14 a18))
def f_X0_fillBare_q131_L10 (S : wd_W) (p1 : Int32) (r4 : (Int32) → (Nat → Int64) → (Option o_X0_fillBare_q131)) (x2 : Int32) (a3 : Nat → Int64) : Option o_X0_fillBare_q131 :=
if (S.1 10602) ≤ x2 then (
some a3) else (
bd (f_X10_product_q117 (wd_o S [] [] [] [(134, a3)] []) x2 (S.1 13105)) fun o5 =>
lk (fun a6 =>
lz (x2 + p1) fun x8 =>
r4 x8 a6) fun k77_7 =>
it2 (f_X0_fillBare_q131_L40 S p1 x2 o5 k77_7) fuel (0 : Int32) a3)
def f_X0_fillBare_q131 (S : wd_W) (p1 : Int32) : Option o_X0_fillBare_q131 :=
bd (f_J7_fill_d0a16_g134 (wd_o S [] [] [] [(134, (S.2.2.2.1 134))] []) (0 : Int64)) fun o1 =>
it2 (f_X0_fillBare_q131_L10 S p1) fuel (0 : Int32) o1
set_option maxRecDepth 100000 in
set_option maxHeartbeats 4000000 in
theorem c_X0_fillBare_q131 (l : Launch) (D : va_G) (q g : Nat → Nat) (cy : Nat → ClassId) (z : (Nat → Nat) × (Nat → Nat) × Nat) (S : wd_W) (p1 : Int32) (o : o_X0_fillBare_q131) (hf : f_X0_fillBare_q131 S p1 = some o) : MX layX l yX0_fillBare cX0_fillBare 6 none ({ frames := 2, cells := 0, slots := 0, locals := 42 } : Room) D q g cy z [.ref (q 131), .int p1] S false (none) (wd_o S [] [] [] [(134, o)] []) 0 0 := by
  refine mx_of (own := RX0) (lc := [(0, .ref (q 131)), (1, .int p1)]) (by decide +kernel) rfl layX_ok (Nat.le_of_ble_eq_true rfl) rfl ?_
  intro X hXl hXq hXz hC hQ
  subst hXl; subst hXq; subst hXz
  unfold f_X0_fillBare_q131 at hf
  refine go_keys (L1 := []) (L2 := []) (L3 := []) (L4 := [(134, (S.2.2.2.1 134))]) (L5 := []) [] [] [] [134] [] rfl rfl rfl rfl rfl ?_
  refine go_aload_n (pc' := 1) hC dX0_fillBare_0 rfl rfl ?_
  refine go_getg (pc' := 4) hC 131 6 layX_131 rfl rfl inlX0 (Nat.le_of_ble_eq_true rfl) mw_141 rfl dX0_fillBare_1 rfl ?_
  refine go_lconst (pc' := 5) hC dX0_fillBare_4 kl_0 rfl ?_
  obtain ⟨o1, ho1, hf⟩ := bd_e hf
  refine go_callS1 (pc' := 8) (As := [.ref (g 134), .long (0 : Int64)]) (st := []) (st' := []) (L1' := []) (L2' := []) (L3' := []) (L4' := [(134, o1)]) (L5' := []) (cells' := 0) (slots' := 0)  hC dX0_fillBare_5 ⟨mw_775, mw_706, mw_687, yd_yJ7_fill_d0a16, yp_yJ7_fill_d0a16, Nat.le_of_ble_eq_true rfl, Nat.le_of_ble_eq_true rfl, (Nat.le_of_ble_eq_true rfl), (Nat.le_of_ble_eq_true rfl)⟩ mw_705 rfl rfl (Nat.le_of_ble_eq_true rfl) (c_J7_fill_d0a16_g134 (x_l X) (x_D X) (x_q X) g (x_cy X) (x_z X) _ (0 : Int64) o1 ho1) rfl rfl rfl rfl rfl rfl rfl rfl rfl rfl rfl rfl rfl rfl ?_
  refine go_iconst (pc' := 9) hC dX0_fillBare_8 ki_0 rfl ?_
  refine go_istore_n (lc' := [(0, .ref (x_q X 131)), (1, .int p1), (2, .int (0 : Int32))]) (pc' := 10) hC dX0_fillBare_9 (Nat.le_of_ble_eq_true rfl) rfl rfl ?_
  have l10_23 : ∀ (nn : Nat) (x2 : Int32) (a3 : Nat → Int64), it2 (f_X0_fillBare_q131_L10 S p1) nn x2 a3 = some o → Go X layX S 10 [(0, .ref (x_q X 131)), (1, .int p1), (2, .int x2)] [] g [] [] [] [(134, a3)] [] 0 0 := by
    intro nn
    induction nn with
    | zero =>
      intro x2 a3 hf
      exact none_no hf
    | succ nn ih =>
      intro x2 a3 hf
      have hf : f_X0_fillBare_q131_L10 S p1 (it2 (f_X0_fillBare_q131_L10 S p1) nn) x2 a3 = some o := hf
      generalize it2 (f_X0_fillBare_q131_L10 S p1) nn = r4 at ih hf
      unfold f_X0_fillBare_q131_L10 at hf
      refine go_iload_n (pc' := 11) hC dX0_fillBare_10 rfl rfl ?_
      refine go_aload_n (pc' := 12) hC dX0_fillBare_11 rfl rfl ?_
      refine go_getq (pc' := 15) hC 131 4 layX_131 rfl rfl inlX0 (Nat.le_of_ble_eq_true rfl) mw_146 rfl dX0_fillBare_12 rfl ?_
      refine go_geti (v := (S.1 10602)) (pc' := 18) hC 106 2 layX_106 rfl rfl inlX8 (Nat.le_of_ble_eq_true rfl) mw_773 rfl dX0_fillBare_15 rfl rfl ?_
      refine go_icmp_ge (tgt := 84) (pc' := 21) hC dX0_fillBare_18 (by decide) rfl (fun h22 => ?_) (fun h22 => ?_)
      · have hf := ite_t h22 hf
        obtain rfl := Option.some.inj hf
        exact go_vret hC hQ dX0_fillBare_84 rfl rfl rfl (fun _ => rfl) rfl rfl
      · have hf := ite_f h22 hf
        refine go_aload_n (pc' := 22) hC dX0_fillBare_21 rfl rfl ?_
        refine go_getq (pc' := 25) hC 131 4 layX_131 rfl rfl inlX0 (Nat.le_of_ble_eq_true rfl) mw_146 rfl dX0_fillBare_22 rfl ?_
        refine go_getq (pc' := 28) hC 106 1 layX_106 rfl rfl inlX8 (Nat.le_of_ble_eq_true rfl) mw_774 rfl dX0_fillBare_25 rfl ?_
        refine go_iload_n (pc' := 29) hC dX0_fillBare_28 rfl rfl ?_
        refine go_aload_n (pc' := 30) hC dX0_fillBare_29 rfl rfl ?_
        refine go_geti (v := (S.1 13105)) (pc' := 33) hC 131 5 layX_131 rfl rfl inlX0 (Nat.le_of_ble_eq_true rfl) mw_766 rfl dX0_fillBare_30 rfl rfl ?_
        obtain ⟨o5, ho5, hf⟩ := bd_e hf
        refine go_callV0 (pc' := 36) (As := [.int x2, .int (S.1 13105)]) (st := []) (st' := [.long o5])    (b := 117) hC dX0_fillBare_33 ⟨mw_776, mw_779, mw_103, yd_yX10_product, yp_yX10_product, Nat.le_of_ble_eq_true rfl, Nat.le_of_ble_eq_true rfl, (Nat.le_of_ble_eq_true rfl), (Nat.le_of_ble_eq_true rfl)⟩ mw_777 mw_778 layX_117 rfl rfl rfl (Nat.le_of_ble_eq_true rfl) (c_X10_product_q117 (x_l X) (x_D X) (x_q X) g (x_cy X) (x_z X) _ x2 (S.1 13105) o5 ho5) rfl rfl ?_
        refine go_lstore_n (lc' := [(0, .ref (x_q X 131)), (1, .int p1), (2, .int x2), (3, .long o5)]) (pc' := 37) hC dX0_fillBare_36 (Nat.le_of_ble_eq_true rfl) rfl rfl ?_
        refine go_iconst (pc' := 38) hC dX0_fillBare_37 ki_0 rfl ?_
        refine go_istore (lc' := [(0, .ref (x_q X 131)), (1, .int p1), (2, .int x2), (3, .long o5), (5, .int (0 : Int32))]) (pc' := 40) hC dX0_fillBare_38 (Nat.le_of_ble_eq_true rfl) rfl rfl ?_
        obtain ⟨k77_7, hk77_7, hf⟩ := lk_e1 hf
        have jk77_7 : ∀ (a6 : Nat → Int64), k77_7 a6 = some o → Go X layX S 77 [(0, .ref (x_q X 131)), (1, .int p1), (2, .int x2)] [] g [] [] [] [(134, a6)] [] 0 0 := by
          intro a6 hf
          have hf := hk77_7 a6 hf
          clear hk77_7
          refine go_iload_n (pc' := 78) hC dX0_fillBare_77 rfl rfl ?_
          refine go_iload_n (pc' := 79) hC dX0_fillBare_78 rfl rfl ?_
          refine go_iadd (pc' := 80) hC dX0_fillBare_79 rfl ?_
          refine go_namei (fun x8 hx => ?_)
          have hf := lz_r hx hf
          clear hx
          refine go_istore_n (lc' := [(0, .ref (x_q X 131)), (1, .int p1), (2, .int x8)]) (pc' := 81) hC dX0_fillBare_80 (Nat.le_of_ble_eq_true rfl) rfl rfl ?_
          refine go_goto (tgt := 10) hC dX0_fillBare_81 (by decide) ?_
          exact ih x8 a6 hf
        clear hk77_7
        have l40_21 : ∀ (nn : Nat) (x9 : Int32) (a10 : Nat → Int64), it2 (f_X0_fillBare_q131_L40 S p1 x2 o5 k77_7) nn x9 a10 = some o → Go X layX S 40 [(0, .ref (x_q X 131)), (1, .int p1), (2, .int x2), (3, .long o5), (5, .int x9)] [] g [] [] [] [(134, a10)] [] 0 0 := by
          intro nn
          induction nn with
          | zero =>
            intro x9 a10 hf
            exact none_no hf
          | succ nn ih =>
            intro x9 a10 hf
            have hf : f_X0_fillBare_q131_L40 S p1 x2 o5 k77_7 (it2 (f_X0_fillBare_q131_L40 S p1 x2 o5 k77_7) nn) x9 a10 = some o := hf
            generalize it2 (f_X0_fillBare_q131_L40 S p1 x2 o5 k77_7) nn = r11 at ih hf
            unfold f_X0_fillBare_q131_L40 at hf
            refine go_iload (pc' := 42) hC dX0_fillBare_40 rfl rfl ?_
            refine go_iload_n (pc' := 43) hC dX0_fillBare_42 rfl rfl ?_
            refine go_icmp_ge (tgt := 77) (pc' := 46) hC dX0_fillBare_43 (by decide) rfl (fun h20 => ?_) (fun h20 => ?_)
            · have hf := ite_t h20 hf
              refine go_sub [0, 1, 2] rfl ?_
              exact jk77_7 a10 hf
            · have hf := ite_f h20 hf
              refine go_aload_n (pc' := 47) hC dX0_fillBare_46 rfl rfl ?_
              refine go_getq (pc' := 50) hC 131 4 layX_131 rfl rfl inlX0 (Nat.le_of_ble_eq_true rfl) mw_146 rfl dX0_fillBare_47 rfl ?_
              refine go_iload_n (pc' := 51) hC dX0_fillBare_50 rfl rfl ?_
              refine go_iload (pc' := 53) hC dX0_fillBare_51 rfl rfl ?_
              refine go_ior (pc' := 54) hC dX0_fillBare_53 rfl ?_
              obtain ⟨o12, ho12, hf⟩ := bd_e hf
              refine go_callV0 (pc' := 57) (As := [.int (x2 ||| x9)]) (st := []) (st' := [.int o12])    (b := 106) hC dX0_fillBare_54 ⟨mw_780, mw_734, mw_31, yd_yX8_isThrough, yp_yX8_isThrough, Nat.le_of_ble_eq_true rfl, Nat.le_of_ble_eq_true rfl, (Nat.le_of_ble_eq_true rfl), (Nat.le_of_ble_eq_true rfl)⟩ mw_732 mw_733 layX_106 rfl rfl rfl (Nat.le_of_ble_eq_true rfl) (c_X8_isThrough_q106 (x_l X) (x_D X) (x_q X) g (x_cy X) (x_z X) _ (x2 ||| x9) o12 ho12) rfl rfl ?_
              obtain ⟨k71_14, hk71_14, hf⟩ := lk_e1 hf
              have jk71_14 : ∀ (a13 : Nat → Int64), k71_14 a13 = some o → Go X layX S 71 [(0, .ref (x_q X 131)), (1, .int p1), (2, .int x2), (3, .long o5), (5, .int x9)] [] g [] [] [] [(134, a13)] [] 0 0 := by
                intro a13 hf
                have hf := hk71_14 a13 hf
                clear hk71_14
                refine go_iinc (lc' := [(0, .ref (x_q X 131)), (1, .int p1), (2, .int x2), (3, .long o5), (5, .int (x9 + (1 : Int32)))]) (pc' := 74) hC dX0_fillBare_71 rfl ki_1 (Nat.le_of_ble_eq_true rfl) rfl rfl ?_
                refine go_goto (tgt := 40) hC dX0_fillBare_74 (by decide) ?_
                exact ih (x9 + (1 : Int32)) a13 hf
              clear hk71_14
              refine go_if_eq (tgt := 71) (pc' := 60) hC dX0_fillBare_57 (by decide) rfl (fun h19 => ?_) (fun h19 => ?_)
              · have hf := ite_t h19 hf
                exact jk71_14 a10 hf
              · have hf := ite_f h19 hf
                refine go_aload_n (pc' := 61) hC dX0_fillBare_60 rfl rfl ?_
                refine go_getg (pc' := 64) hC 131 6 layX_131 rfl rfl inlX0 (Nat.le_of_ble_eq_true rfl) mw_141 rfl dX0_fillBare_61 rfl ?_
                refine go_iload (pc' := 66) hC dX0_fillBare_64 rfl rfl ?_
                refine go_dup2 (pc' := 67) hC dX0_fillBare_66 rfl rfl rfl ?_
                obtain ⟨h15, hf⟩ := gd_e hf
                refine go_laldg (f := a10) (pc' := 68) hC 134 layX_134 rfl rfl dX0_fillBare_67 (okx_in h15) rfl ?_
                refine go_lload_n (pc' := 69) hC dX0_fillBare_68 rfl rfl ?_
                refine go_ladd (pc' := 70) hC dX0_fillBare_69 rfl ?_
                refine go_namel (fun x16 hx => ?_)
                have hf := lz_r hx hf
                clear hx
                obtain ⟨h17, hf⟩ := gd_e hf
                refine go_lastg (f := a10) (pc' := 71) hC 134 layX_134 rfl rfl dX0_fillBare_70 (okx_in h17) rfl rfl (fun a18 ha L4' hL => ?_)
                have hf := lz_r ha hf
                clear ha
                obtain rfl : L4' = [(134, a18)] := hL.symm
                exact jk71_14 a18 hf
        exact l40_21 fuel (0 : Int32) a3 hf
  exact l10_23 fuel (0 : Int32) o1 hf
theorem dX0_buildOrNot_0 : decode cX0_buildOrNot 0 = .ok (.iconst 0, 1) := by decide +kernel
theorem dX0_buildOrNot_1 : decode cX0_buildOrNot 1 = .ok (.istore 4, 2) := by decide +kernel
theorem dX0_buildOrNot_3 : decode cX0_buildOrNot 3 = .ok (.iload 4, 2) := by decide +kernel
theorem dX0_buildOrNot_5 : decode cX0_buildOrNot 5 = .ok (.iload_n 1, 1) := by decide +kernel
theorem dX0_buildOrNot_6 : decode cX0_buildOrNot 6 = .ok (.if_icmp .ge 64, 3) := by decide +kernel
theorem dX0_buildOrNot_9 : decode cX0_buildOrNot 9 = .ok (.iload 4, 2) := by decide +kernel
theorem dX0_buildOrNot_11 : decode cX0_buildOrNot 11 = .ok (.iload_n 2, 1) := by decide +kernel
theorem dX0_buildOrNot_12 : decode cX0_buildOrNot 12 = .ok (.iand, 1) := by decide +kernel
theorem dX0_buildOrNot_13 : decode cX0_buildOrNot 13 = .ok (.ifCond .ne 51, 3) := by decide +kernel
theorem dX0_buildOrNot_16 : decode cX0_buildOrNot 16 = .ok (.aload_n 0, 1) := by decide +kernel
theorem dX0_buildOrNot_17 : decode cX0_buildOrNot 17 = .ok (.getfield 9, 3) := by decide +kernel
theorem dX0_buildOrNot_20 : decode cX0_buildOrNot 20 = .ok (.iload 4, 2) := by decide +kernel
theorem dX0_buildOrNot_22 : decode cX0_buildOrNot 22 = .ok (.iload_n 2, 1) := by decide +kernel
theorem dX0_buildOrNot_23 : decode cX0_buildOrNot 23 = .ok (.ior, 1) := by decide +kernel
theorem dX0_buildOrNot_24 : decode cX0_buildOrNot 24 = .ok (.iload_n 3, 1) := by decide +kernel
theorem dX0_buildOrNot_25 : decode cX0_buildOrNot 25 = .ok (.i2l, 1) := by decide +kernel
theorem dX0_buildOrNot_26 : decode cX0_buildOrNot 26 = .ok (.aload_n 0, 1) := by decide +kernel
theorem dX0_buildOrNot_27 : decode cX0_buildOrNot 27 = .ok (.getfield 9, 3) := by decide +kernel
theorem dX0_buildOrNot_30 : decode cX0_buildOrNot 30 = .ok (.iload 4, 2) := by decide +kernel
theorem dX0_buildOrNot_32 : decode cX0_buildOrNot 32 = .ok (.iload_n 2, 1) := by decide +kernel
theorem dX0_buildOrNot_33 : decode cX0_buildOrNot 33 = .ok (.ior, 1) := by decide +kernel
theorem dX0_buildOrNot_34 : decode cX0_buildOrNot 34 = .ok (.laload, 1) := by decide +kernel
theorem dX0_buildOrNot_35 : decode cX0_buildOrNot 35 = .ok (.lmul, 1) := by decide +kernel
theorem dX0_buildOrNot_36 : decode cX0_buildOrNot 36 = .ok (.bipush 16, 2) := by decide +kernel
theorem dX0_buildOrNot_38 : decode cX0_buildOrNot 38 = .ok (.iload_n 3, 1) := by decide +kernel
theorem dX0_buildOrNot_39 : decode cX0_buildOrNot 39 = .ok (.isub, 1) := by decide +kernel
theorem dX0_buildOrNot_40 : decode cX0_buildOrNot 40 = .ok (.i2l, 1) := by decide +kernel
theorem dX0_buildOrNot_41 : decode cX0_buildOrNot 41 = .ok (.aload_n 0, 1) := by decide +kernel
theorem dX0_buildOrNot_42 : decode cX0_buildOrNot 42 = .ok (.getfield 9, 3) := by decide +kernel
theorem dX0_buildOrNot_45 : decode cX0_buildOrNot 45 = .ok (.iload 4, 2) := by decide +kernel
theorem dX0_buildOrNot_47 : decode cX0_buildOrNot 47 = .ok (.laload, 1) := by decide +kernel
theorem dX0_buildOrNot_48 : decode cX0_buildOrNot 48 = .ok (.lmul, 1) := by decide +kernel
theorem dX0_buildOrNot_49 : decode cX0_buildOrNot 49 = .ok (.ladd, 1) := by decide +kernel
theorem dX0_buildOrNot_50 : decode cX0_buildOrNot 50 = .ok (.lastore, 1) := by decide +kernel
theorem dX0_buildOrNot_51 : decode cX0_buildOrNot 51 = .ok (.aload_n 0, 1) := by decide +kernel
theorem dX0_buildOrNot_52 : decode cX0_buildOrNot 52 = .ok (.getfield 9, 3) := by decide +kernel
theorem dX0_buildOrNot_55 : decode cX0_buildOrNot 55 = .ok (.iload 4, 2) := by decide +kernel
theorem dX0_buildOrNot_57 : decode cX0_buildOrNot 57 = .ok (.dup2, 1) := by decide +kernel
theorem dX0_buildOrNot_58 : decode cX0_buildOrNot 58 = .ok (.laload, 1) := by decide +kernel
theorem dX0_buildOrNot_59 : decode cX0_buildOrNot 59 = .ok (.ldc2_w 89, 3) := by decide +kernel
theorem dX0_buildOrNot_62 : decode cX0_buildOrNot 62 = .ok (.lmul, 1) := by decide +kernel
theorem dX0_buildOrNot_63 : decode cX0_buildOrNot 63 = .ok (.lastore, 1) := by decide +kernel
theorem dX0_buildOrNot_64 : decode cX0_buildOrNot 64 = .ok (.iinc 4 1, 3) := by decide +kernel
theorem dX0_buildOrNot_67 : decode cX0_buildOrNot 67 = .ok (.goto (-64), 3) := by decide +kernel
theorem dX0_buildOrNot_70 : decode cX0_buildOrNot 70 = .ok (.return_, 1) := by decide +kernel
abbrev o_X0_buildOrNot_q131 : Type := (Nat → Int64)
def f_X0_buildOrNot_q131_L3 (S : wd_W) (p1 : Int32) (p2 : Int32) (p3 : Int32) (r3 : (Int32) → (Nat → Int64) → (Option o_X0_buildOrNot_q131)) (x1 : Int32) (a2 : Nat → Int64) : Option o_X0_buildOrNot_q131 :=
if p1 ≤ x1 then (
some a2) else (
lk (fun a4 =>
r3 (x1 + (1 : Int32)) a4) fun k64_5 =>
if (x1 &&& p2) = 0 then (
gd (okx (x1 ||| p2) (S.2.2.2.2 132)) <|
gd (okx x1 (S.2.2.2.2 132)) <|
lz ((p3.toInt64 * (a2 (x1 ||| p2).toNatClampNeg)) + ((((16 : Int32) - p3).toInt64) * (a2 x1.toNatClampNeg))) fun x8 =>
gd (okx (x1 ||| p2) (S.2.2.2.2 132)) <|
lz (vp_updL a2 (x1 ||| p2).toNatClampNeg x8) fun a10 =>
gd (okx x1 (S.2.2.2.2 132)) <|
lz ((a10 x1.toNatClampNeg) * (16 : Int64)) fun x12 =>
gd (okx x1 (S.2.2.2.2 132)) <|
lz (vp_updL a10 x1.toNatClampNeg x12) fun a14 =>
k64_5 a14) else (
k64_5 a2))
def f_X0_buildOrNot_q131 (S : wd_W) (p1 : Int32) (p2 : Int32) (p3 : Int32) : Option o_X0_buildOrNot_q131 :=
it2 (f_X0_buildOrNot_q131_L3 S p1 p2 p3) fuel (0 : Int32) (S.2.2.2.1 132)
set_option maxRecDepth 100000 in
set_option maxHeartbeats 4000000 in
theorem c_X0_buildOrNot_q131 (l : Launch) (D : va_G) (q g : Nat → Nat) (cy : Nat → ClassId) (z : (Nat → Nat) × (Nat → Nat) × Nat) (S : wd_W) (p1 : Int32) (p2 : Int32) (p3 : Int32) (o : o_X0_buildOrNot_q131) (hf : f_X0_buildOrNot_q131 S p1 p2 p3 = some o) : MX layX l yX0_buildOrNot cX0_buildOrNot 5 none ({ frames := 0, cells := 0, slots := 0, locals := 0 } : Room) D q g cy z [.ref (q 131), .int p1, .int p2, .int p3] S false (none) (wd_o S [] [] [] [(132, o)] []) 0 0 := by
  refine mx_of (own := RX0) (lc := [(0, .ref (q 131)), (1, .int p1), (2, .int p2), (3, .int p3)]) (by decide +kernel) rfl layX_ok (Nat.le_of_ble_eq_true rfl) rfl ?_
  intro X hXl hXq hXz hC hQ
  subst hXl; subst hXq; subst hXz
  unfold f_X0_buildOrNot_q131 at hf
  refine go_keys (L1 := []) (L2 := []) (L3 := []) (L4 := [(132, (S.2.2.2.1 132))]) (L5 := []) [] [] [] [132] [] rfl rfl rfl rfl rfl ?_
  refine go_iconst (pc' := 1) hC dX0_buildOrNot_0 ki_0 rfl ?_
  refine go_istore (lc' := [(0, .ref (x_q X 131)), (1, .int p1), (2, .int p2), (3, .int p3), (4, .int (0 : Int32))]) (pc' := 3) hC dX0_buildOrNot_1 (Nat.le_of_ble_eq_true rfl) rfl rfl ?_
  have l3_17 : ∀ (nn : Nat) (x1 : Int32) (a2 : Nat → Int64), it2 (f_X0_buildOrNot_q131_L3 S p1 p2 p3) nn x1 a2 = some o → Go X layX S 3 [(0, .ref (x_q X 131)), (1, .int p1), (2, .int p2), (3, .int p3), (4, .int x1)] [] g [] [] [] [(132, a2)] [] 0 0 := by
    intro nn
    induction nn with
    | zero =>
      intro x1 a2 hf
      exact none_no hf
    | succ nn ih =>
      intro x1 a2 hf
      have hf : f_X0_buildOrNot_q131_L3 S p1 p2 p3 (it2 (f_X0_buildOrNot_q131_L3 S p1 p2 p3) nn) x1 a2 = some o := hf
      generalize it2 (f_X0_buildOrNot_q131_L3 S p1 p2 p3) nn = r3 at ih hf
      unfold f_X0_buildOrNot_q131_L3 at hf
      refine go_iload (pc' := 5) hC dX0_buildOrNot_3 rfl rfl ?_
      refine go_iload_n (pc' := 6) hC dX0_buildOrNot_5 rfl rfl ?_
      refine go_icmp_ge (tgt := 70) (pc' := 9) hC dX0_buildOrNot_6 (by decide) rfl (fun h16 => ?_) (fun h16 => ?_)
      · have hf := ite_t h16 hf
        obtain rfl := Option.some.inj hf
        exact go_vret hC hQ dX0_buildOrNot_70 rfl rfl rfl (fun _ => rfl) rfl rfl
      · have hf := ite_f h16 hf
        refine go_iload (pc' := 11) hC dX0_buildOrNot_9 rfl rfl ?_
        refine go_iload_n (pc' := 12) hC dX0_buildOrNot_11 rfl rfl ?_
        refine go_iand (pc' := 13) hC dX0_buildOrNot_12 rfl ?_
        obtain ⟨k64_5, hk64_5, hf⟩ := lk_e1 hf
        have jk64_5 : ∀ (a4 : Nat → Int64), k64_5 a4 = some o → Go X layX S 64 [(0, .ref (x_q X 131)), (1, .int p1), (2, .int p2), (3, .int p3), (4, .int x1)] [] g [] [] [] [(132, a4)] [] 0 0 := by
          intro a4 hf
          have hf := hk64_5 a4 hf
          clear hk64_5
          refine go_iinc (lc' := [(0, .ref (x_q X 131)), (1, .int p1), (2, .int p2), (3, .int p3), (4, .int (x1 + (1 : Int32)))]) (pc' := 67) hC dX0_buildOrNot_64 rfl ki_1 (Nat.le_of_ble_eq_true rfl) rfl rfl ?_
          refine go_goto (tgt := 3) hC dX0_buildOrNot_67 (by decide) ?_
          exact ih (x1 + (1 : Int32)) a4 hf
        clear hk64_5
        refine go_if_ne (tgt := 64) (pc' := 16) hC dX0_buildOrNot_13 (by decide) rfl (fun h15 => ?_) (fun h15 => ?_)
        · have hf := ite_f h15 hf
          exact jk64_5 a2 hf
        · have hf := ite_t h15 hf
          refine go_aload_n (pc' := 17) hC dX0_buildOrNot_16 rfl rfl ?_
          refine go_getg (pc' := 20) hC 131 0 layX_131 rfl rfl inlX0 (Nat.le_of_ble_eq_true rfl) mw_139 rfl dX0_buildOrNot_17 rfl ?_
          refine go_iload (pc' := 22) hC dX0_buildOrNot_20 rfl rfl ?_
          refine go_iload_n (pc' := 23) hC dX0_buildOrNot_22 rfl rfl ?_
          refine go_ior (pc' := 24) hC dX0_buildOrNot_23 rfl ?_
          refine go_iload_n (pc' := 25) hC dX0_buildOrNot_24 rfl rfl ?_
          refine go_i2l (pc' := 26) hC dX0_buildOrNot_25 rfl ?_
          refine go_aload_n (pc' := 27) hC dX0_buildOrNot_26 rfl rfl ?_
          refine go_getg (pc' := 30) hC 131 0 layX_131 rfl rfl inlX0 (Nat.le_of_ble_eq_true rfl) mw_139 rfl dX0_buildOrNot_27 rfl ?_
          refine go_iload (pc' := 32) hC dX0_buildOrNot_30 rfl rfl ?_
          refine go_iload_n (pc' := 33) hC dX0_buildOrNot_32 rfl rfl ?_
          refine go_ior (pc' := 34) hC dX0_buildOrNot_33 rfl ?_
          obtain ⟨h6, hf⟩ := gd_e hf
          refine go_laldg (f := a2) (pc' := 35) hC 132 layX_132 rfl rfl dX0_buildOrNot_34 (okx_in h6) rfl ?_
          refine go_lmul (pc' := 36) hC dX0_buildOrNot_35 rfl ?_
          refine go_bipush (pc' := 38) hC dX0_buildOrNot_36 kb_16 rfl ?_
          refine go_iload_n (pc' := 39) hC dX0_buildOrNot_38 rfl rfl ?_
          refine go_isub (pc' := 40) hC dX0_buildOrNot_39 rfl ?_
          refine go_i2l (pc' := 41) hC dX0_buildOrNot_40 rfl ?_
          refine go_aload_n (pc' := 42) hC dX0_buildOrNot_41 rfl rfl ?_
          refine go_getg (pc' := 45) hC 131 0 layX_131 rfl rfl inlX0 (Nat.le_of_ble_eq_true rfl) mw_139 rfl dX0_buildOrNot_42 rfl ?_
          refine go_iload (pc' := 47) hC dX0_buildOrNot_45 rfl rfl ?_
          obtain ⟨h7, hf⟩ := gd_e hf
          refine go_laldg (f := a2) (pc' := 48) hC 132 layX_132 rfl rfl dX0_buildOrNot_47 (okx_in h7) rfl ?_
          refine go_lmul (pc' := 49) hC dX0_buildOrNot_48 rfl ?_
          refine go_ladd (pc' := 50) hC dX0_buildOrNot_49 rfl ?_
          refine go_namel (fun x8 hx => ?_)
          have hf := lz_r hx hf
          clear hx
          obtain ⟨h9, hf⟩ := gd_e hf
          refine go_lastg (f := a2) (pc' := 51) hC 132 layX_132 rfl rfl dX0_buildOrNot_50 (okx_in h9) rfl rfl (fun a10 ha L4' hL => ?_)
          have hf := lz_r ha hf
          clear ha
          obtain rfl : L4' = [(132, a10)] := hL.symm
          refine go_aload_n (pc' := 52) hC dX0_buildOrNot_51 rfl rfl ?_
          refine go_getg (pc' := 55) hC 131 0 layX_131 rfl rfl inlX0 (Nat.le_of_ble_eq_true rfl) mw_139 rfl dX0_buildOrNot_52 rfl ?_
          refine go_iload (pc' := 57) hC dX0_buildOrNot_55 rfl rfl ?_
          refine go_dup2 (pc' := 58) hC dX0_buildOrNot_57 rfl rfl rfl ?_
          obtain ⟨h11, hf⟩ := gd_e hf
          refine go_laldg (f := a10) (pc' := 59) hC 132 layX_132 rfl rfl dX0_buildOrNot_58 (okx_in h11) rfl ?_
          refine go_ldc2 (pc' := 62) hC dX0_buildOrNot_59 mw_785 rfl ?_
          refine go_lmul (pc' := 63) hC dX0_buildOrNot_62 rfl ?_
          refine go_namel (fun x12 hx => ?_)
          have hf := lz_r hx hf
          clear hx
          obtain ⟨h13, hf⟩ := gd_e hf
          refine go_lastg (f := a10) (pc' := 64) hC 132 layX_132 rfl rfl dX0_buildOrNot_63 (okx_in h13) rfl rfl (fun a14 ha L4' hL => ?_)
          have hf := lz_r ha hf
          clear ha
          obtain rfl : L4' = [(132, a14)] := hL.symm
          exact jk64_5 a14 hf
  exact l3_17 fuel (0 : Int32) (S.2.2.2.1 132) hf
theorem dX0_workOut_0 : decode cX0_workOut 0 = .ok (.aload_n 0, 1) := by decide +kernel
theorem dX0_workOut_1 : decode cX0_workOut 1 = .ok (.aload_n 0, 1) := by decide +kernel
theorem dX0_workOut_2 : decode cX0_workOut 2 = .ok (.getfield 27, 3) := by decide +kernel
theorem dX0_workOut_5 : decode cX0_workOut 5 = .ok (.getfield 39, 3) := by decide +kernel
theorem dX0_workOut_8 : decode cX0_workOut 8 = .ok (.putfield 45, 3) := by decide +kernel
theorem dX0_workOut_11 : decode cX0_workOut 11 = .ok (.iconst 1, 1) := by decide +kernel
theorem dX0_workOut_12 : decode cX0_workOut 12 = .ok (.aload_n 0, 1) := by decide +kernel
theorem dX0_workOut_13 : decode cX0_workOut 13 = .ok (.getfield 45, 3) := by decide +kernel
theorem dX0_workOut_16 : decode cX0_workOut 16 = .ok (.ishl, 1) := by decide +kernel
theorem dX0_workOut_17 : decode cX0_workOut 17 = .ok (.istore_n 1, 1) := by decide +kernel
theorem dX0_workOut_18 : decode cX0_workOut 18 = .ok (.aload_n 0, 1) := by decide +kernel
theorem dX0_workOut_19 : decode cX0_workOut 19 = .ok (.getfield 18, 3) := by decide +kernel
theorem dX0_workOut_22 : decode cX0_workOut 22 = .ok (.arraylength, 1) := by decide +kernel
theorem dX0_workOut_23 : decode cX0_workOut 23 = .ok (.iload_n 1, 1) := by decide +kernel
theorem dX0_workOut_24 : decode cX0_workOut 24 = .ok (.if_icmp .ge 31, 3) := by decide +kernel
theorem dX0_workOut_27 : decode cX0_workOut 27 = .ok (.aload_n 0, 1) := by decide +kernel
theorem dX0_workOut_28 : decode cX0_workOut 28 = .ok (.iload_n 1, 1) := by decide +kernel
theorem dX0_workOut_29 : decode cX0_workOut 29 = .ok (.newarray .long, 2) := by decide +kernel
theorem dX0_workOut_31 : decode cX0_workOut 31 = .ok (.putfield 9, 3) := by decide +kernel
theorem dX0_workOut_34 : decode cX0_workOut 34 = .ok (.aload_n 0, 1) := by decide +kernel
theorem dX0_workOut_35 : decode cX0_workOut 35 = .ok (.iload_n 1, 1) := by decide +kernel
theorem dX0_workOut_36 : decode cX0_workOut 36 = .ok (.newarray .long, 2) := by decide +kernel
theorem dX0_workOut_38 : decode cX0_workOut 38 = .ok (.putfield 18, 3) := by decide +kernel
theorem dX0_workOut_41 : decode cX0_workOut 41 = .ok (.aload_n 0, 1) := by decide +kernel
theorem dX0_workOut_42 : decode cX0_workOut 42 = .ok (.iload_n 1, 1) := by decide +kernel
theorem dX0_workOut_43 : decode cX0_workOut 43 = .ok (.newarray .long, 2) := by decide +kernel
theorem dX0_workOut_45 : decode cX0_workOut 45 = .ok (.putfield 21, 3) := by decide +kernel
theorem dX0_workOut_48 : decode cX0_workOut 48 = .ok (.aload_n 0, 1) := by decide +kernel
theorem dX0_workOut_49 : decode cX0_workOut 49 = .ok (.iload_n 1, 1) := by decide +kernel
theorem dX0_workOut_50 : decode cX0_workOut 50 = .ok (.newarray .long, 2) := by decide +kernel
theorem dX0_workOut_52 : decode cX0_workOut 52 = .ok (.putfield 24, 3) := by decide +kernel
theorem dX0_workOut_55 : decode cX0_workOut 55 = .ok (.aload_n 0, 1) := by decide +kernel
theorem dX0_workOut_56 : decode cX0_workOut 56 = .ok (.iload_n 1, 1) := by decide +kernel
theorem dX0_workOut_57 : decode cX0_workOut 57 = .ok (.invokevirtual 46, 3) := by decide +kernel
theorem dX0_workOut_60 : decode cX0_workOut 60 = .ok (.aload_n 0, 1) := by decide +kernel
theorem dX0_workOut_61 : decode cX0_workOut 61 = .ok (.getfield 18, 3) := by decide +kernel
theorem dX0_workOut_64 : decode cX0_workOut 64 = .ok (.iconst 0, 1) := by decide +kernel
theorem dX0_workOut_65 : decode cX0_workOut 65 = .ok (.aload_n 0, 1) := by decide +kernel
theorem dX0_workOut_66 : decode cX0_workOut 66 = .ok (.getfield 9, 3) := by decide +kernel
theorem dX0_workOut_69 : decode cX0_workOut 69 = .ok (.iconst 0, 1) := by decide +kernel
theorem dX0_workOut_70 : decode cX0_workOut 70 = .ok (.iload_n 1, 1) := by decide +kernel
theorem dX0_workOut_71 : decode cX0_workOut 71 = .ok (.invokestatic 50, 3) := by decide +kernel
theorem dX0_workOut_74 : decode cX0_workOut 74 = .ok (.iconst 0, 1) := by decide +kernel
theorem dX0_workOut_75 : decode cX0_workOut 75 = .ok (.istore_n 2, 1) := by decide +kernel
theorem dX0_workOut_76 : decode cX0_workOut 76 = .ok (.iload_n 2, 1) := by decide +kernel
theorem dX0_workOut_77 : decode cX0_workOut 77 = .ok (.aload_n 0, 1) := by decide +kernel
theorem dX0_workOut_78 : decode cX0_workOut 78 = .ok (.getfield 45, 3) := by decide +kernel
theorem dX0_workOut_81 : decode cX0_workOut 81 = .ok (.if_icmp .ge 26, 3) := by decide +kernel
theorem dX0_workOut_84 : decode cX0_workOut 84 = .ok (.aload_n 0, 1) := by decide +kernel
theorem dX0_workOut_85 : decode cX0_workOut 85 = .ok (.iload_n 1, 1) := by decide +kernel
theorem dX0_workOut_86 : decode cX0_workOut 86 = .ok (.iconst 1, 1) := by decide +kernel
theorem dX0_workOut_87 : decode cX0_workOut 87 = .ok (.iload_n 2, 1) := by decide +kernel
theorem dX0_workOut_88 : decode cX0_workOut 88 = .ok (.ishl, 1) := by decide +kernel
theorem dX0_workOut_89 : decode cX0_workOut 89 = .ok (.aload_n 0, 1) := by decide +kernel
theorem dX0_workOut_90 : decode cX0_workOut 90 = .ok (.getfield 27, 3) := by decide +kernel
theorem dX0_workOut_93 : decode cX0_workOut 93 = .ok (.getfield 56, 3) := by decide +kernel
theorem dX0_workOut_96 : decode cX0_workOut 96 = .ok (.iload_n 2, 1) := by decide +kernel
theorem dX0_workOut_97 : decode cX0_workOut 97 = .ok (.iaload, 1) := by decide +kernel
theorem dX0_workOut_98 : decode cX0_workOut 98 = .ok (.invokevirtual 60, 3) := by decide +kernel
theorem dX0_workOut_101 : decode cX0_workOut 101 = .ok (.iinc 2 1, 3) := by decide +kernel
theorem dX0_workOut_104 : decode cX0_workOut 104 = .ok (.goto (-28), 3) := by decide +kernel
theorem dX0_workOut_107 : decode cX0_workOut 107 = .ok (.return_, 1) := by decide +kernel
abbrev o_X0_workOut_q131 : Type := Int32 × (Nat → Int64) × (Nat → Int64) × (Nat → Int64) × (Nat → Int64) × Nat × Nat × Nat × Nat × Nat × Nat
def f_X0_workOut_q131_L76 (S : wd_W) (x1 : Int32) (x2 : Int32) (a5 : Nat → Int64) (a6 : Nat → Int64) (n7 : Nat) (n8 : Nat) (n9 : Nat) (n10 : Nat) (n11 : Nat) (n12 : Nat) (o14 : o_X0_fillBare_q131) (r20 : (Int32) → (Nat → Int64) → (Option o_X0_workOut_q131)) (x18 : Int32) (a19 : Nat → Int64) : Option o_X0_workOut_q131 :=
if x1 ≤ x18 then (
some (x1, a19, o14, a5, a6, n7, n8, n9, n10, n11, n12)) else (
gd (okx x18 13) <|
gd (okr n11 n12 0 0 4 20000) <|
bd (f_X0_buildOrNot_q131 (wd_o S [(13105, x1)] [] [] [(132, a19), (134, o14), (135, a5), (136, a6)] [(132, n7), (134, n8), (135, n9), (136, n10)]) x2 ((1 : Int32) <<< (x18 &&& 31)) ((S.2.2.1 19) x18.toNatClampNeg)) fun o22 =>
r20 (x18 + (1 : Int32)) o22)
def f_X0_workOut_q131 (S : wd_W) : Option o_X0_workOut_q131 :=
lz ((S.1 1601)) fun x1 =>
lz ((1 : Int32) <<< (x1 &&& 31)) fun x2 =>
lk (fun a3 a4 a5 a6 n7 n8 n9 n10 n11 n12 =>
gd (okr n11 n12 0 0 4 20000) <|
bd (f_X0_fillBare_q131 (wd_o S [(13105, x1)] [] [] [(132, a3), (134, a4), (135, a5), (136, a6)] [(132, n7), (134, n8), (135, n9), (136, n10)]) x2) fun o14 =>
gd (okc x2 n8 n7) <|
lz (va_cpy o14 a3 (0 : Int32).toNatClampNeg (0 : Int32).toNatClampNeg x2.toNatClampNeg) fun a17 =>
it2 (f_X0_workOut_q131_L76 S x1 x2 a5 a6 n7 n8 n9 n10 n11 n12 o14) fuel (0 : Int32) a17) fun k55_13 =>
if x2 ≤ (Int32.ofNat (S.2.2.2.2 134)) then (
k55_13 (S.2.2.2.1 132) (S.2.2.2.1 134) (S.2.2.2.1 135) (S.2.2.2.1 136) (S.2.2.2.2 132) (S.2.2.2.2 134) (S.2.2.2.2 135) (S.2.2.2.2 136) 0 0) else (
gd (okg x2 0 0 4 20000) <|
gd (okg x2 (0 + 1) (0 + (x2).toNatClampNeg) 4 20000) <|
gd (okg x2 (0 + 1 + 1) (0 + (x2).toNatClampNeg + (x2).toNatClampNeg) 4 20000) <|
gd (okg x2 (0 + 1 + 1 + 1) (0 + (x2).toNatClampNeg + (x2).toNatClampNeg + (x2).toNatClampNeg) 4 20000) <|
k55_13 (fun _ => 0) (fun _ => 0) (fun _ => 0) (fun _ => 0) ((x2).toNatClampNeg) ((x2).toNatClampNeg) ((x2).toNatClampNeg) ((x2).toNatClampNeg) (0 + 1 + 1 + 1 + 1) (0 + (x2).toNatClampNeg + (x2).toNatClampNeg + (x2).toNatClampNeg + (x2).toNatClampNeg))
set_option maxRecDepth 100000 in
set_option maxHeartbeats 4000000 in
theorem c_X0_workOut_q131 (l : Launch) (D : va_G) (q g : Nat → Nat) (cy : Nat → ClassId) (z : (Nat → Nat) × (Nat → Nat) × Nat) (S : wd_W) (o : o_X0_workOut_q131) (hf : f_X0_workOut_q131 S = some o) : MX layX l yX0_workOut cX0_workOut 3 none ({ frames := 3, cells := 4, slots := 20000, locals := 67 } : Room) D q g cy z [.ref (q 131)] S true (none) (wd_o S [(13105, o.1)] [] [] [(132, o.2.1), (134, o.2.2.1), (135, o.2.2.2.1), (136, o.2.2.2.2.1)] [(132, o.2.2.2.2.2.1), (134, o.2.2.2.2.2.2.1), (135, o.2.2.2.2.2.2.2.1), (136, o.2.2.2.2.2.2.2.2.1)]) o.2.2.2.2.2.2.2.2.2.1 o.2.2.2.2.2.2.2.2.2.2 := by
  refine mx_of (own := RX0) (lc := [(0, .ref (q 131))]) (by decide +kernel) rfl layX_ok (Nat.le_of_ble_eq_true rfl) rfl ?_
  intro X hXl hXq hXz hC hQ
  subst hXl; subst hXq; subst hXz
  unfold f_X0_workOut_q131 at hf
  refine go_keys (L1 := [(13105, (S.1 13105))]) (L2 := []) (L3 := []) (L4 := [(132, (S.2.2.2.1 132)), (134, (S.2.2.2.1 134)), (135, (S.2.2.2.1 135)), (136, (S.2.2.2.1 136))]) (L5 := [(132, (S.2.2.2.2 132)), (134, (S.2.2.2.2 134)), (135, (S.2.2.2.2 135)), (136, (S.2.2.2.2 136))]) [13105] [] [] [132, 134, 135, 136] [132, 134, 135, 136] rfl rfl rfl rfl rfl ?_
  refine go_aload_n (pc' := 1) hC dX0_workOut_0 rfl rfl ?_
  refine go_aload_n (pc' := 2) hC dX0_workOut_1 rfl rfl ?_
  refine go_getq (pc' := 5) hC 131 2 layX_131 rfl rfl inlX0 (Nat.le_of_ble_eq_true rfl) mw_144 rfl dX0_workOut_2 rfl ?_
  refine go_geti (v := (S.1 1601)) (pc' := 8) hC 16 1 layX_16 rfl rfl inlX2 (Nat.le_of_ble_eq_true rfl) mw_765 rfl dX0_workOut_5 rfl rfl ?_
  refine go_namei (fun x1 hx => ?_)
  have hf := lz_r hx hf
  clear hx
  refine go_puti (L1' := [(13105, x1)]) (pc' := 11) hC 131 5 layX_131 rfl rfl inlX0 tyX0_ok nmX0 (Nat.le_of_ble_eq_true rfl) mw_766 rfl rfl rfl rfl dX0_workOut_8 rfl rfl rfl ?_
  refine go_iconst (pc' := 12) hC dX0_workOut_11 ki_1 rfl ?_
  refine go_aload_n (pc' := 13) hC dX0_workOut_12 rfl rfl ?_
  refine go_geti (v := x1) (pc' := 16) hC 131 5 layX_131 rfl rfl inlX0 (Nat.le_of_ble_eq_true rfl) mw_766 rfl dX0_workOut_13 rfl rfl ?_
  refine go_ishl (pc' := 17) hC dX0_workOut_16 rfl ?_
  refine go_namei (fun x2 hx => ?_)
  have hf := lz_r hx hf
  clear hx
  refine go_istore_n (lc' := [(0, .ref (x_q X 131)), (1, .int x2)]) (pc' := 18) hC dX0_workOut_17 (Nat.le_of_ble_eq_true rfl) rfl rfl ?_
  refine go_aload_n (pc' := 19) hC dX0_workOut_18 rfl rfl ?_
  refine go_getg (pc' := 22) hC 131 6 layX_131 rfl rfl inlX0 (Nat.le_of_ble_eq_true rfl) mw_141 rfl dX0_workOut_19 rfl ?_
  refine go_aleng (v := Int32.ofNat (S.2.2.2.2 134)) (pc' := 23) hC 134 layX_134 (Nat.le_of_ble_eq_true rfl) rfl rfl dX0_workOut_22 rfl ?_
  refine go_iload_n (pc' := 24) hC dX0_workOut_23 rfl rfl ?_
  obtain ⟨k55_13, hk55_13, hf⟩ := lk_e10 hf
  have jk55_13 : ∀ (a3 : Nat → Int64) (a4 : Nat → Int64) (a5 : Nat → Int64) (a6 : Nat → Int64) (n7 : Nat) (n8 : Nat) (n9 : Nat) (n10 : Nat) (n11 : Nat) (n12 : Nat) (g : Nat → Nat), k55_13 a3 a4 a5 a6 n7 n8 n9 n10 n11 n12 = some o → Go X layX S 55 [(0, .ref (x_q X 131)), (1, .int x2)] [] g [(13105, x1)] [] [] [(132, a3), (134, a4), (135, a5), (136, a6)] [(132, n7), (134, n8), (135, n9), (136, n10)] n11 n12 := by
    intro a3 a4 a5 a6 n7 n8 n9 n10 n11 n12 g hf
    have hf := hk55_13 a3 a4 a5 a6 n7 n8 n9 n10 n11 n12 hf
    clear hk55_13
    refine go_aload_n (pc' := 56) hC dX0_workOut_55 rfl rfl ?_
    refine go_iload_n (pc' := 57) hC dX0_workOut_56 rfl rfl ?_
    obtain ⟨h15, hf⟩ := gd_e hf
    obtain ⟨o14, ho14, hf⟩ := bd_e hf
    refine go_callV1 (pc' := 60) (As := [.int x2]) (st := []) (st' := []) (L1' := [(13105, x1)]) (L2' := []) (L3' := []) (L4' := [(132, a3), (134, o14), (135, a5), (136, a6)]) (L5' := [(132, n7), (134, n8), (135, n9), (136, n10)]) (cells' := n11) (slots' := n12) (rc := { frames := 2, cells := 0, slots := 0, locals := 42 }) (b := 131) hC dX0_workOut_57 ⟨mw_769, mw_772, mw_40, yd_yX0_fillBare, yp_yX0_fillBare, Nat.le_of_ble_eq_true rfl, Nat.le_of_ble_eq_true rfl, (okr_c h15), (okr_s h15)⟩ mw_770 mw_771 layX_131 rfl rfl rfl (Nat.le_of_ble_eq_true rfl) (c_X0_fillBare_q131 (x_l X) (x_D X) (x_q X) g (x_cy X) (x_z X) _ x2 o14 ho14) rfl rfl rfl rfl rfl rfl rfl rfl rfl rfl rfl rfl rfl rfl ?_
    refine go_aload_n (pc' := 61) hC dX0_workOut_60 rfl rfl ?_
    refine go_getg (pc' := 64) hC 131 6 layX_131 rfl rfl inlX0 (Nat.le_of_ble_eq_true rfl) mw_141 rfl dX0_workOut_61 rfl ?_
    refine go_iconst (pc' := 65) hC dX0_workOut_64 ki_0 rfl ?_
    refine go_aload_n (pc' := 66) hC dX0_workOut_65 rfl rfl ?_
    refine go_getg (pc' := 69) hC 131 0 layX_131 rfl rfl inlX0 (Nat.le_of_ble_eq_true rfl) mw_139 rfl dX0_workOut_66 rfl ?_
    refine go_iconst (pc' := 70) hC dX0_workOut_69 ki_0 rfl ?_
    refine go_iload_n (pc' := 71) hC dX0_workOut_70 rfl rfl ?_
    obtain ⟨h16, hf⟩ := gd_e hf
    refine go_copyLg (f1 := o14) (f2 := a3) (N1 := n8) (N2 := n7) (pc' := 74) hC 134 132 layX_134 layX_132 rfl rfl rfl rfl (by decide) (by decide) (okc_e h16).1 (okc_e h16).2.1 (okc_e h16).2.2 dX0_workOut_71 mw_767 (Nat.le_of_ble_eq_true rfl) (by decide) rfl rfl (fun a17 ha L4' hL => ?_)
    have hf := lz_r ha hf
    clear ha
    obtain rfl : L4' = [(132, a17), (134, o14), (135, a5), (136, a6)] := hL.symm
    refine go_iconst (pc' := 75) hC dX0_workOut_74 ki_0 rfl ?_
    refine go_istore_n (lc' := [(0, .ref (x_q X 131)), (1, .int x2), (2, .int (0 : Int32))]) (pc' := 76) hC dX0_workOut_75 (Nat.le_of_ble_eq_true rfl) rfl rfl ?_
    have l76_25 : ∀ (nn : Nat) (x18 : Int32) (a19 : Nat → Int64) (g : Nat → Nat), it2 (f_X0_workOut_q131_L76 S x1 x2 a5 a6 n7 n8 n9 n10 n11 n12 o14) nn x18 a19 = some o → Go X layX S 76 [(0, .ref (x_q X 131)), (1, .int x2), (2, .int x18)] [] g [(13105, x1)] [] [] [(132, a19), (134, o14), (135, a5), (136, a6)] [(132, n7), (134, n8), (135, n9), (136, n10)] n11 n12 := by
      intro nn
      induction nn with
      | zero =>
        intro x18 a19 g hf
        exact none_no hf
      | succ nn ih =>
        intro x18 a19 g hf
        have hf : f_X0_workOut_q131_L76 S x1 x2 a5 a6 n7 n8 n9 n10 n11 n12 o14 (it2 (f_X0_workOut_q131_L76 S x1 x2 a5 a6 n7 n8 n9 n10 n11 n12 o14) nn) x18 a19 = some o := hf
        generalize it2 (f_X0_workOut_q131_L76 S x1 x2 a5 a6 n7 n8 n9 n10 n11 n12 o14) nn = r20 at ih hf
        unfold f_X0_workOut_q131_L76 at hf
        refine go_iload_n (pc' := 77) hC dX0_workOut_76 rfl rfl ?_
        refine go_aload_n (pc' := 78) hC dX0_workOut_77 rfl rfl ?_
        refine go_geti (v := x1) (pc' := 81) hC 131 5 layX_131 rfl rfl inlX0 (Nat.le_of_ble_eq_true rfl) mw_766 rfl dX0_workOut_78 rfl rfl ?_
        refine go_icmp_ge (tgt := 107) (pc' := 84) hC dX0_workOut_81 (by decide) rfl (fun h24 => ?_) (fun h24 => ?_)
        · have hf := ite_t h24 hf
          obtain rfl := Option.some.inj hf
          exact go_vret hC hQ dX0_workOut_107 rfl rfl rfl (fun h => nomatch h) rfl rfl
        · have hf := ite_f h24 hf
          refine go_aload_n (pc' := 85) hC dX0_workOut_84 rfl rfl ?_
          refine go_iload_n (pc' := 86) hC dX0_workOut_85 rfl rfl ?_
          refine go_iconst (pc' := 87) hC dX0_workOut_86 ki_1 rfl ?_
          refine go_iload_n (pc' := 88) hC dX0_workOut_87 rfl rfl ?_
          refine go_ishl (pc' := 89) hC dX0_workOut_88 rfl ?_
          refine go_aload_n (pc' := 90) hC dX0_workOut_89 rfl rfl ?_
          refine go_getq (pc' := 93) hC 131 2 layX_131 rfl rfl inlX0 (Nat.le_of_ble_eq_true rfl) mw_144 rfl dX0_workOut_90 rfl ?_
          refine go_getq (pc' := 96) hC 16 4 layX_16 rfl rfl inlX2 (Nat.le_of_ble_eq_true rfl) mw_768 rfl dX0_workOut_93 rfl ?_
          refine go_iload_n (pc' := 97) hC dX0_workOut_96 rfl rfl ?_
          obtain ⟨h21, hf⟩ := gd_e hf
          refine go_iald (f := (S.2.2.1 19)) (pc' := 98) hC 19 layX_19 rfl rfl dX0_workOut_97 (okx_in h21) rfl ?_
          obtain ⟨h23, hf⟩ := gd_e hf
          obtain ⟨o22, ho22, hf⟩ := bd_e hf
          refine go_callV1 (pc' := 101) (As := [.int x2, .int ((1 : Int32) <<< (x18 &&& 31)), .int ((S.2.2.1 19) x18.toNatClampNeg)]) (st := []) (st' := []) (L1' := [(13105, x1)]) (L2' := []) (L3' := []) (L4' := [(132, o22), (134, o14), (135, a5), (136, a6)]) (L5' := [(132, n7), (134, n8), (135, n9), (136, n10)]) (cells' := n11) (slots' := n12) (rc := { frames := 0, cells := 0, slots := 0, locals := 0 }) (b := 131) hC dX0_workOut_98 ⟨mw_781, mw_784, mw_40, yd_yX0_buildOrNot, yp_yX0_buildOrNot, Nat.le_of_ble_eq_true rfl, Nat.le_of_ble_eq_true rfl, (okr_c h23), (okr_s h23)⟩ mw_782 mw_783 layX_131 rfl rfl rfl (Nat.le_of_ble_eq_true rfl) (c_X0_buildOrNot_q131 (x_l X) (x_D X) (x_q X) g (x_cy X) (x_z X) _ x2 ((1 : Int32) <<< (x18 &&& 31)) ((S.2.2.1 19) x18.toNatClampNeg) o22 ho22) rfl rfl rfl rfl rfl rfl rfl rfl rfl rfl rfl rfl rfl rfl ?_
          refine go_iinc (lc' := [(0, .ref (x_q X 131)), (1, .int x2), (2, .int (x18 + (1 : Int32)))]) (pc' := 104) hC dX0_workOut_101 rfl ki_1 (Nat.le_of_ble_eq_true rfl) rfl rfl ?_
          refine go_goto (tgt := 76) hC dX0_workOut_104 (by decide) ?_
          exact ih (x18 + (1 : Int32)) o22 g hf
    exact l76_25 fuel (0 : Int32) a17 g hf
  clear hk55_13
  refine go_icmp_ge (tgt := 55) (pc' := 27) hC dX0_workOut_24 (by decide) rfl (fun h30 => ?_) (fun h30 => ?_)
  · have hf := ite_t h30 hf
    exact jk55_13 (S.2.2.2.1 132) (S.2.2.2.1 134) (S.2.2.2.1 135) (S.2.2.2.1 136) (S.2.2.2.2 132) (S.2.2.2.2 134) (S.2.2.2.2 135) (S.2.2.2.2 136) 0 0 g hf
  · have hf := ite_f h30 hf
    refine go_aload_n (pc' := 28) hC dX0_workOut_27 rfl rfl ?_
    refine go_iload_n (pc' := 29) hC dX0_workOut_28 rfl rfl ?_
    obtain ⟨h26, hf⟩ := gd_e hf
    refine go_growB (L4' := [(132, (fun _ => 0)), (134, (S.2.2.2.1 134)), (135, (S.2.2.2.1 135)), (136, (S.2.2.2.1 136))]) (L5' := [(132, (x2).toNatClampNeg), (134, (S.2.2.2.2 134)), (135, (S.2.2.2.2 135)), (136, (S.2.2.2.2 136))]) (cells' := 0 + 1) (slots' := 0 + (x2).toNatClampNeg) (pc' := 34) (atype := .long) hC 131 0 132 layX_131 rfl layX_132 (by decide +kernel) rfl inlX0 tyX0_ok nmX0 (Nat.le_of_ble_eq_true rfl) mw_139 rfl rfl (fun _ => rfl) (fun _ => rfl) mw_91 rfl dX0_workOut_29 dX0_workOut_31 rfl h26 rfl rfl rfl rfl rfl rfl rfl rfl (fun g => ?_)
    refine go_aload_n (pc' := 35) hC dX0_workOut_34 rfl rfl ?_
    refine go_iload_n (pc' := 36) hC dX0_workOut_35 rfl rfl ?_
    obtain ⟨h27, hf⟩ := gd_e hf
    refine go_growB (L4' := [(132, (fun _ => 0)), (134, (fun _ => 0)), (135, (S.2.2.2.1 135)), (136, (S.2.2.2.1 136))]) (L5' := [(132, (x2).toNatClampNeg), (134, (x2).toNatClampNeg), (135, (S.2.2.2.2 135)), (136, (S.2.2.2.2 136))]) (cells' := 0 + 1 + 1) (slots' := 0 + (x2).toNatClampNeg + (x2).toNatClampNeg) (pc' := 41) (atype := .long) hC 131 6 134 layX_131 rfl layX_134 (by decide +kernel) rfl inlX0 tyX0_ok nmX0 (Nat.le_of_ble_eq_true rfl) mw_141 rfl rfl (fun _ => rfl) (fun _ => rfl) mw_91 rfl dX0_workOut_36 dX0_workOut_38 rfl h27 rfl rfl rfl rfl rfl rfl rfl rfl (fun g => ?_)
    refine go_aload_n (pc' := 42) hC dX0_workOut_41 rfl rfl ?_
    refine go_iload_n (pc' := 43) hC dX0_workOut_42 rfl rfl ?_
    obtain ⟨h28, hf⟩ := gd_e hf
    refine go_growB (L4' := [(132, (fun _ => 0)), (134, (fun _ => 0)), (135, (fun _ => 0)), (136, (S.2.2.2.1 136))]) (L5' := [(132, (x2).toNatClampNeg), (134, (x2).toNatClampNeg), (135, (x2).toNatClampNeg), (136, (S.2.2.2.2 136))]) (cells' := 0 + 1 + 1 + 1) (slots' := 0 + (x2).toNatClampNeg + (x2).toNatClampNeg + (x2).toNatClampNeg) (pc' := 48) (atype := .long) hC 131 7 135 layX_131 rfl layX_135 (by decide +kernel) rfl inlX0 tyX0_ok nmX0 (Nat.le_of_ble_eq_true rfl) mw_142 rfl rfl (fun _ => rfl) (fun _ => rfl) mw_91 rfl dX0_workOut_43 dX0_workOut_45 rfl h28 rfl rfl rfl rfl rfl rfl rfl rfl (fun g => ?_)
    refine go_aload_n (pc' := 49) hC dX0_workOut_48 rfl rfl ?_
    refine go_iload_n (pc' := 50) hC dX0_workOut_49 rfl rfl ?_
    obtain ⟨h29, hf⟩ := gd_e hf
    refine go_growB (L4' := [(132, (fun _ => 0)), (134, (fun _ => 0)), (135, (fun _ => 0)), (136, (fun _ => 0))]) (L5' := [(132, (x2).toNatClampNeg), (134, (x2).toNatClampNeg), (135, (x2).toNatClampNeg), (136, (x2).toNatClampNeg)]) (cells' := 0 + 1 + 1 + 1 + 1) (slots' := 0 + (x2).toNatClampNeg + (x2).toNatClampNeg + (x2).toNatClampNeg + (x2).toNatClampNeg) (pc' := 55) (atype := .long) hC 131 8 136 layX_131 rfl layX_136 (by decide +kernel) rfl inlX0 tyX0_ok nmX0 (Nat.le_of_ble_eq_true rfl) mw_143 rfl rfl (fun _ => rfl) (fun _ => rfl) mw_91 rfl dX0_workOut_50 dX0_workOut_52 rfl h29 rfl rfl rfl rfl rfl rfl rfl rfl (fun g => ?_)
    exact jk55_13 (fun _ => 0) (fun _ => 0) (fun _ => 0) (fun _ => 0) ((x2).toNatClampNeg) ((x2).toNatClampNeg) ((x2).toNatClampNeg) ((x2).toNatClampNeg) (0 + 1 + 1 + 1 + 1) (0 + (x2).toNatClampNeg + (x2).toNatClampNeg + (x2).toNatClampNeg + (x2).toNatClampNeg) g hf
theorem dX6_linesMended_0 : decode cX6_linesMended 0 = .ok (.iconst 0, 1) := by decide +kernel
theorem dX6_linesMended_1 : decode cX6_linesMended 1 = .ok (.istore_n 1, 1) := by decide +kernel
theorem dX6_linesMended_2 : decode cX6_linesMended 2 = .ok (.iconst 0, 1) := by decide +kernel
theorem dX6_linesMended_3 : decode cX6_linesMended 3 = .ok (.istore_n 2, 1) := by decide +kernel
theorem dX6_linesMended_4 : decode cX6_linesMended 4 = .ok (.iload_n 2, 1) := by decide +kernel
theorem dX6_linesMended_5 : decode cX6_linesMended 5 = .ok (.aload_n 0, 1) := by decide +kernel
theorem dX6_linesMended_6 : decode cX6_linesMended 6 = .ok (.getfield 30, 3) := by decide +kernel
theorem dX6_linesMended_9 : decode cX6_linesMended 9 = .ok (.if_icmp .ge 20, 3) := by decide +kernel
theorem dX6_linesMended_12 : decode cX6_linesMended 12 = .ok (.iload_n 1, 1) := by decide +kernel
theorem dX6_linesMended_13 : decode cX6_linesMended 13 = .ok (.iconst 1, 1) := by decide +kernel
theorem dX6_linesMended_14 : decode cX6_linesMended 14 = .ok (.aload_n 0, 1) := by decide +kernel
theorem dX6_linesMended_15 : decode cX6_linesMended 15 = .ok (.getfield 9, 3) := by decide +kernel
theorem dX6_linesMended_18 : decode cX6_linesMended 18 = .ok (.iload_n 2, 1) := by decide +kernel
theorem dX6_linesMended_19 : decode cX6_linesMended 19 = .ok (.iaload, 1) := by decide +kernel
theorem dX6_linesMended_20 : decode cX6_linesMended 20 = .ok (.ishl, 1) := by decide +kernel
theorem dX6_linesMended_21 : decode cX6_linesMended 21 = .ok (.ior, 1) := by decide +kernel
theorem dX6_linesMended_22 : decode cX6_linesMended 22 = .ok (.istore_n 1, 1) := by decide +kernel
theorem dX6_linesMended_23 : decode cX6_linesMended 23 = .ok (.iinc 2 1, 3) := by decide +kernel
theorem dX6_linesMended_26 : decode cX6_linesMended 26 = .ok (.goto (-22), 3) := by decide +kernel
theorem dX6_linesMended_29 : decode cX6_linesMended 29 = .ok (.iload_n 1, 1) := by decide +kernel
theorem dX6_linesMended_30 : decode cX6_linesMended 30 = .ok (.ireturn, 1) := by decide +kernel
abbrev o_X6_linesMended_q27 : Type := Int32
def f_X6_linesMended_q27_L4 (S : wd_W) (r3 : (Int32) → (Int32) → (Option o_X6_linesMended_q27)) (x1 : Int32) (x2 : Int32) : Option o_X6_linesMended_q27 :=
if (S.1 2700) ≤ x2 then (
some x1) else (
gd (okx x2 9) <|
lz (x1 ||| ((1 : Int32) <<< (((S.2.2.1 28) x2.toNatClampNeg) &&& 31))) fun x5 =>
r3 x5 (x2 + (1 : Int32)))
def f_X6_linesMended_q27 (S : wd_W) : Option o_X6_linesMended_q27 :=
it2 (f_X6_linesMended_q27_L4 S) fuel (0 : Int32) (0 : Int32)
set_option maxRecDepth 100000 in
set_option maxHeartbeats 4000000 in
theorem c_X6_linesMended_q27 (l : Launch) (D : va_G) (q g : Nat → Nat) (cy : Nat → ClassId) (z : (Nat → Nat) × (Nat → Nat) × Nat) (S : wd_W) (o : o_X6_linesMended_q27) (hf : f_X6_linesMended_q27 S = some o) : MX layX l yX6_linesMended cX6_linesMended 3 (some .int) ({ frames := 0, cells := 0, slots := 0, locals := 0 } : Room) D q g cy z [.ref (q 27)] S false (some (.int o)) (wd_o S [] [] [] [] []) 0 0 := by
  refine mx_of (own := RX6) (lc := [(0, .ref (q 27))]) (by decide +kernel) rfl layX_ok (Nat.le_of_ble_eq_true rfl) rfl ?_
  intro X hXl hXq hXz hC hQ
  subst hXl; subst hXq; subst hXz
  unfold f_X6_linesMended_q27 at hf
  refine go_iconst (pc' := 1) hC dX6_linesMended_0 ki_0 rfl ?_
  refine go_istore_n (lc' := [(0, .ref (x_q X 27)), (1, .int (0 : Int32))]) (pc' := 2) hC dX6_linesMended_1 (Nat.le_of_ble_eq_true rfl) rfl rfl ?_
  refine go_iconst (pc' := 3) hC dX6_linesMended_2 ki_0 rfl ?_
  refine go_istore_n (lc' := [(0, .ref (x_q X 27)), (1, .int (0 : Int32)), (2, .int (0 : Int32))]) (pc' := 4) hC dX6_linesMended_3 (Nat.le_of_ble_eq_true rfl) rfl rfl ?_
  have l4_7 : ∀ (nn : Nat) (x1 : Int32) (x2 : Int32), it2 (f_X6_linesMended_q27_L4 S) nn x1 x2 = some o → Go X layX S 4 [(0, .ref (x_q X 27)), (1, .int x1), (2, .int x2)] [] g [] [] [] [] [] 0 0 := by
    intro nn
    induction nn with
    | zero =>
      intro x1 x2 hf
      exact none_no hf
    | succ nn ih =>
      intro x1 x2 hf
      have hf : f_X6_linesMended_q27_L4 S (it2 (f_X6_linesMended_q27_L4 S) nn) x1 x2 = some o := hf
      generalize it2 (f_X6_linesMended_q27_L4 S) nn = r3 at ih hf
      unfold f_X6_linesMended_q27_L4 at hf
      refine go_iload_n (pc' := 5) hC dX6_linesMended_4 rfl rfl ?_
      refine go_aload_n (pc' := 6) hC dX6_linesMended_5 rfl rfl ?_
      refine go_geti (v := (S.1 2700)) (pc' := 9) hC 27 0 layX_27 rfl rfl inlX6 (Nat.le_of_ble_eq_true rfl) mw_477 rfl dX6_linesMended_6 rfl rfl ?_
      refine go_icmp_ge (tgt := 29) (pc' := 12) hC dX6_linesMended_9 (by decide) rfl (fun h6 => ?_) (fun h6 => ?_)
      · have hf := ite_t h6 hf
        refine go_iload_n (pc' := 30) hC dX6_linesMended_29 rfl rfl ?_
        obtain rfl := Option.some.inj hf
        exact go_iret hC hQ dX6_linesMended_30 rfl rfl rfl rfl (fun _ => rfl) rfl rfl
      · have hf := ite_f h6 hf
        refine go_iload_n (pc' := 13) hC dX6_linesMended_12 rfl rfl ?_
        refine go_iconst (pc' := 14) hC dX6_linesMended_13 ki_1 rfl ?_
        refine go_aload_n (pc' := 15) hC dX6_linesMended_14 rfl rfl ?_
        refine go_getq (pc' := 18) hC 27 1 layX_27 rfl rfl inlX6 (Nat.le_of_ble_eq_true rfl) mw_81 rfl dX6_linesMended_15 rfl ?_
        refine go_iload_n (pc' := 19) hC dX6_linesMended_18 rfl rfl ?_
        obtain ⟨h4, hf⟩ := gd_e hf
        refine go_iald (f := (S.2.2.1 28)) (pc' := 20) hC 28 layX_28 rfl rfl dX6_linesMended_19 (okx_in h4) rfl ?_
        refine go_ishl (pc' := 21) hC dX6_linesMended_20 rfl ?_
        refine go_ior (pc' := 22) hC dX6_linesMended_21 rfl ?_
        refine go_namei (fun x5 hx => ?_)
        have hf := lz_r hx hf
        clear hx
        refine go_istore_n (lc' := [(0, .ref (x_q X 27)), (1, .int x5), (2, .int x2)]) (pc' := 23) hC dX6_linesMended_22 (Nat.le_of_ble_eq_true rfl) rfl rfl ?_
        refine go_iinc (lc' := [(0, .ref (x_q X 27)), (1, .int x5), (2, .int (x2 + (1 : Int32)))]) (pc' := 26) hC dX6_linesMended_23 rfl ki_1 (Nat.le_of_ble_eq_true rfl) rfl rfl ?_
        refine go_goto (tgt := 4) hC dX6_linesMended_26 (by decide) ?_
        exact ih x5 (x2 + (1 : Int32)) hf
  exact l4_7 fuel (0 : Int32) (0 : Int32) hf
theorem dX0_fold_0 : decode cX0_fold 0 = .ok (.iload 4, 2) := by decide +kernel
theorem dX0_fold_2 : decode cX0_fold 2 = .ok (.istore 5, 2) := by decide +kernel
theorem dX0_fold_4 : decode cX0_fold 4 = .ok (.iconst 0, 1) := by decide +kernel
theorem dX0_fold_5 : decode cX0_fold 5 = .ok (.istore 6, 2) := by decide +kernel
theorem dX0_fold_7 : decode cX0_fold 7 = .ok (.iload 6, 2) := by decide +kernel
theorem dX0_fold_9 : decode cX0_fold 9 = .ok (.iload 4, 2) := by decide +kernel
theorem dX0_fold_11 : decode cX0_fold 11 = .ok (.if_icmp .gt 52, 3) := by decide +kernel
theorem dX0_fold_14 : decode cX0_fold 14 = .ok (.aload_n 1, 1) := by decide +kernel
theorem dX0_fold_15 : decode cX0_fold 15 = .ok (.iload 5, 2) := by decide +kernel
theorem dX0_fold_17 : decode cX0_fold 17 = .ok (.iload_n 3, 1) := by decide +kernel
theorem dX0_fold_18 : decode cX0_fold 18 = .ok (.i2l, 1) := by decide +kernel
theorem dX0_fold_19 : decode cX0_fold 19 = .ok (.aload_n 0, 1) := by decide +kernel
theorem dX0_fold_20 : decode cX0_fold 20 = .ok (.iload 5, 2) := by decide +kernel
theorem dX0_fold_22 : decode cX0_fold 22 = .ok (.iconst 1, 1) := by decide +kernel
theorem dX0_fold_23 : decode cX0_fold 23 = .ok (.iload_n 2, 1) := by decide +kernel
theorem dX0_fold_24 : decode cX0_fold 24 = .ok (.ishl, 1) := by decide +kernel
theorem dX0_fold_25 : decode cX0_fold 25 = .ok (.ior, 1) := by decide +kernel
theorem dX0_fold_26 : decode cX0_fold 26 = .ok (.laload, 1) := by decide +kernel
theorem dX0_fold_27 : decode cX0_fold 27 = .ok (.lmul, 1) := by decide +kernel
theorem dX0_fold_28 : decode cX0_fold 28 = .ok (.bipush 16, 2) := by decide +kernel
theorem dX0_fold_30 : decode cX0_fold 30 = .ok (.iload_n 3, 1) := by decide +kernel
theorem dX0_fold_31 : decode cX0_fold 31 = .ok (.isub, 1) := by decide +kernel
theorem dX0_fold_32 : decode cX0_fold 32 = .ok (.i2l, 1) := by decide +kernel
theorem dX0_fold_33 : decode cX0_fold 33 = .ok (.aload_n 0, 1) := by decide +kernel
theorem dX0_fold_34 : decode cX0_fold 34 = .ok (.iload 5, 2) := by decide +kernel
theorem dX0_fold_36 : decode cX0_fold 36 = .ok (.laload, 1) := by decide +kernel
theorem dX0_fold_37 : decode cX0_fold 37 = .ok (.lmul, 1) := by decide +kernel
theorem dX0_fold_38 : decode cX0_fold 38 = .ok (.ladd, 1) := by decide +kernel
theorem dX0_fold_39 : decode cX0_fold 39 = .ok (.lastore, 1) := by decide +kernel
theorem dX0_fold_40 : decode cX0_fold 40 = .ok (.iload 5, 2) := by decide +kernel
theorem dX0_fold_42 : decode cX0_fold 42 = .ok (.ifCond .ne 6, 3) := by decide +kernel
theorem dX0_fold_45 : decode cX0_fold 45 = .ok (.goto 18, 3) := by decide +kernel
theorem dX0_fold_48 : decode cX0_fold 48 = .ok (.iload 5, 2) := by decide +kernel
theorem dX0_fold_50 : decode cX0_fold 50 = .ok (.iconst 1, 1) := by decide +kernel
theorem dX0_fold_51 : decode cX0_fold 51 = .ok (.isub, 1) := by decide +kernel
theorem dX0_fold_52 : decode cX0_fold 52 = .ok (.iload 4, 2) := by decide +kernel
theorem dX0_fold_54 : decode cX0_fold 54 = .ok (.iand, 1) := by decide +kernel
theorem dX0_fold_55 : decode cX0_fold 55 = .ok (.istore 5, 2) := by decide +kernel
theorem dX0_fold_57 : decode cX0_fold 57 = .ok (.iinc 6 1, 3) := by decide +kernel
theorem dX0_fold_60 : decode cX0_fold 60 = .ok (.goto (-53), 3) := by decide +kernel
theorem dX0_fold_63 : decode cX0_fold 63 = .ok (.return_, 1) := by decide +kernel
abbrev o_X0_fold_g135_g135 : Type := (Nat → Int64)
def f_X0_fold_g135_g135_L7 (S : wd_W) (p1 : Int32) (p2 : Int32) (p3 : Int32) (r4 : (Int32) → (Int32) → (Nat → Int64) → (Option o_X0_fold_g135_g135)) (x1 : Int32) (x2 : Int32) (a3 : Nat → Int64) : Option o_X0_fold_g135_g135 :=
if p3 < x2 then (
some a3) else (
gd (okx (x1 ||| ((1 : Int32) <<< (p1 &&& 31))) (S.2.2.2.2 135)) <|
gd (okx x1 (S.2.2.2.2 135)) <|
lz ((p2.toInt64 * (a3 (x1 ||| ((1 : Int32) <<< (p1 &&& 31))).toNatClampNeg)) + ((((16 : Int32) - p2).toInt64) * (a3 x1.toNatClampNeg))) fun x7 =>
gd (okx x1 (S.2.2.2.2 135)) <|
lz (vp_updL a3 x1.toNatClampNeg x7) fun a9 =>
if x1 = 0 then (
some a9) else (
lz ((x1 - (1 : Int32)) &&& p3) fun x10 =>
r4 x10 (x2 + (1 : Int32)) a9))
def f_X0_fold_g135_g135 (S : wd_W) (p1 : Int32) (p2 : Int32) (p3 : Int32) : Option o_X0_fold_g135_g135 :=
it3 (f_X0_fold_g135_g135_L7 S p1 p2 p3) fuel p3 (0 : Int32) (S.2.2.2.1 135)
set_option maxRecDepth 100000 in
set_option maxHeartbeats 4000000 in
theorem c_X0_fold_g135_g135 (l : Launch) (D : va_G) (q g : Nat → Nat) (cy : Nat → ClassId) (z : (Nat → Nat) × (Nat → Nat) × Nat) (S : wd_W) (p1 : Int32) (p2 : Int32) (p3 : Int32) (o : o_X0_fold_g135_g135) (hf : f_X0_fold_g135_g135 S p1 p2 p3 = some o) : MX layX l yX0_fold cX0_fold 7 none ({ frames := 0, cells := 0, slots := 0, locals := 0 } : Room) D q g cy z [.ref (g 135), .ref (g 135), .int p1, .int p2, .int p3] S false (none) (wd_o S [] [] [] [(135, o)] []) 0 0 := by
  refine mx_of (own := RX0) (lc := [(0, .ref (g 135)), (1, .ref (g 135)), (2, .int p1), (3, .int p2), (4, .int p3)]) (by decide +kernel) rfl layX_ok (Nat.le_of_ble_eq_true rfl) rfl ?_
  intro X hXl hXq hXz hC hQ
  subst hXl; subst hXq; subst hXz
  unfold f_X0_fold_g135_g135 at hf
  refine go_keys (L1 := []) (L2 := []) (L3 := []) (L4 := [(135, (S.2.2.2.1 135))]) (L5 := []) [] [] [] [135] [] rfl rfl rfl rfl rfl ?_
  refine go_iload (pc' := 2) hC dX0_fold_0 rfl rfl ?_
  refine go_istore (lc' := [(0, .ref (g 135)), (1, .ref (g 135)), (2, .int p1), (3, .int p2), (4, .int p3), (5, .int p3)]) (pc' := 4) hC dX0_fold_2 (Nat.le_of_ble_eq_true rfl) rfl rfl ?_
  refine go_iconst (pc' := 5) hC dX0_fold_4 ki_0 rfl ?_
  refine go_istore (lc' := [(0, .ref (g 135)), (1, .ref (g 135)), (2, .int p1), (3, .int p2), (4, .int p3), (5, .int p3), (6, .int (0 : Int32))]) (pc' := 7) hC dX0_fold_5 (Nat.le_of_ble_eq_true rfl) rfl rfl ?_
  have l7_13 : ∀ (nn : Nat) (x1 : Int32) (x2 : Int32) (a3 : Nat → Int64), it3 (f_X0_fold_g135_g135_L7 S p1 p2 p3) nn x1 x2 a3 = some o → Go X layX S 7 [(0, .ref (g 135)), (1, .ref (g 135)), (2, .int p1), (3, .int p2), (4, .int p3), (5, .int x1), (6, .int x2)] [] g [] [] [] [(135, a3)] [] 0 0 := by
    intro nn
    induction nn with
    | zero =>
      intro x1 x2 a3 hf
      exact none_no hf
    | succ nn ih =>
      intro x1 x2 a3 hf
      have hf : f_X0_fold_g135_g135_L7 S p1 p2 p3 (it3 (f_X0_fold_g135_g135_L7 S p1 p2 p3) nn) x1 x2 a3 = some o := hf
      generalize it3 (f_X0_fold_g135_g135_L7 S p1 p2 p3) nn = r4 at ih hf
      unfold f_X0_fold_g135_g135_L7 at hf
      refine go_iload (pc' := 9) hC dX0_fold_7 rfl rfl ?_
      refine go_iload (pc' := 11) hC dX0_fold_9 rfl rfl ?_
      refine go_icmp_gt (tgt := 63) (pc' := 14) hC dX0_fold_11 (by decide) rfl (fun h12 => ?_) (fun h12 => ?_)
      · have hf := ite_t h12 hf
        obtain rfl := Option.some.inj hf
        exact go_vret hC hQ dX0_fold_63 rfl rfl rfl (fun _ => rfl) rfl rfl
      · have hf := ite_f h12 hf
        refine go_aload_n (pc' := 15) hC dX0_fold_14 rfl rfl ?_
        refine go_iload (pc' := 17) hC dX0_fold_15 rfl rfl ?_
        refine go_iload_n (pc' := 18) hC dX0_fold_17 rfl rfl ?_
        refine go_i2l (pc' := 19) hC dX0_fold_18 rfl ?_
        refine go_aload_n (pc' := 20) hC dX0_fold_19 rfl rfl ?_
        refine go_iload (pc' := 22) hC dX0_fold_20 rfl rfl ?_
        refine go_iconst (pc' := 23) hC dX0_fold_22 ki_1 rfl ?_
        refine go_iload_n (pc' := 24) hC dX0_fold_23 rfl rfl ?_
        refine go_ishl (pc' := 25) hC dX0_fold_24 rfl ?_
        refine go_ior (pc' := 26) hC dX0_fold_25 rfl ?_
        obtain ⟨h5, hf⟩ := gd_e hf
        refine go_laldg (f := a3) (pc' := 27) hC 135 layX_135 rfl rfl dX0_fold_26 (okx_in h5) rfl ?_
        refine go_lmul (pc' := 28) hC dX0_fold_27 rfl ?_
        refine go_bipush (pc' := 30) hC dX0_fold_28 kb_16 rfl ?_
        refine go_iload_n (pc' := 31) hC dX0_fold_30 rfl rfl ?_
        refine go_isub (pc' := 32) hC dX0_fold_31 rfl ?_
        refine go_i2l (pc' := 33) hC dX0_fold_32 rfl ?_
        refine go_aload_n (pc' := 34) hC dX0_fold_33 rfl rfl ?_
        refine go_iload (pc' := 36) hC dX0_fold_34 rfl rfl ?_
        obtain ⟨h6, hf⟩ := gd_e hf
        refine go_laldg (f := a3) (pc' := 37) hC 135 layX_135 rfl rfl dX0_fold_36 (okx_in h6) rfl ?_
        refine go_lmul (pc' := 38) hC dX0_fold_37 rfl ?_
        refine go_ladd (pc' := 39) hC dX0_fold_38 rfl ?_
        refine go_namel (fun x7 hx => ?_)
        have hf := lz_r hx hf
        clear hx
        obtain ⟨h8, hf⟩ := gd_e hf
        refine go_lastg (f := a3) (pc' := 40) hC 135 layX_135 rfl rfl dX0_fold_39 (okx_in h8) rfl rfl (fun a9 ha L4' hL => ?_)
        have hf := lz_r ha hf
        clear ha
        obtain rfl : L4' = [(135, a9)] := hL.symm
        refine go_iload (pc' := 42) hC dX0_fold_40 rfl rfl ?_
        refine go_if_ne (tgt := 48) (pc' := 45) hC dX0_fold_42 (by decide) rfl (fun h11 => ?_) (fun h11 => ?_)
        · have hf := ite_f h11 hf
          refine go_iload (pc' := 50) hC dX0_fold_48 rfl rfl ?_
          refine go_iconst (pc' := 51) hC dX0_fold_50 ki_1 rfl ?_
          refine go_isub (pc' := 52) hC dX0_fold_51 rfl ?_
          refine go_iload (pc' := 54) hC dX0_fold_52 rfl rfl ?_
          refine go_iand (pc' := 55) hC dX0_fold_54 rfl ?_
          refine go_namei (fun x10 hx => ?_)
          have hf := lz_r hx hf
          clear hx
          refine go_istore (lc' := [(0, .ref (g 135)), (1, .ref (g 135)), (2, .int p1), (3, .int p2), (4, .int p3), (5, .int x10), (6, .int x2)]) (pc' := 57) hC dX0_fold_55 (Nat.le_of_ble_eq_true rfl) rfl rfl ?_
          refine go_iinc (lc' := [(0, .ref (g 135)), (1, .ref (g 135)), (2, .int p1), (3, .int p2), (4, .int p3), (5, .int x10), (6, .int (x2 + (1 : Int32)))]) (pc' := 60) hC dX0_fold_57 rfl ki_1 (Nat.le_of_ble_eq_true rfl) rfl rfl ?_
          refine go_goto (tgt := 7) hC dX0_fold_60 (by decide) ?_
          exact ih x10 (x2 + (1 : Int32)) a9 hf
        · have hf := ite_t h11 hf
          refine go_goto (tgt := 63) hC dX0_fold_45 (by decide) ?_
          obtain rfl := Option.some.inj hf
          exact go_vret hC hQ dX0_fold_63 rfl rfl rfl (fun _ => rfl) rfl rfl
  exact l7_13 fuel p3 (0 : Int32) (S.2.2.2.1 135) hf
theorem dX0_foldUntouched_0 : decode cX0_foldUntouched 0 = .ok (.iconst 1, 1) := by decide +kernel
theorem dX0_foldUntouched_1 : decode cX0_foldUntouched 1 = .ok (.aload_n 0, 1) := by decide +kernel
theorem dX0_foldUntouched_2 : decode cX0_foldUntouched 2 = .ok (.getfield 45, 3) := by decide +kernel
theorem dX0_foldUntouched_5 : decode cX0_foldUntouched 5 = .ok (.ishl, 1) := by decide +kernel
theorem dX0_foldUntouched_6 : decode cX0_foldUntouched 6 = .ok (.iconst 1, 1) := by decide +kernel
theorem dX0_foldUntouched_7 : decode cX0_foldUntouched 7 = .ok (.isub, 1) := by decide +kernel
theorem dX0_foldUntouched_8 : decode cX0_foldUntouched 8 = .ok (.istore_n 2, 1) := by decide +kernel
theorem dX0_foldUntouched_9 : decode cX0_foldUntouched 9 = .ok (.aload_n 0, 1) := by decide +kernel
theorem dX0_foldUntouched_10 : decode cX0_foldUntouched 10 = .ok (.getfield 18, 3) := by decide +kernel
theorem dX0_foldUntouched_13 : decode cX0_foldUntouched 13 = .ok (.iconst 0, 1) := by decide +kernel
theorem dX0_foldUntouched_14 : decode cX0_foldUntouched 14 = .ok (.aload_n 0, 1) := by decide +kernel
theorem dX0_foldUntouched_15 : decode cX0_foldUntouched 15 = .ok (.getfield 21, 3) := by decide +kernel
theorem dX0_foldUntouched_18 : decode cX0_foldUntouched 18 = .ok (.iconst 0, 1) := by decide +kernel
theorem dX0_foldUntouched_19 : decode cX0_foldUntouched 19 = .ok (.iconst 1, 1) := by decide +kernel
theorem dX0_foldUntouched_20 : decode cX0_foldUntouched 20 = .ok (.aload_n 0, 1) := by decide +kernel
theorem dX0_foldUntouched_21 : decode cX0_foldUntouched 21 = .ok (.getfield 45, 3) := by decide +kernel
theorem dX0_foldUntouched_24 : decode cX0_foldUntouched 24 = .ok (.ishl, 1) := by decide +kernel
theorem dX0_foldUntouched_25 : decode cX0_foldUntouched 25 = .ok (.invokestatic 50, 3) := by decide +kernel
theorem dX0_foldUntouched_28 : decode cX0_foldUntouched 28 = .ok (.iconst 0, 1) := by decide +kernel
theorem dX0_foldUntouched_29 : decode cX0_foldUntouched 29 = .ok (.istore_n 3, 1) := by decide +kernel
theorem dX0_foldUntouched_30 : decode cX0_foldUntouched 30 = .ok (.iload_n 3, 1) := by decide +kernel
theorem dX0_foldUntouched_31 : decode cX0_foldUntouched 31 = .ok (.aload_n 0, 1) := by decide +kernel
theorem dX0_foldUntouched_32 : decode cX0_foldUntouched 32 = .ok (.getfield 45, 3) := by decide +kernel
theorem dX0_foldUntouched_35 : decode cX0_foldUntouched 35 = .ok (.if_icmp .ge 45, 3) := by decide +kernel
theorem dX0_foldUntouched_38 : decode cX0_foldUntouched 38 = .ok (.iload_n 1, 1) := by decide +kernel
theorem dX0_foldUntouched_39 : decode cX0_foldUntouched 39 = .ok (.iload_n 3, 1) := by decide +kernel
theorem dX0_foldUntouched_40 : decode cX0_foldUntouched 40 = .ok (.ishr, 1) := by decide +kernel
theorem dX0_foldUntouched_41 : decode cX0_foldUntouched 41 = .ok (.iconst 1, 1) := by decide +kernel
theorem dX0_foldUntouched_42 : decode cX0_foldUntouched 42 = .ok (.iand, 1) := by decide +kernel
theorem dX0_foldUntouched_43 : decode cX0_foldUntouched 43 = .ok (.ifCond .ne 31, 3) := by decide +kernel
theorem dX0_foldUntouched_46 : decode cX0_foldUntouched 46 = .ok (.iload_n 2, 1) := by decide +kernel
theorem dX0_foldUntouched_47 : decode cX0_foldUntouched 47 = .ok (.iconst 1, 1) := by decide +kernel
theorem dX0_foldUntouched_48 : decode cX0_foldUntouched 48 = .ok (.iload_n 3, 1) := by decide +kernel
theorem dX0_foldUntouched_49 : decode cX0_foldUntouched 49 = .ok (.ishl, 1) := by decide +kernel
theorem dX0_foldUntouched_50 : decode cX0_foldUntouched 50 = .ok (.ixor, 1) := by decide +kernel
theorem dX0_foldUntouched_51 : decode cX0_foldUntouched 51 = .ok (.istore_n 2, 1) := by decide +kernel
theorem dX0_foldUntouched_52 : decode cX0_foldUntouched 52 = .ok (.aload_n 0, 1) := by decide +kernel
theorem dX0_foldUntouched_53 : decode cX0_foldUntouched 53 = .ok (.getfield 21, 3) := by decide +kernel
theorem dX0_foldUntouched_56 : decode cX0_foldUntouched 56 = .ok (.aload_n 0, 1) := by decide +kernel
theorem dX0_foldUntouched_57 : decode cX0_foldUntouched 57 = .ok (.getfield 21, 3) := by decide +kernel
theorem dX0_foldUntouched_60 : decode cX0_foldUntouched 60 = .ok (.iload_n 3, 1) := by decide +kernel
theorem dX0_foldUntouched_61 : decode cX0_foldUntouched 61 = .ok (.aload_n 0, 1) := by decide +kernel
theorem dX0_foldUntouched_62 : decode cX0_foldUntouched 62 = .ok (.getfield 27, 3) := by decide +kernel
theorem dX0_foldUntouched_65 : decode cX0_foldUntouched 65 = .ok (.getfield 56, 3) := by decide +kernel
theorem dX0_foldUntouched_68 : decode cX0_foldUntouched 68 = .ok (.iload_n 3, 1) := by decide +kernel
theorem dX0_foldUntouched_69 : decode cX0_foldUntouched 69 = .ok (.iaload, 1) := by decide +kernel
theorem dX0_foldUntouched_70 : decode cX0_foldUntouched 70 = .ok (.iload_n 2, 1) := by decide +kernel
theorem dX0_foldUntouched_71 : decode cX0_foldUntouched 71 = .ok (.invokestatic 119, 3) := by decide +kernel
theorem dX0_foldUntouched_74 : decode cX0_foldUntouched 74 = .ok (.iinc 3 1, 3) := by decide +kernel
theorem dX0_foldUntouched_77 : decode cX0_foldUntouched 77 = .ok (.goto (-47), 3) := by decide +kernel
theorem dX0_foldUntouched_80 : decode cX0_foldUntouched 80 = .ok (.return_, 1) := by decide +kernel
abbrev o_X0_foldUntouched_q131 : Type := (Nat → Int64)
def f_X0_foldUntouched_q131_L30 (S : wd_W) (p1 : Int32) (r7 : (Int32) → (Int32) → (Nat → Int64) → (Option o_X0_foldUntouched_q131)) (x4 : Int32) (x5 : Int32) (a6 : Nat → Int64) : Option o_X0_foldUntouched_q131 :=
if (S.1 13105) ≤ x5 then (
some a6) else (
lk (fun x8 a9 =>
r7 x8 (x5 + (1 : Int32)) a9) fun k74_10 =>
if ((p1 >>> (x5 &&& 31)) &&& (1 : Int32)) = 0 then (
lz (x4 ^^^ ((1 : Int32) <<< (x5 &&& 31))) fun x11 =>
gd (okx x5 13) <|
bd (f_X0_fold_g135_g135 (wd_o S [] [] [] [(135, a6)] []) x5 ((S.2.2.1 19) x5.toNatClampNeg) x11) fun o13 =>
k74_10 x11 o13) else (
k74_10 x4 a6))
def f_X0_foldUntouched_q131 (S : wd_W) (p1 : Int32) : Option o_X0_foldUntouched_q131 :=
lz (((1 : Int32) <<< ((S.1 13105) &&& 31)) - (1 : Int32)) fun x1 =>
gd (okc ((1 : Int32) <<< ((S.1 13105) &&& 31)) (S.2.2.2.2 134) (S.2.2.2.2 135)) <|
lz (va_cpy (S.2.2.2.1 134) (S.2.2.2.1 135) (0 : Int32).toNatClampNeg (0 : Int32).toNatClampNeg ((1 : Int32) <<< ((S.1 13105) &&& 31)).toNatClampNeg) fun a3 =>
it3 (f_X0_foldUntouched_q131_L30 S p1) fuel x1 (0 : Int32) a3
set_option maxRecDepth 100000 in
set_option maxHeartbeats 4000000 in
theorem c_X0_foldUntouched_q131 (l : Launch) (D : va_G) (q g : Nat → Nat) (cy : Nat → ClassId) (z : (Nat → Nat) × (Nat → Nat) × Nat) (S : wd_W) (p1 : Int32) (o : o_X0_foldUntouched_q131) (hf : f_X0_foldUntouched_q131 S p1 = some o) : MX layX l yX0_foldUntouched cX0_foldUntouched 4 none ({ frames := 1, cells := 0, slots := 0, locals := 60 } : Room) D q g cy z [.ref (q 131), .int p1] S false (none) (wd_o S [] [] [] [(135, o)] []) 0 0 := by
  refine mx_of (own := RX0) (lc := [(0, .ref (q 131)), (1, .int p1)]) (by decide +kernel) rfl layX_ok (Nat.le_of_ble_eq_true rfl) rfl ?_
  intro X hXl hXq hXz hC hQ
  subst hXl; subst hXq; subst hXz
  unfold f_X0_foldUntouched_q131 at hf
  refine go_keys (L1 := []) (L2 := []) (L3 := []) (L4 := [(135, (S.2.2.2.1 135))]) (L5 := []) [] [] [] [135] [] rfl rfl rfl rfl rfl ?_
  refine go_iconst (pc' := 1) hC dX0_foldUntouched_0 ki_1 rfl ?_
  refine go_aload_n (pc' := 2) hC dX0_foldUntouched_1 rfl rfl ?_
  refine go_geti (v := (S.1 13105)) (pc' := 5) hC 131 5 layX_131 rfl rfl inlX0 (Nat.le_of_ble_eq_true rfl) mw_766 rfl dX0_foldUntouched_2 rfl rfl ?_
  refine go_ishl (pc' := 6) hC dX0_foldUntouched_5 rfl ?_
  refine go_iconst (pc' := 7) hC dX0_foldUntouched_6 ki_1 rfl ?_
  refine go_isub (pc' := 8) hC dX0_foldUntouched_7 rfl ?_
  refine go_namei (fun x1 hx => ?_)
  have hf := lz_r hx hf
  clear hx
  refine go_istore_n (lc' := [(0, .ref (x_q X 131)), (1, .int p1), (2, .int x1)]) (pc' := 9) hC dX0_foldUntouched_8 (Nat.le_of_ble_eq_true rfl) rfl rfl ?_
  refine go_aload_n (pc' := 10) hC dX0_foldUntouched_9 rfl rfl ?_
  refine go_getg (pc' := 13) hC 131 6 layX_131 rfl rfl inlX0 (Nat.le_of_ble_eq_true rfl) mw_141 rfl dX0_foldUntouched_10 rfl ?_
  refine go_iconst (pc' := 14) hC dX0_foldUntouched_13 ki_0 rfl ?_
  refine go_aload_n (pc' := 15) hC dX0_foldUntouched_14 rfl rfl ?_
  refine go_getg (pc' := 18) hC 131 7 layX_131 rfl rfl inlX0 (Nat.le_of_ble_eq_true rfl) mw_142 rfl dX0_foldUntouched_15 rfl ?_
  refine go_iconst (pc' := 19) hC dX0_foldUntouched_18 ki_0 rfl ?_
  refine go_iconst (pc' := 20) hC dX0_foldUntouched_19 ki_1 rfl ?_
  refine go_aload_n (pc' := 21) hC dX0_foldUntouched_20 rfl rfl ?_
  refine go_geti (v := (S.1 13105)) (pc' := 24) hC 131 5 layX_131 rfl rfl inlX0 (Nat.le_of_ble_eq_true rfl) mw_766 rfl dX0_foldUntouched_21 rfl rfl ?_
  refine go_ishl (pc' := 25) hC dX0_foldUntouched_24 rfl ?_
  obtain ⟨h2, hf⟩ := gd_e hf
  refine go_copyLg (f1 := (S.2.2.2.1 134)) (f2 := (S.2.2.2.1 135)) (N1 := (S.2.2.2.2 134)) (N2 := (S.2.2.2.2 135)) (pc' := 28) hC 134 135 layX_134 layX_135 rfl rfl rfl rfl (by decide) (by decide) (okc_e h2).1 (okc_e h2).2.1 (okc_e h2).2.2 dX0_foldUntouched_25 mw_767 (Nat.le_of_ble_eq_true rfl) (by decide) rfl rfl (fun a3 ha L4' hL => ?_)
  have hf := lz_r ha hf
  clear ha
  obtain rfl : L4' = [(135, a3)] := hL.symm
  refine go_iconst (pc' := 29) hC dX0_foldUntouched_28 ki_0 rfl ?_
  refine go_istore_n (lc' := [(0, .ref (x_q X 131)), (1, .int p1), (2, .int x1), (3, .int (0 : Int32))]) (pc' := 30) hC dX0_foldUntouched_29 (Nat.le_of_ble_eq_true rfl) rfl rfl ?_
  have l30_16 : ∀ (nn : Nat) (x4 : Int32) (x5 : Int32) (a6 : Nat → Int64), it3 (f_X0_foldUntouched_q131_L30 S p1) nn x4 x5 a6 = some o → Go X layX S 30 [(0, .ref (x_q X 131)), (1, .int p1), (2, .int x4), (3, .int x5)] [] g [] [] [] [(135, a6)] [] 0 0 := by
    intro nn
    induction nn with
    | zero =>
      intro x4 x5 a6 hf
      exact none_no hf
    | succ nn ih =>
      intro x4 x5 a6 hf
      have hf : f_X0_foldUntouched_q131_L30 S p1 (it3 (f_X0_foldUntouched_q131_L30 S p1) nn) x4 x5 a6 = some o := hf
      generalize it3 (f_X0_foldUntouched_q131_L30 S p1) nn = r7 at ih hf
      unfold f_X0_foldUntouched_q131_L30 at hf
      refine go_iload_n (pc' := 31) hC dX0_foldUntouched_30 rfl rfl ?_
      refine go_aload_n (pc' := 32) hC dX0_foldUntouched_31 rfl rfl ?_
      refine go_geti (v := (S.1 13105)) (pc' := 35) hC 131 5 layX_131 rfl rfl inlX0 (Nat.le_of_ble_eq_true rfl) mw_766 rfl dX0_foldUntouched_32 rfl rfl ?_
      refine go_icmp_ge (tgt := 80) (pc' := 38) hC dX0_foldUntouched_35 (by decide) rfl (fun h15 => ?_) (fun h15 => ?_)
      · have hf := ite_t h15 hf
        obtain rfl := Option.some.inj hf
        exact go_vret hC hQ dX0_foldUntouched_80 rfl rfl rfl (fun _ => rfl) rfl rfl
      · have hf := ite_f h15 hf
        refine go_iload_n (pc' := 39) hC dX0_foldUntouched_38 rfl rfl ?_
        refine go_iload_n (pc' := 40) hC dX0_foldUntouched_39 rfl rfl ?_
        refine go_ishr (pc' := 41) hC dX0_foldUntouched_40 rfl ?_
        refine go_iconst (pc' := 42) hC dX0_foldUntouched_41 ki_1 rfl ?_
        refine go_iand (pc' := 43) hC dX0_foldUntouched_42 rfl ?_
        obtain ⟨k74_10, hk74_10, hf⟩ := lk_e2 hf
        have jk74_10 : ∀ (x8 : Int32) (a9 : Nat → Int64), k74_10 x8 a9 = some o → Go X layX S 74 [(0, .ref (x_q X 131)), (1, .int p1), (2, .int x8), (3, .int x5)] [] g [] [] [] [(135, a9)] [] 0 0 := by
          intro x8 a9 hf
          have hf := hk74_10 x8 a9 hf
          clear hk74_10
          refine go_iinc (lc' := [(0, .ref (x_q X 131)), (1, .int p1), (2, .int x8), (3, .int (x5 + (1 : Int32)))]) (pc' := 77) hC dX0_foldUntouched_74 rfl ki_1 (Nat.le_of_ble_eq_true rfl) rfl rfl ?_
          refine go_goto (tgt := 30) hC dX0_foldUntouched_77 (by decide) ?_
          exact ih x8 (x5 + (1 : Int32)) a9 hf
        clear hk74_10
        refine go_if_ne (tgt := 74) (pc' := 46) hC dX0_foldUntouched_43 (by decide) rfl (fun h14 => ?_) (fun h14 => ?_)
        · have hf := ite_f h14 hf
          exact jk74_10 x4 a6 hf
        · have hf := ite_t h14 hf
          refine go_iload_n (pc' := 47) hC dX0_foldUntouched_46 rfl rfl ?_
          refine go_iconst (pc' := 48) hC dX0_foldUntouched_47 ki_1 rfl ?_
          refine go_iload_n (pc' := 49) hC dX0_foldUntouched_48 rfl rfl ?_
          refine go_ishl (pc' := 50) hC dX0_foldUntouched_49 rfl ?_
          refine go_ixor (pc' := 51) hC dX0_foldUntouched_50 rfl ?_
          refine go_namei (fun x11 hx => ?_)
          have hf := lz_r hx hf
          clear hx
          refine go_istore_n (lc' := [(0, .ref (x_q X 131)), (1, .int p1), (2, .int x11), (3, .int x5)]) (pc' := 52) hC dX0_foldUntouched_51 (Nat.le_of_ble_eq_true rfl) rfl rfl ?_
          refine go_aload_n (pc' := 53) hC dX0_foldUntouched_52 rfl rfl ?_
          refine go_getg (pc' := 56) hC 131 7 layX_131 rfl rfl inlX0 (Nat.le_of_ble_eq_true rfl) mw_142 rfl dX0_foldUntouched_53 rfl ?_
          refine go_aload_n (pc' := 57) hC dX0_foldUntouched_56 rfl rfl ?_
          refine go_getg (pc' := 60) hC 131 7 layX_131 rfl rfl inlX0 (Nat.le_of_ble_eq_true rfl) mw_142 rfl dX0_foldUntouched_57 rfl ?_
          refine go_iload_n (pc' := 61) hC dX0_foldUntouched_60 rfl rfl ?_
          refine go_aload_n (pc' := 62) hC dX0_foldUntouched_61 rfl rfl ?_
          refine go_getq (pc' := 65) hC 131 2 layX_131 rfl rfl inlX0 (Nat.le_of_ble_eq_true rfl) mw_144 rfl dX0_foldUntouched_62 rfl ?_
          refine go_getq (pc' := 68) hC 16 4 layX_16 rfl rfl inlX2 (Nat.le_of_ble_eq_true rfl) mw_768 rfl dX0_foldUntouched_65 rfl ?_
          refine go_iload_n (pc' := 69) hC dX0_foldUntouched_68 rfl rfl ?_
          obtain ⟨h12, hf⟩ := gd_e hf
          refine go_iald (f := (S.2.2.1 19)) (pc' := 70) hC 19 layX_19 rfl rfl dX0_foldUntouched_69 (okx_in h12) rfl ?_
          refine go_iload_n (pc' := 71) hC dX0_foldUntouched_70 rfl rfl ?_
          obtain ⟨o13, ho13, hf⟩ := bd_e hf
          refine go_callS1 (pc' := 74) (As := [.ref (g 135), .ref (g 135), .int x5, .int ((S.2.2.1 19) x5.toNatClampNeg), .int x11]) (st := []) (st' := []) (L1' := []) (L2' := []) (L3' := []) (L4' := [(135, o13)]) (L5' := []) (cells' := 0) (slots' := 0)  hC dX0_foldUntouched_71 ⟨mw_799, mw_801, mw_40, yd_yX0_fold, yp_yX0_fold, Nat.le_of_ble_eq_true rfl, Nat.le_of_ble_eq_true rfl, (Nat.le_of_ble_eq_true rfl), (Nat.le_of_ble_eq_true rfl)⟩ mw_800 rfl rfl (Nat.le_of_ble_eq_true rfl) (c_X0_fold_g135_g135 (x_l X) (x_D X) (x_q X) g (x_cy X) (x_z X) _ x5 ((S.2.2.1 19) x5.toNatClampNeg) x11 o13 ho13) rfl rfl rfl rfl rfl rfl rfl rfl rfl rfl rfl rfl rfl rfl ?_
          exact jk74_10 x11 o13 hf
  exact l30_16 fuel x1 (0 : Int32) a3 hf
theorem dX6_chanceAfter_0 : decode cX6_chanceAfter 0 = .ok (.iload_n 3, 1) := by decide +kernel
theorem dX6_chanceAfter_1 : decode cX6_chanceAfter 1 = .ok (.istore 4, 2) := by decide +kernel
theorem dX6_chanceAfter_3 : decode cX6_chanceAfter 3 = .ok (.iconst 0, 1) := by decide +kernel
theorem dX6_chanceAfter_4 : decode cX6_chanceAfter 4 = .ok (.istore 5, 2) := by decide +kernel
theorem dX6_chanceAfter_6 : decode cX6_chanceAfter 6 = .ok (.iload 5, 2) := by decide +kernel
theorem dX6_chanceAfter_8 : decode cX6_chanceAfter 8 = .ok (.aload_n 0, 1) := by decide +kernel
theorem dX6_chanceAfter_9 : decode cX6_chanceAfter 9 = .ok (.getfield 30, 3) := by decide +kernel
theorem dX6_chanceAfter_12 : decode cX6_chanceAfter 12 = .ok (.if_icmp .ge 43, 3) := by decide +kernel
theorem dX6_chanceAfter_15 : decode cX6_chanceAfter 15 = .ok (.iload_n 1, 1) := by decide +kernel
theorem dX6_chanceAfter_16 : decode cX6_chanceAfter 16 = .ok (.iload 5, 2) := by decide +kernel
theorem dX6_chanceAfter_18 : decode cX6_chanceAfter 18 = .ok (.ishr, 1) := by decide +kernel
theorem dX6_chanceAfter_19 : decode cX6_chanceAfter 19 = .ok (.iconst 1, 1) := by decide +kernel
theorem dX6_chanceAfter_20 : decode cX6_chanceAfter 20 = .ok (.iand, 1) := by decide +kernel
theorem dX6_chanceAfter_21 : decode cX6_chanceAfter 21 = .ok (.ifCond .eq 28, 3) := by decide +kernel
theorem dX6_chanceAfter_24 : decode cX6_chanceAfter 24 = .ok (.aload_n 0, 1) := by decide +kernel
theorem dX6_chanceAfter_25 : decode cX6_chanceAfter 25 = .ok (.getfield 9, 3) := by decide +kernel
theorem dX6_chanceAfter_28 : decode cX6_chanceAfter 28 = .ok (.iload 5, 2) := by decide +kernel
theorem dX6_chanceAfter_30 : decode cX6_chanceAfter 30 = .ok (.iaload, 1) := by decide +kernel
theorem dX6_chanceAfter_31 : decode cX6_chanceAfter 31 = .ok (.iload_n 2, 1) := by decide +kernel
theorem dX6_chanceAfter_32 : decode cX6_chanceAfter 32 = .ok (.if_icmp .ne 17, 3) := by decide +kernel
theorem dX6_chanceAfter_35 : decode cX6_chanceAfter 35 = .ok (.iload 4, 2) := by decide +kernel
theorem dX6_chanceAfter_37 : decode cX6_chanceAfter 37 = .ok (.aload_n 0, 1) := by decide +kernel
theorem dX6_chanceAfter_38 : decode cX6_chanceAfter 38 = .ok (.getfield 18, 3) := by decide +kernel
theorem dX6_chanceAfter_41 : decode cX6_chanceAfter 41 = .ok (.iload 5, 2) := by decide +kernel
theorem dX6_chanceAfter_43 : decode cX6_chanceAfter 43 = .ok (.iaload, 1) := by decide +kernel
theorem dX6_chanceAfter_44 : decode cX6_chanceAfter 44 = .ok (.invokestatic 43, 3) := by decide +kernel
theorem dX6_chanceAfter_47 : decode cX6_chanceAfter 47 = .ok (.istore 4, 2) := by decide +kernel
theorem dX6_chanceAfter_49 : decode cX6_chanceAfter 49 = .ok (.iinc 5 1, 3) := by decide +kernel
theorem dX6_chanceAfter_52 : decode cX6_chanceAfter 52 = .ok (.goto (-46), 3) := by decide +kernel
theorem dX6_chanceAfter_55 : decode cX6_chanceAfter 55 = .ok (.iload 4, 2) := by decide +kernel
theorem dX6_chanceAfter_57 : decode cX6_chanceAfter 57 = .ok (.ireturn, 1) := by decide +kernel
abbrev o_X6_chanceAfter_q27 : Type := Int32
def f_X6_chanceAfter_q27_L6 (S : wd_W) (p1 : Int32) (p2 : Int32) (r3 : (Int32) → (Int32) → (Option o_X6_chanceAfter_q27)) (x1 : Int32) (x2 : Int32) : Option o_X6_chanceAfter_q27 :=
if (S.1 2700) ≤ x2 then (
some x1) else (
lk (fun x4 =>
r3 x4 (x2 + (1 : Int32))) fun k49_5 =>
if ((p1 >>> (x2 &&& 31)) &&& (1 : Int32)) = 0 then (
k49_5 x1) else (
gd (okx x2 9) <|
if ((S.2.2.1 28) x2.toNatClampNeg) = p2 then (
gd (okx x2 9) <|
lz ((if x1 < ((S.2.2.1 30) x2.toNatClampNeg) then ((S.2.2.1 30) x2.toNatClampNeg) else x1)) fun x8 =>
k49_5 x8) else (
k49_5 x1)))
def f_X6_chanceAfter_q27 (S : wd_W) (p1 : Int32) (p2 : Int32) (p3 : Int32) : Option o_X6_chanceAfter_q27 :=
it2 (f_X6_chanceAfter_q27_L6 S p1 p2) fuel p3 (0 : Int32)
set_option maxRecDepth 100000 in
set_option maxHeartbeats 4000000 in
theorem c_X6_chanceAfter_q27 (l : Launch) (D : va_G) (q g : Nat → Nat) (cy : Nat → ClassId) (z : (Nat → Nat) × (Nat → Nat) × Nat) (S : wd_W) (p1 : Int32) (p2 : Int32) (p3 : Int32) (o : o_X6_chanceAfter_q27) (hf : f_X6_chanceAfter_q27 S p1 p2 p3 = some o) : MX layX l yX6_chanceAfter cX6_chanceAfter 6 (some .int) ({ frames := 1, cells := 0, slots := 0, locals := 21 } : Room) D q g cy z [.ref (q 27), .int p1, .int p2, .int p3] S false (some (.int o)) (wd_o S [] [] [] [] []) 0 0 := by
  refine mx_of (own := RX6) (lc := [(0, .ref (q 27)), (1, .int p1), (2, .int p2), (3, .int p3)]) (by decide +kernel) rfl layX_ok (Nat.le_of_ble_eq_true rfl) rfl ?_
  intro X hXl hXq hXz hC hQ
  subst hXl; subst hXq; subst hXz
  unfold f_X6_chanceAfter_q27 at hf
  refine go_iload_n (pc' := 1) hC dX6_chanceAfter_0 rfl rfl ?_
  refine go_istore (lc' := [(0, .ref (x_q X 27)), (1, .int p1), (2, .int p2), (3, .int p3), (4, .int p3)]) (pc' := 3) hC dX6_chanceAfter_1 (Nat.le_of_ble_eq_true rfl) rfl rfl ?_
  refine go_iconst (pc' := 4) hC dX6_chanceAfter_3 ki_0 rfl ?_
  refine go_istore (lc' := [(0, .ref (x_q X 27)), (1, .int p1), (2, .int p2), (3, .int p3), (4, .int p3), (5, .int (0 : Int32))]) (pc' := 6) hC dX6_chanceAfter_4 (Nat.le_of_ble_eq_true rfl) rfl rfl ?_
  have l6_12 : ∀ (nn : Nat) (x1 : Int32) (x2 : Int32), it2 (f_X6_chanceAfter_q27_L6 S p1 p2) nn x1 x2 = some o → Go X layX S 6 [(0, .ref (x_q X 27)), (1, .int p1), (2, .int p2), (4, .int x1), (5, .int x2)] [] g [] [] [] [] [] 0 0 := by
    intro nn
    induction nn with
    | zero =>
      intro x1 x2 hf
      exact none_no hf
    | succ nn ih =>
      intro x1 x2 hf
      have hf : f_X6_chanceAfter_q27_L6 S p1 p2 (it2 (f_X6_chanceAfter_q27_L6 S p1 p2) nn) x1 x2 = some o := hf
      generalize it2 (f_X6_chanceAfter_q27_L6 S p1 p2) nn = r3 at ih hf
      unfold f_X6_chanceAfter_q27_L6 at hf
      refine go_iload (pc' := 8) hC dX6_chanceAfter_6 rfl rfl ?_
      refine go_aload_n (pc' := 9) hC dX6_chanceAfter_8 rfl rfl ?_
      refine go_geti (v := (S.1 2700)) (pc' := 12) hC 27 0 layX_27 rfl rfl inlX6 (Nat.le_of_ble_eq_true rfl) mw_477 rfl dX6_chanceAfter_9 rfl rfl ?_
      refine go_icmp_ge (tgt := 55) (pc' := 15) hC dX6_chanceAfter_12 (by decide) rfl (fun h11 => ?_) (fun h11 => ?_)
      · have hf := ite_t h11 hf
        refine go_iload (pc' := 57) hC dX6_chanceAfter_55 rfl rfl ?_
        obtain rfl := Option.some.inj hf
        exact go_iret hC hQ dX6_chanceAfter_57 rfl rfl rfl rfl (fun _ => rfl) rfl rfl
      · have hf := ite_f h11 hf
        refine go_iload_n (pc' := 16) hC dX6_chanceAfter_15 rfl rfl ?_
        refine go_iload (pc' := 18) hC dX6_chanceAfter_16 rfl rfl ?_
        refine go_ishr (pc' := 19) hC dX6_chanceAfter_18 rfl ?_
        refine go_iconst (pc' := 20) hC dX6_chanceAfter_19 ki_1 rfl ?_
        refine go_iand (pc' := 21) hC dX6_chanceAfter_20 rfl ?_
        obtain ⟨k49_5, hk49_5, hf⟩ := lk_e1 hf
        have jk49_5 : ∀ (x4 : Int32), k49_5 x4 = some o → Go X layX S 49 [(0, .ref (x_q X 27)), (1, .int p1), (2, .int p2), (4, .int x4), (5, .int x2)] [] g [] [] [] [] [] 0 0 := by
          intro x4 hf
          have hf := hk49_5 x4 hf
          clear hk49_5
          refine go_iinc (lc' := [(0, .ref (x_q X 27)), (1, .int p1), (2, .int p2), (4, .int x4), (5, .int (x2 + (1 : Int32)))]) (pc' := 52) hC dX6_chanceAfter_49 rfl ki_1 (Nat.le_of_ble_eq_true rfl) rfl rfl ?_
          refine go_goto (tgt := 6) hC dX6_chanceAfter_52 (by decide) ?_
          exact ih x4 (x2 + (1 : Int32)) hf
        clear hk49_5
        refine go_if_eq (tgt := 49) (pc' := 24) hC dX6_chanceAfter_21 (by decide) rfl (fun h10 => ?_) (fun h10 => ?_)
        · have hf := ite_t h10 hf
          exact jk49_5 x1 hf
        · have hf := ite_f h10 hf
          refine go_aload_n (pc' := 25) hC dX6_chanceAfter_24 rfl rfl ?_
          refine go_getq (pc' := 28) hC 27 1 layX_27 rfl rfl inlX6 (Nat.le_of_ble_eq_true rfl) mw_81 rfl dX6_chanceAfter_25 rfl ?_
          refine go_iload (pc' := 30) hC dX6_chanceAfter_28 rfl rfl ?_
          obtain ⟨h6, hf⟩ := gd_e hf
          refine go_iald (f := (S.2.2.1 28)) (pc' := 31) hC 28 layX_28 rfl rfl dX6_chanceAfter_30 (okx_in h6) rfl ?_
          refine go_iload_n (pc' := 32) hC dX6_chanceAfter_31 rfl rfl ?_
          refine go_icmp_ne (tgt := 49) (pc' := 35) hC dX6_chanceAfter_32 (by decide) rfl (fun h9 => ?_) (fun h9 => ?_)
          · have hf := ite_f h9 hf
            exact jk49_5 x1 hf
          · have hf := ite_t h9 hf
            refine go_iload (pc' := 37) hC dX6_chanceAfter_35 rfl rfl ?_
            refine go_aload_n (pc' := 38) hC dX6_chanceAfter_37 rfl rfl ?_
            refine go_getq (pc' := 41) hC 27 3 layX_27 rfl rfl inlX6 (Nat.le_of_ble_eq_true rfl) mw_83 rfl dX6_chanceAfter_38 rfl ?_
            refine go_iload (pc' := 43) hC dX6_chanceAfter_41 rfl rfl ?_
            obtain ⟨h7, hf⟩ := gd_e hf
            refine go_iald (f := (S.2.2.1 30)) (pc' := 44) hC 30 layX_30 rfl rfl dX6_chanceAfter_43 (okx_in h7) rfl ?_
            refine go_mmax (pc' := 47) hC dX6_chanceAfter_44 mw_810 (Nat.le_of_ble_eq_true rfl) (Nat.le_of_ble_eq_true rfl) (Nat.le_of_ble_eq_true rfl) (Nat.le_of_ble_eq_true rfl) rfl ?_
            refine go_namei (fun x8 hx => ?_)
            have hf := lz_r hx hf
            clear hx
            refine go_istore (lc' := [(0, .ref (x_q X 27)), (1, .int p1), (2, .int p2), (4, .int x8), (5, .int x2)]) (pc' := 49) hC dX6_chanceAfter_47 (Nat.le_of_ble_eq_true rfl) rfl rfl ?_
            exact jk49_5 x8 hf
  refine go_sub [0, 1, 2, 4, 5] rfl ?_
  exact l6_12 fuel p3 (0 : Int32) hf
