abbrev o_X10_take_q120 : Type := Int32 × (Nat → Int32) × (Nat → Int32)
def f_X10_take_q120_L87 (S : wd_W) (p1 : Int32) (r13 : (Int32) → (Int32) → (Nat → Int32) → (Nat → Int32) → (Option o_X10_take_q120)) (x9 : Int32) (x10 : Int32) (a11 : Nat → Int32) (a12 : Nat → Int32) : Option o_X10_take_q120 :=
if (S.1 1610) ≤ x9 then (
some (x10, a11, a12)) else (
lk (fun x14 a15 a16 =>
r13 (x9 + (1 : Int32)) x14 a15 a16) fun k167_17 =>
if p1 = 0 then (
gd (okx x9 3) <|
gd (okx x9 3) <|
gd (okx x9 3) <|
bd (f_X10_put_q120 (wd_o S [(12000, x10)] [] [(121, a11), (122, a12)] [] []) ((S.2.2.1 24) x9.toNatClampNeg) ((S.2.2.1 25) x9.toNatClampNeg) ((S.2.2.1 26) x9.toNatClampNeg)) fun o21 =>
k167_17 o21.1 o21.2.1 o21.2.2) else (
gd (okx x9 3) <|
gd (okx x9 3) <|
gd (okx x9 3) <|
bd (f_X10_putApart_q120 (wd_o S [(12000, x10)] [] [(121, a11), (122, a12)] [] []) ((S.2.2.1 24) x9.toNatClampNeg) ((S.2.2.1 25) x9.toNatClampNeg) ((S.2.2.1 26) x9.toNatClampNeg)) fun o25 =>
k167_17 o25.1 o25.2.1 o25.2.2))
def f_X10_take_q120_L43 (S : wd_W) (k85_8 : (Int32) → (Nat → Int32) → (Nat → Int32) → (Option o_X10_take_q120)) (r33 : (Int32) → (Int32) → (Nat → Int32) → (Nat → Int32) → (Option o_X10_take_q120)) (x29 : Int32) (x30 : Int32) (a31 : Nat → Int32) (a32 : Nat → Int32) : Option o_X10_take_q120 :=
if (S.1 1607) ≤ x29 then (
k85_8 x30 a31 a32) else (
gd (okx x29 10) <|
gd (okx x29 10) <|
bd (f_X10_put_q120 (wd_o S [(12000, x30)] [] [(121, a31), (122, a32)] [] []) ((S.2.2.1 23) x29.toNatClampNeg) (0 : Int32) ((1 : Int32) <<< (((S.2.2.1 22) x29.toNatClampNeg) &&& 31))) fun o36 =>
r33 (x29 + (1 : Int32)) o36.1 o36.2.1 o36.2.2)
def f_X10_take_q120_L7 (S : wd_W) (k41_4 : (Int32) → (Nat → Int32) → (Nat → Int32) → (Option o_X10_take_q120)) (r43 : (Int32) → (Int32) → (Nat → Int32) → (Nat → Int32) → (Option o_X10_take_q120)) (x39 : Int32) (x40 : Int32) (a41 : Nat → Int32) (a42 : Nat → Int32) : Option o_X10_take_q120 :=
if (S.1 1601) ≤ x39 then (
k41_4 x40 a41 a42) else (
gd (okx x39 13) <|
bd (f_X10_put_q120 (wd_o S [(12000, x40)] [] [(121, a41), (122, a42)] [] []) ((S.2.2.1 19) x39.toNatClampNeg) ((1 : Int32) <<< (x39 &&& 31)) (0 : Int32)) fun o45 =>
r43 (x39 + (1 : Int32)) o45.1 o45.2.1 o45.2.2)
def f_X10_take_q120 (S : wd_W) (p1 : Int32) : Option o_X10_take_q120 :=
lk (fun x1 a2 a3 =>
lk (fun x5 a6 a7 =>
it4 (f_X10_take_q120_L87 S p1) fuel (0 : Int32) x5 a6 a7) fun k85_8 =>
it4 (f_X10_take_q120_L43 S k85_8) fuel (0 : Int32) x1 a2 a3) fun k41_4 =>
it4 (f_X10_take_q120_L7 S k41_4) fuel (0 : Int32) (0 : Int32) (S.2.2.1 121) (S.2.2.1 122)
set_option maxRecDepth 100000 in
set_option maxHeartbeats 4000000 in
theorem c_X10_take_q120 (l : Launch) (D : va_G) (q g : Nat → Nat) (cy : Nat → ClassId) (z : (Nat → Nat) × (Nat → Nat) × Nat) (S : wd_W) (p1 : Int32) (o : o_X10_take_q120) (hf : f_X10_take_q120 S p1 = some o) : MX layX l yX10_take cX10_take 3 none ({ frames := 2, cells := 0, slots := 0, locals := 49 } : Room) D q g cy z [.ref (q 120), .int p1] S false (none) (wd_o S [(12000, o.1)] [] [(121, o.2.1), (122, o.2.2)] [] []) 0 0 := by
  refine mx_of (own := RX10) (lc := [(0, .ref (q 120)), (1, .int p1)]) (by decide +kernel) rfl layX_ok (Nat.le_of_ble_eq_true rfl) rfl ?_
  intro X hXl hXq hXz hC hQ
  subst hXl; subst hXq; subst hXz
  unfold f_X10_take_q120 at hf
  refine go_keys (L1 := [(12000, (S.1 12000))]) (L2 := []) (L3 := [(121, (S.2.2.1 121)), (122, (S.2.2.1 122))]) (L4 := []) (L5 := []) [12000] [] [121, 122] [] [] rfl rfl rfl rfl rfl ?_
  refine go_aload_n (pc' := 1) hC dX10_take_0 rfl rfl ?_
  refine go_iconst (pc' := 2) hC dX10_take_1 ki_0 rfl ?_
  refine go_puti (L1' := [(12000, (0 : Int32))]) (pc' := 5) hC 120 0 layX_120 rfl rfl inlX10 tyX10_ok nmX10 (Nat.le_of_ble_eq_true rfl) mw_637 rfl rfl rfl rfl dX10_take_2 rfl rfl rfl ?_
  refine go_iconst (pc' := 6) hC dX10_take_5 ki_0 rfl ?_
  refine go_istore_n (lc' := [(0, .ref (x_q X 120)), (1, .int p1), (2, .int (0 : Int32))]) (pc' := 7) hC dX10_take_6 (Nat.le_of_ble_eq_true rfl) rfl rfl ?_
  obtain ⟨k41_4, hk41_4, hf⟩ := lk_e3 hf
  have jk41_4 : ∀ (x1 : Int32) (a2 : Nat → Int32) (a3 : Nat → Int32), k41_4 x1 a2 a3 = some o → Go X layX S 41 [(0, .ref (x_q X 120)), (1, .int p1)] [] g [(12000, x1)] [] [(121, a2), (122, a3)] [] [] 0 0 := by
    intro x1 a2 a3 hf
    have hf := hk41_4 x1 a2 a3 hf
    clear hk41_4
    refine go_iconst (pc' := 42) hC dX10_take_41 ki_0 rfl ?_
    refine go_istore_n (lc' := [(0, .ref (x_q X 120)), (1, .int p1), (2, .int (0 : Int32))]) (pc' := 43) hC dX10_take_42 (Nat.le_of_ble_eq_true rfl) rfl rfl ?_
    obtain ⟨k85_8, hk85_8, hf⟩ := lk_e3 hf
    have jk85_8 : ∀ (x5 : Int32) (a6 : Nat → Int32) (a7 : Nat → Int32), k85_8 x5 a6 a7 = some o → Go X layX S 85 [(0, .ref (x_q X 120)), (1, .int p1)] [] g [(12000, x5)] [] [(121, a6), (122, a7)] [] [] 0 0 := by
      intro x5 a6 a7 hf
      have hf := hk85_8 x5 a6 a7 hf
      clear hk85_8
      refine go_iconst (pc' := 86) hC dX10_take_85 ki_0 rfl ?_
      refine go_istore_n (lc' := [(0, .ref (x_q X 120)), (1, .int p1), (2, .int (0 : Int32))]) (pc' := 87) hC dX10_take_86 (Nat.le_of_ble_eq_true rfl) rfl rfl ?_
      have l87_28 : ∀ (nn : Nat) (x9 : Int32) (x10 : Int32) (a11 : Nat → Int32) (a12 : Nat → Int32), it4 (f_X10_take_q120_L87 S p1) nn x9 x10 a11 a12 = some o → Go X layX S 87 [(0, .ref (x_q X 120)), (1, .int p1), (2, .int x9)] [] g [(12000, x10)] [] [(121, a11), (122, a12)] [] [] 0 0 := by
        intro nn
        induction nn with
        | zero =>
          intro x9 x10 a11 a12 hf
          exact none_no hf
        | succ nn ih =>
          intro x9 x10 a11 a12 hf
          have hf : f_X10_take_q120_L87 S p1 (it4 (f_X10_take_q120_L87 S p1) nn) x9 x10 a11 a12 = some o := hf
          generalize it4 (f_X10_take_q120_L87 S p1) nn = r13 at ih hf
          unfold f_X10_take_q120_L87 at hf
          refine go_iload_n (pc' := 88) hC dX10_take_87 rfl rfl ?_
          refine go_aload_n (pc' := 89) hC dX10_take_88 rfl rfl ?_
          refine go_getq (pc' := 92) hC 120 3 layX_120 rfl rfl inlX10 (Nat.le_of_ble_eq_true rfl) mw_122 rfl dX10_take_89 rfl ?_
          refine go_geti (v := (S.1 1610)) (pc' := 95) hC 16 10 layX_16 rfl rfl inlX2 (Nat.le_of_ble_eq_true rfl) mw_643 rfl dX10_take_92 rfl rfl ?_
          refine go_icmp_ge (tgt := 173) (pc' := 98) hC dX10_take_95 (by decide) rfl (fun h27 => ?_) (fun h27 => ?_)
          · have hf := ite_t h27 hf
            obtain rfl := Option.some.inj hf
            exact go_vret hC hQ dX10_take_173 rfl rfl rfl (fun _ => rfl) rfl rfl
          · have hf := ite_f h27 hf
            refine go_iload_n (pc' := 99) hC dX10_take_98 rfl rfl ?_
            obtain ⟨k167_17, hk167_17, hf⟩ := lk_e3 hf
            have jk167_17 : ∀ (x14 : Int32) (a15 : Nat → Int32) (a16 : Nat → Int32), k167_17 x14 a15 a16 = some o → Go X layX S 167 [(0, .ref (x_q X 120)), (1, .int p1), (2, .int x9)] [] g [(12000, x14)] [] [(121, a15), (122, a16)] [] [] 0 0 := by
              intro x14 a15 a16 hf
              have hf := hk167_17 x14 a15 a16 hf
              clear hk167_17
              refine go_iinc (lc' := [(0, .ref (x_q X 120)), (1, .int p1), (2, .int (x9 + (1 : Int32)))]) (pc' := 170) hC dX10_take_167 rfl ki_1 (Nat.le_of_ble_eq_true rfl) rfl rfl ?_
              refine go_goto (tgt := 87) hC dX10_take_170 (by decide) ?_
              exact ih (x9 + (1 : Int32)) x14 a15 a16 hf
            clear hk167_17
            refine go_if_eq (tgt := 136) (pc' := 102) hC dX10_take_99 (by decide) rfl (fun h26 => ?_) (fun h26 => ?_)
            · have hf := ite_t h26 hf
              refine go_aload_n (pc' := 137) hC dX10_take_136 rfl rfl ?_
              refine go_aload_n (pc' := 138) hC dX10_take_137 rfl rfl ?_
              refine go_getq (pc' := 141) hC 120 3 layX_120 rfl rfl inlX10 (Nat.le_of_ble_eq_true rfl) mw_122 rfl dX10_take_138 rfl ?_
              refine go_getq (pc' := 144) hC 16 11 layX_16 rfl rfl inlX2 (Nat.le_of_ble_eq_true rfl) mw_644 rfl dX10_take_141 rfl ?_
              refine go_iload_n (pc' := 145) hC dX10_take_144 rfl rfl ?_
              obtain ⟨h18, hf⟩ := gd_e hf
              refine go_iald (f := (S.2.2.1 24)) (pc' := 146) hC 24 layX_24 rfl rfl dX10_take_145 (okx_in h18) rfl ?_
              refine go_aload_n (pc' := 147) hC dX10_take_146 rfl rfl ?_
              refine go_getq (pc' := 150) hC 120 3 layX_120 rfl rfl inlX10 (Nat.le_of_ble_eq_true rfl) mw_122 rfl dX10_take_147 rfl ?_
              refine go_getq (pc' := 153) hC 16 12 layX_16 rfl rfl inlX2 (Nat.le_of_ble_eq_true rfl) mw_645 rfl dX10_take_150 rfl ?_
              refine go_iload_n (pc' := 154) hC dX10_take_153 rfl rfl ?_
              obtain ⟨h19, hf⟩ := gd_e hf
              refine go_iald (f := (S.2.2.1 25)) (pc' := 155) hC 25 layX_25 rfl rfl dX10_take_154 (okx_in h19) rfl ?_
              refine go_aload_n (pc' := 156) hC dX10_take_155 rfl rfl ?_
              refine go_getq (pc' := 159) hC 120 3 layX_120 rfl rfl inlX10 (Nat.le_of_ble_eq_true rfl) mw_122 rfl dX10_take_156 rfl ?_
              refine go_getq (pc' := 162) hC 16 13 layX_16 rfl rfl inlX2 (Nat.le_of_ble_eq_true rfl) mw_646 rfl dX10_take_159 rfl ?_
              refine go_iload_n (pc' := 163) hC dX10_take_162 rfl rfl ?_
              obtain ⟨h20, hf⟩ := gd_e hf
              refine go_iald (f := (S.2.2.1 26)) (pc' := 164) hC 26 layX_26 rfl rfl dX10_take_163 (okx_in h20) rfl ?_
              obtain ⟨o21, ho21, hf⟩ := bd_e hf
              refine go_callV1 (pc' := 167) (As := [.int ((S.2.2.1 24) x9.toNatClampNeg), .int ((S.2.2.1 25) x9.toNatClampNeg), .int ((S.2.2.1 26) x9.toNatClampNeg)]) (st := []) (st' := []) (L1' := [(12000, o21.1)]) (L2' := []) (L3' := [(121, o21.2.1), (122, o21.2.2)]) (L4' := []) (L5' := []) (cells' := 0) (slots' := 0)  (b := 120) hC dX10_take_164 ⟨mw_647, mw_650, mw_103, yd_yX10_put, yp_yX10_put, Nat.le_of_ble_eq_true rfl, Nat.le_of_ble_eq_true rfl, (Nat.le_of_ble_eq_true rfl), (Nat.le_of_ble_eq_true rfl)⟩ mw_648 mw_649 layX_120 rfl rfl rfl (Nat.le_of_ble_eq_true rfl) (c_X10_put_q120 (x_l X) (x_D X) (x_q X) g (x_cy X) (x_z X) _ ((S.2.2.1 24) x9.toNatClampNeg) ((S.2.2.1 25) x9.toNatClampNeg) ((S.2.2.1 26) x9.toNatClampNeg) o21 ho21) rfl rfl rfl rfl rfl rfl rfl rfl rfl rfl rfl rfl rfl rfl ?_
              exact jk167_17 o21.1 o21.2.1 o21.2.2 hf
            · have hf := ite_f h26 hf
              refine go_aload_n (pc' := 103) hC dX10_take_102 rfl rfl ?_
              refine go_aload_n (pc' := 104) hC dX10_take_103 rfl rfl ?_
              refine go_getq (pc' := 107) hC 120 3 layX_120 rfl rfl inlX10 (Nat.le_of_ble_eq_true rfl) mw_122 rfl dX10_take_104 rfl ?_
              refine go_getq (pc' := 110) hC 16 11 layX_16 rfl rfl inlX2 (Nat.le_of_ble_eq_true rfl) mw_644 rfl dX10_take_107 rfl ?_
              refine go_iload_n (pc' := 111) hC dX10_take_110 rfl rfl ?_
              obtain ⟨h22, hf⟩ := gd_e hf
              refine go_iald (f := (S.2.2.1 24)) (pc' := 112) hC 24 layX_24 rfl rfl dX10_take_111 (okx_in h22) rfl ?_
              refine go_aload_n (pc' := 113) hC dX10_take_112 rfl rfl ?_
              refine go_getq (pc' := 116) hC 120 3 layX_120 rfl rfl inlX10 (Nat.le_of_ble_eq_true rfl) mw_122 rfl dX10_take_113 rfl ?_
              refine go_getq (pc' := 119) hC 16 12 layX_16 rfl rfl inlX2 (Nat.le_of_ble_eq_true rfl) mw_645 rfl dX10_take_116 rfl ?_
              refine go_iload_n (pc' := 120) hC dX10_take_119 rfl rfl ?_
              obtain ⟨h23, hf⟩ := gd_e hf
              refine go_iald (f := (S.2.2.1 25)) (pc' := 121) hC 25 layX_25 rfl rfl dX10_take_120 (okx_in h23) rfl ?_
              refine go_aload_n (pc' := 122) hC dX10_take_121 rfl rfl ?_
              refine go_getq (pc' := 125) hC 120 3 layX_120 rfl rfl inlX10 (Nat.le_of_ble_eq_true rfl) mw_122 rfl dX10_take_122 rfl ?_
              refine go_getq (pc' := 128) hC 16 13 layX_16 rfl rfl inlX2 (Nat.le_of_ble_eq_true rfl) mw_646 rfl dX10_take_125 rfl ?_
              refine go_iload_n (pc' := 129) hC dX10_take_128 rfl rfl ?_
              obtain ⟨h24, hf⟩ := gd_e hf
              refine go_iald (f := (S.2.2.1 26)) (pc' := 130) hC 26 layX_26 rfl rfl dX10_take_129 (okx_in h24) rfl ?_
              obtain ⟨o25, ho25, hf⟩ := bd_e hf
              refine go_callV1 (pc' := 133) (As := [.int ((S.2.2.1 24) x9.toNatClampNeg), .int ((S.2.2.1 25) x9.toNatClampNeg), .int ((S.2.2.1 26) x9.toNatClampNeg)]) (st := []) (st' := []) (L1' := [(12000, o25.1)]) (L2' := []) (L3' := [(121, o25.2.1), (122, o25.2.2)]) (L4' := []) (L5' := []) (cells' := 0) (slots' := 0)  (b := 120) hC dX10_take_130 ⟨mw_653, mw_656, mw_103, yd_yX10_putApart, yp_yX10_putApart, Nat.le_of_ble_eq_true rfl, Nat.le_of_ble_eq_true rfl, (Nat.le_of_ble_eq_true rfl), (Nat.le_of_ble_eq_true rfl)⟩ mw_654 mw_655 layX_120 rfl rfl rfl (Nat.le_of_ble_eq_true rfl) (c_X10_putApart_q120 (x_l X) (x_D X) (x_q X) g (x_cy X) (x_z X) _ ((S.2.2.1 24) x9.toNatClampNeg) ((S.2.2.1 25) x9.toNatClampNeg) ((S.2.2.1 26) x9.toNatClampNeg) o25 ho25) rfl rfl rfl rfl rfl rfl rfl rfl rfl rfl rfl rfl rfl rfl ?_
              refine go_goto (tgt := 167) hC dX10_take_133 (by decide) ?_
              exact jk167_17 o25.1 o25.2.1 o25.2.2 hf
      exact l87_28 fuel (0 : Int32) x5 a6 a7 hf
    clear hk85_8
    have l43_38 : ∀ (nn : Nat) (x29 : Int32) (x30 : Int32) (a31 : Nat → Int32) (a32 : Nat → Int32), it4 (f_X10_take_q120_L43 S k85_8) nn x29 x30 a31 a32 = some o → Go X layX S 43 [(0, .ref (x_q X 120)), (1, .int p1), (2, .int x29)] [] g [(12000, x30)] [] [(121, a31), (122, a32)] [] [] 0 0 := by
      intro nn
      induction nn with
      | zero =>
        intro x29 x30 a31 a32 hf
        exact none_no hf
      | succ nn ih =>
        intro x29 x30 a31 a32 hf
        have hf : f_X10_take_q120_L43 S k85_8 (it4 (f_X10_take_q120_L43 S k85_8) nn) x29 x30 a31 a32 = some o := hf
        generalize it4 (f_X10_take_q120_L43 S k85_8) nn = r33 at ih hf
        unfold f_X10_take_q120_L43 at hf
        refine go_iload_n (pc' := 44) hC dX10_take_43 rfl rfl ?_
        refine go_aload_n (pc' := 45) hC dX10_take_44 rfl rfl ?_
        refine go_getq (pc' := 48) hC 120 3 layX_120 rfl rfl inlX10 (Nat.le_of_ble_eq_true rfl) mw_122 rfl dX10_take_45 rfl ?_
        refine go_geti (v := (S.1 1607)) (pc' := 51) hC 16 7 layX_16 rfl rfl inlX2 (Nat.le_of_ble_eq_true rfl) mw_640 rfl dX10_take_48 rfl rfl ?_
        refine go_icmp_ge (tgt := 85) (pc' := 54) hC dX10_take_51 (by decide) rfl (fun h37 => ?_) (fun h37 => ?_)
        · have hf := ite_t h37 hf
          refine go_sub [0, 1] rfl ?_
          exact jk85_8 x30 a31 a32 hf
        · have hf := ite_f h37 hf
          refine go_aload_n (pc' := 55) hC dX10_take_54 rfl rfl ?_
          refine go_aload_n (pc' := 56) hC dX10_take_55 rfl rfl ?_
          refine go_getq (pc' := 59) hC 120 3 layX_120 rfl rfl inlX10 (Nat.le_of_ble_eq_true rfl) mw_122 rfl dX10_take_56 rfl ?_
          refine go_getq (pc' := 62) hC 16 9 layX_16 rfl rfl inlX2 (Nat.le_of_ble_eq_true rfl) mw_641 rfl dX10_take_59 rfl ?_
          refine go_iload_n (pc' := 63) hC dX10_take_62 rfl rfl ?_
          obtain ⟨h34, hf⟩ := gd_e hf
          refine go_iald (f := (S.2.2.1 23)) (pc' := 64) hC 23 layX_23 rfl rfl dX10_take_63 (okx_in h34) rfl ?_
          refine go_iconst (pc' := 65) hC dX10_take_64 ki_0 rfl ?_
          refine go_iconst (pc' := 66) hC dX10_take_65 ki_1 rfl ?_
          refine go_aload_n (pc' := 67) hC dX10_take_66 rfl rfl ?_
          refine go_getq (pc' := 70) hC 120 3 layX_120 rfl rfl inlX10 (Nat.le_of_ble_eq_true rfl) mw_122 rfl dX10_take_67 rfl ?_
          refine go_getq (pc' := 73) hC 16 8 layX_16 rfl rfl inlX2 (Nat.le_of_ble_eq_true rfl) mw_642 rfl dX10_take_70 rfl ?_
          refine go_iload_n (pc' := 74) hC dX10_take_73 rfl rfl ?_
          obtain ⟨h35, hf⟩ := gd_e hf
          refine go_iald (f := (S.2.2.1 22)) (pc' := 75) hC 22 layX_22 rfl rfl dX10_take_74 (okx_in h35) rfl ?_
          refine go_ishl (pc' := 76) hC dX10_take_75 rfl ?_
          obtain ⟨o36, ho36, hf⟩ := bd_e hf
          refine go_callV1 (pc' := 79) (As := [.int ((S.2.2.1 23) x29.toNatClampNeg), .int (0 : Int32), .int ((1 : Int32) <<< (((S.2.2.1 22) x29.toNatClampNeg) &&& 31))]) (st := []) (st' := []) (L1' := [(12000, o36.1)]) (L2' := []) (L3' := [(121, o36.2.1), (122, o36.2.2)]) (L4' := []) (L5' := []) (cells' := 0) (slots' := 0)  (b := 120) hC dX10_take_76 ⟨mw_647, mw_650, mw_103, yd_yX10_put, yp_yX10_put, Nat.le_of_ble_eq_true rfl, Nat.le_of_ble_eq_true rfl, (Nat.le_of_ble_eq_true rfl), (Nat.le_of_ble_eq_true rfl)⟩ mw_648 mw_649 layX_120 rfl rfl rfl (Nat.le_of_ble_eq_true rfl) (c_X10_put_q120 (x_l X) (x_D X) (x_q X) g (x_cy X) (x_z X) _ ((S.2.2.1 23) x29.toNatClampNeg) (0 : Int32) ((1 : Int32) <<< (((S.2.2.1 22) x29.toNatClampNeg) &&& 31)) o36 ho36) rfl rfl rfl rfl rfl rfl rfl rfl rfl rfl rfl rfl rfl rfl ?_
          refine go_iinc (lc' := [(0, .ref (x_q X 120)), (1, .int p1), (2, .int (x29 + (1 : Int32)))]) (pc' := 82) hC dX10_take_79 rfl ki_1 (Nat.le_of_ble_eq_true rfl) rfl rfl ?_
          refine go_goto (tgt := 43) hC dX10_take_82 (by decide) ?_
          exact ih (x29 + (1 : Int32)) o36.1 o36.2.1 o36.2.2 hf
    exact l43_38 fuel (0 : Int32) x1 a2 a3 hf
  clear hk41_4
  have l7_47 : ∀ (nn : Nat) (x39 : Int32) (x40 : Int32) (a41 : Nat → Int32) (a42 : Nat → Int32), it4 (f_X10_take_q120_L7 S k41_4) nn x39 x40 a41 a42 = some o → Go X layX S 7 [(0, .ref (x_q X 120)), (1, .int p1), (2, .int x39)] [] g [(12000, x40)] [] [(121, a41), (122, a42)] [] [] 0 0 := by
    intro nn
    induction nn with
    | zero =>
      intro x39 x40 a41 a42 hf
      exact none_no hf
    | succ nn ih =>
      intro x39 x40 a41 a42 hf
      have hf : f_X10_take_q120_L7 S k41_4 (it4 (f_X10_take_q120_L7 S k41_4) nn) x39 x40 a41 a42 = some o := hf
      generalize it4 (f_X10_take_q120_L7 S k41_4) nn = r43 at ih hf
      unfold f_X10_take_q120_L7 at hf
      refine go_iload_n (pc' := 8) hC dX10_take_7 rfl rfl ?_
      refine go_aload_n (pc' := 9) hC dX10_take_8 rfl rfl ?_
      refine go_getq (pc' := 12) hC 120 3 layX_120 rfl rfl inlX10 (Nat.le_of_ble_eq_true rfl) mw_122 rfl dX10_take_9 rfl ?_
      refine go_geti (v := (S.1 1601)) (pc' := 15) hC 16 1 layX_16 rfl rfl inlX2 (Nat.le_of_ble_eq_true rfl) mw_638 rfl dX10_take_12 rfl rfl ?_
      refine go_icmp_ge (tgt := 41) (pc' := 18) hC dX10_take_15 (by decide) rfl (fun h46 => ?_) (fun h46 => ?_)
      · have hf := ite_t h46 hf
        refine go_sub [0, 1] rfl ?_
        exact jk41_4 x40 a41 a42 hf
      · have hf := ite_f h46 hf
        refine go_aload_n (pc' := 19) hC dX10_take_18 rfl rfl ?_
        refine go_aload_n (pc' := 20) hC dX10_take_19 rfl rfl ?_
        refine go_getq (pc' := 23) hC 120 3 layX_120 rfl rfl inlX10 (Nat.le_of_ble_eq_true rfl) mw_122 rfl dX10_take_20 rfl ?_
        refine go_getq (pc' := 26) hC 16 4 layX_16 rfl rfl inlX2 (Nat.le_of_ble_eq_true rfl) mw_639 rfl dX10_take_23 rfl ?_
        refine go_iload_n (pc' := 27) hC dX10_take_26 rfl rfl ?_
        obtain ⟨h44, hf⟩ := gd_e hf
        refine go_iald (f := (S.2.2.1 19)) (pc' := 28) hC 19 layX_19 rfl rfl dX10_take_27 (okx_in h44) rfl ?_
        refine go_iconst (pc' := 29) hC dX10_take_28 ki_1 rfl ?_
        refine go_iload_n (pc' := 30) hC dX10_take_29 rfl rfl ?_
        refine go_ishl (pc' := 31) hC dX10_take_30 rfl ?_
        refine go_iconst (pc' := 32) hC dX10_take_31 ki_0 rfl ?_
        obtain ⟨o45, ho45, hf⟩ := bd_e hf
        refine go_callV1 (pc' := 35) (As := [.int ((S.2.2.1 19) x39.toNatClampNeg), .int ((1 : Int32) <<< (x39 &&& 31)), .int (0 : Int32)]) (st := []) (st' := []) (L1' := [(12000, o45.1)]) (L2' := []) (L3' := [(121, o45.2.1), (122, o45.2.2)]) (L4' := []) (L5' := []) (cells' := 0) (slots' := 0)  (b := 120) hC dX10_take_32 ⟨mw_647, mw_650, mw_103, yd_yX10_put, yp_yX10_put, Nat.le_of_ble_eq_true rfl, Nat.le_of_ble_eq_true rfl, (Nat.le_of_ble_eq_true rfl), (Nat.le_of_ble_eq_true rfl)⟩ mw_648 mw_649 layX_120 rfl rfl rfl (Nat.le_of_ble_eq_true rfl) (c_X10_put_q120 (x_l X) (x_D X) (x_q X) g (x_cy X) (x_z X) _ ((S.2.2.1 19) x39.toNatClampNeg) ((1 : Int32) <<< (x39 &&& 31)) (0 : Int32) o45 ho45) rfl rfl rfl rfl rfl rfl rfl rfl rfl rfl rfl rfl rfl rfl ?_
        refine go_iinc (lc' := [(0, .ref (x_q X 120)), (1, .int p1), (2, .int (x39 + (1 : Int32)))]) (pc' := 38) hC dX10_take_35 rfl ki_1 (Nat.le_of_ble_eq_true rfl) rfl rfl ?_
        refine go_goto (tgt := 7) hC dX10_take_38 (by decide) ?_
        exact ih (x39 + (1 : Int32)) o45.1 o45.2.1 o45.2.2 hf
  exact l7_47 fuel (0 : Int32) (0 : Int32) (S.2.2.1 121) (S.2.2.1 122) hf
theorem dX10_harmIn_0 : decode cX10_harmIn 0 = .ok (.iconst 0, 1) := by decide +kernel
theorem dX10_harmIn_1 : decode cX10_harmIn 1 = .ok (.istore_n 2, 1) := by decide +kernel
theorem dX10_harmIn_2 : decode cX10_harmIn 2 = .ok (.iconst 0, 1) := by decide +kernel
theorem dX10_harmIn_3 : decode cX10_harmIn 3 = .ok (.istore_n 3, 1) := by decide +kernel
theorem dX10_harmIn_4 : decode cX10_harmIn 4 = .ok (.iload_n 3, 1) := by decide +kernel
theorem dX10_harmIn_5 : decode cX10_harmIn 5 = .ok (.aload_n 0, 1) := by decide +kernel
theorem dX10_harmIn_6 : decode cX10_harmIn 6 = .ok (.getfield 26, 3) := by decide +kernel
theorem dX10_harmIn_9 : decode cX10_harmIn 9 = .ok (.if_icmp .ge 26, 3) := by decide +kernel
theorem dX10_harmIn_12 : decode cX10_harmIn 12 = .ok (.iload_n 1, 1) := by decide +kernel
theorem dX10_harmIn_13 : decode cX10_harmIn 13 = .ok (.iload_n 3, 1) := by decide +kernel
theorem dX10_harmIn_14 : decode cX10_harmIn 14 = .ok (.ishr, 1) := by decide +kernel
theorem dX10_harmIn_15 : decode cX10_harmIn 15 = .ok (.iconst 1, 1) := by decide +kernel
theorem dX10_harmIn_16 : decode cX10_harmIn 16 = .ok (.iand, 1) := by decide +kernel
theorem dX10_harmIn_17 : decode cX10_harmIn 17 = .ok (.ifCond .ne 12, 3) := by decide +kernel
theorem dX10_harmIn_20 : decode cX10_harmIn 20 = .ok (.iload_n 2, 1) := by decide +kernel
theorem dX10_harmIn_21 : decode cX10_harmIn 21 = .ok (.aload_n 0, 1) := by decide +kernel
theorem dX10_harmIn_22 : decode cX10_harmIn 22 = .ok (.getfield 15, 3) := by decide +kernel
theorem dX10_harmIn_25 : decode cX10_harmIn 25 = .ok (.iload_n 3, 1) := by decide +kernel
theorem dX10_harmIn_26 : decode cX10_harmIn 26 = .ok (.iaload, 1) := by decide +kernel
theorem dX10_harmIn_27 : decode cX10_harmIn 27 = .ok (.ior, 1) := by decide +kernel
theorem dX10_harmIn_28 : decode cX10_harmIn 28 = .ok (.istore_n 2, 1) := by decide +kernel
theorem dX10_harmIn_29 : decode cX10_harmIn 29 = .ok (.iinc 3 1, 3) := by decide +kernel
theorem dX10_harmIn_32 : decode cX10_harmIn 32 = .ok (.goto (-28), 3) := by decide +kernel
theorem dX10_harmIn_35 : decode cX10_harmIn 35 = .ok (.iload_n 2, 1) := by decide +kernel
theorem dX10_harmIn_36 : decode cX10_harmIn 36 = .ok (.ireturn, 1) := by decide +kernel
abbrev o_X10_harmIn_q120 : Type := Int32
def f_X10_harmIn_q120_L4 (S : wd_W) (p1 : Int32) (r3 : (Int32) → (Int32) → (Option o_X10_harmIn_q120)) (x1 : Int32) (x2 : Int32) : Option o_X10_harmIn_q120 :=
if (S.1 12000) ≤ x2 then (
some x1) else (
lk (fun x4 =>
r3 x4 (x2 + (1 : Int32))) fun k29_5 =>
if ((p1 >>> (x2 &&& 31)) &&& (1 : Int32)) = 0 then (
gd (okx x2 15) <|
lz (x1 ||| ((S.2.2.1 122) x2.toNatClampNeg)) fun x7 =>
k29_5 x7) else (
k29_5 x1))
def f_X10_harmIn_q120 (S : wd_W) (p1 : Int32) : Option o_X10_harmIn_q120 :=
it2 (f_X10_harmIn_q120_L4 S p1) fuel (0 : Int32) (0 : Int32)
set_option maxRecDepth 100000 in
set_option maxHeartbeats 4000000 in
theorem c_X10_harmIn_q120 (l : Launch) (D : va_G) (q g : Nat → Nat) (cy : Nat → ClassId) (z : (Nat → Nat) × (Nat → Nat) × Nat) (S : wd_W) (p1 : Int32) (o : o_X10_harmIn_q120) (hf : f_X10_harmIn_q120 S p1 = some o) : MX layX l yX10_harmIn cX10_harmIn 4 (some .int) ({ frames := 0, cells := 0, slots := 0, locals := 0 } : Room) D q g cy z [.ref (q 120), .int p1] S false (some (.int o)) (wd_o S [] [] [] [] []) 0 0 := by
  refine mx_of (own := RX10) (lc := [(0, .ref (q 120)), (1, .int p1)]) (by decide +kernel) rfl layX_ok (Nat.le_of_ble_eq_true rfl) rfl ?_
  intro X hXl hXq hXz hC hQ
  subst hXl; subst hXq; subst hXz
  unfold f_X10_harmIn_q120 at hf
  refine go_iconst (pc' := 1) hC dX10_harmIn_0 ki_0 rfl ?_
  refine go_istore_n (lc' := [(0, .ref (x_q X 120)), (1, .int p1), (2, .int (0 : Int32))]) (pc' := 2) hC dX10_harmIn_1 (Nat.le_of_ble_eq_true rfl) rfl rfl ?_
  refine go_iconst (pc' := 3) hC dX10_harmIn_2 ki_0 rfl ?_
  refine go_istore_n (lc' := [(0, .ref (x_q X 120)), (1, .int p1), (2, .int (0 : Int32)), (3, .int (0 : Int32))]) (pc' := 4) hC dX10_harmIn_3 (Nat.le_of_ble_eq_true rfl) rfl rfl ?_
  have l4_10 : ∀ (nn : Nat) (x1 : Int32) (x2 : Int32), it2 (f_X10_harmIn_q120_L4 S p1) nn x1 x2 = some o → Go X layX S 4 [(0, .ref (x_q X 120)), (1, .int p1), (2, .int x1), (3, .int x2)] [] g [] [] [] [] [] 0 0 := by
    intro nn
    induction nn with
    | zero =>
      intro x1 x2 hf
      exact none_no hf
    | succ nn ih =>
      intro x1 x2 hf
      have hf : f_X10_harmIn_q120_L4 S p1 (it2 (f_X10_harmIn_q120_L4 S p1) nn) x1 x2 = some o := hf
      generalize it2 (f_X10_harmIn_q120_L4 S p1) nn = r3 at ih hf
      unfold f_X10_harmIn_q120_L4 at hf
      refine go_iload_n (pc' := 5) hC dX10_harmIn_4 rfl rfl ?_
      refine go_aload_n (pc' := 6) hC dX10_harmIn_5 rfl rfl ?_
      refine go_geti (v := (S.1 12000)) (pc' := 9) hC 120 0 layX_120 rfl rfl inlX10 (Nat.le_of_ble_eq_true rfl) mw_637 rfl dX10_harmIn_6 rfl rfl ?_
      refine go_icmp_ge (tgt := 35) (pc' := 12) hC dX10_harmIn_9 (by decide) rfl (fun h9 => ?_) (fun h9 => ?_)
      · have hf := ite_t h9 hf
        refine go_iload_n (pc' := 36) hC dX10_harmIn_35 rfl rfl ?_
        obtain rfl := Option.some.inj hf
        exact go_iret hC hQ dX10_harmIn_36 rfl rfl rfl rfl (fun _ => rfl) rfl rfl
      · have hf := ite_f h9 hf
        refine go_iload_n (pc' := 13) hC dX10_harmIn_12 rfl rfl ?_
        refine go_iload_n (pc' := 14) hC dX10_harmIn_13 rfl rfl ?_
        refine go_ishr (pc' := 15) hC dX10_harmIn_14 rfl ?_
        refine go_iconst (pc' := 16) hC dX10_harmIn_15 ki_1 rfl ?_
        refine go_iand (pc' := 17) hC dX10_harmIn_16 rfl ?_
        obtain ⟨k29_5, hk29_5, hf⟩ := lk_e1 hf
        have jk29_5 : ∀ (x4 : Int32), k29_5 x4 = some o → Go X layX S 29 [(0, .ref (x_q X 120)), (1, .int p1), (2, .int x4), (3, .int x2)] [] g [] [] [] [] [] 0 0 := by
          intro x4 hf
          have hf := hk29_5 x4 hf
          clear hk29_5
          refine go_iinc (lc' := [(0, .ref (x_q X 120)), (1, .int p1), (2, .int x4), (3, .int (x2 + (1 : Int32)))]) (pc' := 32) hC dX10_harmIn_29 rfl ki_1 (Nat.le_of_ble_eq_true rfl) rfl rfl ?_
          refine go_goto (tgt := 4) hC dX10_harmIn_32 (by decide) ?_
          exact ih x4 (x2 + (1 : Int32)) hf
        clear hk29_5
        refine go_if_ne (tgt := 29) (pc' := 20) hC dX10_harmIn_17 (by decide) rfl (fun h8 => ?_) (fun h8 => ?_)
        · have hf := ite_f h8 hf
          exact jk29_5 x1 hf
        · have hf := ite_t h8 hf
          refine go_iload_n (pc' := 21) hC dX10_harmIn_20 rfl rfl ?_
          refine go_aload_n (pc' := 22) hC dX10_harmIn_21 rfl rfl ?_
          refine go_getq (pc' := 25) hC 120 2 layX_120 rfl rfl inlX10 (Nat.le_of_ble_eq_true rfl) mw_121 rfl dX10_harmIn_22 rfl ?_
          refine go_iload_n (pc' := 26) hC dX10_harmIn_25 rfl rfl ?_
          obtain ⟨h6, hf⟩ := gd_e hf
          refine go_iald (f := (S.2.2.1 122)) (pc' := 27) hC 122 layX_122 rfl rfl dX10_harmIn_26 (okx_in h6) rfl ?_
          refine go_ior (pc' := 28) hC dX10_harmIn_27 rfl ?_
          refine go_namei (fun x7 hx => ?_)
          have hf := lz_r hx hf
          clear hx
          refine go_istore_n (lc' := [(0, .ref (x_q X 120)), (1, .int p1), (2, .int x7), (3, .int x2)]) (pc' := 29) hC dX10_harmIn_28 (Nat.le_of_ble_eq_true rfl) rfl rfl ?_
          exact jk29_5 x7 hf
  exact l4_10 fuel (0 : Int32) (0 : Int32) hf
abbrev o_X10_product_q120 : Type := Int64
def f_X10_product_q120_L5 (S : wd_W) (p1 : Int32) (r3 : (Int64) → (Int32) → (Option o_X10_product_q120)) (x1 : Int64) (x2 : Int32) : Option o_X10_product_q120 :=
if (S.1 12000) ≤ x2 then (
some x1) else (
lk (fun x4 x5 =>
lz (x5 * x4) fun x7 =>
r3 x7 (x2 + (1 : Int32))) fun k46_6 =>
if ((p1 >>> (x2 &&& 31)) &&& (1 : Int32)) = 0 then (
gd (okx x2 15) <|
k46_6 (((16 : Int32) - ((S.2.2.1 121) x2.toNatClampNeg)).toInt64) x1) else (
gd (okx x2 15) <|
k46_6 (((S.2.2.1 121) x2.toNatClampNeg).toInt64) x1))
def f_X10_product_q120 (S : wd_W) (p1 : Int32) (p2 : Int32) : Option o_X10_product_q120 :=
it2 (f_X10_product_q120_L5 S p1) fuel (1 : Int64) p2
set_option maxRecDepth 100000 in
set_option maxHeartbeats 4000000 in
theorem c_X10_product_q120 (l : Launch) (D : va_G) (q g : Nat → Nat) (cy : Nat → ClassId) (z : (Nat → Nat) × (Nat → Nat) × Nat) (S : wd_W) (p1 : Int32) (p2 : Int32) (o : o_X10_product_q120) (hf : f_X10_product_q120 S p1 p2 = some o) : MX layX l yX10_product cX10_product 6 (some .long) ({ frames := 0, cells := 0, slots := 0, locals := 0 } : Room) D q g cy z [.ref (q 120), .int p1, .int p2] S false (some (.long o)) (wd_o S [] [] [] [] []) 0 0 := by
  refine mx_of (own := RX10) (lc := [(0, .ref (q 120)), (1, .int p1), (2, .int p2)]) (by decide +kernel) rfl layX_ok (Nat.le_of_ble_eq_true rfl) rfl ?_
  intro X hXl hXq hXz hC hQ
  subst hXl; subst hXq; subst hXz
  unfold f_X10_product_q120 at hf
  refine go_lconst (pc' := 1) hC dX10_product_0 kl_1 rfl ?_
  refine go_lstore_n (lc' := [(0, .ref (x_q X 120)), (1, .int p1), (2, .int p2), (3, .long (1 : Int64))]) (pc' := 2) hC dX10_product_1 (Nat.le_of_ble_eq_true rfl) rfl rfl ?_
  refine go_iload_n (pc' := 3) hC dX10_product_2 rfl rfl ?_
  refine go_istore (lc' := [(0, .ref (x_q X 120)), (1, .int p1), (2, .int p2), (3, .long (1 : Int64)), (5, .int p2)]) (pc' := 5) hC dX10_product_3 (Nat.le_of_ble_eq_true rfl) rfl rfl ?_
  have l5_12 : ∀ (nn : Nat) (x1 : Int64) (x2 : Int32), it2 (f_X10_product_q120_L5 S p1) nn x1 x2 = some o → Go X layX S 5 [(0, .ref (x_q X 120)), (1, .int p1), (3, .long x1), (5, .int x2)] [] g [] [] [] [] [] 0 0 := by
    intro nn
    induction nn with
    | zero =>
      intro x1 x2 hf
      exact none_no hf
    | succ nn ih =>
      intro x1 x2 hf
      have hf : f_X10_product_q120_L5 S p1 (it2 (f_X10_product_q120_L5 S p1) nn) x1 x2 = some o := hf
      generalize it2 (f_X10_product_q120_L5 S p1) nn = r3 at ih hf
      unfold f_X10_product_q120_L5 at hf
      refine go_iload (pc' := 7) hC dX10_product_5 rfl rfl ?_
      refine go_aload_n (pc' := 8) hC dX10_product_7 rfl rfl ?_
      refine go_geti (v := (S.1 12000)) (pc' := 11) hC 120 0 layX_120 rfl rfl inlX10 (Nat.le_of_ble_eq_true rfl) mw_637 rfl dX10_product_8 rfl rfl ?_
      refine go_icmp_ge (tgt := 54) (pc' := 14) hC dX10_product_11 (by decide) rfl (fun h11 => ?_) (fun h11 => ?_)
      · have hf := ite_t h11 hf
        refine go_lload_n (pc' := 55) hC dX10_product_54 rfl rfl ?_
        obtain rfl := Option.some.inj hf
        exact go_lret hC hQ dX10_product_55 rfl rfl rfl (fun _ => rfl) rfl rfl
      · have hf := ite_f h11 hf
        refine go_lload_n (pc' := 15) hC dX10_product_14 rfl rfl ?_
        refine go_iload_n (pc' := 16) hC dX10_product_15 rfl rfl ?_
        refine go_iload (pc' := 18) hC dX10_product_16 rfl rfl ?_
        refine go_ishr (pc' := 19) hC dX10_product_18 rfl ?_
        refine go_iconst (pc' := 20) hC dX10_product_19 ki_1 rfl ?_
        refine go_iand (pc' := 21) hC dX10_product_20 rfl ?_
        obtain ⟨k46_6, hk46_6, hf⟩ := lk_e2 hf
        have jk46_6 : ∀ (x4 : Int64) (x5 : Int64), k46_6 x4 x5 = some o → Go X layX S 46 [(0, .ref (x_q X 120)), (1, .int p1), (5, .int x2)] [.long x4, .long x5] g [] [] [] [] [] 0 0 := by
          intro x4 x5 hf
          have hf := hk46_6 x4 x5 hf
          clear hk46_6
          refine go_lmul (pc' := 47) hC dX10_product_46 rfl ?_
          refine go_namel (fun x7 hx => ?_)
          have hf := lz_r hx hf
          clear hx
          refine go_lstore_n (lc' := [(0, .ref (x_q X 120)), (1, .int p1), (3, .long x7), (5, .int x2)]) (pc' := 48) hC dX10_product_47 (Nat.le_of_ble_eq_true rfl) rfl rfl ?_
          refine go_iinc (lc' := [(0, .ref (x_q X 120)), (1, .int p1), (3, .long x7), (5, .int (x2 + (1 : Int32)))]) (pc' := 51) hC dX10_product_48 rfl ki_1 (Nat.le_of_ble_eq_true rfl) rfl rfl ?_
          refine go_goto (tgt := 5) hC dX10_product_51 (by decide) ?_
          exact ih x7 (x2 + (1 : Int32)) hf
        clear hk46_6
        refine go_if_eq (tgt := 35) (pc' := 24) hC dX10_product_21 (by decide) rfl (fun h10 => ?_) (fun h10 => ?_)
        · have hf := ite_t h10 hf
          refine go_bipush (pc' := 37) hC dX10_product_35 kb_16 rfl ?_
          refine go_aload_n (pc' := 38) hC dX10_product_37 rfl rfl ?_
          refine go_getq (pc' := 41) hC 120 1 layX_120 rfl rfl inlX10 (Nat.le_of_ble_eq_true rfl) mw_120 rfl dX10_product_38 rfl ?_
          refine go_iload (pc' := 43) hC dX10_product_41 rfl rfl ?_
          obtain ⟨h8, hf⟩ := gd_e hf
          refine go_iald (f := (S.2.2.1 121)) (pc' := 44) hC 121 layX_121 rfl rfl dX10_product_43 (okx_in h8) rfl ?_
          refine go_isub (pc' := 45) hC dX10_product_44 rfl ?_
          refine go_i2l (pc' := 46) hC dX10_product_45 rfl ?_
          refine go_sub [0, 1, 5] rfl ?_
          exact jk46_6 (((16 : Int32) - ((S.2.2.1 121) x2.toNatClampNeg)).toInt64) x1 hf
        · have hf := ite_f h10 hf
          refine go_aload_n (pc' := 25) hC dX10_product_24 rfl rfl ?_
          refine go_getq (pc' := 28) hC 120 1 layX_120 rfl rfl inlX10 (Nat.le_of_ble_eq_true rfl) mw_120 rfl dX10_product_25 rfl ?_
          refine go_iload (pc' := 30) hC dX10_product_28 rfl rfl ?_
          obtain ⟨h9, hf⟩ := gd_e hf
          refine go_iald (f := (S.2.2.1 121)) (pc' := 31) hC 121 layX_121 rfl rfl dX10_product_30 (okx_in h9) rfl ?_
          refine go_i2l (pc' := 32) hC dX10_product_31 rfl ?_
          refine go_goto (tgt := 46) hC dX10_product_32 (by decide) ?_
          refine go_sub [0, 1, 5] rfl ?_
          exact jk46_6 (((S.2.2.1 121) x2.toNatClampNeg).toInt64) x1 hf
  refine go_sub [0, 1, 3, 5] rfl ?_
  exact l5_12 fuel (1 : Int64) p2 hf
theorem dX8_throughApart_0 : decode cX8_throughApart 0 = .ok (.aload_n 0, 1) := by decide +kernel
theorem dX8_throughApart_1 : decode cX8_throughApart 1 = .ok (.getfield 44, 3) := by decide +kernel
theorem dX8_throughApart_4 : decode cX8_throughApart 4 = .ok (.iconst 1, 1) := by decide +kernel
theorem dX8_throughApart_5 : decode cX8_throughApart 5 = .ok (.invokevirtual 56, 3) := by decide +kernel
theorem dX8_throughApart_8 : decode cX8_throughApart 8 = .ok (.lconst 0, 1) := by decide +kernel
theorem dX8_throughApart_9 : decode cX8_throughApart 9 = .ok (.lstore_n 1, 1) := by decide +kernel
theorem dX8_throughApart_10 : decode cX8_throughApart 10 = .ok (.iconst 0, 1) := by decide +kernel
theorem dX8_throughApart_11 : decode cX8_throughApart 11 = .ok (.istore_n 3, 1) := by decide +kernel
theorem dX8_throughApart_12 : decode cX8_throughApart 12 = .ok (.iload_n 3, 1) := by decide +kernel
theorem dX8_throughApart_13 : decode cX8_throughApart 13 = .ok (.iconst 1, 1) := by decide +kernel
theorem dX8_throughApart_14 : decode cX8_throughApart 14 = .ok (.aload_n 0, 1) := by decide +kernel
theorem dX8_throughApart_15 : decode cX8_throughApart 15 = .ok (.getfield 44, 3) := by decide +kernel
theorem dX8_throughApart_18 : decode cX8_throughApart 18 = .ok (.getfield 60, 3) := by decide +kernel
theorem dX8_throughApart_21 : decode cX8_throughApart 21 = .ok (.ishl, 1) := by decide +kernel
theorem dX8_throughApart_22 : decode cX8_throughApart 22 = .ok (.if_icmp .ge 36, 3) := by decide +kernel
theorem dX8_throughApart_25 : decode cX8_throughApart 25 = .ok (.aload_n 0, 1) := by decide +kernel
theorem dX8_throughApart_26 : decode cX8_throughApart 26 = .ok (.aload_n 0, 1) := by decide +kernel
theorem dX8_throughApart_27 : decode cX8_throughApart 27 = .ok (.getfield 44, 3) := by decide +kernel
theorem dX8_throughApart_30 : decode cX8_throughApart 30 = .ok (.iload_n 3, 1) := by decide +kernel
theorem dX8_throughApart_31 : decode cX8_throughApart 31 = .ok (.invokevirtual 123, 3) := by decide +kernel
theorem dX8_throughApart_34 : decode cX8_throughApart 34 = .ok (.invokevirtual 97, 3) := by decide +kernel
theorem dX8_throughApart_37 : decode cX8_throughApart 37 = .ok (.ifCond .eq 15, 3) := by decide +kernel
theorem dX8_throughApart_40 : decode cX8_throughApart 40 = .ok (.lload_n 1, 1) := by decide +kernel
theorem dX8_throughApart_41 : decode cX8_throughApart 41 = .ok (.aload_n 0, 1) := by decide +kernel
theorem dX8_throughApart_42 : decode cX8_throughApart 42 = .ok (.getfield 44, 3) := by decide +kernel
theorem dX8_throughApart_45 : decode cX8_throughApart 45 = .ok (.iload_n 3, 1) := by decide +kernel
theorem dX8_throughApart_46 : decode cX8_throughApart 46 = .ok (.iconst 0, 1) := by decide +kernel
theorem dX8_throughApart_47 : decode cX8_throughApart 47 = .ok (.invokevirtual 126, 3) := by decide +kernel
theorem dX8_throughApart_50 : decode cX8_throughApart 50 = .ok (.ladd, 1) := by decide +kernel
theorem dX8_throughApart_51 : decode cX8_throughApart 51 = .ok (.lstore_n 1, 1) := by decide +kernel
theorem dX8_throughApart_52 : decode cX8_throughApart 52 = .ok (.iinc 3 1, 3) := by decide +kernel
theorem dX8_throughApart_55 : decode cX8_throughApart 55 = .ok (.goto (-43), 3) := by decide +kernel
theorem dX8_throughApart_58 : decode cX8_throughApart 58 = .ok (.lload_n 1, 1) := by decide +kernel
theorem dX8_throughApart_59 : decode cX8_throughApart 59 = .ok (.lreturn, 1) := by decide +kernel
abbrev o_X8_throughApart_q106 : Type := Int64 × Int32 × (Nat → Int32) × (Nat → Int32)
def f_X8_throughApart_q106_L12 (S : wd_W) (o1 : o_X10_take_q120) (r4 : (Int64) → (Int32) → (Option o_X8_throughApart_q106)) (x2 : Int64) (x3 : Int32) : Option o_X8_throughApart_q106 :=
if ((1 : Int32) <<< (o1.1 &&& 31)) ≤ x3 then (
some (x2, o1.1, o1.2.1, o1.2.2)) else (
bd (f_X10_harmIn_q120 (wd_o S [(12000, o1.1)] [] [(121, o1.2.1), (122, o1.2.2)] [] []) x3) fun o5 =>
bd (f_X8_isThroughAfter_q106 (wd_o S [(12000, o1.1)] [] [(121, o1.2.1), (122, o1.2.2)] [] []) o5) fun o6 =>
lk (fun x7 =>
r4 x7 (x3 + (1 : Int32))) fun k52_8 =>
if o6 = 0 then (
k52_8 x2) else (
bd (f_X10_product_q120 (wd_o S [(12000, o1.1)] [] [(121, o1.2.1), (122, o1.2.2)] [] []) x3 (0 : Int32)) fun o9 =>
lz (x2 + o9) fun x10 =>
k52_8 x10))
def f_X8_throughApart_q106 (S : wd_W) : Option o_X8_throughApart_q106 :=
bd (f_X10_take_q120 (wd_o S [(12000, (S.1 12000))] [] [(121, (S.2.2.1 121)), (122, (S.2.2.1 122))] [] []) (1 : Int32)) fun o1 =>
it2 (f_X8_throughApart_q106_L12 S o1) fuel (0 : Int64) (0 : Int32)
set_option maxRecDepth 100000 in
set_option maxHeartbeats 4000000 in
theorem c_X8_throughApart_q106 (l : Launch) (D : va_G) (q g : Nat → Nat) (cy : Nat → ClassId) (z : (Nat → Nat) × (Nat → Nat) × Nat) (S : wd_W) (o : o_X8_throughApart_q106) (hf : f_X8_throughApart_q106 S = some o) : MX layX l yX8_throughApart cX8_throughApart 4 (some .long) ({ frames := 3, cells := 0, slots := 0, locals := 71 } : Room) D q g cy z [.ref (q 106)] S false (some (.long o.1)) (wd_o S [(12000, o.2.1)] [] [(121, o.2.2.1), (122, o.2.2.2)] [] []) 0 0 := by
  refine mx_of (own := RX8) (lc := [(0, .ref (q 106))]) (by decide +kernel) rfl layX_ok (Nat.le_of_ble_eq_true rfl) rfl ?_
  intro X hXl hXq hXz hC hQ
  subst hXl; subst hXq; subst hXz
  unfold f_X8_throughApart_q106 at hf
  refine go_keys (L1 := [(12000, (S.1 12000))]) (L2 := []) (L3 := [(121, (S.2.2.1 121)), (122, (S.2.2.1 122))]) (L4 := []) (L5 := []) [12000] [] [121, 122] [] [] rfl rfl rfl rfl rfl ?_
  refine go_aload_n (pc' := 1) hC dX8_throughApart_0 rfl rfl ?_
  refine go_getq (pc' := 4) hC 106 8 layX_106 rfl rfl inlX8 (Nat.le_of_ble_eq_true rfl) mw_105 rfl dX8_throughApart_1 rfl ?_
  refine go_iconst (pc' := 5) hC dX8_throughApart_4 ki_1 rfl ?_
  obtain ⟨o1, ho1, hf⟩ := bd_e hf
  refine go_callV1 (pc' := 8) (As := [.int (1 : Int32)]) (st := []) (st' := []) (L1' := [(12000, o1.1)]) (L2' := []) (L3' := [(121, o1.2.1), (122, o1.2.2)]) (L4' := []) (L5' := []) (cells' := 0) (slots' := 0)  (b := 120) hC dX8_throughApart_5 ⟨mw_633, mw_636, mw_103, yd_yX10_take, yp_yX10_take, Nat.le_of_ble_eq_true rfl, Nat.le_of_ble_eq_true rfl, (Nat.le_of_ble_eq_true rfl), (Nat.le_of_ble_eq_true rfl)⟩ mw_634 mw_635 layX_120 rfl rfl rfl (Nat.le_of_ble_eq_true rfl) (c_X10_take_q120 (x_l X) (x_D X) (x_q X) g (x_cy X) (x_z X) _ (1 : Int32) o1 ho1) rfl rfl rfl rfl rfl rfl rfl rfl rfl rfl rfl rfl rfl rfl ?_
  refine go_lconst (pc' := 9) hC dX8_throughApart_8 kl_0 rfl ?_
  refine go_lstore_n (lc' := [(0, .ref (x_q X 106)), (1, .long (0 : Int64))]) (pc' := 10) hC dX8_throughApart_9 (Nat.le_of_ble_eq_true rfl) rfl rfl ?_
  refine go_iconst (pc' := 11) hC dX8_throughApart_10 ki_0 rfl ?_
  refine go_istore_n (lc' := [(0, .ref (x_q X 106)), (1, .long (0 : Int64)), (3, .int (0 : Int32))]) (pc' := 12) hC dX8_throughApart_11 (Nat.le_of_ble_eq_true rfl) rfl rfl ?_
  have l12_13 : ∀ (nn : Nat) (x2 : Int64) (x3 : Int32), it2 (f_X8_throughApart_q106_L12 S o1) nn x2 x3 = some o → Go X layX S 12 [(0, .ref (x_q X 106)), (1, .long x2), (3, .int x3)] [] g [(12000, o1.1)] [] [(121, o1.2.1), (122, o1.2.2)] [] [] 0 0 := by
    intro nn
    induction nn with
    | zero =>
      intro x2 x3 hf
      exact none_no hf
    | succ nn ih =>
      intro x2 x3 hf
      have hf : f_X8_throughApart_q106_L12 S o1 (it2 (f_X8_throughApart_q106_L12 S o1) nn) x2 x3 = some o := hf
      generalize it2 (f_X8_throughApart_q106_L12 S o1) nn = r4 at ih hf
      unfold f_X8_throughApart_q106_L12 at hf
      refine go_iload_n (pc' := 13) hC dX8_throughApart_12 rfl rfl ?_
      refine go_iconst (pc' := 14) hC dX8_throughApart_13 ki_1 rfl ?_
      refine go_aload_n (pc' := 15) hC dX8_throughApart_14 rfl rfl ?_
      refine go_getq (pc' := 18) hC 106 8 layX_106 rfl rfl inlX8 (Nat.le_of_ble_eq_true rfl) mw_105 rfl dX8_throughApart_15 rfl ?_
      refine go_geti (v := o1.1) (pc' := 21) hC 120 0 layX_120 rfl rfl inlX10 (Nat.le_of_ble_eq_true rfl) mw_609 rfl dX8_throughApart_18 rfl rfl ?_
      refine go_ishl (pc' := 22) hC dX8_throughApart_21 rfl ?_
      refine go_icmp_ge (tgt := 58) (pc' := 25) hC dX8_throughApart_22 (by decide) rfl (fun h12 => ?_) (fun h12 => ?_)
      · have hf := ite_t h12 hf
        refine go_lload_n (pc' := 59) hC dX8_throughApart_58 rfl rfl ?_
        obtain rfl := Option.some.inj hf
        exact go_lret hC hQ dX8_throughApart_59 rfl rfl rfl (fun _ => rfl) rfl rfl
      · have hf := ite_f h12 hf
        refine go_aload_n (pc' := 26) hC dX8_throughApart_25 rfl rfl ?_
        refine go_aload_n (pc' := 27) hC dX8_throughApart_26 rfl rfl ?_
        refine go_getq (pc' := 30) hC 106 8 layX_106 rfl rfl inlX8 (Nat.le_of_ble_eq_true rfl) mw_105 rfl dX8_throughApart_27 rfl ?_
        refine go_iload_n (pc' := 31) hC dX8_throughApart_30 rfl rfl ?_
        obtain ⟨o5, ho5, hf⟩ := bd_e hf
        refine go_callV0 (pc' := 34) (As := [.int x3]) (st := [.ref (x_q X 106)]) (st' := [.int o5, .ref (x_q X 106)])    (b := 120) hC dX8_throughApart_31 ⟨mw_1409, mw_1412, mw_103, yd_yX10_harmIn, yp_yX10_harmIn, Nat.le_of_ble_eq_true rfl, Nat.le_of_ble_eq_true rfl, (Nat.le_of_ble_eq_true rfl), (Nat.le_of_ble_eq_true rfl)⟩ mw_1410 mw_1411 layX_120 rfl rfl rfl (Nat.le_of_ble_eq_true rfl) (c_X10_harmIn_q120 (x_l X) (x_D X) (x_q X) g (x_cy X) (x_z X) _ x3 o5 ho5) rfl rfl ?_
        obtain ⟨o6, ho6, hf⟩ := bd_e hf
        refine go_callV0 (pc' := 37) (As := [.int o5]) (st := []) (st' := [.int o6])    (b := 106) hC dX8_throughApart_34 ⟨mw_735, mw_738, mw_31, yd_yX8_isThroughAfter, yp_yX8_isThroughAfter, Nat.le_of_ble_eq_true rfl, Nat.le_of_ble_eq_true rfl, (Nat.le_of_ble_eq_true rfl), (Nat.le_of_ble_eq_true rfl)⟩ mw_736 mw_737 layX_106 rfl rfl rfl (Nat.le_of_ble_eq_true rfl) (c_X8_isThroughAfter_q106 (x_l X) (x_D X) (x_q X) g (x_cy X) (x_z X) _ o5 o6 ho6) rfl rfl ?_
        obtain ⟨k52_8, hk52_8, hf⟩ := lk_e1 hf
        have jk52_8 : ∀ (x7 : Int64), k52_8 x7 = some o → Go X layX S 52 [(0, .ref (x_q X 106)), (1, .long x7), (3, .int x3)] [] g [(12000, o1.1)] [] [(121, o1.2.1), (122, o1.2.2)] [] [] 0 0 := by
          intro x7 hf
          have hf := hk52_8 x7 hf
          clear hk52_8
          refine go_iinc (lc' := [(0, .ref (x_q X 106)), (1, .long x7), (3, .int (x3 + (1 : Int32)))]) (pc' := 55) hC dX8_throughApart_52 rfl ki_1 (Nat.le_of_ble_eq_true rfl) rfl rfl ?_
          refine go_goto (tgt := 12) hC dX8_throughApart_55 (by decide) ?_
          exact ih x7 (x3 + (1 : Int32)) hf
        clear hk52_8
        refine go_if_eq (tgt := 52) (pc' := 40) hC dX8_throughApart_37 (by decide) rfl (fun h11 => ?_) (fun h11 => ?_)
        · have hf := ite_t h11 hf
          exact jk52_8 x2 hf
        · have hf := ite_f h11 hf
          refine go_lload_n (pc' := 41) hC dX8_throughApart_40 rfl rfl ?_
          refine go_aload_n (pc' := 42) hC dX8_throughApart_41 rfl rfl ?_
          refine go_getq (pc' := 45) hC 106 8 layX_106 rfl rfl inlX8 (Nat.le_of_ble_eq_true rfl) mw_105 rfl dX8_throughApart_42 rfl ?_
          refine go_iload_n (pc' := 46) hC dX8_throughApart_45 rfl rfl ?_
          refine go_iconst (pc' := 47) hC dX8_throughApart_46 ki_0 rfl ?_
          obtain ⟨o9, ho9, hf⟩ := bd_e hf
          refine go_callV0 (pc' := 50) (As := [.int x3, .int (0 : Int32)]) (st := [.long x2]) (st' := [.long o9, .long x2])    (b := 120) hC dX8_throughApart_47 ⟨mw_1413, mw_779, mw_103, yd_yX10_product, yp_yX10_product, Nat.le_of_ble_eq_true rfl, Nat.le_of_ble_eq_true rfl, (Nat.le_of_ble_eq_true rfl), (Nat.le_of_ble_eq_true rfl)⟩ mw_777 mw_778 layX_120 rfl rfl rfl (Nat.le_of_ble_eq_true rfl) (c_X10_product_q120 (x_l X) (x_D X) (x_q X) g (x_cy X) (x_z X) _ x3 (0 : Int32) o9 ho9) rfl rfl ?_
          refine go_ladd (pc' := 51) hC dX8_throughApart_50 rfl ?_
          refine go_namel (fun x10 hx => ?_)
          have hf := lz_r hx hf
          clear hx
          refine go_lstore_n (lc' := [(0, .ref (x_q X 106)), (1, .long x10), (3, .int x3)]) (pc' := 52) hC dX8_throughApart_51 (Nat.le_of_ble_eq_true rfl) rfl rfl ?_
          exact jk52_8 x10 hf
  exact l12_13 fuel (0 : Int64) (0 : Int32) hf
theorem dX11_alone_0 : decode cX11_alone 0 = .ok (.aload_n 0, 1) := by decide +kernel
theorem dX11_alone_1 : decode cX11_alone 1 = .ok (.getfield 25, 3) := by decide +kernel
theorem dX11_alone_4 : decode cX11_alone 4 = .ok (.invokevirtual 319, 3) := by decide +kernel
theorem dX11_alone_7 : decode cX11_alone 7 = .ok (.istore_n 2, 1) := by decide +kernel
theorem dX11_alone_8 : decode cX11_alone 8 = .ok (.iload_n 1, 1) := by decide +kernel
theorem dX11_alone_9 : decode cX11_alone 9 = .ok (.ifCond .lt 14, 3) := by decide +kernel
theorem dX11_alone_12 : decode cX11_alone 12 = .ok (.iload_n 1, 1) := by decide +kernel
theorem dX11_alone_13 : decode cX11_alone 13 = .ok (.iconst 1, 1) := by decide +kernel
theorem dX11_alone_14 : decode cX11_alone 14 = .ok (.if_icmp .gt 9, 3) := by decide +kernel
theorem dX11_alone_17 : decode cX11_alone 17 = .ok (.iload_n 2, 1) := by decide +kernel
theorem dX11_alone_18 : decode cX11_alone 18 = .ok (.bipush 15, 2) := by decide +kernel
theorem dX11_alone_20 : decode cX11_alone 20 = .ok (.if_icmp .le 7, 3) := by decide +kernel
theorem dX11_alone_23 : decode cX11_alone 23 = .ok (.ldc2_w 186, 3) := by decide +kernel
theorem dX11_alone_26 : decode cX11_alone 26 = .ok (.lreturn, 1) := by decide +kernel
theorem dX11_alone_27 : decode cX11_alone 27 = .ok (.iload_n 1, 1) := by decide +kernel
theorem dX11_alone_28 : decode cX11_alone 28 = .ok (.iconst 1, 1) := by decide +kernel
theorem dX11_alone_29 : decode cX11_alone 29 = .ok (.if_icmp .ne 10, 3) := by decide +kernel
theorem dX11_alone_32 : decode cX11_alone 32 = .ok (.iload_n 2, 1) := by decide +kernel
theorem dX11_alone_33 : decode cX11_alone 33 = .ok (.invokestatic 182, 3) := by decide +kernel
theorem dX11_alone_36 : decode cX11_alone 36 = .ok (.goto 10, 3) := by decide +kernel
theorem dX11_alone_39 : decode cX11_alone 39 = .ok (.aload_n 0, 1) := by decide +kernel
theorem dX11_alone_40 : decode cX11_alone 40 = .ok (.invokevirtual 171, 3) := by decide +kernel
theorem dX11_alone_43 : decode cX11_alone 43 = .ok (.invokevirtual 322, 3) := by decide +kernel
theorem dX11_alone_46 : decode cX11_alone 46 = .ok (.lreturn, 1) := by decide +kernel
abbrev o_X11_alone : Type := Int64 × wd_W × Nat × Nat
def f_X11_alone (S : wd_W) (p1 : Int32) : Option o_X11_alone :=
bd (f_X2_thingsApart_q16 (wd_o S [] [] [] [] [])) fun o1 =>
if p1 < 0 then (
some ((-1 : Int64), S, 0, 0)) else (
if (1 : Int32) < p1 then (
some ((-1 : Int64), S, 0, 0)) else (
if o1 ≤ (15 : Int32) then (
if p1 = (1 : Int32) then (
bd (f_X8_power o1) fun o5 =>
some (o5, S, 0, 0)) else (
bd (f_X11_knownSets (wd_o S [] [] [] [] [])) fun o2 =>
gd (okr (0 + o2.2.1) (0 + o2.2.2) 0 0 40 500000) <|
bd (f_X8_throughApart_q106 (wd_o o2.1 [(12000, (o2.1.1 12000))] [] [(121, (o2.1.2.2.1 121)), (122, (o2.1.2.2.1 122))] [] [])) fun o3 =>
some (o3.1, (wd_o o2.1 [(12000, o3.2.1)] [] [(121, o3.2.2.1), (122, o3.2.2.2)] [] []), 0 + o2.2.1, 0 + o2.2.2))) else (
some ((-1 : Int64), S, 0, 0))))
set_option maxRecDepth 100000 in
set_option maxHeartbeats 4000000 in
theorem c_X11_alone (l : Launch) (D : va_G) (q g : Nat → Nat) (cy : Nat → ClassId) (z : (Nat → Nat) × (Nat → Nat) × Nat) (S : wd_W) (p1 : Int32) (o : o_X11_alone) (hf : f_X11_alone S p1 = some o) : MX layX l yX11_alone cX11_alone 3 (some .long) ({ frames := 6, cells := 40, slots := 500000, locals := 147 } : Room) D q g cy z [.ref (q 0), .int p1] S true (some (.long o.1)) o.2.1 o.2.2.1 o.2.2.2 := by
  refine mx_of (own := RX11) (lc := [(0, .ref (q 0)), (1, .int p1)]) (by decide +kernel) rfl layX_ok (Nat.le_of_ble_eq_true rfl) rfl ?_
  intro X hXl hXq hXz hC hQ
  subst hXl; subst hXq; subst hXz
  unfold f_X11_alone at hf
  refine go_aload_n (pc' := 1) hC dX11_alone_0 rfl rfl ?_
  refine go_getq (pc' := 4) hC 0 2 layX_0 rfl rfl inlX11 (Nat.le_of_ble_eq_true rfl) mw_20 rfl dX11_alone_1 rfl ?_
  obtain ⟨o1, ho1, hf⟩ := bd_e hf
  refine go_callV0 (pc' := 7) (As := []) (st := []) (st' := [.int o1])    (b := 16) hC dX11_alone_4 ⟨mw_1400, mw_1403, mw_14, yd_yX2_thingsApart, yp_yX2_thingsApart, Nat.le_of_ble_eq_true rfl, Nat.le_of_ble_eq_true rfl, (Nat.le_of_ble_eq_true rfl), (Nat.le_of_ble_eq_true rfl)⟩ mw_1401 mw_1402 layX_16 rfl rfl rfl (Nat.le_of_ble_eq_true rfl) (c_X2_thingsApart_q16 (x_l X) (x_D X) (x_q X) g (x_cy X) (x_z X) _  o1 ho1) rfl rfl ?_
  refine go_istore_n (lc' := [(0, .ref (x_q X 0)), (1, .int p1), (2, .int o1)]) (pc' := 8) hC dX11_alone_7 (Nat.le_of_ble_eq_true rfl) rfl rfl ?_
  refine go_iload_n (pc' := 9) hC dX11_alone_8 rfl rfl ?_
  refine go_if_lt (tgt := 23) (pc' := 12) hC dX11_alone_9 (by decide) rfl (fun h9 => ?_) (fun h9 => ?_)
  · have hf := ite_t h9 hf
    refine go_ldc2 (pc' := 26) hC dX11_alone_23 mw_909 rfl ?_
    obtain rfl := Option.some.inj hf
    exact go_lret hC hQ dX11_alone_26 rfl rfl rfl (fun h => nomatch h) rfl rfl
  · have hf := ite_f h9 hf
    refine go_iload_n (pc' := 13) hC dX11_alone_12 rfl rfl ?_
    refine go_iconst (pc' := 14) hC dX11_alone_13 ki_1 rfl ?_
    refine go_icmp_gt (tgt := 23) (pc' := 17) hC dX11_alone_14 (by decide) rfl (fun h8 => ?_) (fun h8 => ?_)
    · have hf := ite_t h8 hf
      refine go_ldc2 (pc' := 26) hC dX11_alone_23 mw_909 rfl ?_
      obtain rfl := Option.some.inj hf
      exact go_lret hC hQ dX11_alone_26 rfl rfl rfl (fun h => nomatch h) rfl rfl
    · have hf := ite_f h8 hf
      refine go_iload_n (pc' := 18) hC dX11_alone_17 rfl rfl ?_
      refine go_bipush (pc' := 20) hC dX11_alone_18 kb_15 rfl ?_
      refine go_icmp_le (tgt := 27) (pc' := 23) hC dX11_alone_20 (by decide) rfl (fun h7 => ?_) (fun h7 => ?_)
      · have hf := ite_t h7 hf
        refine go_iload_n (pc' := 28) hC dX11_alone_27 rfl rfl ?_
        refine go_iconst (pc' := 29) hC dX11_alone_28 ki_1 rfl ?_
        refine go_icmp_ne (tgt := 39) (pc' := 32) hC dX11_alone_29 (by decide) rfl (fun h6 => ?_) (fun h6 => ?_)
        · have hf := ite_f h6 hf
          refine go_aload_n (pc' := 40) hC dX11_alone_39 rfl rfl ?_
          obtain ⟨o2, ho2, hf⟩ := bd_e hf
          refine go_callVw (pc' := 43) (As := []) (st := []) (st' := [.ref (x_q X 106)])  (cells' := 0 + o2.2.1) (slots' := 0 + o2.2.2)  (b := 0) hC dX11_alone_40 ⟨mw_593, mw_596, mw_2, yd_yX11_knownSets, yp_yX11_knownSets, Nat.le_of_ble_eq_true rfl, Nat.le_of_ble_eq_true rfl, (Nat.le_of_ble_eq_true rfl), (Nat.le_of_ble_eq_true rfl)⟩ mw_594 mw_595 layX_0 rfl rfl rfl (Nat.le_of_ble_eq_true rfl) (c_X11_knownSets (x_l X) (x_D X) (x_q X) g (x_cy X) (x_z X) _  o2 ho2) rfl rfl rfl rfl (fun g _ => ?_)
          refine go_keys (L1 := [(12000, (o2.1.1 12000))]) (L2 := []) (L3 := [(121, (o2.1.2.2.1 121)), (122, (o2.1.2.2.1 122))]) (L4 := []) (L5 := []) [12000] [] [121, 122] [] [] rfl rfl rfl rfl rfl ?_
          obtain ⟨h4, hf⟩ := gd_e hf
          obtain ⟨o3, ho3, hf⟩ := bd_e hf
          refine go_callV1 (pc' := 46) (As := []) (st := []) (st' := [.long o3.1]) (L1' := [(12000, o3.2.1)]) (L2' := []) (L3' := [(121, o3.2.2.1), (122, o3.2.2.2)]) (L4' := []) (L5' := []) (cells' := 0 + o2.2.1) (slots' := 0 + o2.2.2) (rc := { frames := 3, cells := 0, slots := 0, locals := 71 }) (b := 106) hC dX11_alone_43 ⟨mw_1405, mw_1408, mw_31, yd_yX8_throughApart, yp_yX8_throughApart, Nat.le_of_ble_eq_true rfl, Nat.le_of_ble_eq_true rfl, (okr_c h4), (okr_s h4)⟩ mw_1406 mw_1407 layX_106 rfl rfl rfl (Nat.le_of_ble_eq_true rfl) (c_X8_throughApart_q106 (x_l X) (x_D X) (x_q X) g (x_cy X) (x_z X) _  o3 ho3) rfl rfl rfl rfl rfl rfl rfl rfl rfl rfl rfl rfl rfl rfl ?_
          obtain rfl := Option.some.inj hf
          exact go_lret hC hQ dX11_alone_46 rfl rfl rfl (fun h => nomatch h) rfl rfl
        · have hf := ite_t h6 hf
          refine go_iload_n (pc' := 33) hC dX11_alone_32 rfl rfl ?_
          obtain ⟨o5, ho5, hf⟩ := bd_e hf
          refine go_callS0 (pc' := 36) (As := [.int o1]) (st := []) (st' := [.long o5])    hC dX11_alone_33 ⟨mw_915, mw_917, mw_31, yd_yX8_power, yp_yX8_power, Nat.le_of_ble_eq_true rfl, Nat.le_of_ble_eq_true rfl, (Nat.le_of_ble_eq_true rfl), (Nat.le_of_ble_eq_true rfl)⟩ mw_916 rfl rfl (Nat.le_of_ble_eq_true rfl) (c_X8_power (x_l X) (x_D X) (x_q X) g (x_cy X) (x_z X) _ o1 o5 ho5) rfl rfl ?_
          refine go_goto (tgt := 46) hC dX11_alone_36 (by decide) ?_
          obtain rfl := Option.some.inj hf
          exact go_lret hC hQ dX11_alone_46 rfl rfl rfl (fun h => nomatch h) rfl rfl
      · have hf := ite_f h7 hf
        refine go_ldc2 (pc' := 26) hC dX11_alone_23 mw_909 rfl ?_
        obtain rfl := Option.some.inj hf
        exact go_lret hC hQ dX11_alone_26 rfl rfl rfl (fun h => nomatch h) rfl rfl
theorem dX8_times_0 : decode cX8_times 0 = .ok (.lconst 1, 1) := by decide +kernel
theorem dX8_times_1 : decode cX8_times 1 = .ok (.lstore_n 2, 1) := by decide +kernel
theorem dX8_times_2 : decode cX8_times 2 = .ok (.iconst 0, 1) := by decide +kernel
theorem dX8_times_3 : decode cX8_times 3 = .ok (.istore 4, 2) := by decide +kernel
theorem dX8_times_5 : decode cX8_times 5 = .ok (.iload 4, 2) := by decide +kernel
theorem dX8_times_7 : decode cX8_times 7 = .ok (.iload_n 1, 1) := by decide +kernel
theorem dX8_times_8 : decode cX8_times 8 = .ok (.if_icmp .ge 14, 3) := by decide +kernel
theorem dX8_times_11 : decode cX8_times 11 = .ok (.lload_n 2, 1) := by decide +kernel
theorem dX8_times_12 : decode cX8_times 12 = .ok (.iload_n 0, 1) := by decide +kernel
theorem dX8_times_13 : decode cX8_times 13 = .ok (.i2l, 1) := by decide +kernel
theorem dX8_times_14 : decode cX8_times 14 = .ok (.lmul, 1) := by decide +kernel
theorem dX8_times_15 : decode cX8_times 15 = .ok (.lstore_n 2, 1) := by decide +kernel
theorem dX8_times_16 : decode cX8_times 16 = .ok (.iinc 4 1, 3) := by decide +kernel
theorem dX8_times_19 : decode cX8_times 19 = .ok (.goto (-14), 3) := by decide +kernel
theorem dX8_times_22 : decode cX8_times 22 = .ok (.lload_n 2, 1) := by decide +kernel
theorem dX8_times_23 : decode cX8_times 23 = .ok (.lreturn, 1) := by decide +kernel
abbrev o_X8_times : Type := Int64
def f_X8_times_L5 (p1 : Int32) (p2 : Int32) (r3 : (Int64) → (Int32) → (Option o_X8_times)) (x1 : Int64) (x2 : Int32) : Option o_X8_times :=
if p2 ≤ x2 then (
some x1) else (
lz (x1 * p1.toInt64) fun x4 =>
r3 x4 (x2 + (1 : Int32)))
def f_X8_times (p1 : Int32) (p2 : Int32) : Option o_X8_times :=
it2 (f_X8_times_L5 p1 p2) fuel (1 : Int64) (0 : Int32)
set_option maxRecDepth 100000 in
set_option maxHeartbeats 4000000 in
theorem c_X8_times (l : Launch) (D : va_G) (q g : Nat → Nat) (cy : Nat → ClassId) (z : (Nat → Nat) × (Nat → Nat) × Nat) (S : wd_W) (p1 : Int32) (p2 : Int32) (o : o_X8_times) (hf : f_X8_times p1 p2 = some o) : MX layX l yX8_times cX8_times 5 (some .long) ({ frames := 0, cells := 0, slots := 0, locals := 0 } : Room) D q g cy z [.int p1, .int p2] S false (some (.long o)) (wd_o S [] [] [] [] []) 0 0 := by
  refine mx_of (own := RX8) (lc := [(0, .int p1), (1, .int p2)]) (by decide +kernel) rfl layX_ok (Nat.le_of_ble_eq_true rfl) rfl ?_
  intro X hXl hXq hXz hC hQ
  subst hXl; subst hXq; subst hXz
  unfold f_X8_times at hf
  refine go_lconst (pc' := 1) hC dX8_times_0 kl_1 rfl ?_
  refine go_lstore_n (lc' := [(0, .int p1), (1, .int p2), (2, .long (1 : Int64))]) (pc' := 2) hC dX8_times_1 (Nat.le_of_ble_eq_true rfl) rfl rfl ?_
  refine go_iconst (pc' := 3) hC dX8_times_2 ki_0 rfl ?_
  refine go_istore (lc' := [(0, .int p1), (1, .int p2), (2, .long (1 : Int64)), (4, .int (0 : Int32))]) (pc' := 5) hC dX8_times_3 (Nat.le_of_ble_eq_true rfl) rfl rfl ?_
  have l5_6 : ∀ (nn : Nat) (x1 : Int64) (x2 : Int32), it2 (f_X8_times_L5 p1 p2) nn x1 x2 = some o → Go X layX S 5 [(0, .int p1), (1, .int p2), (2, .long x1), (4, .int x2)] [] g [] [] [] [] [] 0 0 := by
    intro nn
    induction nn with
    | zero =>
      intro x1 x2 hf
      exact none_no hf
    | succ nn ih =>
      intro x1 x2 hf
      have hf : f_X8_times_L5 p1 p2 (it2 (f_X8_times_L5 p1 p2) nn) x1 x2 = some o := hf
      generalize it2 (f_X8_times_L5 p1 p2) nn = r3 at ih hf
      unfold f_X8_times_L5 at hf
      refine go_iload (pc' := 7) hC dX8_times_5 rfl rfl ?_
      refine go_iload_n (pc' := 8) hC dX8_times_7 rfl rfl ?_
      refine go_icmp_ge (tgt := 22) (pc' := 11) hC dX8_times_8 (by decide) rfl (fun h5 => ?_) (fun h5 => ?_)
      · have hf := ite_t h5 hf
        refine go_lload_n (pc' := 23) hC dX8_times_22 rfl rfl ?_
        obtain rfl := Option.some.inj hf
        exact go_lret hC hQ dX8_times_23 rfl rfl rfl (fun _ => rfl) rfl rfl
      · have hf := ite_f h5 hf
        refine go_lload_n (pc' := 12) hC dX8_times_11 rfl rfl ?_
        refine go_iload_n (pc' := 13) hC dX8_times_12 rfl rfl ?_
        refine go_i2l (pc' := 14) hC dX8_times_13 rfl ?_
        refine go_lmul (pc' := 15) hC dX8_times_14 rfl ?_
        refine go_namel (fun x4 hx => ?_)
        have hf := lz_r hx hf
        clear hx
        refine go_lstore_n (lc' := [(0, .int p1), (1, .int p2), (2, .long x4), (4, .int x2)]) (pc' := 16) hC dX8_times_15 (Nat.le_of_ble_eq_true rfl) rfl rfl ?_
        refine go_iinc (lc' := [(0, .int p1), (1, .int p2), (2, .long x4), (4, .int (x2 + (1 : Int32)))]) (pc' := 19) hC dX8_times_16 rfl ki_1 (Nat.le_of_ble_eq_true rfl) rfl rfl ?_
        refine go_goto (tgt := 5) hC dX8_times_19 (by decide) ?_
        exact ih x4 (x2 + (1 : Int32)) hf
  exact l5_6 fuel (1 : Int64) (0 : Int32) hf
theorem dX11_alike_0 : decode cX11_alike 0 = .ok (.iload_n 1, 1) := by decide +kernel
theorem dX11_alike_1 : decode cX11_alike 1 = .ok (.ifCond .lt 9, 3) := by decide +kernel
theorem dX11_alike_4 : decode cX11_alike 4 = .ok (.iload_n 1, 1) := by decide +kernel
theorem dX11_alike_5 : decode cX11_alike 5 = .ok (.bipush 16, 2) := by decide +kernel
theorem dX11_alike_7 : decode cX11_alike 7 = .ok (.if_icmp .le 7, 3) := by decide +kernel
theorem dX11_alike_10 : decode cX11_alike 10 = .ok (.ldc2_w 186, 3) := by decide +kernel
theorem dX11_alike_13 : decode cX11_alike 13 = .ok (.lreturn, 1) := by decide +kernel
theorem dX11_alike_14 : decode cX11_alike 14 = .ok (.lconst 0, 1) := by decide +kernel
theorem dX11_alike_15 : decode cX11_alike 15 = .ok (.lstore_n 2, 1) := by decide +kernel
theorem dX11_alike_16 : decode cX11_alike 16 = .ok (.iconst 0, 1) := by decide +kernel
theorem dX11_alike_17 : decode cX11_alike 17 = .ok (.istore 4, 2) := by decide +kernel
theorem dX11_alike_19 : decode cX11_alike 19 = .ok (.iload 4, 2) := by decide +kernel
theorem dX11_alike_21 : decode cX11_alike 21 = .ok (.aload_n 0, 1) := by decide +kernel
theorem dX11_alike_22 : decode cX11_alike 22 = .ok (.getfield 25, 3) := by decide +kernel
theorem dX11_alike_25 : decode cX11_alike 25 = .ok (.getfield 132, 3) := by decide +kernel
theorem dX11_alike_28 : decode cX11_alike 28 = .ok (.if_icmp .gt 47, 3) := by decide +kernel
theorem dX11_alike_31 : decode cX11_alike 31 = .ok (.lload_n 2, 1) := by decide +kernel
theorem dX11_alike_32 : decode cX11_alike 32 = .ok (.aload_n 0, 1) := by decide +kernel
theorem dX11_alike_33 : decode cX11_alike 33 = .ok (.invokevirtual 171, 3) := by decide +kernel
theorem dX11_alike_36 : decode cX11_alike 36 = .ok (.iload 4, 2) := by decide +kernel
theorem dX11_alike_38 : decode cX11_alike 38 = .ok (.invokevirtual 219, 3) := by decide +kernel
theorem dX11_alike_41 : decode cX11_alike 41 = .ok (.i2l, 1) := by decide +kernel
theorem dX11_alike_42 : decode cX11_alike 42 = .ok (.iload_n 1, 1) := by decide +kernel
theorem dX11_alike_43 : decode cX11_alike 43 = .ok (.iload 4, 2) := by decide +kernel
theorem dX11_alike_45 : decode cX11_alike 45 = .ok (.invokestatic 326, 3) := by decide +kernel
theorem dX11_alike_48 : decode cX11_alike 48 = .ok (.lmul, 1) := by decide +kernel
theorem dX11_alike_49 : decode cX11_alike 49 = .ok (.bipush 16, 2) := by decide +kernel
theorem dX11_alike_51 : decode cX11_alike 51 = .ok (.iload_n 1, 1) := by decide +kernel
theorem dX11_alike_52 : decode cX11_alike 52 = .ok (.isub, 1) := by decide +kernel
theorem dX11_alike_53 : decode cX11_alike 53 = .ok (.aload_n 0, 1) := by decide +kernel
theorem dX11_alike_54 : decode cX11_alike 54 = .ok (.getfield 25, 3) := by decide +kernel
theorem dX11_alike_57 : decode cX11_alike 57 = .ok (.getfield 132, 3) := by decide +kernel
theorem dX11_alike_60 : decode cX11_alike 60 = .ok (.iload 4, 2) := by decide +kernel
theorem dX11_alike_62 : decode cX11_alike 62 = .ok (.isub, 1) := by decide +kernel
theorem dX11_alike_63 : decode cX11_alike 63 = .ok (.invokestatic 326, 3) := by decide +kernel
theorem dX11_alike_66 : decode cX11_alike 66 = .ok (.lmul, 1) := by decide +kernel
theorem dX11_alike_67 : decode cX11_alike 67 = .ok (.ladd, 1) := by decide +kernel
theorem dX11_alike_68 : decode cX11_alike 68 = .ok (.lstore_n 2, 1) := by decide +kernel
theorem dX11_alike_69 : decode cX11_alike 69 = .ok (.iinc 4 1, 3) := by decide +kernel
theorem dX11_alike_72 : decode cX11_alike 72 = .ok (.goto (-53), 3) := by decide +kernel
theorem dX11_alike_75 : decode cX11_alike 75 = .ok (.lload_n 2, 1) := by decide +kernel
theorem dX11_alike_76 : decode cX11_alike 76 = .ok (.lreturn, 1) := by decide +kernel
abbrev o_X11_alike : Type := Int64 × wd_W × Nat × Nat
def f_X11_alike_L19 (p1 : Int32) (r6 : (Int64) → (Int32) → (wd_W) → (Nat) → (Nat) → (Option o_X11_alike)) (x1 : Int64) (x2 : Int32) (S3 : wd_W) (n4 : Nat) (n5 : Nat) : Option o_X11_alike :=
if (S3.1 1601) < x2 then (
some (x1, S3, n4, n5)) else (
gd (okr n4 n5 12 140000 40 500000) <|
bd (f_X11_knownSets (wd_o S3 [] [] [] [] [])) fun o7 =>
gd (okr (n4 + o7.2.1) (n5 + o7.2.2) 0 0 40 500000) <|
bd (f_X8_lineSetsOf_q106 (wd_o o7.1 [] [] [] [] []) x2) fun o9 =>
gd (okr (n4 + o7.2.1) (n5 + o7.2.2) 0 0 40 500000) <|
bd (f_X8_times p1 x2) fun o11 =>
gd (okr (n4 + o7.2.1) (n5 + o7.2.2) 0 0 40 500000) <|
bd (f_X8_times ((16 : Int32) - p1) ((o7.1.1 1601) - x2)) fun o13 =>
lz (x1 + ((o9.toInt64 * o11) * o13)) fun x15 =>
r6 x15 (x2 + (1 : Int32)) o7.1 (n4 + o7.2.1) (n5 + o7.2.2))
def f_X11_alike (S : wd_W) (p1 : Int32) : Option o_X11_alike :=
if p1 < 0 then (
some ((-1 : Int64), S, 0, 0)) else (
if p1 ≤ (16 : Int32) then (
it5 (f_X11_alike_L19 p1) fuel (0 : Int64) (0 : Int32) S 0 0) else (
some ((-1 : Int64), S, 0, 0)))
set_option maxRecDepth 100000 in
set_option maxHeartbeats 4000000 in
theorem c_X11_alike (l : Launch) (D : va_G) (q g : Nat → Nat) (cy : Nat → ClassId) (z : (Nat → Nat) × (Nat → Nat) × Nat) (S : wd_W) (p1 : Int32) (o : o_X11_alike) (hf : f_X11_alike S p1 = some o) : MX layX l yX11_alike cX11_alike 5 (some .long) ({ frames := 6, cells := 40, slots := 500000, locals := 147 } : Room) D q g cy z [.ref (q 0), .int p1] S true (some (.long o.1)) o.2.1 o.2.2.1 o.2.2.2 := by
  refine mx_of (own := RX11) (lc := [(0, .ref (q 0)), (1, .int p1)]) (by decide +kernel) rfl layX_ok (Nat.le_of_ble_eq_true rfl) rfl ?_
  intro X hXl hXq hXz hC hQ
  subst hXl; subst hXq; subst hXz
  unfold f_X11_alike at hf
  refine go_iload_n (pc' := 1) hC dX11_alike_0 rfl rfl ?_
  refine go_if_lt (tgt := 10) (pc' := 4) hC dX11_alike_1 (by decide) rfl (fun h19 => ?_) (fun h19 => ?_)
  · have hf := ite_t h19 hf
    refine go_ldc2 (pc' := 13) hC dX11_alike_10 mw_909 rfl ?_
    obtain rfl := Option.some.inj hf
    exact go_lret hC hQ dX11_alike_13 rfl rfl rfl (fun h => nomatch h) rfl rfl
  · have hf := ite_f h19 hf
    refine go_iload_n (pc' := 5) hC dX11_alike_4 rfl rfl ?_
    refine go_bipush (pc' := 7) hC dX11_alike_5 kb_16 rfl ?_
    refine go_icmp_le (tgt := 14) (pc' := 10) hC dX11_alike_7 (by decide) rfl (fun h18 => ?_) (fun h18 => ?_)
    · have hf := ite_t h18 hf
      refine go_lconst (pc' := 15) hC dX11_alike_14 kl_0 rfl ?_
      refine go_lstore_n (lc' := [(0, .ref (x_q X 0)), (1, .int p1), (2, .long (0 : Int64))]) (pc' := 16) hC dX11_alike_15 (Nat.le_of_ble_eq_true rfl) rfl rfl ?_
      refine go_iconst (pc' := 17) hC dX11_alike_16 ki_0 rfl ?_
      refine go_istore (lc' := [(0, .ref (x_q X 0)), (1, .int p1), (2, .long (0 : Int64)), (4, .int (0 : Int32))]) (pc' := 19) hC dX11_alike_17 (Nat.le_of_ble_eq_true rfl) rfl rfl ?_
      have l19_17 : ∀ (nn : Nat) (x1 : Int64) (x2 : Int32) (S3 : wd_W) (n4 : Nat) (n5 : Nat) (g : Nat → Nat), it5 (f_X11_alike_L19 p1) nn x1 x2 S3 n4 n5 = some o → Go X layX S3 19 [(0, .ref (x_q X 0)), (1, .int p1), (2, .long x1), (4, .int x2)] [] g [] [] [] [] [] n4 n5 := by
        intro nn
        induction nn with
        | zero =>
          intro x1 x2 S3 n4 n5 g hf
          exact none_no hf
        | succ nn ih =>
          intro x1 x2 S3 n4 n5 g hf
          have hf : f_X11_alike_L19 p1 (it5 (f_X11_alike_L19 p1) nn) x1 x2 S3 n4 n5 = some o := hf
          generalize it5 (f_X11_alike_L19 p1) nn = r6 at ih hf
          unfold f_X11_alike_L19 at hf
          refine go_iload (pc' := 21) hC dX11_alike_19 rfl rfl ?_
          refine go_aload_n (pc' := 22) hC dX11_alike_21 rfl rfl ?_
          refine go_getq (pc' := 25) hC 0 2 layX_0 rfl rfl inlX11 (Nat.le_of_ble_eq_true rfl) mw_20 rfl dX11_alike_22 rfl ?_
          refine go_geti (v := (S3.1 1601)) (pc' := 28) hC 16 1 layX_16 rfl rfl inlX2 (Nat.le_of_ble_eq_true rfl) mw_562 rfl dX11_alike_25 rfl rfl ?_
          refine go_icmp_gt (tgt := 75) (pc' := 31) hC dX11_alike_28 (by decide) rfl (fun h16 => ?_) (fun h16 => ?_)
          · have hf := ite_t h16 hf
            refine go_lload_n (pc' := 76) hC dX11_alike_75 rfl rfl ?_
            obtain rfl := Option.some.inj hf
            exact go_lret hC hQ dX11_alike_76 rfl rfl rfl (fun h => nomatch h) rfl rfl
          · have hf := ite_f h16 hf
            refine go_lload_n (pc' := 32) hC dX11_alike_31 rfl rfl ?_
            refine go_aload_n (pc' := 33) hC dX11_alike_32 rfl rfl ?_
            obtain ⟨h8, hf⟩ := gd_e hf
            obtain ⟨o7, ho7, hf⟩ := bd_e hf
            refine go_callVw (pc' := 36) (As := []) (st := [.long x1]) (st' := [.ref (x_q X 106), .long x1])  (cells' := n4 + o7.2.1) (slots' := n5 + o7.2.2) (rc := { frames := 5, cells := 12, slots := 140000, locals := 127 }) (b := 0) hC dX11_alike_33 ⟨mw_593, mw_596, mw_2, yd_yX11_knownSets, yp_yX11_knownSets, Nat.le_of_ble_eq_true rfl, Nat.le_of_ble_eq_true rfl, (okr_c h8), (okr_s h8)⟩ mw_594 mw_595 layX_0 rfl rfl rfl (Nat.le_of_ble_eq_true rfl) (c_X11_knownSets (x_l X) (x_D X) (x_q X) g (x_cy X) (x_z X) _  o7 ho7) rfl rfl rfl rfl (fun g _ => ?_)
            refine go_iload (pc' := 38) hC dX11_alike_36 rfl rfl ?_
            obtain ⟨h10, hf⟩ := gd_e hf
            obtain ⟨o9, ho9, hf⟩ := bd_e hf
            refine go_callV0 (pc' := 41) (As := [.int x2]) (st := [.long x1]) (st' := [.int o9, .long x1])   (rc := { frames := 2, cells := 0, slots := 0, locals := 42 }) (b := 106) hC dX11_alike_38 ⟨mw_1070, mw_1073, mw_31, yd_yX8_lineSetsOf, yp_yX8_lineSetsOf, Nat.le_of_ble_eq_true rfl, Nat.le_of_ble_eq_true rfl, (okr_c h10), (okr_s h10)⟩ mw_1071 mw_1072 layX_106 rfl rfl rfl (Nat.le_of_ble_eq_true rfl) (c_X8_lineSetsOf_q106 (x_l X) (x_D X) (x_q X) g (x_cy X) (x_z X) _ x2 o9 ho9) rfl rfl ?_
            refine go_i2l (pc' := 42) hC dX11_alike_41 rfl ?_
            refine go_iload_n (pc' := 43) hC dX11_alike_42 rfl rfl ?_
            refine go_iload (pc' := 45) hC dX11_alike_43 rfl rfl ?_
            obtain ⟨h12, hf⟩ := gd_e hf
            obtain ⟨o11, ho11, hf⟩ := bd_e hf
            refine go_callS0 (pc' := 48) (As := [.int p1, .int x2]) (st := [.long o9.toInt64, .long x1]) (st' := [.long o11, .long o9.toInt64, .long x1])   (rc := { frames := 0, cells := 0, slots := 0, locals := 0 }) hC dX11_alike_45 ⟨mw_1435, mw_1437, mw_31, yd_yX8_times, yp_yX8_times, Nat.le_of_ble_eq_true rfl, Nat.le_of_ble_eq_true rfl, (okr_c h12), (okr_s h12)⟩ mw_1436 rfl rfl (Nat.le_of_ble_eq_true rfl) (c_X8_times (x_l X) (x_D X) (x_q X) g (x_cy X) (x_z X) _ p1 x2 o11 ho11) rfl rfl ?_
            refine go_lmul (pc' := 49) hC dX11_alike_48 rfl ?_
            refine go_bipush (pc' := 51) hC dX11_alike_49 kb_16 rfl ?_
            refine go_iload_n (pc' := 52) hC dX11_alike_51 rfl rfl ?_
            refine go_isub (pc' := 53) hC dX11_alike_52 rfl ?_
            refine go_aload_n (pc' := 54) hC dX11_alike_53 rfl rfl ?_
            refine go_getq (pc' := 57) hC 0 2 layX_0 rfl rfl inlX11 (Nat.le_of_ble_eq_true rfl) mw_20 rfl dX11_alike_54 rfl ?_
            refine go_geti (v := (o7.1.1 1601)) (pc' := 60) hC 16 1 layX_16 rfl rfl inlX2 (Nat.le_of_ble_eq_true rfl) mw_562 rfl dX11_alike_57 rfl rfl ?_
            refine go_iload (pc' := 62) hC dX11_alike_60 rfl rfl ?_
            refine go_isub (pc' := 63) hC dX11_alike_62 rfl ?_
            obtain ⟨h14, hf⟩ := gd_e hf
            obtain ⟨o13, ho13, hf⟩ := bd_e hf
            refine go_callS0 (pc' := 66) (As := [.int ((16 : Int32) - p1), .int ((o7.1.1 1601) - x2)]) (st := [.long (o9.toInt64 * o11), .long x1]) (st' := [.long o13, .long (o9.toInt64 * o11), .long x1])   (rc := { frames := 0, cells := 0, slots := 0, locals := 0 }) hC dX11_alike_63 ⟨mw_1435, mw_1437, mw_31, yd_yX8_times, yp_yX8_times, Nat.le_of_ble_eq_true rfl, Nat.le_of_ble_eq_true rfl, (okr_c h14), (okr_s h14)⟩ mw_1436 rfl rfl (Nat.le_of_ble_eq_true rfl) (c_X8_times (x_l X) (x_D X) (x_q X) g (x_cy X) (x_z X) _ ((16 : Int32) - p1) ((o7.1.1 1601) - x2) o13 ho13) rfl rfl ?_
            refine go_lmul (pc' := 67) hC dX11_alike_66 rfl ?_
            refine go_ladd (pc' := 68) hC dX11_alike_67 rfl ?_
            refine go_namel (fun x15 hx => ?_)
            have hf := lz_r hx hf
            clear hx
            refine go_lstore_n (lc' := [(0, .ref (x_q X 0)), (1, .int p1), (2, .long x15), (4, .int x2)]) (pc' := 69) hC dX11_alike_68 (Nat.le_of_ble_eq_true rfl) rfl rfl ?_
            refine go_iinc (lc' := [(0, .ref (x_q X 0)), (1, .int p1), (2, .long x15), (4, .int (x2 + (1 : Int32)))]) (pc' := 72) hC dX11_alike_69 rfl ki_1 (Nat.le_of_ble_eq_true rfl) rfl rfl ?_
            refine go_goto (tgt := 19) hC dX11_alike_72 (by decide) ?_
            exact ih x15 (x2 + (1 : Int32)) o7.1 (n4 + o7.2.1) (n5 + o7.2.2) g hf
      exact l19_17 fuel (0 : Int64) (0 : Int32) S 0 0 g hf
    · have hf := ite_f h18 hf
      refine go_ldc2 (pc' := 13) hC dX11_alike_10 mw_909 rfl ?_
      obtain rfl := Option.some.inj hf
      exact go_lret hC hQ dX11_alike_13 rfl rfl rfl (fun h => nomatch h) rfl rfl
theorem dX11_even_0 : decode cX11_even 0 = .ok (.iconst 1, 1) := by decide +kernel
theorem dX11_even_1 : decode cX11_even 1 = .ok (.istore_n 1, 1) := by decide +kernel
theorem dX11_even_2 : decode cX11_even 2 = .ok (.iload_n 1, 1) := by decide +kernel
theorem dX11_even_3 : decode cX11_even 3 = .ok (.aload_n 0, 1) := by decide +kernel
theorem dX11_even_4 : decode cX11_even 4 = .ok (.getfield 25, 3) := by decide +kernel
theorem dX11_even_7 : decode cX11_even 7 = .ok (.getfield 132, 3) := by decide +kernel
theorem dX11_even_10 : decode cX11_even 10 = .ok (.if_icmp .ge 47, 3) := by decide +kernel
theorem dX11_even_13 : decode cX11_even 13 = .ok (.aload_n 0, 1) := by decide +kernel
theorem dX11_even_14 : decode cX11_even 14 = .ok (.invokevirtual 171, 3) := by decide +kernel
theorem dX11_even_17 : decode cX11_even 17 = .ok (.iload_n 1, 1) := by decide +kernel
theorem dX11_even_18 : decode cX11_even 18 = .ok (.invokevirtual 219, 3) := by decide +kernel
theorem dX11_even_21 : decode cX11_even 21 = .ok (.istore_n 2, 1) := by decide +kernel
theorem dX11_even_22 : decode cX11_even 22 = .ok (.iload_n 2, 1) := by decide +kernel
theorem dX11_even_23 : decode cX11_even 23 = .ok (.iload_n 2, 1) := by decide +kernel
theorem dX11_even_24 : decode cX11_even 24 = .ok (.imul, 1) := by decide +kernel
theorem dX11_even_25 : decode cX11_even 25 = .ok (.aload_n 0, 1) := by decide +kernel
theorem dX11_even_26 : decode cX11_even 26 = .ok (.getfield 53, 3) := by decide +kernel
theorem dX11_even_29 : decode cX11_even 29 = .ok (.iload_n 1, 1) := by decide +kernel
theorem dX11_even_30 : decode cX11_even 30 = .ok (.iconst 1, 1) := by decide +kernel
theorem dX11_even_31 : decode cX11_even 31 = .ok (.isub, 1) := by decide +kernel
theorem dX11_even_32 : decode cX11_even 32 = .ok (.invokevirtual 219, 3) := by decide +kernel
theorem dX11_even_35 : decode cX11_even 35 = .ok (.aload_n 0, 1) := by decide +kernel
theorem dX11_even_36 : decode cX11_even 36 = .ok (.getfield 53, 3) := by decide +kernel
theorem dX11_even_39 : decode cX11_even 39 = .ok (.iload_n 1, 1) := by decide +kernel
theorem dX11_even_40 : decode cX11_even 40 = .ok (.iconst 1, 1) := by decide +kernel
theorem dX11_even_41 : decode cX11_even 41 = .ok (.iadd, 1) := by decide +kernel
theorem dX11_even_42 : decode cX11_even 42 = .ok (.invokevirtual 219, 3) := by decide +kernel
theorem dX11_even_45 : decode cX11_even 45 = .ok (.imul, 1) := by decide +kernel
theorem dX11_even_46 : decode cX11_even 46 = .ok (.if_icmp .ge 5, 3) := by decide +kernel
theorem dX11_even_49 : decode cX11_even 49 = .ok (.iconst 0, 1) := by decide +kernel
theorem dX11_even_50 : decode cX11_even 50 = .ok (.ireturn, 1) := by decide +kernel
theorem dX11_even_51 : decode cX11_even 51 = .ok (.iinc 1 1, 3) := by decide +kernel
theorem dX11_even_54 : decode cX11_even 54 = .ok (.goto (-52), 3) := by decide +kernel
theorem dX11_even_57 : decode cX11_even 57 = .ok (.iconst 1, 1) := by decide +kernel
theorem dX11_even_58 : decode cX11_even 58 = .ok (.ireturn, 1) := by decide +kernel
abbrev o_X11_even : Type := Int32 × wd_W × Nat × Nat
def f_X11_even_L2 (r5 : (Int32) → (wd_W) → (Nat) → (Nat) → (Option o_X11_even)) (x1 : Int32) (S2 : wd_W) (n3 : Nat) (n4 : Nat) : Option o_X11_even :=
if (S2.1 1601) ≤ x1 then (
some ((1 : Int32), S2, n3, n4)) else (
gd (okr n3 n4 12 140000 40 500000) <|
bd (f_X11_knownSets (wd_o S2 [] [] [] [] [])) fun o6 =>
gd (okr (n3 + o6.2.1) (n4 + o6.2.2) 0 0 40 500000) <|
bd (f_X8_lineSetsOf_q106 (wd_o o6.1 [] [] [] [] []) x1) fun o8 =>
gd (okr (n3 + o6.2.1) (n4 + o6.2.2) 0 0 40 500000) <|
bd (f_X8_lineSetsOf_q106 (wd_o o6.1 [] [] [] [] []) (x1 - (1 : Int32))) fun o10 =>
gd (okr (n3 + o6.2.1) (n4 + o6.2.2) 0 0 40 500000) <|
bd (f_X8_lineSetsOf_q106 (wd_o o6.1 [] [] [] [] []) (x1 + (1 : Int32))) fun o12 =>
if (o10 * o12) ≤ (o8 * o8) then (
r5 (x1 + (1 : Int32)) o6.1 (n3 + o6.2.1) (n4 + o6.2.2)) else (
some ((0 : Int32), o6.1, n3 + o6.2.1, n4 + o6.2.2)))
def f_X11_even (S : wd_W) : Option o_X11_even :=
it4 (f_X11_even_L2) fuel (1 : Int32) S 0 0
set_option maxRecDepth 100000 in
set_option maxHeartbeats 4000000 in
theorem c_X11_even (l : Launch) (D : va_G) (q g : Nat → Nat) (cy : Nat → ClassId) (z : (Nat → Nat) × (Nat → Nat) × Nat) (S : wd_W) (o : o_X11_even) (hf : f_X11_even S = some o) : MX layX l yX11_even cX11_even 3 (some .int) ({ frames := 6, cells := 40, slots := 500000, locals := 147 } : Room) D q g cy z [.ref (q 0)] S true (some (.int o.1)) o.2.1 o.2.2.1 o.2.2.2 := by
  refine mx_of (own := RX11) (lc := [(0, .ref (q 0))]) (by decide +kernel) rfl layX_ok (Nat.le_of_ble_eq_true rfl) rfl ?_
  intro X hXl hXq hXz hC hQ
  subst hXl; subst hXq; subst hXz
  unfold f_X11_even at hf
  refine go_iconst (pc' := 1) hC dX11_even_0 ki_1 rfl ?_
  refine go_istore_n (lc' := [(0, .ref (x_q X 0)), (1, .int (1 : Int32))]) (pc' := 2) hC dX11_even_1 (Nat.le_of_ble_eq_true rfl) rfl rfl ?_
  have l2_16 : ∀ (nn : Nat) (x1 : Int32) (S2 : wd_W) (n3 : Nat) (n4 : Nat) (g : Nat → Nat), it4 (f_X11_even_L2) nn x1 S2 n3 n4 = some o → Go X layX S2 2 [(0, .ref (x_q X 0)), (1, .int x1)] [] g [] [] [] [] [] n3 n4 := by
    intro nn
    induction nn with
    | zero =>
      intro x1 S2 n3 n4 g hf
      exact none_no hf
    | succ nn ih =>
      intro x1 S2 n3 n4 g hf
      have hf : f_X11_even_L2 (it4 (f_X11_even_L2) nn) x1 S2 n3 n4 = some o := hf
      generalize it4 (f_X11_even_L2) nn = r5 at ih hf
      unfold f_X11_even_L2 at hf
      refine go_iload_n (pc' := 3) hC dX11_even_2 rfl rfl ?_
      refine go_aload_n (pc' := 4) hC dX11_even_3 rfl rfl ?_
      refine go_getq (pc' := 7) hC 0 2 layX_0 rfl rfl inlX11 (Nat.le_of_ble_eq_true rfl) mw_20 rfl dX11_even_4 rfl ?_
      refine go_geti (v := (S2.1 1601)) (pc' := 10) hC 16 1 layX_16 rfl rfl inlX2 (Nat.le_of_ble_eq_true rfl) mw_562 rfl dX11_even_7 rfl rfl ?_
      refine go_icmp_ge (tgt := 57) (pc' := 13) hC dX11_even_10 (by decide) rfl (fun h15 => ?_) (fun h15 => ?_)
      · have hf := ite_t h15 hf
        refine go_iconst (pc' := 58) hC dX11_even_57 ki_1 rfl ?_
        obtain rfl := Option.some.inj hf
        exact go_iret hC hQ dX11_even_58 rfl rfl rfl rfl (fun h => nomatch h) rfl rfl
      · have hf := ite_f h15 hf
        refine go_aload_n (pc' := 14) hC dX11_even_13 rfl rfl ?_
        obtain ⟨h7, hf⟩ := gd_e hf
        obtain ⟨o6, ho6, hf⟩ := bd_e hf
        refine go_callVw (pc' := 17) (As := []) (st := []) (st' := [.ref (x_q X 106)])  (cells' := n3 + o6.2.1) (slots' := n4 + o6.2.2) (rc := { frames := 5, cells := 12, slots := 140000, locals := 127 }) (b := 0) hC dX11_even_14 ⟨mw_593, mw_596, mw_2, yd_yX11_knownSets, yp_yX11_knownSets, Nat.le_of_ble_eq_true rfl, Nat.le_of_ble_eq_true rfl, (okr_c h7), (okr_s h7)⟩ mw_594 mw_595 layX_0 rfl rfl rfl (Nat.le_of_ble_eq_true rfl) (c_X11_knownSets (x_l X) (x_D X) (x_q X) g (x_cy X) (x_z X) _  o6 ho6) rfl rfl rfl rfl (fun g _ => ?_)
        refine go_iload_n (pc' := 18) hC dX11_even_17 rfl rfl ?_
        obtain ⟨h9, hf⟩ := gd_e hf
        obtain ⟨o8, ho8, hf⟩ := bd_e hf
        refine go_callV0 (pc' := 21) (As := [.int x1]) (st := []) (st' := [.int o8])   (rc := { frames := 2, cells := 0, slots := 0, locals := 42 }) (b := 106) hC dX11_even_18 ⟨mw_1070, mw_1073, mw_31, yd_yX8_lineSetsOf, yp_yX8_lineSetsOf, Nat.le_of_ble_eq_true rfl, Nat.le_of_ble_eq_true rfl, (okr_c h9), (okr_s h9)⟩ mw_1071 mw_1072 layX_106 rfl rfl rfl (Nat.le_of_ble_eq_true rfl) (c_X8_lineSetsOf_q106 (x_l X) (x_D X) (x_q X) g (x_cy X) (x_z X) _ x1 o8 ho8) rfl rfl ?_
        refine go_istore_n (lc' := [(0, .ref (x_q X 0)), (1, .int x1), (2, .int o8)]) (pc' := 22) hC dX11_even_21 (Nat.le_of_ble_eq_true rfl) rfl rfl ?_
        refine go_iload_n (pc' := 23) hC dX11_even_22 rfl rfl ?_
        refine go_iload_n (pc' := 24) hC dX11_even_23 rfl rfl ?_
        refine go_imul (pc' := 25) hC dX11_even_24 rfl ?_
        refine go_aload_n (pc' := 26) hC dX11_even_25 rfl rfl ?_
        refine go_getq (pc' := 29) hC 0 10 layX_0 rfl rfl inlX11 (Nat.le_of_ble_eq_true rfl) mw_32 rfl dX11_even_26 rfl ?_
        refine go_iload_n (pc' := 30) hC dX11_even_29 rfl rfl ?_
        refine go_iconst (pc' := 31) hC dX11_even_30 ki_1 rfl ?_
        refine go_isub (pc' := 32) hC dX11_even_31 rfl ?_
        obtain ⟨h11, hf⟩ := gd_e hf
        obtain ⟨o10, ho10, hf⟩ := bd_e hf
        refine go_callV0 (pc' := 35) (As := [.int (x1 - (1 : Int32))]) (st := [.int (o8 * o8)]) (st' := [.int o10, .int (o8 * o8)])   (rc := { frames := 2, cells := 0, slots := 0, locals := 42 }) (b := 106) hC dX11_even_32 ⟨mw_1070, mw_1073, mw_31, yd_yX8_lineSetsOf, yp_yX8_lineSetsOf, Nat.le_of_ble_eq_true rfl, Nat.le_of_ble_eq_true rfl, (okr_c h11), (okr_s h11)⟩ mw_1071 mw_1072 layX_106 rfl rfl rfl (Nat.le_of_ble_eq_true rfl) (c_X8_lineSetsOf_q106 (x_l X) (x_D X) (x_q X) g (x_cy X) (x_z X) _ (x1 - (1 : Int32)) o10 ho10) rfl rfl ?_
        refine go_aload_n (pc' := 36) hC dX11_even_35 rfl rfl ?_
        refine go_getq (pc' := 39) hC 0 10 layX_0 rfl rfl inlX11 (Nat.le_of_ble_eq_true rfl) mw_32 rfl dX11_even_36 rfl ?_
        refine go_iload_n (pc' := 40) hC dX11_even_39 rfl rfl ?_
        refine go_iconst (pc' := 41) hC dX11_even_40 ki_1 rfl ?_
        refine go_iadd (pc' := 42) hC dX11_even_41 rfl ?_
        obtain ⟨h13, hf⟩ := gd_e hf
        obtain ⟨o12, ho12, hf⟩ := bd_e hf
        refine go_callV0 (pc' := 45) (As := [.int (x1 + (1 : Int32))]) (st := [.int o10, .int (o8 * o8)]) (st' := [.int o12, .int o10, .int (o8 * o8)])   (rc := { frames := 2, cells := 0, slots := 0, locals := 42 }) (b := 106) hC dX11_even_42 ⟨mw_1070, mw_1073, mw_31, yd_yX8_lineSetsOf, yp_yX8_lineSetsOf, Nat.le_of_ble_eq_true rfl, Nat.le_of_ble_eq_true rfl, (okr_c h13), (okr_s h13)⟩ mw_1071 mw_1072 layX_106 rfl rfl rfl (Nat.le_of_ble_eq_true rfl) (c_X8_lineSetsOf_q106 (x_l X) (x_D X) (x_q X) g (x_cy X) (x_z X) _ (x1 + (1 : Int32)) o12 ho12) rfl rfl ?_
        refine go_imul (pc' := 46) hC dX11_even_45 rfl ?_
        refine go_icmp_ge (tgt := 51) (pc' := 49) hC dX11_even_46 (by decide) rfl (fun h14 => ?_) (fun h14 => ?_)
        · have hf := ite_t h14 hf
          refine go_iinc (lc' := [(0, .ref (x_q X 0)), (1, .int (x1 + (1 : Int32))), (2, .int o8)]) (pc' := 54) hC dX11_even_51 rfl ki_1 (Nat.le_of_ble_eq_true rfl) rfl rfl ?_
          refine go_goto (tgt := 2) hC dX11_even_54 (by decide) ?_
          refine go_sub [0, 1] rfl ?_
          exact ih (x1 + (1 : Int32)) o6.1 (n3 + o6.2.1) (n4 + o6.2.2) g hf
        · have hf := ite_f h14 hf
          refine go_iconst (pc' := 50) hC dX11_even_49 ki_0 rfl ?_
          obtain rfl := Option.some.inj hf
          exact go_iret hC hQ dX11_even_50 rfl rfl rfl rfl (fun h => nomatch h) rfl rfl
  exact l2_16 fuel (1 : Int32) S 0 0 g hf
abbrev o_X7_reached_q111_q112 : Type := Int32
def f_X7_reached_q111_q112_L24 (S : wd_W) (p2 : Int32) (k70_6 : (Int32) → (Option o_X7_reached_q111_q112)) (r10 : (Int32) → (Int32) → (Option o_X7_reached_q111_q112)) (x8 : Int32) (x9 : Int32) : Option o_X7_reached_q111_q112 :=
if (S.1 11100) ≤ x9 then (
k70_6 x8) else (
lk (fun x11 =>
r10 x11 (x9 + (1 : Int32))) fun k64_12 =>
if ((p2 >>> (x9 &&& 31)) &&& (1 : Int32)) = 0 then (
k64_12 x8) else (
gd (okx x9 13) <|
if (x8 &&& ((S.2.2.1 112) x9.toNatClampNeg)) = 0 then (
k64_12 x8) else (
gd (okx x9 13) <|
lz (x8 ||| ((S.2.2.1 112) x9.toNatClampNeg)) fun x15 =>
k64_12 x15)))
def f_X7_reached_q111_q112_L8 (S : wd_W) (p2 : Int32) (r4 : (Int32) → (Int32) → (Option o_X7_reached_q111_q112)) (x2 : Int32) (x3 : Int32) : Option o_X7_reached_q111_q112 :=
if (S.1 11103) ≤ x3 then (
some x2) else (
lk (fun x5 =>
if x5 = x2 then (
some x5) else (
r4 x5 (x3 + (1 : Int32)))) fun k70_6 =>
it2 (f_X7_reached_q111_q112_L24 S p2 k70_6) fuel x2 (0 : Int32))
def f_X7_reached_q111_q112 (S : wd_W) (p1 : Int32) (p2 : Int32) : Option o_X7_reached_q111_q112 :=
lz ((1 : Int32) <<< (p1 &&& 31)) fun x1 =>
it2 (f_X7_reached_q111_q112_L8 S p2) fuel x1 (1 : Int32)
set_option maxRecDepth 100000 in
set_option maxHeartbeats 4000000 in
theorem c_X7_reached_q111_q112 (l : Launch) (D : va_G) (q g : Nat → Nat) (cy : Nat → ClassId) (z : (Nat → Nat) × (Nat → Nat) × Nat) (S : wd_W) (p1 : Int32) (p2 : Int32) (o : o_X7_reached_q111_q112) (hf : f_X7_reached_q111_q112 S p1 p2 = some o) : MX layX l yX7_reached cX7_reached 8 (some .int) ({ frames := 0, cells := 0, slots := 0, locals := 0 } : Room) D q g cy z [.ref (q 111), .int p1, .int p2, .ref (q 112)] S false (some (.int o)) (wd_o S [] [] [] [] []) 0 0 := by
  refine mx_of (own := RX7) (lc := [(0, .ref (q 111)), (1, .int p1), (2, .int p2), (3, .ref (q 112))]) (by decide +kernel) rfl layX_ok (Nat.le_of_ble_eq_true rfl) rfl ?_
  intro X hXl hXq hXz hC hQ
  subst hXl; subst hXq; subst hXz
  unfold f_X7_reached_q111_q112 at hf
  refine go_iconst (pc' := 1) hC dX7_reached_0 ki_1 rfl ?_
  refine go_iload_n (pc' := 2) hC dX7_reached_1 rfl rfl ?_
  refine go_ishl (pc' := 3) hC dX7_reached_2 rfl ?_
  refine go_namei (fun x1 hx => ?_)
  have hf := lz_r hx hf
  clear hx
  refine go_istore (lc' := [(0, .ref (x_q X 111)), (1, .int p1), (2, .int p2), (3, .ref (x_q X 112)), (4, .int x1)]) (pc' := 5) hC dX7_reached_3 (Nat.le_of_ble_eq_true rfl) rfl rfl ?_
  refine go_iconst (pc' := 6) hC dX7_reached_5 ki_1 rfl ?_
  refine go_istore (lc' := [(0, .ref (x_q X 111)), (1, .int p1), (2, .int p2), (3, .ref (x_q X 112)), (4, .int x1), (5, .int (1 : Int32))]) (pc' := 8) hC dX7_reached_6 (Nat.le_of_ble_eq_true rfl) rfl rfl ?_
  have l8_21 : ∀ (nn : Nat) (x2 : Int32) (x3 : Int32), it2 (f_X7_reached_q111_q112_L8 S p2) nn x2 x3 = some o → Go X layX S 8 [(0, .ref (x_q X 111)), (2, .int p2), (3, .ref (x_q X 112)), (4, .int x2), (5, .int x3)] [] g [] [] [] [] [] 0 0 := by
    intro nn
    induction nn with
    | zero =>
      intro x2 x3 hf
      exact none_no hf
    | succ nn ih =>
      intro x2 x3 hf
      have hf : f_X7_reached_q111_q112_L8 S p2 (it2 (f_X7_reached_q111_q112_L8 S p2) nn) x2 x3 = some o := hf
      generalize it2 (f_X7_reached_q111_q112_L8 S p2) nn = r4 at ih hf
      unfold f_X7_reached_q111_q112_L8 at hf
      refine go_iload (pc' := 10) hC dX7_reached_8 rfl rfl ?_
      refine go_aload_n (pc' := 11) hC dX7_reached_10 rfl rfl ?_
      refine go_geti (v := (S.1 11103)) (pc' := 14) hC 111 3 layX_111 rfl rfl inlX7 (Nat.le_of_ble_eq_true rfl) mw_618 rfl dX7_reached_11 rfl rfl ?_
      refine go_icmp_ge (tgt := 86) (pc' := 17) hC dX7_reached_14 (by decide) rfl (fun h20 => ?_) (fun h20 => ?_)
      · have hf := ite_t h20 hf
        refine go_iload (pc' := 88) hC dX7_reached_86 rfl rfl ?_
        obtain rfl := Option.some.inj hf
        exact go_iret hC hQ dX7_reached_88 rfl rfl rfl rfl (fun _ => rfl) rfl rfl
      · have hf := ite_f h20 hf
        refine go_iload (pc' := 19) hC dX7_reached_17 rfl rfl ?_
        refine go_istore (lc' := [(0, .ref (x_q X 111)), (2, .int p2), (3, .ref (x_q X 112)), (4, .int x2), (5, .int x3), (6, .int x2)]) (pc' := 21) hC dX7_reached_19 (Nat.le_of_ble_eq_true rfl) rfl rfl ?_
        refine go_iconst (pc' := 22) hC dX7_reached_21 ki_0 rfl ?_
        refine go_istore (lc' := [(0, .ref (x_q X 111)), (2, .int p2), (3, .ref (x_q X 112)), (4, .int x2), (5, .int x3), (6, .int x2), (7, .int (0 : Int32))]) (pc' := 24) hC dX7_reached_22 (Nat.le_of_ble_eq_true rfl) rfl rfl ?_
        obtain ⟨k70_6, hk70_6, hf⟩ := lk_e1 hf
        have jk70_6 : ∀ (x5 : Int32), k70_6 x5 = some o → Go X layX S 70 [(0, .ref (x_q X 111)), (2, .int p2), (3, .ref (x_q X 112)), (4, .int x5), (5, .int x3), (6, .int x2)] [] g [] [] [] [] [] 0 0 := by
          intro x5 hf
          have hf := hk70_6 x5 hf
          clear hk70_6
          refine go_iload (pc' := 72) hC dX7_reached_70 rfl rfl ?_
          refine go_iload (pc' := 74) hC dX7_reached_72 rfl rfl ?_
          refine go_icmp_ne (tgt := 80) (pc' := 77) hC dX7_reached_74 (by decide) rfl (fun h7 => ?_) (fun h7 => ?_)
          · have hf := ite_f h7 hf
            refine go_iinc (lc' := [(0, .ref (x_q X 111)), (2, .int p2), (3, .ref (x_q X 112)), (4, .int x5), (5, .int (x3 + (1 : Int32))), (6, .int x2)]) (pc' := 83) hC dX7_reached_80 rfl ki_1 (Nat.le_of_ble_eq_true rfl) rfl rfl ?_
            refine go_goto (tgt := 8) hC dX7_reached_83 (by decide) ?_
            refine go_sub [0, 2, 3, 4, 5] rfl ?_
            exact ih x5 (x3 + (1 : Int32)) hf
          · have hf := ite_t h7 hf
            refine go_goto (tgt := 86) hC dX7_reached_77 (by decide) ?_
            refine go_iload (pc' := 88) hC dX7_reached_86 rfl rfl ?_
            obtain rfl := Option.some.inj hf
            exact go_iret hC hQ dX7_reached_88 rfl rfl rfl rfl (fun _ => rfl) rfl rfl
        clear hk70_6
        have l24_19 : ∀ (nn : Nat) (x8 : Int32) (x9 : Int32), it2 (f_X7_reached_q111_q112_L24 S p2 k70_6) nn x8 x9 = some o → Go X layX S 24 [(0, .ref (x_q X 111)), (2, .int p2), (3, .ref (x_q X 112)), (4, .int x8), (5, .int x3), (6, .int x2), (7, .int x9)] [] g [] [] [] [] [] 0 0 := by
          intro nn
          induction nn with
          | zero =>
            intro x8 x9 hf
            exact none_no hf
          | succ nn ih =>
            intro x8 x9 hf
            have hf : f_X7_reached_q111_q112_L24 S p2 k70_6 (it2 (f_X7_reached_q111_q112_L24 S p2 k70_6) nn) x8 x9 = some o := hf
            generalize it2 (f_X7_reached_q111_q112_L24 S p2 k70_6) nn = r10 at ih hf
            unfold f_X7_reached_q111_q112_L24 at hf
            refine go_iload (pc' := 26) hC dX7_reached_24 rfl rfl ?_
            refine go_aload_n (pc' := 27) hC dX7_reached_26 rfl rfl ?_
            refine go_geti (v := (S.1 11100)) (pc' := 30) hC 111 0 layX_111 rfl rfl inlX7 (Nat.le_of_ble_eq_true rfl) mw_620 rfl dX7_reached_27 rfl rfl ?_
            refine go_icmp_ge (tgt := 70) (pc' := 33) hC dX7_reached_30 (by decide) rfl (fun h18 => ?_) (fun h18 => ?_)
            · have hf := ite_t h18 hf
              refine go_sub [0, 2, 3, 4, 5, 6] rfl ?_
              exact jk70_6 x8 hf
            · have hf := ite_f h18 hf
              refine go_iload_n (pc' := 34) hC dX7_reached_33 rfl rfl ?_
              refine go_iload (pc' := 36) hC dX7_reached_34 rfl rfl ?_
              refine go_ishr (pc' := 37) hC dX7_reached_36 rfl ?_
              refine go_iconst (pc' := 38) hC dX7_reached_37 ki_1 rfl ?_
              refine go_iand (pc' := 39) hC dX7_reached_38 rfl ?_
              obtain ⟨k64_12, hk64_12, hf⟩ := lk_e1 hf
              have jk64_12 : ∀ (x11 : Int32), k64_12 x11 = some o → Go X layX S 64 [(0, .ref (x_q X 111)), (2, .int p2), (3, .ref (x_q X 112)), (4, .int x11), (5, .int x3), (6, .int x2), (7, .int x9)] [] g [] [] [] [] [] 0 0 := by
                intro x11 hf
                have hf := hk64_12 x11 hf
                clear hk64_12
                refine go_iinc (lc' := [(0, .ref (x_q X 111)), (2, .int p2), (3, .ref (x_q X 112)), (4, .int x11), (5, .int x3), (6, .int x2), (7, .int (x9 + (1 : Int32)))]) (pc' := 67) hC dX7_reached_64 rfl ki_1 (Nat.le_of_ble_eq_true rfl) rfl rfl ?_
                refine go_goto (tgt := 24) hC dX7_reached_67 (by decide) ?_
                exact ih x11 (x9 + (1 : Int32)) hf
              clear hk64_12
              refine go_if_eq (tgt := 64) (pc' := 42) hC dX7_reached_39 (by decide) rfl (fun h17 => ?_) (fun h17 => ?_)
              · have hf := ite_t h17 hf
                exact jk64_12 x8 hf
              · have hf := ite_f h17 hf
                refine go_iload (pc' := 44) hC dX7_reached_42 rfl rfl ?_
                refine go_aload_n (pc' := 45) hC dX7_reached_44 rfl rfl ?_
                refine go_iload (pc' := 47) hC dX7_reached_45 rfl rfl ?_
                obtain ⟨h13, hf⟩ := gd_e hf
                refine go_iald (f := (S.2.2.1 112)) (pc' := 48) hC 112 layX_112 rfl rfl dX7_reached_47 (okx_in h13) rfl ?_
                refine go_iand (pc' := 49) hC dX7_reached_48 rfl ?_
                refine go_if_eq (tgt := 64) (pc' := 52) hC dX7_reached_49 (by decide) rfl (fun h16 => ?_) (fun h16 => ?_)
                · have hf := ite_t h16 hf
                  exact jk64_12 x8 hf
                · have hf := ite_f h16 hf
                  refine go_iload (pc' := 54) hC dX7_reached_52 rfl rfl ?_
                  refine go_aload_n (pc' := 55) hC dX7_reached_54 rfl rfl ?_
                  refine go_getq (pc' := 58) hC 111 5 layX_111 rfl rfl inlX7 (Nat.le_of_ble_eq_true rfl) mw_110 rfl dX7_reached_55 rfl ?_
                  refine go_iload (pc' := 60) hC dX7_reached_58 rfl rfl ?_
                  obtain ⟨h14, hf⟩ := gd_e hf
                  refine go_iald (f := (S.2.2.1 112)) (pc' := 61) hC 112 layX_112 rfl rfl dX7_reached_60 (okx_in h14) rfl ?_
                  refine go_ior (pc' := 62) hC dX7_reached_61 rfl ?_
                  refine go_namei (fun x15 hx => ?_)
                  have hf := lz_r hx hf
                  clear hx
                  refine go_istore (lc' := [(0, .ref (x_q X 111)), (2, .int p2), (3, .ref (x_q X 112)), (4, .int x15), (5, .int x3), (6, .int x2), (7, .int x9)]) (pc' := 64) hC dX7_reached_62 (Nat.le_of_ble_eq_true rfl) rfl rfl ?_
                  exact jk64_12 x15 hf
        exact l24_19 fuel x2 (0 : Int32) hf
  refine go_sub [0, 2, 3, 4, 5] rfl ?_
  exact l8_21 fuel x1 (1 : Int32) hf
theorem dX7_joiningTrees_0 : decode cX7_joiningTrees 0 = .ok (.iconst 0, 1) := by decide +kernel
theorem dX7_joiningTrees_1 : decode cX7_joiningTrees 1 = .ok (.istore_n 1, 1) := by decide +kernel
theorem dX7_joiningTrees_2 : decode cX7_joiningTrees 2 = .ok (.iconst 0, 1) := by decide +kernel
theorem dX7_joiningTrees_3 : decode cX7_joiningTrees 3 = .ok (.istore_n 2, 1) := by decide +kernel
theorem dX7_joiningTrees_4 : decode cX7_joiningTrees 4 = .ok (.iload_n 2, 1) := by decide +kernel
theorem dX7_joiningTrees_5 : decode cX7_joiningTrees 5 = .ok (.iconst 1, 1) := by decide +kernel
theorem dX7_joiningTrees_6 : decode cX7_joiningTrees 6 = .ok (.aload_n 0, 1) := by decide +kernel
theorem dX7_joiningTrees_7 : decode cX7_joiningTrees 7 = .ok (.getfield 41, 3) := by decide +kernel
theorem dX7_joiningTrees_10 : decode cX7_joiningTrees 10 = .ok (.ishl, 1) := by decide +kernel
theorem dX7_joiningTrees_11 : decode cX7_joiningTrees 11 = .ok (.if_icmp .ge 42, 3) := by decide +kernel
theorem dX7_joiningTrees_14 : decode cX7_joiningTrees 14 = .ok (.iload_n 2, 1) := by decide +kernel
theorem dX7_joiningTrees_15 : decode cX7_joiningTrees 15 = .ok (.invokestatic 91, 3) := by decide +kernel
theorem dX7_joiningTrees_18 : decode cX7_joiningTrees 18 = .ok (.aload_n 0, 1) := by decide +kernel
theorem dX7_joiningTrees_19 : decode cX7_joiningTrees 19 = .ok (.getfield 37, 3) := by decide +kernel
theorem dX7_joiningTrees_22 : decode cX7_joiningTrees 22 = .ok (.iconst 1, 1) := by decide +kernel
theorem dX7_joiningTrees_23 : decode cX7_joiningTrees 23 = .ok (.isub, 1) := by decide +kernel
theorem dX7_joiningTrees_24 : decode cX7_joiningTrees 24 = .ok (.if_icmp .ne 23, 3) := by decide +kernel
theorem dX7_joiningTrees_27 : decode cX7_joiningTrees 27 = .ok (.aload_n 0, 1) := by decide +kernel
theorem dX7_joiningTrees_28 : decode cX7_joiningTrees 28 = .ok (.iconst 0, 1) := by decide +kernel
theorem dX7_joiningTrees_29 : decode cX7_joiningTrees 29 = .ok (.iload_n 2, 1) := by decide +kernel
theorem dX7_joiningTrees_30 : decode cX7_joiningTrees 30 = .ok (.aload_n 0, 1) := by decide +kernel
theorem dX7_joiningTrees_31 : decode cX7_joiningTrees 31 = .ok (.getfield 9, 3) := by decide +kernel
theorem dX7_joiningTrees_34 : decode cX7_joiningTrees 34 = .ok (.invokevirtual 70, 3) := by decide +kernel
theorem dX7_joiningTrees_37 : decode cX7_joiningTrees 37 = .ok (.aload_n 0, 1) := by decide +kernel
theorem dX7_joiningTrees_38 : decode cX7_joiningTrees 38 = .ok (.getfield 42, 3) := by decide +kernel
theorem dX7_joiningTrees_41 : decode cX7_joiningTrees 41 = .ok (.if_icmp .ne 6, 3) := by decide +kernel
theorem dX7_joiningTrees_44 : decode cX7_joiningTrees 44 = .ok (.iinc 1 1, 3) := by decide +kernel
theorem dX7_joiningTrees_47 : decode cX7_joiningTrees 47 = .ok (.iinc 2 1, 3) := by decide +kernel
theorem dX7_joiningTrees_50 : decode cX7_joiningTrees 50 = .ok (.goto (-46), 3) := by decide +kernel
theorem dX7_joiningTrees_53 : decode cX7_joiningTrees 53 = .ok (.iload_n 1, 1) := by decide +kernel
theorem dX7_joiningTrees_54 : decode cX7_joiningTrees 54 = .ok (.ireturn, 1) := by decide +kernel
abbrev o_X7_joiningTrees_q111 : Type := Int32
def f_X7_joiningTrees_q111_L4 (S : wd_W) (r3 : (Int32) → (Int32) → (Option o_X7_joiningTrees_q111)) (x1 : Int32) (x2 : Int32) : Option o_X7_joiningTrees_q111 :=
if ((1 : Int32) <<< ((S.1 11100) &&& 31)) ≤ x2 then (
some x1) else (
bd (f_J6_bitCount_0f7a4 x2) fun o4 =>
lk (fun x5 =>
r3 x5 (x2 + (1 : Int32))) fun k47_6 =>
if o4 = ((S.1 11103) - (1 : Int32)) then (
bd (f_X7_reached_q111_q112 (wd_o S [] [] [] [] []) (0 : Int32) x2) fun o7 =>
if o7 = (S.1 11101) then (
k47_6 (x1 + (1 : Int32))) else (
k47_6 x1)) else (
k47_6 x1))
def f_X7_joiningTrees_q111 (S : wd_W) : Option o_X7_joiningTrees_q111 :=
it2 (f_X7_joiningTrees_q111_L4 S) fuel (0 : Int32) (0 : Int32)
set_option maxRecDepth 100000 in
set_option maxHeartbeats 4000000 in
theorem c_X7_joiningTrees_q111 (l : Launch) (D : va_G) (q g : Nat → Nat) (cy : Nat → ClassId) (z : (Nat → Nat) × (Nat → Nat) × Nat) (S : wd_W) (o : o_X7_joiningTrees_q111) (hf : f_X7_joiningTrees_q111 S = some o) : MX layX l yX7_joiningTrees cX7_joiningTrees 3 (some .int) ({ frames := 1, cells := 0, slots := 0, locals := 27 } : Room) D q g cy z [.ref (q 111)] S false (some (.int o)) (wd_o S [] [] [] [] []) 0 0 := by
  refine mx_of (own := RX7) (lc := [(0, .ref (q 111))]) (by decide +kernel) rfl layX_ok (Nat.le_of_ble_eq_true rfl) rfl ?_
  intro X hXl hXq hXz hC hQ
  subst hXl; subst hXq; subst hXz
  unfold f_X7_joiningTrees_q111 at hf
  refine go_iconst (pc' := 1) hC dX7_joiningTrees_0 ki_0 rfl ?_
  refine go_istore_n (lc' := [(0, .ref (x_q X 111)), (1, .int (0 : Int32))]) (pc' := 2) hC dX7_joiningTrees_1 (Nat.le_of_ble_eq_true rfl) rfl rfl ?_
  refine go_iconst (pc' := 3) hC dX7_joiningTrees_2 ki_0 rfl ?_
  refine go_istore_n (lc' := [(0, .ref (x_q X 111)), (1, .int (0 : Int32)), (2, .int (0 : Int32))]) (pc' := 4) hC dX7_joiningTrees_3 (Nat.le_of_ble_eq_true rfl) rfl rfl ?_
  have l4_11 : ∀ (nn : Nat) (x1 : Int32) (x2 : Int32), it2 (f_X7_joiningTrees_q111_L4 S) nn x1 x2 = some o → Go X layX S 4 [(0, .ref (x_q X 111)), (1, .int x1), (2, .int x2)] [] g [] [] [] [] [] 0 0 := by
    intro nn
    induction nn with
    | zero =>
      intro x1 x2 hf
      exact none_no hf
    | succ nn ih =>
      intro x1 x2 hf
      have hf : f_X7_joiningTrees_q111_L4 S (it2 (f_X7_joiningTrees_q111_L4 S) nn) x1 x2 = some o := hf
      generalize it2 (f_X7_joiningTrees_q111_L4 S) nn = r3 at ih hf
      unfold f_X7_joiningTrees_q111_L4 at hf
      refine go_iload_n (pc' := 5) hC dX7_joiningTrees_4 rfl rfl ?_
      refine go_iconst (pc' := 6) hC dX7_joiningTrees_5 ki_1 rfl ?_
      refine go_aload_n (pc' := 7) hC dX7_joiningTrees_6 rfl rfl ?_
      refine go_geti (v := (S.1 11100)) (pc' := 10) hC 111 0 layX_111 rfl rfl inlX7 (Nat.le_of_ble_eq_true rfl) mw_620 rfl dX7_joiningTrees_7 rfl rfl ?_
      refine go_ishl (pc' := 11) hC dX7_joiningTrees_10 rfl ?_
      refine go_icmp_ge (tgt := 53) (pc' := 14) hC dX7_joiningTrees_11 (by decide) rfl (fun h10 => ?_) (fun h10 => ?_)
      · have hf := ite_t h10 hf
        refine go_iload_n (pc' := 54) hC dX7_joiningTrees_53 rfl rfl ?_
        obtain rfl := Option.some.inj hf
        exact go_iret hC hQ dX7_joiningTrees_54 rfl rfl rfl rfl (fun _ => rfl) rfl rfl
      · have hf := ite_f h10 hf
        refine go_iload_n (pc' := 15) hC dX7_joiningTrees_14 rfl rfl ?_
        obtain ⟨o4, ho4, hf⟩ := bd_e hf
        refine go_callS0 (pc' := 18) (As := [.int x2]) (st := []) (st' := [.int o4])    hC dX7_joiningTrees_15 ⟨mw_674, mw_677, mw_676, yd_yJ6_bitCount_0f7a4, yp_yJ6_bitCount_0f7a4, Nat.le_of_ble_eq_true rfl, Nat.le_of_ble_eq_true rfl, (Nat.le_of_ble_eq_true rfl), (Nat.le_of_ble_eq_true rfl)⟩ mw_675 rfl rfl (Nat.le_of_ble_eq_true rfl) (c_J6_bitCount_0f7a4 (x_l X) (x_D X) (x_q X) g (x_cy X) (x_z X) _ x2 o4 ho4) rfl rfl ?_
        refine go_aload_n (pc' := 19) hC dX7_joiningTrees_18 rfl rfl ?_
        refine go_geti (v := (S.1 11103)) (pc' := 22) hC 111 3 layX_111 rfl rfl inlX7 (Nat.le_of_ble_eq_true rfl) mw_618 rfl dX7_joiningTrees_19 rfl rfl ?_
        refine go_iconst (pc' := 23) hC dX7_joiningTrees_22 ki_1 rfl ?_
        refine go_isub (pc' := 24) hC dX7_joiningTrees_23 rfl ?_
        obtain ⟨k47_6, hk47_6, hf⟩ := lk_e1 hf
        have jk47_6 : ∀ (x5 : Int32), k47_6 x5 = some o → Go X layX S 47 [(0, .ref (x_q X 111)), (1, .int x5), (2, .int x2)] [] g [] [] [] [] [] 0 0 := by
          intro x5 hf
          have hf := hk47_6 x5 hf
          clear hk47_6
          refine go_iinc (lc' := [(0, .ref (x_q X 111)), (1, .int x5), (2, .int (x2 + (1 : Int32)))]) (pc' := 50) hC dX7_joiningTrees_47 rfl ki_1 (Nat.le_of_ble_eq_true rfl) rfl rfl ?_
          refine go_goto (tgt := 4) hC dX7_joiningTrees_50 (by decide) ?_
          exact ih x5 (x2 + (1 : Int32)) hf
        clear hk47_6
        refine go_icmp_ne (tgt := 47) (pc' := 27) hC dX7_joiningTrees_24 (by decide) rfl (fun h9 => ?_) (fun h9 => ?_)
        · have hf := ite_f h9 hf
          exact jk47_6 x1 hf
        · have hf := ite_t h9 hf
          refine go_aload_n (pc' := 28) hC dX7_joiningTrees_27 rfl rfl ?_
          refine go_iconst (pc' := 29) hC dX7_joiningTrees_28 ki_0 rfl ?_
          refine go_iload_n (pc' := 30) hC dX7_joiningTrees_29 rfl rfl ?_
          refine go_aload_n (pc' := 31) hC dX7_joiningTrees_30 rfl rfl ?_
          refine go_getq (pc' := 34) hC 111 5 layX_111 rfl rfl inlX7 (Nat.le_of_ble_eq_true rfl) mw_110 rfl dX7_joiningTrees_31 rfl ?_
          obtain ⟨o7, ho7, hf⟩ := bd_e hf
          refine go_callV0 (pc' := 37) (As := [.int (0 : Int32), .int x2, .ref (x_q X 112)]) (st := []) (st' := [.int o7])    (b := 111) hC dX7_joiningTrees_34 ⟨mw_670, mw_673, mw_99, yd_yX7_reached, yp_yX7_reached, Nat.le_of_ble_eq_true rfl, Nat.le_of_ble_eq_true rfl, (Nat.le_of_ble_eq_true rfl), (Nat.le_of_ble_eq_true rfl)⟩ mw_671 mw_672 layX_111 rfl rfl rfl (Nat.le_of_ble_eq_true rfl) (c_X7_reached_q111_q112 (x_l X) (x_D X) (x_q X) g (x_cy X) (x_z X) _ (0 : Int32) x2 o7 ho7) rfl rfl ?_
          refine go_aload_n (pc' := 38) hC dX7_joiningTrees_37 rfl rfl ?_
          refine go_geti (v := (S.1 11101)) (pc' := 41) hC 111 1 layX_111 rfl rfl inlX7 (Nat.le_of_ble_eq_true rfl) mw_621 rfl dX7_joiningTrees_38 rfl rfl ?_
          refine go_icmp_ne (tgt := 47) (pc' := 44) hC dX7_joiningTrees_41 (by decide) rfl (fun h8 => ?_) (fun h8 => ?_)
          · have hf := ite_f h8 hf
            exact jk47_6 x1 hf
          · have hf := ite_t h8 hf
            refine go_iinc (lc' := [(0, .ref (x_q X 111)), (1, .int (x1 + (1 : Int32))), (2, .int x2)]) (pc' := 47) hC dX7_joiningTrees_44 rfl ki_1 (Nat.le_of_ble_eq_true rfl) rfl rfl ?_
            exact jk47_6 (x1 + (1 : Int32)) hf
  exact l4_11 fuel (0 : Int32) (0 : Int32) hf
theorem dX11_trees_0 : decode cX11_trees 0 = .ok (.aload_n 0, 1) := by decide +kernel
theorem dX11_trees_1 : decode cX11_trees 1 = .ok (.invokevirtual 171, 3) := by decide +kernel
theorem dX11_trees_4 : decode cX11_trees 4 = .ok (.getfield 310, 3) := by decide +kernel
theorem dX11_trees_7 : decode cX11_trees 7 = .ok (.invokevirtual 329, 3) := by decide +kernel
theorem dX11_trees_10 : decode cX11_trees 10 = .ok (.ireturn, 1) := by decide +kernel
abbrev o_X11_trees : Type := Int32 × wd_W × Nat × Nat
def f_X11_trees (S : wd_W) : Option o_X11_trees :=
bd (f_X11_knownSets (wd_o S [] [] [] [] [])) fun o1 =>
gd (okr (0 + o1.2.1) (0 + o1.2.2) 0 0 40 500000) <|
bd (f_X7_joiningTrees_q111 (wd_o o1.1 [] [] [] [] [])) fun o2 =>
some (o2, o1.1, 0 + o1.2.1, 0 + o1.2.2)
set_option maxRecDepth 100000 in
set_option maxHeartbeats 4000000 in
theorem c_X11_trees (l : Launch) (D : va_G) (q g : Nat → Nat) (cy : Nat → ClassId) (z : (Nat → Nat) × (Nat → Nat) × Nat) (S : wd_W) (o : o_X11_trees) (hf : f_X11_trees S = some o) : MX layX l yX11_trees cX11_trees 1 (some .int) ({ frames := 6, cells := 40, slots := 500000, locals := 147 } : Room) D q g cy z [.ref (q 0)] S true (some (.int o.1)) o.2.1 o.2.2.1 o.2.2.2 := by
  refine mx_of (own := RX11) (lc := [(0, .ref (q 0))]) (by decide +kernel) rfl layX_ok (Nat.le_of_ble_eq_true rfl) rfl ?_
  intro X hXl hXq hXz hC hQ
  subst hXl; subst hXq; subst hXz
  unfold f_X11_trees at hf
  refine go_aload_n (pc' := 1) hC dX11_trees_0 rfl rfl ?_
  obtain ⟨o1, ho1, hf⟩ := bd_e hf
  refine go_callVw (pc' := 4) (As := []) (st := []) (st' := [.ref (x_q X 106)])  (cells' := 0 + o1.2.1) (slots' := 0 + o1.2.2)  (b := 0) hC dX11_trees_1 ⟨mw_593, mw_596, mw_2, yd_yX11_knownSets, yp_yX11_knownSets, Nat.le_of_ble_eq_true rfl, Nat.le_of_ble_eq_true rfl, (Nat.le_of_ble_eq_true rfl), (Nat.le_of_ble_eq_true rfl)⟩ mw_594 mw_595 layX_0 rfl rfl rfl (Nat.le_of_ble_eq_true rfl) (c_X11_knownSets (x_l X) (x_D X) (x_q X) g (x_cy X) (x_z X) _  o1 ho1) rfl rfl rfl rfl (fun g _ => ?_)
  refine go_getq (pc' := 7) hC 106 0 layX_106 rfl rfl inlX8 (Nat.le_of_ble_eq_true rfl) mw_1366 rfl dX11_trees_4 rfl ?_
  obtain ⟨h3, hf⟩ := gd_e hf
  obtain ⟨o2, ho2, hf⟩ := bd_e hf
  refine go_callV0 (pc' := 10) (As := []) (st := []) (st' := [.int o2])   (rc := { frames := 1, cells := 0, slots := 0, locals := 27 }) (b := 111) hC dX11_trees_7 ⟨mw_1455, mw_1458, mw_99, yd_yX7_joiningTrees, yp_yX7_joiningTrees, Nat.le_of_ble_eq_true rfl, Nat.le_of_ble_eq_true rfl, (okr_c h3), (okr_s h3)⟩ mw_1456 mw_1457 layX_111 rfl rfl rfl (Nat.le_of_ble_eq_true rfl) (c_X7_joiningTrees_q111 (x_l X) (x_D X) (x_q X) g (x_cy X) (x_z X) _  o2 ho2) rfl rfl ?_
  obtain rfl := Option.some.inj hf
  exact go_iret hC hQ dX11_trees_10 rfl rfl rfl rfl (fun h => nomatch h) rfl rfl
theorem dX4_fewest_0 : decode cX4_fewest 0 = .ok (.aload_n 0, 1) := by decide +kernel
theorem dX4_fewest_1 : decode cX4_fewest 1 = .ok (.getfield 9, 3) := by decide +kernel
theorem dX4_fewest_4 : decode cX4_fewest 4 = .ok (.getstatic 39, 3) := by decide +kernel
theorem dX4_fewest_7 : decode cX4_fewest 7 = .ok (.aload_n 0, 1) := by decide +kernel
theorem dX4_fewest_8 : decode cX4_fewest 8 = .ok (.getfield 37, 3) := by decide +kernel
theorem dX4_fewest_11 : decode cX4_fewest 11 = .ok (.iaload, 1) := by decide +kernel
theorem dX4_fewest_12 : decode cX4_fewest 12 = .ok (.iconst 1, 1) := by decide +kernel
theorem dX4_fewest_13 : decode cX4_fewest 13 = .ok (.isub, 1) := by decide +kernel
theorem dX4_fewest_14 : decode cX4_fewest 14 = .ok (.baload, 1) := by decide +kernel
theorem dX4_fewest_15 : decode cX4_fewest 15 = .ok (.ireturn, 1) := by decide +kernel
abbrev o_X4_fewest_q159 : Type := Int32
def f_X4_fewest_q159 (S : wd_W) : Option o_X4_fewest_q159 :=
gd (okx (S.1 15901) 10) <|
gd (okx ((st_pow ((S.1 15901)).toNatClampNeg) - (1 : Int32)) (S.2.2.2.2 160)) <|
some ((S.2.2.1 160) ((st_pow ((S.1 15901)).toNatClampNeg) - (1 : Int32)).toNatClampNeg)
set_option maxRecDepth 100000 in
set_option maxHeartbeats 4000000 in
theorem c_X4_fewest_q159 (l : Launch) (D : va_G) (q g : Nat → Nat) (cy : Nat → ClassId) (z : (Nat → Nat) × (Nat → Nat) × Nat) (S : wd_W) (o : o_X4_fewest_q159) (hf : f_X4_fewest_q159 S = some o) : MX layX l yX4_fewest cX4_fewest 1 (some .int) ({ frames := 0, cells := 0, slots := 0, locals := 0 } : Room) D q g cy z [.ref (q 159)] S false (some (.int o)) (wd_o S [] [] [] [] []) 0 0 := by
  refine mx_of (own := RX4) (lc := [(0, .ref (q 159))]) (by decide +kernel) rfl layX_ok (Nat.le_of_ble_eq_true rfl) rfl ?_
  intro X hXl hXq hXz hC hQ
  subst hXl; subst hXq; subst hXz
  unfold f_X4_fewest_q159 at hf
  refine go_aload_n (pc' := 1) hC dX4_fewest_0 rfl rfl ?_
  refine go_getg (pc' := 4) hC 159 2 layX_159 rfl rfl inlX4 (Nat.le_of_ble_eq_true rfl) mw_174 rfl dX4_fewest_1 rfl ?_
  refine go_getpow (pc' := 7) hC mw_836 dX4_fewest_4 rfl ?_
  refine go_aload_n (pc' := 8) hC dX4_fewest_7 rfl rfl ?_
  refine go_geti (v := (S.1 15901)) (pc' := 11) hC 159 1 layX_159 rfl rfl inlX4 (Nat.le_of_ble_eq_true rfl) mw_835 rfl dX4_fewest_8 rfl rfl ?_
  obtain ⟨h1, hf⟩ := gd_e hf
  refine go_pow (pc' := 12) hC dX4_fewest_11 (okx_in h1) rfl ?_
  refine go_iconst (pc' := 13) hC dX4_fewest_12 ki_1 rfl ?_
  refine go_isub (pc' := 14) hC dX4_fewest_13 rfl ?_
  obtain ⟨h2, hf⟩ := gd_e hf
  refine go_baldg (f := (S.2.2.1 160)) (pc' := 15) hC 160 layX_160 rfl rfl dX4_fewest_14 (okx_in h2) rfl ?_
  obtain rfl := Option.some.inj hf
  exact go_iret hC hQ dX4_fewest_15 rfl rfl rfl rfl (fun _ => rfl) rfl rfl
theorem dX4_firstThing_0 : decode cX4_firstThing 0 = .ok (.getstatic 39, 3) := by decide +kernel
theorem dX4_firstThing_3 : decode cX4_firstThing 3 = .ok (.aload_n 0, 1) := by decide +kernel
theorem dX4_firstThing_4 : decode cX4_firstThing 4 = .ok (.getfield 37, 3) := by decide +kernel
theorem dX4_firstThing_7 : decode cX4_firstThing 7 = .ok (.iaload, 1) := by decide +kernel
theorem dX4_firstThing_8 : decode cX4_firstThing 8 = .ok (.iconst 1, 1) := by decide +kernel
theorem dX4_firstThing_9 : decode cX4_firstThing 9 = .ok (.isub, 1) := by decide +kernel
theorem dX4_firstThing_10 : decode cX4_firstThing 10 = .ok (.istore_n 1, 1) := by decide +kernel
theorem dX4_firstThing_11 : decode cX4_firstThing 11 = .ok (.aload_n 0, 1) := by decide +kernel
theorem dX4_firstThing_12 : decode cX4_firstThing 12 = .ok (.getfield 9, 3) := by decide +kernel
theorem dX4_firstThing_15 : decode cX4_firstThing 15 = .ok (.iload_n 1, 1) := by decide +kernel
theorem dX4_firstThing_16 : decode cX4_firstThing 16 = .ok (.baload, 1) := by decide +kernel
theorem dX4_firstThing_17 : decode cX4_firstThing 17 = .ok (.ifCond .ne 5, 3) := by decide +kernel
theorem dX4_firstThing_20 : decode cX4_firstThing 20 = .ok (.iconst (-1), 1) := by decide +kernel
theorem dX4_firstThing_21 : decode cX4_firstThing 21 = .ok (.ireturn, 1) := by decide +kernel
theorem dX4_firstThing_22 : decode cX4_firstThing 22 = .ok (.iconst 0, 1) := by decide +kernel
theorem dX4_firstThing_23 : decode cX4_firstThing 23 = .ok (.istore_n 2, 1) := by decide +kernel
theorem dX4_firstThing_24 : decode cX4_firstThing 24 = .ok (.iload_n 2, 1) := by decide +kernel
theorem dX4_firstThing_25 : decode cX4_firstThing 25 = .ok (.aload_n 0, 1) := by decide +kernel
theorem dX4_firstThing_26 : decode cX4_firstThing 26 = .ok (.getfield 37, 3) := by decide +kernel
theorem dX4_firstThing_29 : decode cX4_firstThing 29 = .ok (.if_icmp .ge 26, 3) := by decide +kernel
theorem dX4_firstThing_32 : decode cX4_firstThing 32 = .ok (.aload_n 0, 1) := by decide +kernel
theorem dX4_firstThing_33 : decode cX4_firstThing 33 = .ok (.iload_n 1, 1) := by decide +kernel
theorem dX4_firstThing_34 : decode cX4_firstThing 34 = .ok (.iload_n 2, 1) := by decide +kernel
theorem dX4_firstThing_35 : decode cX4_firstThing 35 = .ok (.invokevirtual 54, 3) := by decide +kernel
theorem dX4_firstThing_38 : decode cX4_firstThing 38 = .ok (.aload_n 0, 1) := by decide +kernel
theorem dX4_firstThing_39 : decode cX4_firstThing 39 = .ok (.getfield 9, 3) := by decide +kernel
theorem dX4_firstThing_42 : decode cX4_firstThing 42 = .ok (.iload_n 1, 1) := by decide +kernel
theorem dX4_firstThing_43 : decode cX4_firstThing 43 = .ok (.baload, 1) := by decide +kernel
theorem dX4_firstThing_44 : decode cX4_firstThing 44 = .ok (.if_icmp .ne 5, 3) := by decide +kernel
theorem dX4_firstThing_47 : decode cX4_firstThing 47 = .ok (.iload_n 2, 1) := by decide +kernel
theorem dX4_firstThing_48 : decode cX4_firstThing 48 = .ok (.ireturn, 1) := by decide +kernel
theorem dX4_firstThing_49 : decode cX4_firstThing 49 = .ok (.iinc 2 1, 3) := by decide +kernel
theorem dX4_firstThing_52 : decode cX4_firstThing 52 = .ok (.goto (-28), 3) := by decide +kernel
theorem dX4_firstThing_55 : decode cX4_firstThing 55 = .ok (.iconst (-1), 1) := by decide +kernel
theorem dX4_firstThing_56 : decode cX4_firstThing 56 = .ok (.ireturn, 1) := by decide +kernel
abbrev o_X4_firstThing_q159 : Type := Int32
def f_X4_firstThing_q159_L24 (S : wd_W) (x2 : Int32) (r5 : (Int32) → (Option o_X4_firstThing_q159)) (x4 : Int32) : Option o_X4_firstThing_q159 :=
if (S.1 15901) ≤ x4 then (
some (-1 : Int32)) else (
bd (f_X4_neededBy_q159 (wd_o S [] [] [] [] []) x2 x4) fun o6 =>
gd (okx x2 (S.2.2.2.2 160)) <|
if o6 = ((S.2.2.1 160) x2.toNatClampNeg) then (
some x4) else (
r5 (x4 + (1 : Int32))))
def f_X4_firstThing_q159 (S : wd_W) : Option o_X4_firstThing_q159 :=
gd (okx (S.1 15901) 10) <|
lz ((st_pow ((S.1 15901)).toNatClampNeg) - (1 : Int32)) fun x2 =>
gd (okx x2 (S.2.2.2.2 160)) <|
if ((S.2.2.1 160) x2.toNatClampNeg) = 0 then (
some (-1 : Int32)) else (
it1 (f_X4_firstThing_q159_L24 S x2) fuel (0 : Int32))
set_option maxRecDepth 100000 in
set_option maxHeartbeats 4000000 in
theorem c_X4_firstThing_q159 (l : Launch) (D : va_G) (q g : Nat → Nat) (cy : Nat → ClassId) (z : (Nat → Nat) × (Nat → Nat) × Nat) (S : wd_W) (o : o_X4_firstThing_q159) (hf : f_X4_firstThing_q159 S = some o) : MX layX l yX4_firstThing cX4_firstThing 3 (some .int) ({ frames := 2, cells := 0, slots := 0, locals := 43 } : Room) D q g cy z [.ref (q 159)] S false (some (.int o)) (wd_o S [] [] [] [] []) 0 0 := by
  refine mx_of (own := RX4) (lc := [(0, .ref (q 159))]) (by decide +kernel) rfl layX_ok (Nat.le_of_ble_eq_true rfl) rfl ?_
  intro X hXl hXq hXz hC hQ
  subst hXl; subst hXq; subst hXz
  unfold f_X4_firstThing_q159 at hf
  refine go_getpow (pc' := 3) hC mw_836 dX4_firstThing_0 rfl ?_
  refine go_aload_n (pc' := 4) hC dX4_firstThing_3 rfl rfl ?_
  refine go_geti (v := (S.1 15901)) (pc' := 7) hC 159 1 layX_159 rfl rfl inlX4 (Nat.le_of_ble_eq_true rfl) mw_835 rfl dX4_firstThing_4 rfl rfl ?_
  obtain ⟨h1, hf⟩ := gd_e hf
  refine go_pow (pc' := 8) hC dX4_firstThing_7 (okx_in h1) rfl ?_
  refine go_iconst (pc' := 9) hC dX4_firstThing_8 ki_1 rfl ?_
  refine go_isub (pc' := 10) hC dX4_firstThing_9 rfl ?_
  refine go_namei (fun x2 hx => ?_)
  have hf := lz_r hx hf
  clear hx
  refine go_istore_n (lc' := [(0, .ref (x_q X 159)), (1, .int x2)]) (pc' := 11) hC dX4_firstThing_10 (Nat.le_of_ble_eq_true rfl) rfl rfl ?_
  refine go_aload_n (pc' := 12) hC dX4_firstThing_11 rfl rfl ?_
  refine go_getg (pc' := 15) hC 159 2 layX_159 rfl rfl inlX4 (Nat.le_of_ble_eq_true rfl) mw_174 rfl dX4_firstThing_12 rfl ?_
  refine go_iload_n (pc' := 16) hC dX4_firstThing_15 rfl rfl ?_
  obtain ⟨h3, hf⟩ := gd_e hf
  refine go_baldg (f := (S.2.2.1 160)) (pc' := 17) hC 160 layX_160 rfl rfl dX4_firstThing_16 (okx_in h3) rfl ?_
  refine go_if_ne (tgt := 22) (pc' := 20) hC dX4_firstThing_17 (by decide) rfl (fun h11 => ?_) (fun h11 => ?_)
  · have hf := ite_f h11 hf
    refine go_iconst (pc' := 23) hC dX4_firstThing_22 ki_0 rfl ?_
    refine go_istore_n (lc' := [(0, .ref (x_q X 159)), (1, .int x2), (2, .int (0 : Int32))]) (pc' := 24) hC dX4_firstThing_23 (Nat.le_of_ble_eq_true rfl) rfl rfl ?_
    have l24_10 : ∀ (nn : Nat) (x4 : Int32), it1 (f_X4_firstThing_q159_L24 S x2) nn x4 = some o → Go X layX S 24 [(0, .ref (x_q X 159)), (1, .int x2), (2, .int x4)] [] g [] [] [] [] [] 0 0 := by
      intro nn
      induction nn with
      | zero =>
        intro x4 hf
        exact none_no hf
      | succ nn ih =>
        intro x4 hf
        have hf : f_X4_firstThing_q159_L24 S x2 (it1 (f_X4_firstThing_q159_L24 S x2) nn) x4 = some o := hf
        generalize it1 (f_X4_firstThing_q159_L24 S x2) nn = r5 at ih hf
        unfold f_X4_firstThing_q159_L24 at hf
        refine go_iload_n (pc' := 25) hC dX4_firstThing_24 rfl rfl ?_
        refine go_aload_n (pc' := 26) hC dX4_firstThing_25 rfl rfl ?_
        refine go_geti (v := (S.1 15901)) (pc' := 29) hC 159 1 layX_159 rfl rfl inlX4 (Nat.le_of_ble_eq_true rfl) mw_835 rfl dX4_firstThing_26 rfl rfl ?_
        refine go_icmp_ge (tgt := 55) (pc' := 32) hC dX4_firstThing_29 (by decide) rfl (fun h9 => ?_) (fun h9 => ?_)
        · have hf := ite_t h9 hf
          refine go_iconst (pc' := 56) hC dX4_firstThing_55 ki_m1 rfl ?_
          obtain rfl := Option.some.inj hf
          exact go_iret hC hQ dX4_firstThing_56 rfl rfl rfl rfl (fun _ => rfl) rfl rfl
        · have hf := ite_f h9 hf
          refine go_aload_n (pc' := 33) hC dX4_firstThing_32 rfl rfl ?_
          refine go_iload_n (pc' := 34) hC dX4_firstThing_33 rfl rfl ?_
          refine go_iload_n (pc' := 35) hC dX4_firstThing_34 rfl rfl ?_
          obtain ⟨o6, ho6, hf⟩ := bd_e hf
          refine go_callV0 (pc' := 38) (As := [.int x2, .int x4]) (st := []) (st' := [.int o6])    (b := 159) hC dX4_firstThing_35 ⟨mw_846, mw_849, mw_52, yd_yX4_neededBy, yp_yX4_neededBy, Nat.le_of_ble_eq_true rfl, Nat.le_of_ble_eq_true rfl, (Nat.le_of_ble_eq_true rfl), (Nat.le_of_ble_eq_true rfl)⟩ mw_847 mw_848 layX_159 rfl rfl rfl (Nat.le_of_ble_eq_true rfl) (c_X4_neededBy_q159 (x_l X) (x_D X) (x_q X) g (x_cy X) (x_z X) _ x2 x4 o6 ho6) rfl rfl ?_
          refine go_aload_n (pc' := 39) hC dX4_firstThing_38 rfl rfl ?_
          refine go_getg (pc' := 42) hC 159 2 layX_159 rfl rfl inlX4 (Nat.le_of_ble_eq_true rfl) mw_174 rfl dX4_firstThing_39 rfl ?_
          refine go_iload_n (pc' := 43) hC dX4_firstThing_42 rfl rfl ?_
          obtain ⟨h7, hf⟩ := gd_e hf
          refine go_baldg (f := (S.2.2.1 160)) (pc' := 44) hC 160 layX_160 rfl rfl dX4_firstThing_43 (okx_in h7) rfl ?_
          refine go_icmp_ne (tgt := 49) (pc' := 47) hC dX4_firstThing_44 (by decide) rfl (fun h8 => ?_) (fun h8 => ?_)
          · have hf := ite_f h8 hf
            refine go_iinc (lc' := [(0, .ref (x_q X 159)), (1, .int x2), (2, .int (x4 + (1 : Int32)))]) (pc' := 52) hC dX4_firstThing_49 rfl ki_1 (Nat.le_of_ble_eq_true rfl) rfl rfl ?_
            refine go_goto (tgt := 24) hC dX4_firstThing_52 (by decide) ?_
            exact ih (x4 + (1 : Int32)) hf
          · have hf := ite_t h8 hf
            refine go_iload_n (pc' := 48) hC dX4_firstThing_47 rfl rfl ?_
            obtain rfl := Option.some.inj hf
            exact go_iret hC hQ dX4_firstThing_48 rfl rfl rfl rfl (fun _ => rfl) rfl rfl
    exact l24_10 fuel (0 : Int32) hf
  · have hf := ite_t h11 hf
    refine go_iconst (pc' := 21) hC dX4_firstThing_20 ki_m1 rfl ?_
    obtain rfl := Option.some.inj hf
    exact go_iret hC hQ dX4_firstThing_21 rfl rfl rfl rfl (fun _ => rfl) rfl rfl
theorem dX11_looks_0 : decode cX11_looks 0 = .ok (.iload_n 1, 1) := by decide +kernel
theorem dX11_looks_1 : decode cX11_looks 1 = .ok (.ifCond .lt 20, 3) := by decide +kernel
theorem dX11_looks_4 : decode cX11_looks 4 = .ok (.iload_n 1, 1) := by decide +kernel
theorem dX11_looks_5 : decode cX11_looks 5 = .ok (.iconst 1, 1) := by decide +kernel
theorem dX11_looks_6 : decode cX11_looks 6 = .ok (.if_icmp .gt 15, 3) := by decide +kernel
theorem dX11_looks_9 : decode cX11_looks 9 = .ok (.aload_n 0, 1) := by decide +kernel
theorem dX11_looks_10 : decode cX11_looks 10 = .ok (.getfield 25, 3) := by decide +kernel
theorem dX11_looks_13 : decode cX11_looks 13 = .ok (.invokevirtual 129, 3) := by decide +kernel
theorem dX11_looks_16 : decode cX11_looks 16 = .ok (.bipush 9, 2) := by decide +kernel
theorem dX11_looks_18 : decode cX11_looks 18 = .ok (.if_icmp .le 5, 3) := by decide +kernel
theorem dX11_looks_21 : decode cX11_looks 21 = .ok (.iconst (-1), 1) := by decide +kernel
theorem dX11_looks_22 : decode cX11_looks 22 = .ok (.ireturn, 1) := by decide +kernel
theorem dX11_looks_23 : decode cX11_looks 23 = .ok (.aload_n 0, 1) := by decide +kernel
theorem dX11_looks_24 : decode cX11_looks 24 = .ok (.sipush 128, 3) := by decide +kernel
theorem dX11_looks_27 : decode cX11_looks 27 = .ok (.invokevirtual 233, 3) := by decide +kernel
theorem dX11_looks_30 : decode cX11_looks 30 = .ok (.iload_n 1, 1) := by decide +kernel
theorem dX11_looks_31 : decode cX11_looks 31 = .ok (.ifCond .ne 13, 3) := by decide +kernel
theorem dX11_looks_34 : decode cX11_looks 34 = .ok (.aload_n 0, 1) := by decide +kernel
theorem dX11_looks_35 : decode cX11_looks 35 = .ok (.getfield 101, 3) := by decide +kernel
theorem dX11_looks_38 : decode cX11_looks 38 = .ok (.invokevirtual 332, 3) := by decide +kernel
theorem dX11_looks_41 : decode cX11_looks 41 = .ok (.goto 10, 3) := by decide +kernel
theorem dX11_looks_44 : decode cX11_looks 44 = .ok (.aload_n 0, 1) := by decide +kernel
theorem dX11_looks_45 : decode cX11_looks 45 = .ok (.getfield 101, 3) := by decide +kernel
theorem dX11_looks_48 : decode cX11_looks 48 = .ok (.invokevirtual 335, 3) := by decide +kernel
theorem dX11_looks_51 : decode cX11_looks 51 = .ok (.ireturn, 1) := by decide +kernel
abbrev o_X11_looks : Type := Int32 × wd_W × Nat × Nat
def f_X11_looks (S : wd_W) (p1 : Int32) : Option o_X11_looks :=
if p1 < 0 then (
some ((-1 : Int32), S, 0, 0)) else (
if (1 : Int32) < p1 then (
some ((-1 : Int32), S, 0, 0)) else (
bd (f_X2_things_q16 (wd_o S [] [] [] [] [])) fun o1 =>
if o1 ≤ (9 : Int32) then (
bd (f_X11_know (wd_o S [] [] [] [] []) (128 : Int32)) fun o2 =>
if p1 = 0 then (
gd (okr (0 + o2.2.1) (0 + o2.2.2) 0 0 40 500000) <|
bd (f_X4_fewest_q159 (wd_o o2.1 [] [] [] [] [])) fun o5 =>
some (o5, o2.1, 0 + o2.2.1, 0 + o2.2.2)) else (
gd (okr (0 + o2.2.1) (0 + o2.2.2) 0 0 40 500000) <|
bd (f_X4_firstThing_q159 (wd_o o2.1 [] [] [] [] [])) fun o3 =>
some (o3, o2.1, 0 + o2.2.1, 0 + o2.2.2))) else (
some ((-1 : Int32), S, 0, 0))))
set_option maxRecDepth 100000 in
set_option maxHeartbeats 4000000 in
theorem c_X11_looks (l : Launch) (D : va_G) (q g : Nat → Nat) (cy : Nat → ClassId) (z : (Nat → Nat) × (Nat → Nat) × Nat) (S : wd_W) (p1 : Int32) (o : o_X11_looks) (hf : f_X11_looks S p1 = some o) : MX layX l yX11_looks cX11_looks 2 (some .int) ({ frames := 5, cells := 40, slots := 500000, locals := 127 } : Room) D q g cy z [.ref (q 0), .int p1] S true (some (.int o.1)) o.2.1 o.2.2.1 o.2.2.2 := by
  refine mx_of (own := RX11) (lc := [(0, .ref (q 0)), (1, .int p1)]) (by decide +kernel) rfl layX_ok (Nat.le_of_ble_eq_true rfl) rfl ?_
  intro X hXl hXq hXz hC hQ
  subst hXl; subst hXq; subst hXz
  unfold f_X11_looks at hf
  refine go_iload_n (pc' := 1) hC dX11_looks_0 rfl rfl ?_
  refine go_if_lt (tgt := 21) (pc' := 4) hC dX11_looks_1 (by decide) rfl (fun h10 => ?_) (fun h10 => ?_)
  · have hf := ite_t h10 hf
    refine go_iconst (pc' := 22) hC dX11_looks_21 ki_m1 rfl ?_
    obtain rfl := Option.some.inj hf
    exact go_iret hC hQ dX11_looks_22 rfl rfl rfl rfl (fun h => nomatch h) rfl rfl
  · have hf := ite_f h10 hf
    refine go_iload_n (pc' := 5) hC dX11_looks_4 rfl rfl ?_
    refine go_iconst (pc' := 6) hC dX11_looks_5 ki_1 rfl ?_
    refine go_icmp_gt (tgt := 21) (pc' := 9) hC dX11_looks_6 (by decide) rfl (fun h9 => ?_) (fun h9 => ?_)
    · have hf := ite_t h9 hf
      refine go_iconst (pc' := 22) hC dX11_looks_21 ki_m1 rfl ?_
      obtain rfl := Option.some.inj hf
      exact go_iret hC hQ dX11_looks_22 rfl rfl rfl rfl (fun h => nomatch h) rfl rfl
    · have hf := ite_f h9 hf
      refine go_aload_n (pc' := 10) hC dX11_looks_9 rfl rfl ?_
      refine go_getq (pc' := 13) hC 0 2 layX_0 rfl rfl inlX11 (Nat.le_of_ble_eq_true rfl) mw_20 rfl dX11_looks_10 rfl ?_
      obtain ⟨o1, ho1, hf⟩ := bd_e hf
      refine go_callV0 (pc' := 16) (As := []) (st := []) (st' := [.int o1])    (b := 16) hC dX11_looks_13 ⟨mw_484, mw_418, mw_14, yd_yX2_things, yp_yX2_things, Nat.le_of_ble_eq_true rfl, Nat.le_of_ble_eq_true rfl, (Nat.le_of_ble_eq_true rfl), (Nat.le_of_ble_eq_true rfl)⟩ mw_416 mw_417 layX_16 rfl rfl rfl (Nat.le_of_ble_eq_true rfl) (c_X2_things_q16 (x_l X) (x_D X) (x_q X) g (x_cy X) (x_z X) _  o1 ho1) rfl rfl ?_
      refine go_bipush (pc' := 18) hC dX11_looks_16 kb_9 rfl ?_
      refine go_icmp_le (tgt := 23) (pc' := 21) hC dX11_looks_18 (by decide) rfl (fun h8 => ?_) (fun h8 => ?_)
      · have hf := ite_t h8 hf
        refine go_aload_n (pc' := 24) hC dX11_looks_23 rfl rfl ?_
        refine go_sipush (pc' := 27) hC dX11_looks_24 ks_128 rfl ?_
        obtain ⟨o2, ho2, hf⟩ := bd_e hf
        refine go_callVw (pc' := 30) (As := [.int (128 : Int32)]) (st := []) (st' := [])  (cells' := 0 + o2.2.1) (slots' := 0 + o2.2.2)  (b := 0) hC dX11_looks_27 ⟨mw_597, mw_600, mw_2, yd_yX11_know, yp_yX11_know, Nat.le_of_ble_eq_true rfl, Nat.le_of_ble_eq_true rfl, (Nat.le_of_ble_eq_true rfl), (Nat.le_of_ble_eq_true rfl)⟩ mw_598 mw_599 layX_0 rfl rfl rfl (Nat.le_of_ble_eq_true rfl) (c_X11_know (x_l X) (x_D X) (x_q X) g (x_cy X) (x_z X) _ (128 : Int32) o2 ho2) rfl rfl rfl rfl (fun g _ => ?_)
        refine go_iload_n (pc' := 31) hC dX11_looks_30 rfl rfl ?_
        refine go_if_ne (tgt := 44) (pc' := 34) hC dX11_looks_31 (by decide) rfl (fun h7 => ?_) (fun h7 => ?_)
        · have hf := ite_f h7 hf
          refine go_aload_n (pc' := 45) hC dX11_looks_44 rfl rfl ?_
          refine go_getq (pc' := 48) hC 0 16 layX_0 rfl rfl inlX11 (Nat.le_of_ble_eq_true rfl) mw_53 rfl dX11_looks_45 rfl ?_
          obtain ⟨h4, hf⟩ := gd_e hf
          obtain ⟨o3, ho3, hf⟩ := bd_e hf
          refine go_callV0 (pc' := 51) (As := []) (st := []) (st' := [.int o3])   (rc := { frames := 2, cells := 0, slots := 0, locals := 43 }) (b := 159) hC dX11_looks_48 ⟨mw_1475, mw_1478, mw_52, yd_yX4_firstThing, yp_yX4_firstThing, Nat.le_of_ble_eq_true rfl, Nat.le_of_ble_eq_true rfl, (okr_c h4), (okr_s h4)⟩ mw_1476 mw_1477 layX_159 rfl rfl rfl (Nat.le_of_ble_eq_true rfl) (c_X4_firstThing_q159 (x_l X) (x_D X) (x_q X) g (x_cy X) (x_z X) _  o3 ho3) rfl rfl ?_
          obtain rfl := Option.some.inj hf
          exact go_iret hC hQ dX11_looks_51 rfl rfl rfl rfl (fun h => nomatch h) rfl rfl
        · have hf := ite_t h7 hf
          refine go_aload_n (pc' := 35) hC dX11_looks_34 rfl rfl ?_
          refine go_getq (pc' := 38) hC 0 16 layX_0 rfl rfl inlX11 (Nat.le_of_ble_eq_true rfl) mw_53 rfl dX11_looks_35 rfl ?_
          obtain ⟨h6, hf⟩ := gd_e hf
          obtain ⟨o5, ho5, hf⟩ := bd_e hf
          refine go_callV0 (pc' := 41) (As := []) (st := []) (st' := [.int o5])   (rc := { frames := 0, cells := 0, slots := 0, locals := 0 }) (b := 159) hC dX11_looks_38 ⟨mw_1471, mw_1474, mw_52, yd_yX4_fewest, yp_yX4_fewest, Nat.le_of_ble_eq_true rfl, Nat.le_of_ble_eq_true rfl, (okr_c h6), (okr_s h6)⟩ mw_1472 mw_1473 layX_159 rfl rfl rfl (Nat.le_of_ble_eq_true rfl) (c_X4_fewest_q159 (x_l X) (x_D X) (x_q X) g (x_cy X) (x_z X) _  o5 ho5) rfl rfl ?_
          refine go_goto (tgt := 51) hC dX11_looks_41 (by decide) ?_
          obtain rfl := Option.some.inj hf
          exact go_iret hC hQ dX11_looks_51 rfl rfl rfl rfl (fun h => nomatch h) rfl rfl
      · have hf := ite_f h8 hf
        refine go_iconst (pc' := 22) hC dX11_looks_21 ki_m1 rfl ?_
        obtain rfl := Option.some.inj hf
        exact go_iret hC hQ dX11_looks_22 rfl rfl rfl rfl (fun h => nomatch h) rfl rfl
theorem dX5_daysTogether_0 : decode cX5_daysTogether 0 = .ok (.lconst 0, 1) := by decide +kernel
theorem dX5_daysTogether_1 : decode cX5_daysTogether 1 = .ok (.lstore_n 1, 1) := by decide +kernel
theorem dX5_daysTogether_2 : decode cX5_daysTogether 2 = .ok (.iconst 1, 1) := by decide +kernel
theorem dX5_daysTogether_3 : decode cX5_daysTogether 3 = .ok (.istore_n 3, 1) := by decide +kernel
theorem dX5_daysTogether_4 : decode cX5_daysTogether 4 = .ok (.iload_n 3, 1) := by decide +kernel
theorem dX5_daysTogether_5 : decode cX5_daysTogether 5 = .ok (.bipush 99, 2) := by decide +kernel
theorem dX5_daysTogether_7 : decode cX5_daysTogether 7 = .ok (.if_icmp .gt 21, 3) := by decide +kernel
theorem dX5_daysTogether_10 : decode cX5_daysTogether 10 = .ok (.lload_n 1, 1) := by decide +kernel
theorem dX5_daysTogether_11 : decode cX5_daysTogether 11 = .ok (.iload_n 3, 1) := by decide +kernel
theorem dX5_daysTogether_12 : decode cX5_daysTogether 12 = .ok (.i2l, 1) := by decide +kernel
theorem dX5_daysTogether_13 : decode cX5_daysTogether 13 = .ok (.aload_n 0, 1) := by decide +kernel
theorem dX5_daysTogether_14 : decode cX5_daysTogether 14 = .ok (.getfield 22, 3) := by decide +kernel
theorem dX5_daysTogether_17 : decode cX5_daysTogether 17 = .ok (.iload_n 3, 1) := by decide +kernel
theorem dX5_daysTogether_18 : decode cX5_daysTogether 18 = .ok (.laload, 1) := by decide +kernel
theorem dX5_daysTogether_19 : decode cX5_daysTogether 19 = .ok (.lmul, 1) := by decide +kernel
theorem dX5_daysTogether_20 : decode cX5_daysTogether 20 = .ok (.ladd, 1) := by decide +kernel
theorem dX5_daysTogether_21 : decode cX5_daysTogether 21 = .ok (.lstore_n 1, 1) := by decide +kernel
theorem dX5_daysTogether_22 : decode cX5_daysTogether 22 = .ok (.iinc 3 1, 3) := by decide +kernel
theorem dX5_daysTogether_25 : decode cX5_daysTogether 25 = .ok (.goto (-21), 3) := by decide +kernel
theorem dX5_daysTogether_28 : decode cX5_daysTogether 28 = .ok (.lload_n 1, 1) := by decide +kernel
theorem dX5_daysTogether_29 : decode cX5_daysTogether 29 = .ok (.lreturn, 1) := by decide +kernel
abbrev o_X5_daysTogether_q137 : Type := Int64
def f_X5_daysTogether_q137_L4 (S : wd_W) (r3 : (Int64) → (Int32) → (Option o_X5_daysTogether_q137)) (x1 : Int64) (x2 : Int32) : Option o_X5_daysTogether_q137 :=
if (99 : Int32) < x2 then (
some x1) else (
gd (okx x2 100) <|
lz (x1 + (x2.toInt64 * ((S.2.2.2.1 139) x2.toNatClampNeg))) fun x5 =>
r3 x5 (x2 + (1 : Int32)))
def f_X5_daysTogether_q137 (S : wd_W) : Option o_X5_daysTogether_q137 :=
it2 (f_X5_daysTogether_q137_L4 S) fuel (0 : Int64) (1 : Int32)
set_option maxRecDepth 100000 in
set_option maxHeartbeats 4000000 in
theorem c_X5_daysTogether_q137 (l : Launch) (D : va_G) (q g : Nat → Nat) (cy : Nat → ClassId) (z : (Nat → Nat) × (Nat → Nat) × Nat) (S : wd_W) (o : o_X5_daysTogether_q137) (hf : f_X5_daysTogether_q137 S = some o) : MX layX l yX5_daysTogether cX5_daysTogether 4 (some .long) ({ frames := 0, cells := 0, slots := 0, locals := 0 } : Room) D q g cy z [.ref (q 137)] S false (some (.long o)) (wd_o S [] [] [] [] []) 0 0 := by
  refine mx_of (own := RX5) (lc := [(0, .ref (q 137))]) (by decide +kernel) rfl layX_ok (Nat.le_of_ble_eq_true rfl) rfl ?_
  intro X hXl hXq hXz hC hQ
  subst hXl; subst hXq; subst hXz
  unfold f_X5_daysTogether_q137 at hf
  refine go_lconst (pc' := 1) hC dX5_daysTogether_0 kl_0 rfl ?_
  refine go_lstore_n (lc' := [(0, .ref (x_q X 137)), (1, .long (0 : Int64))]) (pc' := 2) hC dX5_daysTogether_1 (Nat.le_of_ble_eq_true rfl) rfl rfl ?_
  refine go_iconst (pc' := 3) hC dX5_daysTogether_2 ki_1 rfl ?_
  refine go_istore_n (lc' := [(0, .ref (x_q X 137)), (1, .long (0 : Int64)), (3, .int (1 : Int32))]) (pc' := 4) hC dX5_daysTogether_3 (Nat.le_of_ble_eq_true rfl) rfl rfl ?_
  have l4_7 : ∀ (nn : Nat) (x1 : Int64) (x2 : Int32), it2 (f_X5_daysTogether_q137_L4 S) nn x1 x2 = some o → Go X layX S 4 [(0, .ref (x_q X 137)), (1, .long x1), (3, .int x2)] [] g [] [] [] [] [] 0 0 := by
    intro nn
    induction nn with
    | zero =>
      intro x1 x2 hf
      exact none_no hf
    | succ nn ih =>
      intro x1 x2 hf
      have hf : f_X5_daysTogether_q137_L4 S (it2 (f_X5_daysTogether_q137_L4 S) nn) x1 x2 = some o := hf
      generalize it2 (f_X5_daysTogether_q137_L4 S) nn = r3 at ih hf
      unfold f_X5_daysTogether_q137_L4 at hf
      refine go_iload_n (pc' := 5) hC dX5_daysTogether_4 rfl rfl ?_
      refine go_bipush (pc' := 7) hC dX5_daysTogether_5 kb_99 rfl ?_
      refine go_icmp_gt (tgt := 28) (pc' := 10) hC dX5_daysTogether_7 (by decide) rfl (fun h6 => ?_) (fun h6 => ?_)
      · have hf := ite_t h6 hf
        refine go_lload_n (pc' := 29) hC dX5_daysTogether_28 rfl rfl ?_
        obtain rfl := Option.some.inj hf
        exact go_lret hC hQ dX5_daysTogether_29 rfl rfl rfl (fun _ => rfl) rfl rfl
      · have hf := ite_f h6 hf
        refine go_lload_n (pc' := 11) hC dX5_daysTogether_10 rfl rfl ?_
        refine go_iload_n (pc' := 12) hC dX5_daysTogether_11 rfl rfl ?_
        refine go_i2l (pc' := 13) hC dX5_daysTogether_12 rfl ?_
        refine go_aload_n (pc' := 14) hC dX5_daysTogether_13 rfl rfl ?_
        refine go_getq (pc' := 17) hC 137 5 layX_137 rfl rfl inlX5 (Nat.le_of_ble_eq_true rfl) mw_154 rfl dX5_daysTogether_14 rfl ?_
        refine go_iload_n (pc' := 18) hC dX5_daysTogether_17 rfl rfl ?_
        obtain ⟨h4, hf⟩ := gd_e hf
        refine go_lald (f := (S.2.2.2.1 139)) (pc' := 19) hC 139 layX_139 rfl rfl dX5_daysTogether_18 (okx_in h4) rfl ?_
        refine go_lmul (pc' := 20) hC dX5_daysTogether_19 rfl ?_
        refine go_ladd (pc' := 21) hC dX5_daysTogether_20 rfl ?_
        refine go_namel (fun x5 hx => ?_)
        have hf := lz_r hx hf
        clear hx
        refine go_lstore_n (lc' := [(0, .ref (x_q X 137)), (1, .long x5), (3, .int x2)]) (pc' := 22) hC dX5_daysTogether_21 (Nat.le_of_ble_eq_true rfl) rfl rfl ?_
        refine go_iinc (lc' := [(0, .ref (x_q X 137)), (1, .long x5), (3, .int (x2 + (1 : Int32)))]) (pc' := 25) hC dX5_daysTogether_22 rfl ki_1 (Nat.le_of_ble_eq_true rfl) rfl rfl ?_
        refine go_goto (tgt := 4) hC dX5_daysTogether_25 (by decide) ?_
        exact ih x5 (x2 + (1 : Int32)) hf
  exact l4_7 fuel (0 : Int64) (1 : Int32) hf
theorem dX11_mean_0 : decode cX11_mean 0 = .ok (.aload_n 0, 1) := by decide +kernel
theorem dX11_mean_1 : decode cX11_mean 1 = .ok (.iload_n 1, 1) := by decide +kernel
theorem dX11_mean_2 : decode cX11_mean 2 = .ok (.iload_n 2, 1) := by decide +kernel
theorem dX11_mean_3 : decode cX11_mean 3 = .ok (.invokevirtual 274, 3) := by decide +kernel
theorem dX11_mean_6 : decode cX11_mean 6 = .ok (.ifCond .eq 12, 3) := by decide +kernel
theorem dX11_mean_9 : decode cX11_mean 9 = .ok (.iload_n 3, 1) := by decide +kernel
theorem dX11_mean_10 : decode cX11_mean 10 = .ok (.ifCond .lt 8, 3) := by decide +kernel
theorem dX11_mean_13 : decode cX11_mean 13 = .ok (.iload_n 3, 1) := by decide +kernel
theorem dX11_mean_14 : decode cX11_mean 14 = .ok (.iconst 1, 1) := by decide +kernel
theorem dX11_mean_15 : decode cX11_mean 15 = .ok (.if_icmp .le 7, 3) := by decide +kernel
theorem dX11_mean_18 : decode cX11_mean 18 = .ok (.ldc2_w 186, 3) := by decide +kernel
theorem dX11_mean_21 : decode cX11_mean 21 = .ok (.lreturn, 1) := by decide +kernel
theorem dX11_mean_22 : decode cX11_mean 22 = .ok (.aload_n 0, 1) := by decide +kernel
theorem dX11_mean_23 : decode cX11_mean 23 = .ok (.iload_n 1, 1) := by decide +kernel
theorem dX11_mean_24 : decode cX11_mean 24 = .ok (.iload_n 2, 1) := by decide +kernel
theorem dX11_mean_25 : decode cX11_mean 25 = .ok (.invokevirtual 295, 3) := by decide +kernel
theorem dX11_mean_28 : decode cX11_mean 28 = .ok (.astore 4, 2) := by decide +kernel
theorem dX11_mean_30 : decode cX11_mean 30 = .ok (.iload_n 3, 1) := by decide +kernel
theorem dX11_mean_31 : decode cX11_mean 31 = .ok (.ifCond .ne 11, 3) := by decide +kernel
theorem dX11_mean_34 : decode cX11_mean 34 = .ok (.aload 4, 2) := by decide +kernel
theorem dX11_mean_36 : decode cX11_mean 36 = .ok (.invokevirtual 338, 3) := by decide +kernel
theorem dX11_mean_39 : decode cX11_mean 39 = .ok (.goto 10, 3) := by decide +kernel
theorem dX11_mean_42 : decode cX11_mean 42 = .ok (.aload 4, 2) := by decide +kernel
theorem dX11_mean_44 : decode cX11_mean 44 = .ok (.bipush 99, 2) := by decide +kernel
theorem dX11_mean_46 : decode cX11_mean 46 = .ok (.invokevirtual 299, 3) := by decide +kernel
theorem dX11_mean_49 : decode cX11_mean 49 = .ok (.lreturn, 1) := by decide +kernel
abbrev o_X11_mean : Type := Int64 × wd_W × Nat × Nat
def f_X11_mean (S : wd_W) (p1 : Int32) (p2 : Int32) (p3 : Int32) : Option o_X11_mean :=
bd (f_X11_isPair (wd_o S [] [] [] [] []) p1 p2) fun o1 =>
if o1 = 0 then (
some ((-1 : Int64), S, 0, 0)) else (
if p3 < 0 then (
some ((-1 : Int64), S, 0, 0)) else (
if p3 ≤ (1 : Int32) then (
bd (f_X11_knownDays (wd_o S [] [] [] [] []) p1 p2) fun o2 =>
if p3 = 0 then (
gd (okr (0 + o2.2.1) (0 + o2.2.2) 0 0 40 500000) <|
bd (f_X5_daysTogether_q137 (wd_o o2.1 [] [] [] [] [])) fun o5 =>
some (o5, o2.1, 0 + o2.2.1, 0 + o2.2.2)) else (
gd (okr (0 + o2.2.1) (0 + o2.2.2) 0 0 40 500000) <|
bd (f_X5_cameWithin_q137 (wd_o o2.1 [] [] [] [] []) (99 : Int32)) fun o3 =>
some (o3, o2.1, 0 + o2.2.1, 0 + o2.2.2))) else (
some ((-1 : Int64), S, 0, 0))))
set_option maxRecDepth 100000 in
set_option maxHeartbeats 4000000 in
theorem c_X11_mean (l : Launch) (D : va_G) (q g : Nat → Nat) (cy : Nat → ClassId) (z : (Nat → Nat) × (Nat → Nat) × Nat) (S : wd_W) (p1 : Int32) (p2 : Int32) (p3 : Int32) (o : o_X11_mean) (hf : f_X11_mean S p1 p2 p3 = some o) : MX layX l yX11_mean cX11_mean 5 (some .long) ({ frames := 6, cells := 40, slots := 500000, locals := 149 } : Room) D q g cy z [.ref (q 0), .int p1, .int p2, .int p3] S true (some (.long o.1)) o.2.1 o.2.2.1 o.2.2.2 := by
  refine mx_of (own := RX11) (lc := [(0, .ref (q 0)), (1, .int p1), (2, .int p2), (3, .int p3)]) (by decide +kernel) rfl layX_ok (Nat.le_of_ble_eq_true rfl) rfl ?_
  intro X hXl hXq hXz hC hQ
  subst hXl; subst hXq; subst hXz
  unfold f_X11_mean at hf
  refine go_aload_n (pc' := 1) hC dX11_mean_0 rfl rfl ?_
  refine go_iload_n (pc' := 2) hC dX11_mean_1 rfl rfl ?_
  refine go_iload_n (pc' := 3) hC dX11_mean_2 rfl rfl ?_
  obtain ⟨o1, ho1, hf⟩ := bd_e hf
  refine go_callV0 (pc' := 6) (As := [.int p1, .int p2]) (st := []) (st' := [.int o1])    (b := 0) hC dX11_mean_3 ⟨mw_1237, mw_1240, mw_2, yd_yX11_isPair, yp_yX11_isPair, Nat.le_of_ble_eq_true rfl, Nat.le_of_ble_eq_true rfl, (Nat.le_of_ble_eq_true rfl), (Nat.le_of_ble_eq_true rfl)⟩ mw_1238 mw_1239 layX_0 rfl rfl rfl (Nat.le_of_ble_eq_true rfl) (c_X11_isPair (x_l X) (x_D X) (x_q X) g (x_cy X) (x_z X) _ p1 p2 o1 ho1) rfl rfl ?_
  refine go_if_eq (tgt := 18) (pc' := 9) hC dX11_mean_6 (by decide) rfl (fun h10 => ?_) (fun h10 => ?_)
  · have hf := ite_t h10 hf
    refine go_ldc2 (pc' := 21) hC dX11_mean_18 mw_909 rfl ?_
    obtain rfl := Option.some.inj hf
    exact go_lret hC hQ dX11_mean_21 rfl rfl rfl (fun h => nomatch h) rfl rfl
  · have hf := ite_f h10 hf
    refine go_iload_n (pc' := 10) hC dX11_mean_9 rfl rfl ?_
    refine go_if_lt (tgt := 18) (pc' := 13) hC dX11_mean_10 (by decide) rfl (fun h9 => ?_) (fun h9 => ?_)
    · have hf := ite_t h9 hf
      refine go_ldc2 (pc' := 21) hC dX11_mean_18 mw_909 rfl ?_
      obtain rfl := Option.some.inj hf
      exact go_lret hC hQ dX11_mean_21 rfl rfl rfl (fun h => nomatch h) rfl rfl
    · have hf := ite_f h9 hf
      refine go_iload_n (pc' := 14) hC dX11_mean_13 rfl rfl ?_
      refine go_iconst (pc' := 15) hC dX11_mean_14 ki_1 rfl ?_
      refine go_icmp_le (tgt := 22) (pc' := 18) hC dX11_mean_15 (by decide) rfl (fun h8 => ?_) (fun h8 => ?_)
      · have hf := ite_t h8 hf
        refine go_aload_n (pc' := 23) hC dX11_mean_22 rfl rfl ?_
        refine go_iload_n (pc' := 24) hC dX11_mean_23 rfl rfl ?_
        refine go_iload_n (pc' := 25) hC dX11_mean_24 rfl rfl ?_
        obtain ⟨o2, ho2, hf⟩ := bd_e hf
        refine go_callVw (pc' := 28) (As := [.int p1, .int p2]) (st := []) (st' := [.ref (x_q X 137)])  (cells' := 0 + o2.2.1) (slots' := 0 + o2.2.2)  (b := 0) hC dX11_mean_25 ⟨mw_1304, mw_1307, mw_2, yd_yX11_knownDays, yp_yX11_knownDays, Nat.le_of_ble_eq_true rfl, Nat.le_of_ble_eq_true rfl, (Nat.le_of_ble_eq_true rfl), (Nat.le_of_ble_eq_true rfl)⟩ mw_1305 mw_1306 layX_0 rfl rfl rfl (Nat.le_of_ble_eq_true rfl) (c_X11_knownDays (x_l X) (x_D X) (x_q X) g (x_cy X) (x_z X) _ p1 p2 o2 ho2) rfl rfl rfl rfl (fun g _ => ?_)
        refine go_astore (lc' := [(0, .ref (x_q X 0)), (1, .int p1), (2, .int p2), (3, .int p3), (4, .ref (x_q X 137))]) (pc' := 30) hC dX11_mean_28 (Nat.le_of_ble_eq_true rfl) rfl rfl ?_
        refine go_iload_n (pc' := 31) hC dX11_mean_30 rfl rfl ?_
        refine go_if_ne (tgt := 42) (pc' := 34) hC dX11_mean_31 (by decide) rfl (fun h7 => ?_) (fun h7 => ?_)
        · have hf := ite_f h7 hf
          refine go_aload (pc' := 44) hC dX11_mean_42 rfl rfl ?_
          refine go_bipush (pc' := 46) hC dX11_mean_44 kb_99 rfl ?_
          obtain ⟨h4, hf⟩ := gd_e hf
          obtain ⟨o3, ho3, hf⟩ := bd_e hf
          refine go_callV0 (pc' := 49) (As := [.int (99 : Int32)]) (st := []) (st' := [.long o3])   (rc := { frames := 0, cells := 0, slots := 0, locals := 0 }) (b := 137) hC dX11_mean_46 ⟨mw_1319, mw_1322, mw_44, yd_yX5_cameWithin, yp_yX5_cameWithin, Nat.le_of_ble_eq_true rfl, Nat.le_of_ble_eq_true rfl, (okr_c h4), (okr_s h4)⟩ mw_1320 mw_1321 layX_137 rfl rfl rfl (Nat.le_of_ble_eq_true rfl) (c_X5_cameWithin_q137 (x_l X) (x_D X) (x_q X) g (x_cy X) (x_z X) _ (99 : Int32) o3 ho3) rfl rfl ?_
          obtain rfl := Option.some.inj hf
          exact go_lret hC hQ dX11_mean_49 rfl rfl rfl (fun h => nomatch h) rfl rfl
        · have hf := ite_t h7 hf
          refine go_aload (pc' := 36) hC dX11_mean_34 rfl rfl ?_
          obtain ⟨h6, hf⟩ := gd_e hf
          obtain ⟨o5, ho5, hf⟩ := bd_e hf
          refine go_callV0 (pc' := 39) (As := []) (st := []) (st' := [.long o5])   (rc := { frames := 0, cells := 0, slots := 0, locals := 0 }) (b := 137) hC dX11_mean_36 ⟨mw_1491, mw_1494, mw_44, yd_yX5_daysTogether, yp_yX5_daysTogether, Nat.le_of_ble_eq_true rfl, Nat.le_of_ble_eq_true rfl, (okr_c h6), (okr_s h6)⟩ mw_1492 mw_1493 layX_137 rfl rfl rfl (Nat.le_of_ble_eq_true rfl) (c_X5_daysTogether_q137 (x_l X) (x_D X) (x_q X) g (x_cy X) (x_z X) _  o5 ho5) rfl rfl ?_
          refine go_goto (tgt := 49) hC dX11_mean_39 (by decide) ?_
          obtain rfl := Option.some.inj hf
          exact go_lret hC hQ dX11_mean_49 rfl rfl rfl (fun h => nomatch h) rfl rfl
      · have hf := ite_f h8 hf
        refine go_ldc2 (pc' := 21) hC dX11_mean_18 mw_909 rfl ?_
        obtain rfl := Option.some.inj hf
        exact go_lret hC hQ dX11_mean_21 rfl rfl rfl (fun h => nomatch h) rfl rfl
theorem dX11_differ_0 : decode cX11_differ 0 = .ok (.aload_n 0, 1) := by decide +kernel
theorem dX11_differ_1 : decode cX11_differ 1 = .ok (.iload_n 1, 1) := by decide +kernel
theorem dX11_differ_2 : decode cX11_differ 2 = .ok (.invokevirtual 188, 3) := by decide +kernel
theorem dX11_differ_5 : decode cX11_differ 5 = .ok (.ifCond .eq 25, 3) := by decide +kernel
theorem dX11_differ_8 : decode cX11_differ 8 = .ok (.aload_n 0, 1) := by decide +kernel
theorem dX11_differ_9 : decode cX11_differ 9 = .ok (.iload_n 2, 1) := by decide +kernel
theorem dX11_differ_10 : decode cX11_differ 10 = .ok (.invokevirtual 188, 3) := by decide +kernel
theorem dX11_differ_13 : decode cX11_differ 13 = .ok (.ifCond .eq 17, 3) := by decide +kernel
theorem dX11_differ_16 : decode cX11_differ 16 = .ok (.iload_n 1, 1) := by decide +kernel
theorem dX11_differ_17 : decode cX11_differ 17 = .ok (.iload_n 2, 1) := by decide +kernel
theorem dX11_differ_18 : decode cX11_differ 18 = .ok (.if_icmp .eq 12, 3) := by decide +kernel
theorem dX11_differ_21 : decode cX11_differ 21 = .ok (.iload_n 3, 1) := by decide +kernel
theorem dX11_differ_22 : decode cX11_differ 22 = .ok (.ifCond .lt 8, 3) := by decide +kernel
theorem dX11_differ_25 : decode cX11_differ 25 = .ok (.iload_n 3, 1) := by decide +kernel
theorem dX11_differ_26 : decode cX11_differ 26 = .ok (.iconst 3, 1) := by decide +kernel
theorem dX11_differ_27 : decode cX11_differ 27 = .ok (.if_icmp .le 7, 3) := by decide +kernel
theorem dX11_differ_30 : decode cX11_differ 30 = .ok (.ldc2_w 186, 3) := by decide +kernel
theorem dX11_differ_33 : decode cX11_differ 33 = .ok (.lreturn, 1) := by decide +kernel
theorem dX11_differ_34 : decode cX11_differ 34 = .ok (.iload_n 3, 1) := by decide +kernel
theorem dX11_differ_35 : decode cX11_differ 35 = .ok (.iconst 2, 1) := by decide +kernel
theorem dX11_differ_36 : decode cX11_differ 36 = .ok (.if_icmp .ge 9, 3) := by decide +kernel
theorem dX11_differ_39 : decode cX11_differ 39 = .ok (.iconst 1, 1) := by decide +kernel
theorem dX11_differ_40 : decode cX11_differ 40 = .ok (.iload_n 1, 1) := by decide +kernel
theorem dX11_differ_41 : decode cX11_differ 41 = .ok (.ishl, 1) := by decide +kernel
theorem dX11_differ_42 : decode cX11_differ 42 = .ok (.goto 4, 3) := by decide +kernel
theorem dX11_differ_45 : decode cX11_differ 45 = .ok (.iconst 0, 1) := by decide +kernel
theorem dX11_differ_46 : decode cX11_differ 46 = .ok (.istore 4, 2) := by decide +kernel
theorem dX11_differ_48 : decode cX11_differ 48 = .ok (.iload_n 3, 1) := by decide +kernel
theorem dX11_differ_49 : decode cX11_differ 49 = .ok (.iconst 2, 1) := by decide +kernel
theorem dX11_differ_50 : decode cX11_differ 50 = .ok (.irem, 1) := by decide +kernel
theorem dX11_differ_51 : decode cX11_differ 51 = .ok (.ifCond .ne 9, 3) := by decide +kernel
theorem dX11_differ_54 : decode cX11_differ 54 = .ok (.iconst 1, 1) := by decide +kernel
theorem dX11_differ_55 : decode cX11_differ 55 = .ok (.iload_n 2, 1) := by decide +kernel
theorem dX11_differ_56 : decode cX11_differ 56 = .ok (.ishl, 1) := by decide +kernel
theorem dX11_differ_57 : decode cX11_differ 57 = .ok (.goto 4, 3) := by decide +kernel
theorem dX11_differ_60 : decode cX11_differ 60 = .ok (.iconst 0, 1) := by decide +kernel
theorem dX11_differ_61 : decode cX11_differ 61 = .ok (.istore 5, 2) := by decide +kernel
theorem dX11_differ_63 : decode cX11_differ 63 = .ok (.aload_n 0, 1) := by decide +kernel
theorem dX11_differ_64 : decode cX11_differ 64 = .ok (.invokevirtual 171, 3) := by decide +kernel
theorem dX11_differ_67 : decode cX11_differ 67 = .ok (.iconst 1, 1) := by decide +kernel
theorem dX11_differ_68 : decode cX11_differ 68 = .ok (.iload_n 1, 1) := by decide +kernel
theorem dX11_differ_69 : decode cX11_differ 69 = .ok (.ishl, 1) := by decide +kernel
theorem dX11_differ_70 : decode cX11_differ 70 = .ok (.iconst 1, 1) := by decide +kernel
theorem dX11_differ_71 : decode cX11_differ 71 = .ok (.iload_n 2, 1) := by decide +kernel
theorem dX11_differ_72 : decode cX11_differ 72 = .ok (.ishl, 1) := by decide +kernel
theorem dX11_differ_73 : decode cX11_differ 73 = .ok (.ior, 1) := by decide +kernel
theorem dX11_differ_74 : decode cX11_differ 74 = .ok (.iload 4, 2) := by decide +kernel
theorem dX11_differ_76 : decode cX11_differ 76 = .ok (.iload 5, 2) := by decide +kernel
theorem dX11_differ_78 : decode cX11_differ 78 = .ok (.ior, 1) := by decide +kernel
theorem dX11_differ_79 : decode cX11_differ 79 = .ok (.invokevirtual 178, 3) := by decide +kernel
theorem dX11_differ_82 : decode cX11_differ 82 = .ok (.lreturn, 1) := by decide +kernel
abbrev o_X11_differ : Type := Int64 × wd_W × Nat × Nat
def f_X11_differ (S : wd_W) (p1 : Int32) (p2 : Int32) (p3 : Int32) : Option o_X11_differ :=
bd (f_X11_isThing (wd_o S [] [] [] [] []) p1) fun o1 =>
if o1 = 0 then (
some ((-1 : Int64), S, 0, 0)) else (
bd (f_X11_isThing (wd_o S [] [] [] [] []) p2) fun o2 =>
if o2 = 0 then (
some ((-1 : Int64), S, 0, 0)) else (
if p1 = p2 then (
some ((-1 : Int64), S, 0, 0)) else (
if p3 < 0 then (
some ((-1 : Int64), S, 0, 0)) else (
if p3 ≤ (3 : Int32) then (
lk (fun x3 =>
lk (fun x5 =>
bd (f_X11_knownSets (wd_o S [] [] [] [] [])) fun o7 =>
gd (okr (0 + o7.2.1) (0 + o7.2.2) 0 0 40 500000) <|
bd (f_X8_throughIn_q106 (wd_o o7.1 [] [] [] [] []) (((1 : Int32) <<< (p1 &&& 31)) ||| ((1 : Int32) <<< (p2 &&& 31))) (x3 ||| x5)) fun o8 =>
some (o8, o7.1, 0 + o7.2.1, 0 + o7.2.2)) fun k61_6 =>
if (p3 - p3 / (2 : Int32) * (2 : Int32)) = 0 then (
k61_6 ((1 : Int32) <<< (p2 &&& 31))) else (
k61_6 (0 : Int32))) fun k46_4 =>
if (2 : Int32) ≤ p3 then (
k46_4 (0 : Int32)) else (
k46_4 ((1 : Int32) <<< (p1 &&& 31)))) else (
some ((-1 : Int64), S, 0, 0))))))
set_option maxRecDepth 100000 in
set_option maxHeartbeats 4000000 in
theorem c_X11_differ (l : Launch) (D : va_G) (q g : Nat → Nat) (cy : Nat → ClassId) (z : (Nat → Nat) × (Nat → Nat) × Nat) (S : wd_W) (p1 : Int32) (p2 : Int32) (p3 : Int32) (o : o_X11_differ) (hf : f_X11_differ S p1 p2 p3 = some o) : MX layX l yX11_differ cX11_differ 6 (some .long) ({ frames := 6, cells := 40, slots := 500000, locals := 147 } : Room) D q g cy z [.ref (q 0), .int p1, .int p2, .int p3] S true (some (.long o.1)) o.2.1 o.2.2.1 o.2.2.2 := by
  refine mx_of (own := RX11) (lc := [(0, .ref (q 0)), (1, .int p1), (2, .int p2), (3, .int p3)]) (by decide +kernel) rfl layX_ok (Nat.le_of_ble_eq_true rfl) rfl ?_
  intro X hXl hXq hXz hC hQ
  subst hXl; subst hXq; subst hXz
  unfold f_X11_differ at hf
  refine go_aload_n (pc' := 1) hC dX11_differ_0 rfl rfl ?_
  refine go_iload_n (pc' := 2) hC dX11_differ_1 rfl rfl ?_
  obtain ⟨o1, ho1, hf⟩ := bd_e hf
  refine go_callV0 (pc' := 5) (As := [.int p1]) (st := []) (st' := [.int o1])    (b := 0) hC dX11_differ_2 ⟨mw_943, mw_946, mw_2, yd_yX11_isThing, yp_yX11_isThing, Nat.le_of_ble_eq_true rfl, Nat.le_of_ble_eq_true rfl, (Nat.le_of_ble_eq_true rfl), (Nat.le_of_ble_eq_true rfl)⟩ mw_944 mw_945 layX_0 rfl rfl rfl (Nat.le_of_ble_eq_true rfl) (c_X11_isThing (x_l X) (x_D X) (x_q X) g (x_cy X) (x_z X) _ p1 o1 ho1) rfl rfl ?_
  refine go_if_eq (tgt := 30) (pc' := 8) hC dX11_differ_5 (by decide) rfl (fun h16 => ?_) (fun h16 => ?_)
  · have hf := ite_t h16 hf
    refine go_ldc2 (pc' := 33) hC dX11_differ_30 mw_909 rfl ?_
    obtain rfl := Option.some.inj hf
    exact go_lret hC hQ dX11_differ_33 rfl rfl rfl (fun h => nomatch h) rfl rfl
  · have hf := ite_f h16 hf
    refine go_aload_n (pc' := 9) hC dX11_differ_8 rfl rfl ?_
    refine go_iload_n (pc' := 10) hC dX11_differ_9 rfl rfl ?_
    obtain ⟨o2, ho2, hf⟩ := bd_e hf
    refine go_callV0 (pc' := 13) (As := [.int p2]) (st := []) (st' := [.int o2])    (b := 0) hC dX11_differ_10 ⟨mw_943, mw_946, mw_2, yd_yX11_isThing, yp_yX11_isThing, Nat.le_of_ble_eq_true rfl, Nat.le_of_ble_eq_true rfl, (Nat.le_of_ble_eq_true rfl), (Nat.le_of_ble_eq_true rfl)⟩ mw_944 mw_945 layX_0 rfl rfl rfl (Nat.le_of_ble_eq_true rfl) (c_X11_isThing (x_l X) (x_D X) (x_q X) g (x_cy X) (x_z X) _ p2 o2 ho2) rfl rfl ?_
    refine go_if_eq (tgt := 30) (pc' := 16) hC dX11_differ_13 (by decide) rfl (fun h15 => ?_) (fun h15 => ?_)
    · have hf := ite_t h15 hf
      refine go_ldc2 (pc' := 33) hC dX11_differ_30 mw_909 rfl ?_
      obtain rfl := Option.some.inj hf
      exact go_lret hC hQ dX11_differ_33 rfl rfl rfl (fun h => nomatch h) rfl rfl
    · have hf := ite_f h15 hf
      refine go_iload_n (pc' := 17) hC dX11_differ_16 rfl rfl ?_
      refine go_iload_n (pc' := 18) hC dX11_differ_17 rfl rfl ?_
      refine go_icmp_eq (tgt := 30) (pc' := 21) hC dX11_differ_18 (by decide) rfl (fun h14 => ?_) (fun h14 => ?_)
      · have hf := ite_t h14 hf
        refine go_ldc2 (pc' := 33) hC dX11_differ_30 mw_909 rfl ?_
        obtain rfl := Option.some.inj hf
        exact go_lret hC hQ dX11_differ_33 rfl rfl rfl (fun h => nomatch h) rfl rfl
      · have hf := ite_f h14 hf
        refine go_iload_n (pc' := 22) hC dX11_differ_21 rfl rfl ?_
        refine go_if_lt (tgt := 30) (pc' := 25) hC dX11_differ_22 (by decide) rfl (fun h13 => ?_) (fun h13 => ?_)
        · have hf := ite_t h13 hf
          refine go_ldc2 (pc' := 33) hC dX11_differ_30 mw_909 rfl ?_
          obtain rfl := Option.some.inj hf
          exact go_lret hC hQ dX11_differ_33 rfl rfl rfl (fun h => nomatch h) rfl rfl
        · have hf := ite_f h13 hf
          refine go_iload_n (pc' := 26) hC dX11_differ_25 rfl rfl ?_
          refine go_iconst (pc' := 27) hC dX11_differ_26 ki_3 rfl ?_
          refine go_icmp_le (tgt := 34) (pc' := 30) hC dX11_differ_27 (by decide) rfl (fun h12 => ?_) (fun h12 => ?_)
          · have hf := ite_t h12 hf
            refine go_iload_n (pc' := 35) hC dX11_differ_34 rfl rfl ?_
            refine go_iconst (pc' := 36) hC dX11_differ_35 ki_2 rfl ?_
            obtain ⟨k46_4, hk46_4, hf⟩ := lk_e1 hf
            have jk46_4 : ∀ (x3 : Int32) (g : Nat → Nat), k46_4 x3 = some o → Go X layX S 46 [(0, .ref (x_q X 0)), (1, .int p1), (2, .int p2), (3, .int p3)] [.int x3] g [] [] [] [] [] 0 0 := by
              intro x3 g hf
              have hf := hk46_4 x3 hf
              clear hk46_4
              refine go_istore (lc' := [(0, .ref (x_q X 0)), (1, .int p1), (2, .int p2), (3, .int p3), (4, .int x3)]) (pc' := 48) hC dX11_differ_46 (Nat.le_of_ble_eq_true rfl) rfl rfl ?_
              refine go_iload_n (pc' := 49) hC dX11_differ_48 rfl rfl ?_
              refine go_iconst (pc' := 50) hC dX11_differ_49 ki_2 rfl ?_
              refine go_irem (pc' := 51) hC dX11_differ_50 (by decide) rfl ?_
              obtain ⟨k61_6, hk61_6, hf⟩ := lk_e1 hf
              have jk61_6 : ∀ (x5 : Int32) (g : Nat → Nat), k61_6 x5 = some o → Go X layX S 61 [(0, .ref (x_q X 0)), (1, .int p1), (2, .int p2), (4, .int x3)] [.int x5] g [] [] [] [] [] 0 0 := by
                intro x5 g hf
                have hf := hk61_6 x5 hf
                clear hk61_6
                refine go_istore (lc' := [(0, .ref (x_q X 0)), (1, .int p1), (2, .int p2), (4, .int x3), (5, .int x5)]) (pc' := 63) hC dX11_differ_61 (Nat.le_of_ble_eq_true rfl) rfl rfl ?_
                refine go_aload_n (pc' := 64) hC dX11_differ_63 rfl rfl ?_
                obtain ⟨o7, ho7, hf⟩ := bd_e hf
                refine go_callVw (pc' := 67) (As := []) (st := []) (st' := [.ref (x_q X 106)])  (cells' := 0 + o7.2.1) (slots' := 0 + o7.2.2)  (b := 0) hC dX11_differ_64 ⟨mw_593, mw_596, mw_2, yd_yX11_knownSets, yp_yX11_knownSets, Nat.le_of_ble_eq_true rfl, Nat.le_of_ble_eq_true rfl, (Nat.le_of_ble_eq_true rfl), (Nat.le_of_ble_eq_true rfl)⟩ mw_594 mw_595 layX_0 rfl rfl rfl (Nat.le_of_ble_eq_true rfl) (c_X11_knownSets (x_l X) (x_D X) (x_q X) g (x_cy X) (x_z X) _  o7 ho7) rfl rfl rfl rfl (fun g _ => ?_)
                refine go_iconst (pc' := 68) hC dX11_differ_67 ki_1 rfl ?_
                refine go_iload_n (pc' := 69) hC dX11_differ_68 rfl rfl ?_
                refine go_ishl (pc' := 70) hC dX11_differ_69 rfl ?_
                refine go_iconst (pc' := 71) hC dX11_differ_70 ki_1 rfl ?_
                refine go_iload_n (pc' := 72) hC dX11_differ_71 rfl rfl ?_
                refine go_ishl (pc' := 73) hC dX11_differ_72 rfl ?_
                refine go_ior (pc' := 74) hC dX11_differ_73 rfl ?_
                refine go_iload (pc' := 76) hC dX11_differ_74 rfl rfl ?_
                refine go_iload (pc' := 78) hC dX11_differ_76 rfl rfl ?_
                refine go_ior (pc' := 79) hC dX11_differ_78 rfl ?_
                obtain ⟨h9, hf⟩ := gd_e hf
                obtain ⟨o8, ho8, hf⟩ := bd_e hf
                refine go_callV0 (pc' := 82) (As := [.int (((1 : Int32) <<< (p1 &&& 31)) ||| ((1 : Int32) <<< (p2 &&& 31))), .int (x3 ||| x5)]) (st := []) (st' := [.long o8])   (rc := { frames := 2, cells := 0, slots := 0, locals := 42 }) (b := 106) hC dX11_differ_79 ⟨mw_910, mw_913, mw_31, yd_yX8_throughIn, yp_yX8_throughIn, Nat.le_of_ble_eq_true rfl, Nat.le_of_ble_eq_true rfl, (okr_c h9), (okr_s h9)⟩ mw_911 mw_912 layX_106 rfl rfl rfl (Nat.le_of_ble_eq_true rfl) (c_X8_throughIn_q106 (x_l X) (x_D X) (x_q X) g (x_cy X) (x_z X) _ (((1 : Int32) <<< (p1 &&& 31)) ||| ((1 : Int32) <<< (p2 &&& 31))) (x3 ||| x5) o8 ho8) rfl rfl ?_
                obtain rfl := Option.some.inj hf
                exact go_lret hC hQ dX11_differ_82 rfl rfl rfl (fun h => nomatch h) rfl rfl
              clear hk61_6
              refine go_if_ne (tgt := 60) (pc' := 54) hC dX11_differ_51 (by decide) rfl (fun h10 => ?_) (fun h10 => ?_)
              · have hf := ite_f h10 hf
                refine go_iconst (pc' := 61) hC dX11_differ_60 ki_0 rfl ?_
                refine go_sub [0, 1, 2, 4] rfl ?_
                exact jk61_6 (0 : Int32) g hf
              · have hf := ite_t h10 hf
                refine go_iconst (pc' := 55) hC dX11_differ_54 ki_1 rfl ?_
                refine go_iload_n (pc' := 56) hC dX11_differ_55 rfl rfl ?_
                refine go_ishl (pc' := 57) hC dX11_differ_56 rfl ?_
                refine go_goto (tgt := 61) hC dX11_differ_57 (by decide) ?_
                refine go_sub [0, 1, 2, 4] rfl ?_
                exact jk61_6 ((1 : Int32) <<< (p2 &&& 31)) g hf
            clear hk46_4
            refine go_icmp_ge (tgt := 45) (pc' := 39) hC dX11_differ_36 (by decide) rfl (fun h11 => ?_) (fun h11 => ?_)
            · have hf := ite_t h11 hf
              refine go_iconst (pc' := 46) hC dX11_differ_45 ki_0 rfl ?_
              exact jk46_4 (0 : Int32) g hf
            · have hf := ite_f h11 hf
              refine go_iconst (pc' := 40) hC dX11_differ_39 ki_1 rfl ?_
              refine go_iload_n (pc' := 41) hC dX11_differ_40 rfl rfl ?_
              refine go_ishl (pc' := 42) hC dX11_differ_41 rfl ?_
              refine go_goto (tgt := 46) hC dX11_differ_42 (by decide) ?_
              exact jk46_4 ((1 : Int32) <<< (p1 &&& 31)) g hf
          · have hf := ite_f h12 hf
            refine go_ldc2 (pc' := 33) hC dX11_differ_30 mw_909 rfl ?_
            obtain rfl := Option.some.inj hf
            exact go_lret hC hQ dX11_differ_33 rfl rfl rfl (fun h => nomatch h) rfl rfl
abbrev o_X2_countBy_q67 : Type := Int32 × Int32 × Int32 × Int32
def f_X2_countBy_q67 (S : wd_W) (p1 : Int32) (p2 : Int32) (p3 : Int32) (p4 : Int32) : Option o_X2_countBy_q67 :=
some (p1, p2, p3, p4)
set_option maxRecDepth 100000 in
set_option maxHeartbeats 4000000 in
theorem c_X2_countBy_q67 (l : Launch) (D : va_G) (q g : Nat → Nat) (cy : Nat → ClassId) (z : (Nat → Nat) × (Nat → Nat) × Nat) (S : wd_W) (p1 : Int32) (p2 : Int32) (p3 : Int32) (p4 : Int32) (o : o_X2_countBy_q67) (hf : f_X2_countBy_q67 S p1 p2 p3 p4 = some o) : MX layX l yX2_countBy cX2_countBy 5 none ({ frames := 0, cells := 0, slots := 0, locals := 0 } : Room) D q g cy z [.ref (q 67), .int p1, .int p2, .int p3, .int p4] S false (none) (wd_o S [(6714, o.1), (6715, o.2.1), (6716, o.2.2.1), (6717, o.2.2.2)] [] [] [] []) 0 0 := by
  refine mx_of (own := RX2) (lc := [(0, .ref (q 67)), (1, .int p1), (2, .int p2), (3, .int p3), (4, .int p4)]) (by decide +kernel) rfl layX_ok (Nat.le_of_ble_eq_true rfl) rfl ?_
  intro X hXl hXq hXz hC hQ
  subst hXl; subst hXq; subst hXz
  unfold f_X2_countBy_q67 at hf
  refine go_keys (L1 := [(6714, (S.1 6714)), (6715, (S.1 6715)), (6716, (S.1 6716)), (6717, (S.1 6717))]) (L2 := []) (L3 := []) (L4 := []) (L5 := []) [6714, 6715, 6716, 6717] [] [] [] [] rfl rfl rfl rfl rfl ?_
  refine go_aload_n (pc' := 1) hC dX2_countBy_0 rfl rfl ?_
  refine go_iload_n (pc' := 2) hC dX2_countBy_1 rfl rfl ?_
  refine go_puti (L1' := [(6714, p1), (6715, (S.1 6715)), (6716, (S.1 6716)), (6717, (S.1 6717))]) (pc' := 5) hC 67 14 layX_67 rfl rfl inlX2 tyX2_ok nmX2 (Nat.le_of_ble_eq_true rfl) mw_70 rfl rfl rfl rfl dX2_countBy_2 rfl rfl rfl ?_
  refine go_aload_n (pc' := 6) hC dX2_countBy_5 rfl rfl ?_
  refine go_iload_n (pc' := 7) hC dX2_countBy_6 rfl rfl ?_
  refine go_puti (L1' := [(6714, p1), (6715, p2), (6716, (S.1 6716)), (6717, (S.1 6717))]) (pc' := 10) hC 67 15 layX_67 rfl rfl inlX2 tyX2_ok nmX2 (Nat.le_of_ble_eq_true rfl) mw_316 rfl rfl rfl rfl dX2_countBy_7 rfl rfl rfl ?_
  refine go_aload_n (pc' := 11) hC dX2_countBy_10 rfl rfl ?_
  refine go_iload_n (pc' := 12) hC dX2_countBy_11 rfl rfl ?_
  refine go_puti (L1' := [(6714, p1), (6715, p2), (6716, p3), (6717, (S.1 6717))]) (pc' := 15) hC 67 16 layX_67 rfl rfl inlX2 tyX2_ok nmX2 (Nat.le_of_ble_eq_true rfl) mw_317 rfl rfl rfl rfl dX2_countBy_12 rfl rfl rfl ?_
  refine go_aload_n (pc' := 16) hC dX2_countBy_15 rfl rfl ?_
  refine go_iload (pc' := 18) hC dX2_countBy_16 rfl rfl ?_
  refine go_puti (L1' := [(6714, p1), (6715, p2), (6716, p3), (6717, p4)]) (pc' := 21) hC 67 17 layX_67 rfl rfl inlX2 tyX2_ok nmX2 (Nat.le_of_ble_eq_true rfl) mw_318 rfl rfl rfl rfl dX2_countBy_18 rfl rfl rfl ?_
  obtain rfl := Option.some.inj hf
  exact go_vret hC hQ dX2_countBy_21 rfl rfl rfl (fun _ => rfl) rfl rfl
