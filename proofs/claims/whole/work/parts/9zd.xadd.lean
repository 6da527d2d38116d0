/-! the developers' add; count, line, place -/
theorem xP_K {S S' : wd_W} {L : Ld} {T : Nt} (hk : xK S S') : ∀ c, c ≠ 6 → xP S L T c → xP S' L T c := by
  have b := fun (c : Nat) (hc : c < 140) => hk.2 c (Or.inl hc)
  have b2 := fun (c : Nat) (hc : 159 ≤ c) => hk.2 c (Or.inr hc)
  have a := fun (i : Nat) (hi : i < 14000) => hk.1 i (Or.inl hi)
  have a2 := fun (i : Nat) (hi : 15900 ≤ i) => hk.1 i (Or.inr hi)
  intro c hc hp
  match c, hc, hp with
  | 0, _, hp => exact xK_S hk hp
  | 1, _, ⟨h1, h2, h3, h4⟩ =>
    refine ⟨(a _ (by omega)).trans h1, (a _ (by omega)).trans h2, fun j hj => ?_, fun j hj => ?_⟩
    · rw [(b _ (show 123 + 1 < 140 by omega)).1, (b _ (show 123 + 2 < 140 by omega)).2.1]; exact h3 j hj
    · rw [(b _ (show 123 + 3 < 140 by omega)).2.1]; exact h4 j hj
  | 2, _, ⟨h1, h2, h3, h4⟩ =>
    refine ⟨(a _ (by omega)).trans h1, (a _ (by omega)).trans h2, fun j hj => ?_, fun j hj => ?_⟩
    · rw [(b _ (show 127 + 1 < 140 by omega)).1, (b _ (show 127 + 2 < 140 by omega)).2.1]; exact h3 j hj
    · rw [(b _ (show 127 + 3 < 140 by omega)).2.1]; exact h4 j hj
  | 3, _, ⟨h1, h2, h3⟩ =>
    refine ⟨(a _ (by omega)).trans h1, ?_, fun j hj => ?_⟩
    · rw [(b 132 (by omega)).2.2]; exact h2
    · rw [(b 132 (by omega)).2.1, (b 134 (by omega)).2.1]; exact h3 j hj
  | 4, _, ⟨h1, h2⟩ =>
    refine ⟨?_, fun j hj => ?_⟩
    · rw [(b 133 (by omega)).2.2]; exact h1
    · rw [(b 133 (by omega)).2.1]; exact h2 j hj
  | 5, _, ⟨h1, h2⟩ =>
    refine ⟨?_, fun j hj => ?_⟩
    · rw [(b 138 (by omega)).2.2]; exact h1
    · rw [(b 138 (by omega)).1]; exact h2 j hj
  | 6, hc, _ => exact absurd rfl hc
  | 7, _, ⟨h1, h2, h3⟩ =>
    refine ⟨(a2 _ (by omega)).trans h1, ?_, fun j hj => ?_⟩
    · rw [(b2 160 (by omega)).2.2]; exact h2
    · rw [(b2 160 (by omega)).1]; exact h3 j hj
  | _ + 8, _, ⟨x, y, h1, h2, h3, h4, h5⟩ =>
    refine ⟨x, y, h1, h2, (a _ (by omega)).trans h3, (a _ (by omega)).trans h4, fun d hd => ?_⟩
    rw [(b 139 (by omega)).2.1]; exact h5 d hd
theorem xK_Fr {S S' : wd_W} (hk : xK S S') : xFr S S' := ⟨fun i hi => hk.1 i (by omega), fun c hc => (hk.2 c (by omega)).1⟩
theorem xK_Lens {S S' : wd_W} (hk : xK S S') (h6 : xN6 S') (h : xLens S) : xLens S' := by
  have b := fun (c : Nat) (hc : c < 140) => (hk.2 c (Or.inl hc)).2.2
  obtain ⟨h0, ⟨e3, f3, h3⟩, ⟨e4, f4, h4, h4b, h4c, h4d⟩, ⟨e5, f5, h5⟩, _, ⟨e8, f8, h8⟩⟩ := h
  refine ⟨xK_N hk h0, ⟨e3, f3, ?_⟩, ⟨e4, f4, ?_, ?_, ?_, ?_⟩, ⟨e5, f5, ?_⟩, h6, ⟨e8, f8, ?_⟩⟩
  · rw [(hk.2 160 (by omega)).2.2]; exact h3
  · rw [b 132 (by omega)]; exact h4
  · rw [b 134 (by omega)]; exact h4b
  · rw [b 135 (by omega)]; exact h4c
  · rw [b 136 (by omega)]; exact h4d
  · rw [b 133 (by omega)]; exact h5
  · rw [b 138 (by omega)]; exact h8
theorem xK_len {S S' : wd_W} (hk : xK S S') : lenS S' + S.2.2.2.2 141 = lenS S + S'.2.2.2.2 141 := by
  have b := fun (c : Nat) (hc : c < 140) => (hk.2 c (Or.inl hc)).2.2
  unfold lenS
  rw [b 107 (by omega), b 108 (by omega), b 109 (by omega), b 110 (by omega), b 132 (by omega), b 133 (by omega), b 134 (by omega), b 135 (by omega), b 136 (by omega), b 138 (by omega), (hk.2 160 (by omega)).2.2]
  omega
theorem x_add {S : wd_W} {L : Ld} {T : Nt} {p1 p2 : Int32} (h : XI S L T) : Ok (f_X11_add S p1 p2) (fun o => o.1 = addA L p1 p2 ∧ xE S L T o.2.1 o.2.2.1 o.2.2.2) := by
  have hL := h.1.1.1
  have hc3 := h.1.1.2.1
  have hM := lM_15 hL
  have g1 := hL.1.1
  have g2 := hL.1.2.1
  have g3 := hL.1.2.2.1
  have e16 : inB 0 ((16 : Nat) : Int) p1 = inB 0 16 p1 := rfl
  have e2' : inB 0 ((2 : Nat) : Int) p2 = inB 0 2 p2 := rfl
  unfold f_X11_add addA
  rw [tst_gt (q := (16 : Int32)) (k := 16) rfl (by omega), e16, tst_le (q := (2 : Int32)) (k := 2) rfl (by omega), e2']
  cases hin : inB 0 16 p1 with
  | false => exact ok_some ⟨rfl, xE_refl h⟩
  | true =>
  cases hin2 : inB 0 2 p2 with
  | false => exact ok_some ⟨rfl, xE_refl h⟩
  | true =>
  obtain ⟨p, hp, rfl, n1, n2⟩ := inB_t (by omega) hin
  obtain ⟨r, hr, rfl, r1, r2⟩ := inB_t (by omega) hin2
  rw [if_pos rfl, if_pos rfl, bd_s (x_things (S := wd_o S [] [] [] [] []) h.1.2.1), li_10, Bool.true_and, Bool.true_and]
  refine ok_ite (fun c => ?_) (fun c => ?_)
  · rw [nI_ltI (by omega) (by omega)] at c
    rw [decide_eq_false (show ¬ l_M L ≤ 10 by omega)]
    exact ok_some ⟨rfl, xE_refl h⟩
  rw [nI_ltI (by omega) (by omega)] at c
  rw [decide_eq_true (show l_M L ≤ 10 by omega), show S.1 1601 = nI (l_n L) from h.1.2.1.1.2.1, li_12]
  refine ok_ite (fun d => ?yes) (fun d => ?no)
  case no =>
    rw [nI_ltI (by omega) (by omega)] at d
    rw [decide_eq_false d]
    exact ok_some ⟨rfl, xE_refl h⟩
  rw [nI_ltI (by omega) (by omega)] at d
  rw [decide_eq_true d, if_pos (show (true && true) = true from rfl), nI_clamp hp]
  refine ok_bd (x_know (S := wd_o S [] [] [] [] []) (q := 1) h (by omega) (by decide) (fun z => absurd z (by decide))) ?_
  rintro ⟨S1, nc, ns⟩ hI
  have hI' := hI
  obtain ⟨hC, ⟨k, hk, h7, hn, hm⟩, hf, h4, h5, h6⟩ := hI
  have hs : xS S1 L := hn 0 (by omega) (hm 0 rfl)
  dsimp only at h4 h5 h7 ⊢
  rw [gd_t (okr_in (by omega) (by omega)), bd_s (x_isNew (S := wd_o S1 [(7, (S1.1 7))] [] [] [] []) (p := (64 : Int32)) (k := k) (b := 6) h7 hk (by omega) rfl)]
  refine ok_lk3 (fun S' nc' ns' => xE S L T S' nc' ns' ∧ (nc' ≤ 12 ∧ ns' ≤ 130000) ∧ xNw S' L ∧ xS S' L ∧ xN S') (fun K hK => ?_) ?_
  · dsimp only
    refine ok_b (fun z => ?_) (fun z => ?_)
    · have z : k.testBit 6 = true := by
        cases w : k.testBit 6 with
        | true => rfl
        | false => rw [w] at z; cases z
      rw [or_same z]
      have e : wd_o S1 [(7, nI k)] [] [] [] [] = S1 := wd7 h7
      rw [e]
      exact hK _ _ _ ⟨xE_0 (xKI_E hI'), by omega, hn 6 (by omega) z, hs, hC.2.2.2.2.1⟩
    · rw [gd_t (okr_in (by omega) (by omega))]
      refine ok_bd (x_tryAll hL hc3 ?_ ?_ ?_ ?_ d) ?_
      · exact hC.2.1
      · exact hs
      · exact hC.2.2.2.2.1
      · exact hC.2.2.2.2.2.2.2.2.1
      · rintro ⟨S2, nc2, ns2⟩ ⟨w1, w2, w3, w4, w5, w6⟩
        dsimp only at w1 w2 w3 w4 w5 w6 ⊢
        have hlen := xK_len w1
        have hlen0 : lenS (wd_o S1 [(7, nI (k ||| 2 ^ 6))] [] [] [] []) = lenS S1 := rfl
        have hlen1 : (wd_o S1 [(7, nI (k ||| 2 ^ 6))] [] [] [] []).2.2.2.2 141 = S1.2.2.2.2 141 := rfl
        rw [hlen1] at w6
        rw [hlen0, hlen1] at hlen
        have hr : 0 + ns + ns2 + 2 * lenS S1 ≤ ns + 2 * lenS S2 := by omega
        have e := xKI_set (b := 6) (m' := kW 1) (C' := 12) (N' := 130000) (nc' := 0 + nc + nc2) (ns' := 0 + ns + ns2) hI' hk hn hm (by omega) (fun c hc => Or.inl hc) (xFr_trans (xFr_o rfl rfl) (xK_Fr w1)) (xK_Lens w1 w3 hC.2.2.2.2) (w1.1 7 (by omega)) w2 (fun c hc hc0 hp => xP_K w1 c hc0 (xP_7 c hp)) (by omega) (by omega) hr
        obtain ⟨f1, ⟨k2, f2, f3, f4, f5⟩, f6, f7, f8, f9⟩ := e
        exact hK _ _ _ ⟨⟨⟨f1, k2, f2, f3, f4⟩, f6, by omega, f9⟩, ⟨f7, f8⟩, w2, f4 0 (by omega) (f5 0 rfl), f1.2.2.2.2.1⟩
  · rintro S5 n6 n7 ⟨e, ⟨e1, e2⟩, ⟨q1, q2, q3⟩, hs5, hN5⟩
    obtain ⟨z1, z2, z3⟩ := add_same hL (c := p) (by omega)
    obtain ⟨y1, y2⟩ := brF_P (nwS L) (l_N L) (Nat.le_refl _) (brF_pos g1 (l_N L) (by omega))
    refine ok_ite (fun c => ?_) (fun c => ?_)
    · rw [if_pos c, gd_t (okr_in (by omega) (by omega)), li_0, bd_s (x_throughIn (S := wd_o S5 [] [] [] [] []) (so := 0) (ho := 0) hL hs5 hN5 (by omega)), th0, q1, li_16, pk_sub (by omega), nI_l hp, nI_l (by omega), lN_mul, lN_mul, lN_add]
      exact ok_some ⟨by rw [z1], e⟩
    · rw [if_neg c]
      have r0 : r ≠ 0 := fun z => c (by rw [z]; rfl)
      have r12 : r = 1 ∨ r = 2 := by omega
      refine ok_ite (fun c2 => ?_) (fun c2 => ?_)
      · have p0 : p = 0 := (oI_z hp).mp c2
        rcases r12 with rfl | rfl
        · rw [if_pos (show nI 1 = 1 from rfl), z3 p0]
          exact ok_some ⟨rfl, e⟩
        · rw [if_neg (show ¬ nI 2 = 1 by decide), z3 p0]
          exact ok_some ⟨rfl, e⟩
      · have p0 : p ≠ 0 := fun z => c2 (by rw [z]; rfl)
        rcases r12 with rfl | rfl
        · rw [if_pos (show nI 1 = 1 from rfl), if_pos (show nI 1 = (1 : Int32) from rfl), z2 p0, q2, nI_l (by omega)]
          exact ok_some ⟨rfl, e⟩
        · rw [if_neg (show ¬ nI 2 = 1 by decide), if_neg (show ¬ nI 2 = (1 : Int32) by decide), z2 p0, q3, nI_l (by omega)]
          exact ok_some ⟨rfl, e⟩
