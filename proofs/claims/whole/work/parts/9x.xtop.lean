/-! the developers' own methods, on -/
theorem x_chanceOf {S : wd_W} {L : Ld} {t : Nat} (hL : lOk L) (hc3 : l_c L ≤ 3) (h : xL S 16 L) (ht : t < l_M L) : f_X2_chanceOf_q16 S (nI t) = some (nI (cha L t)) := by
  obtain ⟨⟨l0, l1, l7, l10, _⟩, k1, k2, k3⟩ := h
  have hM := lM_15 hL
  have g3 := hL.1.2.2.1
  have g4 := hL.1.2.2.2.1
  have hlM : l_M L = l_n L + l_k L + l_c L := rfl
  unfold f_X2_chanceOf_q16
  rw [show S.1 1601 = nI (l_n L) from l1, show S.1 1607 = nI (l_k L) from l7, nI_add]
  unfold cha
  by_cases c1 : t < l_n L
  · rw [if_neg (nI_ge c1 (by omega)), gd_in (by omega) (by omega), nI_clamp (by omega), if_pos c1]
    rw [show S.2.2.1 19 t = nI (l_C L t) from (k1 t c1).2.2.1]
  · rw [if_pos (nI_le (by omega) (by omega)), if_neg c1, pk_sub (by omega)]
    by_cases c2 : t < l_n L + l_k L
    · rw [if_neg (nI_ge c2 (by omega)), gd_in (by omega) (by omega), nI_clamp (by omega), if_pos c2]
      rw [show S.2.2.1 23 (t - l_n L) = nI (l_Q L (t - l_n L)) from (k2 _ (by omega)).2]
    · rw [if_pos (nI_le (by omega) (by omega)), if_neg c2, pk_sub (by omega), gd_in (by omega) (by omega), nI_clamp (by omega)]
      rw [show S.2.2.1 24 (t - l_n L - l_k L) = nI (l_R L (t - l_n L - l_k L)) from (k3 _ (by omega)).1]
theorem x_matters {S : wd_W} {L : Ld} {T : Nt} {p1 p2 : Int32} (h : XI S L T) : Ok (f_X11_matters S p1 p2) (fun o => o.1 = matA L p1 p2 ∧ xE S L T o.2.1 o.2.2.1 o.2.2.2) := by
  have hL := h.1.1.1
  have hM := lM_15 hL
  unfold f_X11_matters matA
  rw [bd_s (x_isThing (S := wd_o S [] [] [] [] []) (p := p1) hL h.1.2.1)]
  refine ok_b (fun z => ?_) (fun z => ?_)
  · rw [z]; exact ok_some ⟨rfl, xE_refl h⟩
  · obtain ⟨n, hn, rfl, n1, n2⟩ := inB_t (by omega) z
    rw [if_pos z, nI_clamp hn]
    refine ok_ite (fun c => ?_) (fun c => ?_)
    · rw [if_pos c]
      refine ok_bd (x_ks (S := wd_o S [] [] [] [] []) h) ?_
      rintro ⟨S', nc, ns⟩ ⟨e, ⟨e1, e2⟩, hs, hN, _⟩
      dsimp only at e e1 e2 hs hN ⊢
      rw [gd_t (okr_in (by omega) (by omega)), bd_s (x_weight (S := wd_o S' [] [] [] [] []) (t := n) hL hs hN (by omega))]
      exact ok_some ⟨rfl, xE_0 e⟩
    · rw [if_neg c]
      refine ok_ite (fun c => ?_) (fun c => ?_)
      · rw [if_pos c]
        refine ok_bd (x_ks (S := wd_o S [] [] [] [] []) h) ?_
        rintro ⟨S', nc, ns⟩ ⟨e, ⟨e1, e2⟩, hs, hN, _⟩
        dsimp only at e e1 e2 hs hN ⊢
        rw [gd_t (okr_in (by omega) (by omega)), bd_s (x_decidesIn (S := wd_o S' [] [] [] [] []) (t := n) hL hs hN (by omega))]
        exact ok_some ⟨rfl, xE_0 e⟩
      · rw [if_neg c]
        refine ok_ite (fun c => ?_) (fun c => ?_)
        · rw [if_pos c, bd_s (x_chanceOf (S := wd_o S [] [] [] [] []) (t := n) hL h.1.1.2.1 h.1.2.1 (by omega))]
          exact ok_some ⟨rfl, xE_refl h⟩
        · rw [if_neg c]; exact ok_some ⟨rfl, xE_refl h⟩
noncomputable def waysA (L : Ld) (c : Bool) : Int32 := nI (lsF L c (2 ^ l_M L)).1
noncomputable def wayA (L : Ld) (c : Bool) (p : Int32) : Int32 := if inB 0 (((lsF L c (2 ^ l_M L)).2.1 : Int) - 1) p = true then nI ((lsF L c (2 ^ l_M L)).2.2 p.toNatClampNeg) else -1
theorem x_ways {S : wd_W} {L : Ld} {T : Nt} {c : Bool} (h : XI S L T) : Ok (f_X11_ways S (nI (b2n c))) (fun o => o.1 = waysA L c ∧ xE S L T o.2.1 o.2.2.1 o.2.2.2) := by
  unfold f_X11_ways waysA
  cases c with
  | false =>
    rw [if_pos (show nI (b2n false) = (0 : Int32) from rfl)]
    refine ok_bd (x_kl0 (S := wd_o S [] [] [] [] []) h) ?_
    rintro ⟨S', nc, ns⟩ ⟨e, _, hf⟩
    exact ok_some ⟨hf.1, xE_0 e⟩
  | true =>
    rw [if_neg (show ¬ nI (b2n true) = (0 : Int32) from by decide), if_pos (show nI (b2n true) = (1 : Int32) from rfl)]
    refine ok_bd (x_kl1 (S := wd_o S [] [] [] [] []) h) ?_
    rintro ⟨S', nc, ns⟩ ⟨e, _, hf⟩
    exact ok_some ⟨hf.1, xE_0 e⟩
theorem x_way {S : wd_W} {L : Ld} {T : Nt} {c : Bool} {p2 : Int32} (h : XI S L T) : Ok (f_X11_way S (nI (b2n c)) p2) (fun o => o.1 = wayA L c p2 ∧ xE S L T o.2.1 o.2.2.1 o.2.2.2) := by
  have htold := (lsF_told L c (2 ^ l_M L)).1
  unfold f_X11_way wayA
  cases c with
  | false =>
    rw [if_pos (show nI (b2n false) = (0 : Int32) from rfl)]
    refine ok_bd (x_kl0 (S := wd_o S [] [] [] [] []) h) ?_
    rintro ⟨S', nc, ns⟩ ⟨e, _, _, hf2, hf3, _⟩
    dsimp only at e hf2 hf3 ⊢
    rw [tst_lt (q := S'.1 12301) (k := (lsF L false (2 ^ l_M L)).2.1) hf2 (by omega)]
    cases hin : inB 0 (((lsF L false (2 ^ l_M L)).2.1 : Int) - 1) p2 with
    | false => exact ok_some ⟨rfl, xE_0 e⟩
    | true =>
      obtain ⟨n, hn, rfl, n1, n2⟩ := inB_t (by omega) hin
      rw [if_pos rfl, if_pos rfl, gd_in (by omega) (by omega), nI_clamp hn]
      exact ok_some ⟨(hf3 n (by omega)).1, xE_0 e⟩
  | true =>
    rw [if_neg (show ¬ nI (b2n true) = (0 : Int32) from by decide), if_pos (show nI (b2n true) = (1 : Int32) from rfl)]
    refine ok_bd (x_kl1 (S := wd_o S [] [] [] [] []) h) ?_
    rintro ⟨S', nc, ns⟩ ⟨e, _, _, hf2, hf3, _⟩
    dsimp only at e hf2 hf3 ⊢
    rw [tst_lt (q := S'.1 12701) (k := (lsF L true (2 ^ l_M L)).2.1) hf2 (by omega)]
    cases hin : inB 0 (((lsF L true (2 ^ l_M L)).2.1 : Int) - 1) p2 with
    | false => exact ok_some ⟨rfl, xE_0 e⟩
    | true =>
      obtain ⟨n, hn, rfl, n1, n2⟩ := inB_t (by omega) hin
      rw [if_pos rfl, if_pos rfl, gd_in (by omega) (by omega), nI_clamp hn]
      exact ok_some ⟨(hf3 n (by omega)).1, xE_0 e⟩
theorem lN_subL {a b : Nat} (h : b ≤ a) : lN a - lN b = lN (a - b) := by
  have e : lN (a - b) + lN b = lN a := by rw [lN_add, Nat.sub_add_cancel h]
  rw [← e]
  exact Int64.add_sub_cancel _ _
noncomputable def endsA (L : Ld) (p1 p2 : Int32) : Int64 := if (inB 0 60 p1 && inB 0 1 p2) = true then lN (endA L (decide (p2 ≠ 0)) p1.toNatClampNeg) else -1
theorem x_ends {S : wd_W} {L : Ld} {T : Nt} {p1 p2 : Int32} (h : XI S L T) : Ok (f_X11_ends S p1 p2) (fun o => o.1 = endsA L p1 p2 ∧ xE S L T o.2.1 o.2.2.1 o.2.2.2) := by
  have hL := h.1.1.1
  have hM := lM_15 hL
  unfold f_X11_ends endsA
  rw [tst_gt (q := (60 : Int32)) (k := 60) rfl (by omega)]
  cases hin : inB 0 60 p1 with
  | false =>
    exact ok_some ⟨rfl, xE_refl h⟩
  | true =>
    obtain ⟨n, hn, rfl, n1, n2⟩ := inB_t (by omega) hin
    rw [if_pos rfl, tst_le (q := (1 : Int32)) (k := 1) rfl (by omega), Bool.true_and]
    have e1 : inB 0 ((1 : Nat) : Int) p2 = inB 0 1 p2 := rfl
    rw [e1]
    cases hin2 : inB 0 1 p2 with
    | false => exact ok_some ⟨rfl, xE_refl h⟩
    | true =>
      rw [if_pos rfl, if_pos rfl, nI_clamp hn]
      refine ok_ite (fun c => ?_) (fun c => ?_)
      · refine ok_bd (x_kl0 (S := wd_o S [] [] [] [] []) h) ?_
        rintro ⟨S', nc, ns⟩ ⟨e, ⟨e1, e2⟩, _, hf2, hf3, hf4⟩
        dsimp only at e e1 e2 hf2 hf3 hf4 ⊢
        rw [gd_t (okr_in (by omega) (by omega)), bd_s (x_some_q123 (S := wd_o S' [] [] [] [] []) (m := n) (by omega) hf2 hf4), decide_eq_false (fun z => z c)]
        exact ok_some ⟨rfl, xE_0 e⟩
      · rw [bd_s (x_things (S := wd_o S [] [] [] [] []) h.1.2.1), bd_s (x_power (by omega))]
        refine ok_bd (x_kl1 (S := wd_o S [] [] [] [] []) h) ?_
        rintro ⟨S', nc, ns⟩ ⟨e, ⟨e1, e2⟩, _, hf2, hf3, hf4⟩
        dsimp only at e e1 e2 hf2 hf3 hf4 ⊢
        rw [gd_t (okr_in (by omega) (by omega)), bd_s (x_some_q127 (S := wd_o S' [] [] [] [] []) (m := n) (by omega) hf2 hf4), decide_eq_true c, lN_subL (endF_le hL true n)]
        exact ok_some ⟨rfl, xE_0 e⟩
theorem x_row {S : wd_W} {L : Ld} {T : Nt} {p1 : Int32} (h : XI S L T) : Ok (f_X11_row S p1) (fun o => o.1 = rowA L p1 ∧ xE S L T o.2.1 o.2.2.1 o.2.2.2) := by
  have hL := h.1.1.1
  have g3 := hL.1.2.2.1
  unfold f_X11_row rowA
  rw [tst_le (q := S.1 1601) (k := l_n L) h.1.2.1.1.2.1 (by omega)]
  cases hin : inB 0 (l_n L) p1 with
  | false => exact ok_some ⟨rfl, xE_refl h⟩
  | true =>
    obtain ⟨n, hn, rfl, n1, n2⟩ := inB_t (by omega) hin
    rw [if_pos rfl, if_pos rfl, nI_clamp hn]
    refine ok_bd (x_ks (S := wd_o S [] [] [] [] []) h) ?_
    rintro ⟨S', nc, ns⟩ ⟨e, ⟨e1, e2⟩, hs, hN, _⟩
    dsimp only at e e1 e2 hs hN ⊢
    rw [gd_t (okr_in (by omega) (by omega)), bd_s (x_lineSetsOf (S := wd_o S' [] [] [] [] []) (k := n) hL hs hN hn)]
    exact ok_some ⟨rfl, xE_0 e⟩
theorem x_draw {S : wd_W} {L : Ld} {T : Nt} {p1 p2 : Int32} (h : XI S L T) : Ok (f_X11_draw S p1 p2) (fun o => o.1 = drwA L p1 p2 ∧ xE S L T o.2.1 o.2.2.1 o.2.2.2) := by
  have hL := h.1.1.1
  unfold f_X11_draw drwA
  refine ok_ite (fun c => ?_) (fun c => ?_)
  · rw [if_pos c]; exact ok_some ⟨rfl, xE_refl h⟩
  · rw [if_neg c, tst_1 (q := (1000 : Int32)) (k := 1000) rfl (by omega)]
    have e1 : inB 1 ((1000 : Nat) : Int) p2 = inB 1 1000 p2 := rfl
    rw [e1]
    cases hin : inB 1 1000 p2 with
    | false => exact ok_some ⟨rfl, xE_refl h⟩
    | true =>
      obtain ⟨n, hn, rfl, n1, n2⟩ := inB_t (by omega) hin
      rw [if_pos rfl, if_pos rfl, nI_clamp hn]
      refine ok_bd (x_ks (S := wd_o S [] [] [] [] []) h) ?_
      rintro ⟨S', nc, ns⟩ ⟨e, ⟨e1, e2⟩, hs, hN, _⟩
      dsimp only at e e1 e2 hs hN ⊢
      rw [gd_t (okr_in (by omega) (by omega)), bd_s (x_drawn (S := wd_o S' [] [] [] [] []) (p1 := p1) (n := n) hL hs hN (by omega))]
      exact ok_some ⟨rfl, xE_0 e⟩
theorem x_without {S : wd_W} {L : Ld} {T : Nt} {p1 : Int32} (h : XI S L T) : Ok (f_X11_without S p1) (fun o => o.1 = witoA L p1 ∧ xE S L T o.2.1 o.2.2.1 o.2.2.2) := by
  have hL := h.1.1.1
  have hM := lM_15 hL
  have hlM : l_M L = l_n L + l_k L + l_c L := rfl
  unfold f_X11_without witoA
  rw [tst_lt (q := S.1 1610) (k := l_c L) h.1.2.1.1.2.2.2.1 (by omega)]
  cases hin : inB 0 ((l_c L : Int) - 1) p1 with
  | false => exact ok_some ⟨rfl, xE_refl h⟩
  | true =>
    obtain ⟨n, hn, rfl, n1, n2⟩ := inB_t (by omega) hin
    rw [if_pos rfl, if_pos rfl, nI_clamp hn]
    refine ok_bd (x_ks (S := wd_o S [] [] [] [] []) h) ?_
    rintro ⟨S', nc, ns⟩ ⟨e, ⟨e1, e2⟩, hs, hN, hl⟩
    dsimp only at e e1 e2 hs hN hl ⊢
    rw [gd_t (okr_in (by omega) (by omega)), show S'.1 1601 = nI (l_n L) from hl.1.2.1, show S'.1 1607 = nI (l_k L) from hl.1.2.2.1, nI_add, nI_add, bd_s (x_given (S := wd_o S' [] [] [] [] []) (t := l_n L + l_k L + n) hL hs hN (by omega))]
    exact ok_some ⟨rfl, xE_0 e⟩
theorem x_treesT {S : wd_W} {L : Ld} {T : Nt} (h : XI S L T) : Ok (f_X11_trees S) (fun o => o.1 = nI (treN L) ∧ xE S L T o.2.1 o.2.2.1 o.2.2.2) := by
  have hL := h.1.1.1
  unfold f_X11_trees
  refine ok_bd (x_ks (S := wd_o S [] [] [] [] []) h) ?_
  rintro ⟨S', nc, ns⟩ ⟨e, ⟨e1, e2⟩, hs, hN, _⟩
  dsimp only at e e1 e2 hs hN ⊢
  rw [gd_t (okr_in (by omega) (by omega)), bd_s (x_trees (S := wd_o S' [] [] [] [] []) (lOk_r hL) hL.1.2.2.1 hs.1)]
  exact ok_some ⟨rfl, xE_0 e⟩
theorem x_thought {S : wd_W} {L : Ld} {T : Nt} {p1 p2 : Int32} (h : XI S L T) : Ok (f_X11_thought S p1 p2) (fun o => o.1 = thA L T p1 p2 ∧ xE S L T o.2.1 o.2.2.1 o.2.2.2) := by
  have hL := h.1.1.1
  have hM := lM_15 hL
  unfold f_X11_thought thA
  rw [bd_s (x_isThing (S := wd_o S [] [] [] [] []) (p := p1) hL h.1.2.1)]
  refine ok_b (fun z => ?_) (fun z => ?_)
  · rw [z]; exact ok_some ⟨rfl, xE_refl h⟩
  · obtain ⟨n, hn, rfl, n1, n2⟩ := inB_t (by omega) z
    have e1 : inB 0 ((1 : Nat) : Int) p2 = inB 0 1 p2 := rfl
    rw [z, nI_clamp hn, Bool.true_and, tst_le (q := (1 : Int32)) (k := 1) rfl (by omega), e1]
    cases hin2 : inB 0 1 p2 with
    | false => exact ok_some ⟨rfl, xE_refl h⟩
    | true =>
      rw [if_pos rfl, if_pos rfl]
      refine ok_bd (x_km (S := wd_o S [] [] [] [] []) h) ?_
      rintro ⟨S', nc, ns⟩ ⟨e, ⟨e1, e2⟩, hs, hN, hN8, hag⟩
      dsimp only at e e1 e2 hs hN hN8 hag ⊢
      have p2k := pow_le_k (show n ≤ 15 by omega)
      refine ok_lk (ok_ite (fun c => ?_) (fun c => ?_))
      · rw [if_pos c, oI_pow (by omega)]
        dsimp only
        rw [gd_t (okr_in (by omega) (by omega)), bd_s (x_agreeing (S := wd_o S' [] [] [] [] []) (ho := 2 ^ n) hL hs hN hN8 hag (by omega))]
        exact ok_some ⟨rfl, xE_0 e⟩
      · rw [if_neg c, li_0]
        dsimp only
        rw [gd_t (okr_in (by omega) (by omega)), bd_s (x_agreeing (S := wd_o S' [] [] [] [] []) (ho := 0) hL hs hN hN8 hag (by omega))]
        exact ok_some ⟨rfl, xE_0 e⟩
theorem x_look {S : wd_W} {L : Ld} {T : Nt} (h : XI S L T) : Ok (f_X11_look S) (fun o => o.1 = lookA L T ∧ xE S L T o.2.1 o.2.2.1 o.2.2.2) := by
  have hL := h.1.1.1
  unfold f_X11_look
  refine ok_bd (x_km (S := wd_o S [] [] [] [] []) h) ?_
  rintro ⟨S', nc, ns⟩ ⟨e, ⟨e1, e2⟩, hs, hN, hN8, hag⟩
  dsimp only at e e1 e2 hs hN hN8 hag ⊢
  rw [gd_t (okr_in (by omega) (by omega)), bd_s (x_lookFirst (S := wd_o S' [] [] [] [] []) hL hs hN hN8 hag)]
  exact ok_some ⟨rfl, xE_0 e⟩
