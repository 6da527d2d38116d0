/-! the developers' ways and cuts: found, shared out -/
theorem x_firstIn_q123 {S : wd_W} {h n : Nat} {l : Nat → Nat} (hn : n ≤ 60) (h1 : S.1 12301 = nI n) (ha : ∀ j, j < n → S.2.2.1 124 j = nI (l j) ∧ l j < 32768) : f_X3_firstIn_q123 S (nI h) = some (nI (fstI l h n n)) := by
  have key : ∀ k, k ≤ n → ∀ m, k < m → it1 (f_X3_firstIn_q123_L2 S (nI h) (some (S.1 12301))) m (nI (n - k)) = some (nI (fstI l h n k)) := by
    intro k
    induction k with
    | zero =>
      intro _ m hm
      obtain ⟨m, rfl⟩ : ∃ m', m = m' + 1 := ⟨m - 1, by omega⟩
      show f_X3_firstIn_q123_L2 S _ _ _ (nI n) = _
      unfold f_X3_firstIn_q123_L2
      rw [h1, if_pos (nI_le (Nat.le_refl _) (by omega))]; rfl
    | succ k ihk =>
      intro hk m hm
      obtain ⟨m, rfl⟩ : ∃ m', m = m' + 1 := ⟨m - 1, by omega⟩
      show f_X3_firstIn_q123_L2 S _ _ (it1 (f_X3_firstIn_q123_L2 S (nI h) (some (S.1 12301))) m) (nI (n - (k + 1))) = _
      have ih2 := ihk (by omega) m (by omega)
      generalize it1 (f_X3_firstIn_q123_L2 S (nI h) (some (S.1 12301))) m = r at ih2
      unfold f_X3_firstIn_q123_L2
      obtain ⟨d1, d2⟩ := ha (n - (k + 1)) (by omega)
      have hnd : ndn (l (n - (k + 1))) h < 32768 := ndn_lt (n := 15) d2
      rw [h1, if_neg (nI_ge (by omega) (by omega)), gd_in (by omega) (by omega), nI_clamp (by omega), d1, oI_ndn, nI_1, show n - (k + 1) + 1 = n - k by omega]
      unfold fstI
      by_cases e : ndn (l (n - (k + 1))) h = 0
      · rw [if_pos e, if_pos (by rw [e]; rfl)]
      · rw [if_neg e, if_neg (by rw [oI_z (by omega)]; exact e)]
        exact ih2
  unfold f_X3_firstIn_q123
  rw [lk_eq]
  have := key n (Nat.le_refl n) fuel (by unfold fuel; omega)
  rw [Nat.sub_self] at this
  exact this
theorem x_fill_q126 {S : wd_W} : f_J7_fill_d0a16_q126 S 0 = some (fil (fun _ => 0) (S.2.2.2.1 126) 60) := by
  unfold f_J7_fill_d0a16_q126
  refine Eq.trans ?_ (eq_for0 (W := fun m i => it2 (f_J7_fill_d0a16_q126_L6 0) m (nI i) (fil (fun _ => 0) (S.2.2.2.1 126) i)) (e := 60) (by omega) ?_ ?_)
  · show it2 _ fuel (nI 0) _ = it2 _ fuel (nI 0) (fil _ _ 0)
    rw [fil_0]
  · intro m
    show f_J7_fill_d0a16_q126_L6 0 _ (nI 60) _ = _
    unfold f_J7_fill_d0a16_q126_L6
    rw [if_pos (by decide)]
  · intro m i hi
    show f_J7_fill_d0a16_q126_L6 0 (it2 (f_J7_fill_d0a16_q126_L6 0) m) (nI i) _ = it2 (f_J7_fill_d0a16_q126_L6 0) m (nI (i + 1)) _
    generalize it2 (f_J7_fill_d0a16_q126_L6 0) m = r
    unfold f_J7_fill_d0a16_q126_L6
    rw [li_60, if_neg (nI_ge hi (by omega)), ← fil_updL, gd_in (by omega) (by omega), lz_eq, nI_clamp (by omega), nI_1]
theorem x_share_q123 {S : wd_W} {L : Ld} {c : Bool} (hL : lOk L) (h : xS S L) (hN : xN S) (hc : S.1 12303 = nI (b2n c)) (h1 : S.1 12301 = nI (lsF L c (2 ^ l_M L)).2.1) (ha : ∀ j, j < (lsF L c (2 ^ l_M L)).2.1 → S.2.2.1 124 j = nI ((lsF L c (2 ^ l_M L)).2.2 j)) :
    Ok (f_X3_shareOut_q123 S) (fun o => ∀ k, k < (lsF L c (2 ^ l_M L)).2.1 → o k = lN (shaF L c k (2 ^ l_M L))) := by
  have hM := lM_15 hL
  have pM := pow_le15 hM
  have h2 := h.2.1
  obtain ⟨e, f, he, hf, n7, n9, n8, n10⟩ := hN
  have pe := pow_le15 he
  have l7 := h.2.2.2.2.2.2.2.1
  have htold := (lsF_told L c (2 ^ l_M L)).1
  have hset := lsF_set L c (2 ^ l_M L)
  have hsh : ∀ k n, shaF L c k n = fb_sm (fun s => if fstI (lsF L c (2 ^ l_M L)).2.2 (hol L c s) (lsF L c (2 ^ l_M L)).2.1 (lsF L c (2 ^ l_M L)).2.1 = k then wt L s else 0) n := fun _ _ => rfl
  generalize lsF L c (2 ^ l_M L) = X at h1 ha htold hset hsh
  unfold f_X3_shareOut_q123
  rw [bd_s (x_fill_q126 (S := wd_o S [] [] [] [(126, (S.2.2.2.1 126))] [])), li_0]
  refine ok_for0 (W := fun n i (a : Nat → Int64) => it2 (f_X3_shareOut_q123_L10 S) n (nI i) a) (I := fun i a => ∀ k, k < X.2.1 → a k = lN (shaF L c k i)) (e := 2 ^ l_M L) (by omega) (fun k hk => by
    show fil (fun _ => (0 : Int64)) _ 60 k = _
    rw [fil_in (by omega), hsh]; rfl) ?_ ?_
  · intro n a hI
    show Ok (f_X3_shareOut_q123_L10 S _ (nI (2 ^ l_M L)) a) _
    unfold f_X3_shareOut_q123_L10
    rw [h2, if_pos (nI_le (Nat.le_refl _) (by omega))]
    exact ok_some hI
  · intro n i a hi hI ih
    show Ok (f_X3_shareOut_q123_L10 S (it2 (f_X3_shareOut_q123_L10 S) n) (nI i) a) _
    generalize it2 (f_X3_shareOut_q123_L10 S) n = r at ih
    unfold f_X3_shareOut_q123_L10
    have hstep : ∀ k, shaF L c k (i + 1) = shaF L c k i + (if fstI X.2.2 (hol L c i) X.2.1 X.2.1 = k then wt L i else 0) := fun k => by rw [hsh, hsh, fb_sm_succ]
    rw [h2, if_neg (nI_ge hi (by omega)), bd_s (x_holding_q123 (S := wd_o S [] [] [] [(126, a)] []) hL h2 hc hi), bd_s (x_firstIn_q123 (S := wd_o S [] [] [] [(126, a)] []) (n := X.2.1) (l := X.2.2) htold h1 (fun j hj => ⟨ha j hj, by have := hset j hj; omega⟩)), nI_1, h1]
    have hfl := fstI_le X.2.2 (hol L c i) X.2.1 X.2.1 (Nat.le_refl _)
    generalize fstI X.2.2 (hol L c i) X.2.1 X.2.1 = fi at hstep hfl
    refine ok_lk (ok_ite (fun z => ?_) (fun z => ?_))
    · rw [nI_leI (by omega) (by omega)] at z
      refine ih _ (fun k hk => ?_)
      rw [hstep, if_neg (by omega), Nat.add_zero]; exact hI k hk
    · rw [nI_leI (by omega) (by omega)] at z
      rw [gd_in (by omega) (by omega), gd_in (by omega) (by omega), lz_eq, gd_in (by omega) (by omega), lz_eq, nI_clamp (by omega), nI_clamp (by omega), (h.2.2.2.2.2.1 i hi).1, hI fi (by omega), lN_add]
      refine ih _ (fun k hk => ?_)
      rw [hstep]
      by_cases e2 : k = fi
      · subst e2; rw [pk_uLs, if_pos rfl]
      · rw [pk_uLn e2, if_neg (Ne.symm e2), Nat.add_zero]; exact hI k hk
theorem x_find_q123 {S : wd_W} {L : Ld} {c : Bool} (hL : lOk L) (h : xS S L) (hN : xN S) (hc : S.1 12303 = nI (b2n c)) :
    Ok (f_X3_find_q123 S) (fun o => o.1 = nI (lsF L c (2 ^ l_M L)).1 ∧ o.2.1 = nI (lsF L c (2 ^ l_M L)).2.1 ∧ xTo L c (lsF L c (2 ^ l_M L)).2.1 (lsF L c (2 ^ l_M L)).2.2 o.2.2.1 o.2.2.2.1 ∧ ∀ k, k < (lsF L c (2 ^ l_M L)).2.1 → o.2.2.2.2 k = lN (shaF L c k (2 ^ l_M L))) := by
  have hM := lM_15 hL
  have pM := pow_le15 hM
  have h2 := h.2.1
  unfold f_X3_find_q123
  refine ok_lk ?_
  rw [li_0]
  refine ok_for0 (W := fun n i (x : Nat × Nat × (Nat → Int32) × (Nat → Int64)) => it5 (f_X3_find_q123_L12 S _) n (nI i) (nI x.1) (nI x.2.1) x.2.2.1 x.2.2.2) (I := fun i x => x.1 = (lsF L c i).1 ∧ x.2.1 = (lsF L c i).2.1 ∧ xTo L c (lsF L c i).2.1 (lsF L c i).2.2 x.2.2.1 x.2.2.2) (e := 2 ^ l_M L) (s := (0, 0, S.2.2.1 124, S.2.2.2.1 125)) (by omega) ⟨rfl, rfl, fun j hj => by cases hj⟩ ?_ ?_
  · rintro n ⟨x1, x2, a3, a4⟩ ⟨i1, i2, i3⟩
    dsimp only at i1 i2 i3
    subst i1; subst i2
    show Ok (f_X3_find_q123_L12 S _ _ (nI (2 ^ l_M L)) (nI (lsF L c (2 ^ l_M L)).1) (nI (lsF L c (2 ^ l_M L)).2.1) a3 a4) _
    unfold f_X3_find_q123_L12
    rw [h2, if_pos (nI_le (Nat.le_refl _) (by omega))]
    refine ok_bd (x_share_q123 (S := wd_o S [(12300, nI (lsF L c (2 ^ l_M L)).1), (12301, nI (lsF L c (2 ^ l_M L)).2.1)] [] [(124, a3)] [(125, a4), (126, (S.2.2.2.1 126))] []) (c := c) hL h hN hc rfl (fun j hj => (i3 j hj).1)) ?_
    intro o6 h6
    exact ok_some ⟨rfl, rfl, i3, h6⟩
  · rintro n i ⟨x1, x2, a3, a4⟩ hi ⟨i1, i2, i3⟩ ih
    dsimp only at i1 i2 i3
    subst i1; subst i2
    show Ok (f_X3_find_q123_L12 S _ (it5 (f_X3_find_q123_L12 S _) n) (nI i) (nI (lsF L c i).1) (nI (lsF L c i).2.1) a3 a4) _
    generalize it5 (f_X3_find_q123_L12 S _) n = r at ih
    unfold f_X3_find_q123_L12
    obtain ⟨t1, t2, t3⟩ := lsF_told L c i
    have hstep : lsF L c (i + 1) = lsS L c i (lsF L c i) := rfl
    rw [h2, if_neg (nI_ge hi (by omega)), bd_s (x_isLeast_q123 (S := wd_o S [(12300, nI (lsF L c i).1), (12301, nI (lsF L c i).2.1)] [] [(124, a3)] [(125, a4), (126, (S.2.2.2.1 126))] []) (c := c) hL h hN hc hi), nI_1]
    refine ok_lk (ok_b (fun z => ?_) (fun z => ?_))
    · have : lsF L c (i + 1) = lsF L c i := by rw [hstep]; unfold lsS; rw [z, if_neg (by decide)]
      exact ih ((lsF L c i).1, (lsF L c i).2.1, a3, a4) ⟨by rw [this], by rw [this], by rw [this]; exact i3⟩
    · have hs : lsF L c (i + 1) = ((lsF L c i).1 + 1, if posF (val L c) (lsF L c i).2.2 (val L c i) (lsF L c i).2.1 < 60 then (min ((lsF L c i).2.1 + 1) 60, insL (lsF L c i).2.2 (posF (val L c) (lsF L c i).2.2 (val L c i) (lsF L c i).2.1) i) else ((lsF L c i).2.1, (lsF L c i).2.2)) := by rw [hstep]; unfold lsS; rw [z, if_pos rfl]
      rw [lz_eq, nI_1, bd_s (x_valueOf_q123 (S := wd_o S [(12300, nI ((lsF L c i).1 + 1)), (12301, nI (lsF L c i).2.1)] [] [(124, a3)] [(125, a4), (126, (S.2.2.2.1 126))] []) (c := c) hL h.2.2.2.1 (fun t ht => (h.2.2.2.2.1 t ht).1) hc (by omega))]
      refine ok_bd (x_tell_q123 (S := wd_o S [(12300, nI ((lsF L c i).1 + 1)), (12301, nI (lsF L c i).2.1)] [] [(124, a3)] [(125, a4), (126, (S.2.2.2.1 126))] []) (c := c) (n := (lsF L c i).2.1) (l := (lsF L c i).2.2) hL t1 rfl i3 (by omega)) ?_
      rintro ⟨o1, o2, o3⟩ ⟨w1, w2⟩
      dsimp only at w1 w2
      subst w1
      dsimp only
      refine ih ((lsF L c i).1 + 1, _, o2, o3) ⟨by rw [hs], ?_, ?_⟩
      · dsimp only; rw [hs]
      · dsimp only; rw [hs]; exact w2
theorem x_some_q123 {S : wd_W} {L : Ld} {c : Bool} {m : Nat} (hm : m ≤ 60) (h1 : S.1 12301 = nI (lsF L c (2 ^ l_M L)).2.1) (ha : ∀ k, k < (lsF L c (2 ^ l_M L)).2.1 → S.2.2.2.1 126 k = lN (shaF L c k (2 ^ l_M L))) : f_X3_someOfFirst_q123 S (nI m) = some (lN (endF L c m)) := by
  have htold := (lsF_told L c (2 ^ l_M L)).1
  apply ok_e
  unfold f_X3_someOfFirst_q123
  rw [li_0, lN_0]
  have hend : endF L c (min m (lsF L c (2 ^ l_M L)).2.1) = endF L c m := by
    unfold endF
    apply fb_sm_cong
    intro s _
    generalize fstI (lsF L c (2 ^ l_M L)).2.2 (hol L c s) (lsF L c (2 ^ l_M L)).2.1 (lsF L c (2 ^ l_M L)).2.1 = fi
    by_cases q : fi < m ∧ fi < (lsF L c (2 ^ l_M L)).2.1
    · rw [if_pos q, if_pos ⟨by omega, q.2⟩]
    · rw [if_neg q, if_neg (fun z => q ⟨by omega, z.2⟩)]
  have hsum := sha_end L c (min m (lsF L c (2 ^ l_M L)).2.1) (by omega)
  rw [hend] at hsum
  rw [← hsum]
  generalize (lsF L c (2 ^ l_M L)).2.1 = n at h1 ha htold
  refine ok_for0 (W := fun k i (v : Int64) => it2 (f_X3_someOfFirst_q123_L5 S (nI m)) k v (nI i)) (I := fun i v => v = lN (fb_sm (fun k => shaF L c k (2 ^ l_M L)) i)) (e := min m n) (by omega) rfl ?_ ?_
  · intro k v hI
    show Ok (f_X3_someOfFirst_q123_L5 S _ _ v (nI (min m n))) _
    unfold f_X3_someOfFirst_q123_L5
    by_cases q : m ≤ n
    · rw [if_pos (nI_le (by omega) (by omega))]
      exact ok_some hI
    · rw [if_neg (nI_ge (by omega) (by omega)), h1, if_pos (nI_le (by omega) (by omega))]
      exact ok_some hI
  · intro k i v hi hI ih
    show Ok (f_X3_someOfFirst_q123_L5 S _ (it2 (f_X3_someOfFirst_q123_L5 S (nI m)) k) v (nI i)) _
    generalize it2 (f_X3_someOfFirst_q123_L5 S (nI m)) k = r at ih
    unfold f_X3_someOfFirst_q123_L5
    rw [if_neg (nI_ge (by omega) (by omega)), h1, if_neg (nI_ge (by omega) (by omega)), gd_in (by omega) (by omega), lz_eq, nI_clamp (by omega), ha i (by omega), hI, lN_add, nI_1]
    exact ih _ (by rw [fb_sm_succ])
