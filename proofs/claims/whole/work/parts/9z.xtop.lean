/-! over all things, over all numbers of lines -/
noncomputable def mstF (L : Ld) : Nat → Int32 × Int64
  | 0 => (-1, 0)
  | t + 1 => if t = 0 ∨ (mstF L t).2 < weiN L t then (nI t, weiN L t) else mstF L t
theorem mstF_i (L : Ld) : ∀ t, (t = 0 ∧ (mstF L t).1 = -1) ∨ (0 < t ∧ ∃ j, j < t ∧ (mstF L t).1 = nI j)
  | 0 => Or.inl ⟨rfl, rfl⟩
  | t + 1 => by
    refine Or.inr ⟨by omega, ?_⟩
    rw [mstF]
    by_cases c : t = 0 ∨ (mstF L t).2 < weiN L t
    · rw [if_pos c]; exact ⟨t, by omega, rfl⟩
    · rw [if_neg c]
      rcases mstF_i L t with ⟨z, _⟩ | ⟨z, j, hj, e⟩
      · exact absurd (Or.inl z) c
      · exact ⟨j, by omega, e⟩
noncomputable def uslN (L : Ld) : Nat → Nat
  | 0 => 0
  | t + 1 => if dcd L t = 0 then uslN L t ||| 2 ^ t else uslN L t
theorem dcd_le (L : Ld) (t : Nat) : dcd L t ≤ 2 ^ l_M L := fb_ct_le _ _
theorem x_most {S : wd_W} {L : Ld} {T : Nt} (h : XI S L T) : Ok (f_X11_most S) (fun o => o.1 = (mstF L (l_M L)).1 ∧ xE S L T o.2.1 o.2.2.1 o.2.2.2) := by
  have hL := h.1.1.1
  have hM := lM_15 hL
  unfold f_X11_most
  rw [li_0]
  refine ok_for0 (W := fun m i (s : Int32 × Int64 × wd_W × Nat × Nat) => it6 f_X11_most_L7 m s.1 s.2.1 (nI i) s.2.2.1 s.2.2.2.1 s.2.2.2.2) (I := fun i s => s.1 = (mstF L i).1 ∧ s.2.1 = (mstF L i).2 ∧ xKS S L T s.2.2.1 s.2.2.2.1 s.2.2.2.2) (e := l_M L) (s := (-1, 0, S, 0, 0)) (by omega) ⟨rfl, rfl, xKS_refl h⟩ ?_ ?_
  · rintro m ⟨x1, x2, S4, n5, n6⟩ ⟨i1, i2, i3⟩
    dsimp only at i1 i2 i3
    show Ok (f_X11_most_L7 _ x1 x2 (nI (l_M L)) S4 n5 n6) _
    have hE := i3.1
    have hn : n5 ≤ 11 ∧ n6 ≤ 120675 := by
      rcases i3.2 with z | z
      · omega
      · omega
    unfold f_X11_most_L7
    rw [gd_t (okr_in (by omega) (by omega)), bd_s (x_things (S := wd_o S4 [] [] [] [] []) hE.1.1.2.1), if_pos (nI_le (Nat.le_refl _) (by omega))]
    exact ok_some ⟨i1, hE⟩
  · rintro m i ⟨x1, x2, S4, n5, n6⟩ hi ⟨i1, i2, i3⟩ ih
    dsimp only at i1 i2 i3
    show Ok (f_X11_most_L7 (it6 f_X11_most_L7 m) x1 x2 (nI i) S4 n5 n6) _
    have hE := i3.1
    have hn : n5 ≤ 11 ∧ n6 ≤ 120675 := by
      rcases i3.2 with z | z
      · omega
      · omega
    generalize it6 f_X11_most_L7 m = r at ih
    unfold f_X11_most_L7
    rw [gd_t (okr_in (by omega) (by omega)), bd_s (x_things (S := wd_o S4 [] [] [] [] []) hE.1.1.2.1), if_neg (nI_ge hi (by omega)), gd_t (okr_in (by omega) (by omega))]
    refine ok_bd (x_ksL (S' := wd_o S4 [] [] [] [] []) i3) ?_
    rintro ⟨S5, nc, ns⟩ ⟨e, ⟨e1, e2⟩, hs, hN, _⟩
    dsimp only at e e1 e2 hs hN ⊢
    rw [gd_t (okr_in (by omega) (by omega)), bd_s (x_weight (S := wd_o S5 [] [] [] [] []) (t := i) hL hs hN hi), nI_1, i1, i2]
    refine ok_lk (ok_lk ?_)
    have up : (i = 0 ∨ (mstF L i).2 < weiN L i) → Ok (r (nI i) (weiN L i) (nI (i + 1)) S5 (n5 + nc) (n6 + ns)) (fun o => o.1 = (mstF L (l_M L)).1 ∧ xE S L T o.2.1 o.2.2.1 o.2.2.2) := by
      intro c
      refine ih (nI i, weiN L i, S5, n5 + nc, n6 + ns) ⟨?_, ?_, e⟩
      · rw [mstF, if_pos c]
      · rw [mstF, if_pos c]
    have st : ¬ (i = 0 ∨ (mstF L i).2 < weiN L i) → Ok (r (mstF L i).1 (mstF L i).2 (nI (i + 1)) S5 (n5 + nc) (n6 + ns)) (fun o => o.1 = (mstF L (l_M L)).1 ∧ xE S L T o.2.1 o.2.2.1 o.2.2.2) := by
      intro c
      refine ih ((mstF L i).1, (mstF L i).2, S5, n5 + nc, n6 + ns) ⟨?_, ?_, e⟩
      · rw [mstF, if_neg c]
      · rw [mstF, if_neg c]
    refine ok_ite (fun c => ?_) (fun c => ?_)
    · refine up (Or.inl ?_)
      rcases mstF_i L i with ⟨z, _⟩ | ⟨_, j, hj, z⟩
      · exact z
      · rw [z] at c; exact absurd c (fun q => (oI_m1 (by omega)).mp q)
    · have c0 : i ≠ 0 := by
        rintro rfl
        exact c rfl
      refine ok_ite (fun d => ?_) (fun d => ?_)
      · exact st (fun q => by rcases q with q | q; exact c0 q; exact (Int64.not_lt.mpr d) q)
      · exact up (Or.inr (Int64.not_le.mp d))
theorem x_useless {S : wd_W} {L : Ld} {T : Nt} (h : XI S L T) : Ok (f_X11_useless S) (fun o => o.1 = nI (uslN L (l_M L)) ∧ xE S L T o.2.1 o.2.2.1 o.2.2.2) := by
  have hL := h.1.1.1
  have hM := lM_15 hL
  have pM := pow_le15 hM
  unfold f_X11_useless
  rw [li_0]
  refine ok_for0 (W := fun m i (s : Int32 × wd_W × Nat × Nat) => it5 f_X11_useless_L4 m s.1 (nI i) s.2.1 s.2.2.1 s.2.2.2) (I := fun i s => s.1 = nI (uslN L i) ∧ xKS S L T s.2.1 s.2.2.1 s.2.2.2) (e := l_M L) (s := (nI 0, S, 0, 0)) (by omega) ⟨rfl, xKS_refl h⟩ ?_ ?_
  · rintro m ⟨x1, S4, n5, n6⟩ ⟨i1, i3⟩
    dsimp only at i1 i3
    show Ok (f_X11_useless_L4 _ x1 (nI (l_M L)) S4 n5 n6) _
    have hE := i3.1
    have hn : n5 ≤ 11 ∧ n6 ≤ 120675 := by
      rcases i3.2 with z | z
      · omega
      · omega
    unfold f_X11_useless_L4
    rw [gd_t (okr_in (by omega) (by omega)), bd_s (x_things (S := wd_o S4 [] [] [] [] []) hE.1.1.2.1), if_pos (nI_le (Nat.le_refl _) (by omega))]
    exact ok_some ⟨i1, hE⟩
  · rintro m i ⟨x1, S4, n5, n6⟩ hi ⟨i1, i3⟩ ih
    dsimp only at i1 i3
    show Ok (f_X11_useless_L4 (it5 f_X11_useless_L4 m) x1 (nI i) S4 n5 n6) _
    have hE := i3.1
    have hn : n5 ≤ 11 ∧ n6 ≤ 120675 := by
      rcases i3.2 with z | z
      · omega
      · omega
    have hd := dcd_le L i
    generalize it5 f_X11_useless_L4 m = r at ih
    unfold f_X11_useless_L4
    rw [gd_t (okr_in (by omega) (by omega)), bd_s (x_things (S := wd_o S4 [] [] [] [] []) hE.1.1.2.1), if_neg (nI_ge hi (by omega)), gd_t (okr_in (by omega) (by omega))]
    refine ok_bd (x_ksL (S' := wd_o S4 [] [] [] [] []) i3) ?_
    rintro ⟨S5, nc, ns⟩ ⟨e, ⟨e1, e2⟩, hs, hN, _⟩
    dsimp only at e e1 e2 hs hN ⊢
    rw [gd_t (okr_in (by omega) (by omega)), bd_s (x_decidesIn (S := wd_o S5 [] [] [] [] []) (t := i) hL hs hN hi), nI_1, i1]
    refine ok_lk (ok_ite (fun c => ?_) (fun c => ?_))
    · rw [oI_pow (by omega), oI_or]
      refine ok_lz (ih (nI (uslN L i ||| 2 ^ i), S5, n5 + nc, n6 + ns) ⟨?_, e⟩)
      rw [uslN, if_pos ((oI_z (by omega)).mp c)]
    · refine ih (nI (uslN L i), S5, n5 + nc, n6 + ns) ⟨?_, e⟩
      rw [uslN, if_neg (fun z => c ((oI_z (by omega)).mpr z))]
/-! alike and even -/
theorem x_times {p k : Nat} (hp : p < 2 ^ 31) (hk : k < 2 ^ 31) : f_X8_times (nI p) (nI k) = some (lN (p ^ k)) := by
  apply ok_e
  unfold f_X8_times
  rw [li_0]
  refine ok_for0 (W := fun m i (v : Int64) => it2 (f_X8_times_L5 (nI p) (nI k)) m v (nI i)) (I := fun i v => v = lN (p ^ i)) (e := k) (by omega) rfl ?_ ?_
  · intro m v hI
    show Ok (f_X8_times_L5 (nI p) (nI k) _ v (nI k)) _
    unfold f_X8_times_L5
    rw [if_pos (nI_le (Nat.le_refl _) (by omega))]
    exact ok_some hI
  · intro m i v hi hI ih
    show Ok (f_X8_times_L5 (nI p) (nI k) (it2 _ m) v (nI i)) _
    generalize it2 (f_X8_times_L5 (nI p) (nI k)) m = r at ih
    unfold f_X8_times_L5
    rw [if_neg (nI_ge hi (by omega)), nI_l hp, nI_1, hI, lN_mul]
    exact ok_lz (ih _ (by rw [Nat.pow_succ]))
theorem rowN_le {L : Ld} (hL : lOk L) (k : Nat) : rowN L k ≤ 4096 := Nat.le_trans (fb_ct_le _ _) (pow_le_k (n := 12) hL.1.2.2.1)
noncomputable def likF (L : Ld) (p k : Nat) : Nat := fb_sm (fun j => rowN L j * p ^ j * (16 - p) ^ (l_n L - j)) k
noncomputable def likA (L : Ld) (p : Int32) : Int64 := if inB 0 16 p = true then lN (likF L p.toNatClampNeg (l_n L + 1)) else -1
theorem x_alike {S : wd_W} {L : Ld} {T : Nt} {p1 : Int32} (h : XI S L T) : Ok (f_X11_alike S p1) (fun o => o.1 = likA L p1 ∧ xE S L T o.2.1 o.2.2.1 o.2.2.2) := by
  have hL := h.1.1.1
  have g3 := hL.1.2.2.1
  have e16 : inB 0 ((16 : Nat) : Int) p1 = inB 0 16 p1 := rfl
  unfold f_X11_alike likA
  rw [tst_le (q := (16 : Int32)) (k := 16) rfl (by omega), e16]
  cases hin : inB 0 16 p1 with
  | false => exact ok_some ⟨rfl, xE_refl h⟩
  | true =>
    obtain ⟨p, hp, rfl, n1, n2⟩ := inB_t (by omega) hin
    rw [if_pos rfl, if_pos rfl, nI_clamp hp, li_0, lN_0]
    refine ok_for0 (W := fun m i (s : Int64 × wd_W × Nat × Nat) => it5 (f_X11_alike_L19 (nI p)) m s.1 (nI i) s.2.1 s.2.2.1 s.2.2.2) (I := fun i s => s.1 = lN (likF L p i) ∧ xKS S L T s.2.1 s.2.2.1 s.2.2.2) (e := l_n L + 1) (s := (lN 0, S, 0, 0)) (by omega) ⟨rfl, xKS_refl h⟩ ?_ ?_
    · rintro m ⟨x1, S4, n5, n6⟩ ⟨i1, i3⟩
      dsimp only at i1 i3
      show Ok (f_X11_alike_L19 (nI p) _ x1 (nI (l_n L + 1)) S4 n5 n6) _
      have h1 : S4.1 1601 = nI (l_n L) := i3.1.1.1.2.1.1.2.1
      unfold f_X11_alike_L19
      rw [h1, if_pos (nI_lt (by omega) (by omega))]
      exact ok_some ⟨i1, i3.1⟩
    · rintro m i ⟨x1, S4, n5, n6⟩ hi ⟨i1, i3⟩ ih
      dsimp only at i1 i3
      show Ok (f_X11_alike_L19 (nI p) (it5 (f_X11_alike_L19 (nI p)) m) x1 (nI i) S4 n5 n6) _
      have h1 : S4.1 1601 = nI (l_n L) := i3.1.1.1.2.1.1.2.1
      have hn : n5 ≤ 11 ∧ n6 ≤ 120675 := by
        rcases i3.2 with z | z
        · omega
        · omega
      have hr := rowN_le hL i
      generalize it5 (f_X11_alike_L19 (nI p)) m = r at ih
      unfold f_X11_alike_L19
      rw [h1, if_neg (nI_nlt (by omega) (by omega)), gd_t (okr_in (by omega) (by omega))]
      refine ok_bd (x_ksL (S' := wd_o S4 [] [] [] [] []) i3) ?_
      rintro ⟨S5, nc, ns⟩ ⟨e, ⟨e1, e2⟩, hs, hN, hl⟩
      dsimp only at e e1 e2 hs hN hl ⊢
      rw [gd_t (okr_in (by omega) (by omega)), bd_s (x_lineSetsOf (S := wd_o S5 [] [] [] [] []) (k := i) hL hs hN (by omega)), gd_t (okr_in (by omega) (by omega)), bd_s (x_times hp (by omega)), gd_t (okr_in (by omega) (by omega)),
        show S5.1 1601 = nI (l_n L) from hl.1.2.1, li_16, pk_sub (by omega), pk_sub (by omega), bd_s (x_times (by omega) (by omega)), nI_1, nI_l (by omega), lN_mul, lN_mul, i1, lN_add]
      exact ok_lz (ih (_, S5, n5 + nc, n6 + ns) ⟨rfl, e⟩)
noncomputable def evnB (L : Ld) : Bool := alls (fun k => decide (rowN L k * rowN L (k + 2) ≤ rowN L (k + 1) * rowN L (k + 1))) (l_n L - 1)
theorem nI_mulR (a b : Nat) : nI a * nI b = nI (a * b) := (Int32.ofNat_mul a b).symm
theorem x_even {S : wd_W} {L : Ld} {T : Nt} (h : XI S L T) : Ok (f_X11_even S) (fun o => o.1 = nI (b2n (evnB L)) ∧ xE S L T o.2.1 o.2.2.1 o.2.2.2) := by
  have hL := h.1.1.1
  have g3 := hL.1.2.2.1
  unfold f_X11_even
  show Ok (it4 f_X11_even_L2 fuel (nI (0 + 1)) S 0 0) _
  refine ok_for0 (W := fun m i (s : wd_W × Nat × Nat) => it4 f_X11_even_L2 m (nI (i + 1)) s.1 s.2.1 s.2.2) (I := fun i s => (∀ k, k < i → decide (rowN L k * rowN L (k + 2) ≤ rowN L (k + 1) * rowN L (k + 1)) = true) ∧ xKS S L T s.1 s.2.1 s.2.2) (e := l_n L - 1) (s := (S, 0, 0)) (by omega) ⟨fun k hk => absurd hk (Nat.not_lt_zero k), xKS_refl h⟩ ?_ ?_
  · rintro m ⟨S4, n5, n6⟩ ⟨i1, i3⟩
    dsimp only at i1 i3
    show Ok (f_X11_even_L2 _ (nI (l_n L - 1 + 1)) S4 n5 n6) _
    have h1 : S4.1 1601 = nI (l_n L) := i3.1.1.1.2.1.1.2.1
    unfold f_X11_even_L2
    rw [h1, if_pos (nI_le (by omega) (by omega))]
    refine ok_some ⟨?_, i3.1⟩
    have : evnB L = true := alls_iff.mpr i1
    rw [this]; rfl
  · rintro m i ⟨S4, n5, n6⟩ hi ⟨i1, i3⟩ ih
    dsimp only at i1 i3
    show Ok (f_X11_even_L2 (it4 f_X11_even_L2 m) (nI (i + 1)) S4 n5 n6) _
    have h1 : S4.1 1601 = nI (l_n L) := i3.1.1.1.2.1.1.2.1
    have hn : n5 ≤ 11 ∧ n6 ≤ 120675 := by
      rcases i3.2 with z | z
      · omega
      · omega
    have hr0 := rowN_le hL i
    have hr1 := rowN_le hL (i + 1)
    have hr2 := rowN_le hL (i + 2)
    have b1 : rowN L i * rowN L (i + 1 + 1) ≤ 4096 * 4096 := Nat.mul_le_mul hr0 hr2
    have b2 : rowN L (i + 1) * rowN L (i + 1) ≤ 4096 * 4096 := Nat.mul_le_mul hr1 hr1
    generalize it4 f_X11_even_L2 m = r at ih
    unfold f_X11_even_L2
    rw [h1, if_neg (nI_ge (by omega) (by omega)), gd_t (okr_in (by omega) (by omega))]
    refine ok_bd (x_ksL (S' := wd_o S4 [] [] [] [] []) i3) ?_
    rintro ⟨S5, nc, ns⟩ ⟨e, ⟨e1, e2⟩, hs, hN, hl⟩
    dsimp only at e e1 e2 hs hN hl ⊢
    have es : nI (i + 1) - (1 : Int32) = nI i := by rw [li_1, pk_sub (by omega), Nat.add_sub_cancel]
    rw [gd_t (okr_in (by omega) (by omega)), bd_s (x_lineSetsOf (S := wd_o S5 [] [] [] [] []) (k := i + 1) hL hs hN (by omega)), gd_t (okr_in (by omega) (by omega)), es, bd_s (x_lineSetsOf (S := wd_o S5 [] [] [] [] []) (k := i) hL hs hN (by omega)), gd_t (okr_in (by omega) (by omega)), nI_1, bd_s (x_lineSetsOf (S := wd_o S5 [] [] [] [] []) (k := i + 1 + 1) hL hs hN (by omega)), nI_mulR, nI_mulR]
    refine ok_ite (fun c => ?_) (fun c => ?_)
    · rw [nI_leI (by omega) (by omega)] at c
      refine ih (S5, n5 + nc, n6 + ns) ⟨fun k hk => ?_, e⟩
      by_cases q : k = i
      · subst q; exact decide_eq_true c
      · exact i1 k (by omega)
    · rw [nI_leI (by omega) (by omega)] at c
      refine ok_some ⟨?_, e.1⟩
      have : evnB L = false := by
        cases q : evnB L with
        | false => rfl
        | true => exact absurd (of_decide_eq_true (alls_iff.mp q i hi)) c
      rw [this]; rfl
