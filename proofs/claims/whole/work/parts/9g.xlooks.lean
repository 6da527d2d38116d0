/-! looks: the developers' -/
theorem st_pow_n : ∀ t, t < 10 → st_pow t = nI (3 ^ t) := by decide +kernel
theorem dg_x {t s : Nat} (hs : s < 2 ^ 31) : nI (s / 3 ^ t) - nI (s / 3 ^ t) / (3 : Int32) * (3 : Int32) = nI (dg t s) := by
  have h3 : s / 3 ^ t ≤ s := Nat.div_le_self _ _
  rw [li_3, pk_rem (by omega) (by omega) (by omega)]
  rfl
theorem dg_next {t s : Nat} (hs : s < 2 ^ 31) : nI (s / 3 ^ t) / (3 : Int32) = nI (s / 3 ^ (t + 1)) := by
  have h3 : s / 3 ^ t ≤ s := Nat.div_le_self _ _
  rw [li_3, pk_div (by omega) (by omega) (by omega), Nat.div_div_eq_div_mul, Nat.pow_succ]
theorem x_isSure {S : wd_W} {L : Ld} {s : Nat} (hL : lOk L) (h : xS S L) (hN : xN S) (hM9 : l_M L ≤ 9) (h1 : S.1 15901 = nI (l_M L)) (hs : s < 3 ^ l_M L) : f_X4_isSure_q159 S (nI s) = some (nI (b2n (srB L s))) := by
  have hP := p3_le hM9
  have hloop : ∀ K : Int32 → Int32 → Option o_X4_isSure_q159, it4 (f_X4_isSure_q159_L10 S K) fuel (nI 0) (nI 0) (nI s) (nI 0) = K (nI (hoS (l_M L) s)) (nI (unS (l_M L) s)) := by
    intro K
    refine Eq.trans ?_ (eq_for0 (W := fun m i => it4 (f_X4_isSure_q159_L10 S K) m (nI (mk (fun t => dg t s == 1) i)) (nI (mk (fun t => dg t s == 2) i)) (nI (s / 3 ^ i)) (nI i)) (e := l_M L) (by omega) ?_ ?_)
    · show it4 _ fuel (nI 0) (nI 0) (nI s) (nI 0) = it4 _ fuel (nI 0) (nI 0) (nI (s / 3 ^ 0)) (nI 0)
      rw [Nat.pow_zero, Nat.div_one]
    · intro m
      show f_X4_isSure_q159_L10 S K _ _ _ _ (nI (l_M L)) = _
      unfold f_X4_isSure_q159_L10
      rw [h1, if_pos (nI_le (Nat.le_refl _) (by omega))]
      rfl
    · intro m i hi
      show f_X4_isSure_q159_L10 S K (it4 _ m) _ _ _ (nI i) = it4 (f_X4_isSure_q159_L10 S K) m _ _ _ (nI (i + 1))
      generalize it4 (f_X4_isSure_q159_L10 S K) m = r
      unfold f_X4_isSure_q159_L10
      rw [h1, if_neg (nI_ge hi (by omega)), dg_x (by omega), dg_next (by omega), nI_1, lk_eq, oI_pow (by omega)]
      have hd := dg_lt i s
      rw [li_1, li_2, mk, mk]
      have k1 : nI (dg i s) = nI 1 ↔ dg i s = 1 := nI_eq (by omega) (by omega)
      have k2 : nI (dg i s) = nI 2 ↔ dg i s = 2 := nI_eq (by omega) (by omega)
      by_cases c1 : dg i s = 1
      · have c2 : ¬ dg i s = 2 := by omega
        rw [if_pos (k1.mpr c1)]
        dsimp only
        rw [lz_eq, lk_eq, if_neg (fun z => c2 (k2.mp z))]
        dsimp only
        rw [lz_eq, lz_eq, oI_or, li_0, oI_or]
        simp [c1]
      · rw [if_neg (fun z => c1 (k1.mp z))]
        dsimp only
        rw [lz_eq, lk_eq]
        by_cases c2 : dg i s = 2
        · rw [if_pos (k2.mpr c2)]
          dsimp only
          rw [lz_eq, lz_eq, li_0, oI_or, oI_or]
          simp [c2]
        · rw [if_neg (fun z => c2 (k2.mp z))]
          dsimp only
          rw [lz_eq, lz_eq, li_0, oI_or, oI_or]
          simp [c1, c2]
  have e1 := hoS_lt (l_M L) s
  have e2 : hoS (l_M L) s ||| unS (l_M L) s < 2 ^ l_M L := Nat.or_lt_two_pow e1 (unS_lt _ _)
  unfold f_X4_isSure_q159
  rw [lk_eq, li_0, hloop, bd_s (x_isThrough (S := wd_o S [] [] [] [] []) hL h hN e1), oI_or, bd_s (x_isThrough (S := wd_o S [] [] [] [] []) hL h hN e2)]
  unfold srB
  cases thB L (hoS (l_M L) s) <;> cases thB L (hoS (l_M L) s ||| unS (l_M L) s) <;> rfl
theorem x_neededBy {S : wd_W} {L : Ld} {s t : Nat} (hM9 : l_M L ≤ 9) (ht : t < l_M L) (hs : s < 3 ^ l_M L) (hd : dg t s = 2) (hn : 3 ^ l_M L ≤ S.2.2.2.2 160) (hn2 : S.2.2.2.2 160 ≤ 19683) (h : ∀ j, j < s → S.2.2.1 160 j = nI (NL L j)) :
    f_X4_neededBy_q159 S (nI s) (nI t) = some (nI (lvV (NL L) t s)) := by
  have hP := p3_le hM9
  have hp3 := p3_pos t
  have h1 := dg_le (k := 1) (t := t) (s := s) (by omega)
  have h2 := dg_le (k := 2) (t := t) (s := s) (by omega)
  have e1 : nI s - nI (3 ^ t) = nI (s - 3 ^ t) := pk_sub (by omega)
  have e2 : nI s - (2 : Int32) * nI (3 ^ t) = nI (s - 2 * 3 ^ t) := by rw [li_2, pk_mul]; exact pk_sub (by omega)
  have n1 := NL_leM L (s - 3 ^ t)
  have n2 := NL_leM L (s - 2 * 3 ^ t)
  unfold f_X4_neededBy_q159
  rw [nI_clamp (by omega), st_pow_n t (by omega), e1, e2, gd_in (by omega) (by omega), gd_in (by omega) (by omega), gd_in (by omega) (by omega), gd_in (by omega) (by omega), nI_clamp (by omega), nI_clamp (by omega), h _ (by omega), h _ (by omega)]
  have k : nI (NL L (s - 3 ^ t)) < nI (NL L (s - 2 * 3 ^ t)) ↔ NL L (s - 3 ^ t) < NL L (s - 2 * 3 ^ t) := nI_ltI (by omega) (by omega)
  unfold lvV
  rw [li_1]
  by_cases c : NL L (s - 3 ^ t) < NL L (s - 2 * 3 ^ t)
  · rw [if_pos (k.mpr c), nI_add, show max (NL L (s - 3 ^ t)) (NL L (s - 2 * 3 ^ t)) = NL L (s - 2 * 3 ^ t) by omega]
  · rw [if_neg (fun z => c (k.mp z)), nI_add, show max (NL L (s - 3 ^ t)) (NL L (s - 2 * 3 ^ t)) = NL L (s - 3 ^ t) by omega]
theorem lvV_le {L : Ld} (hM9 : l_M L ≤ 9) (t s : Nat) : lvV (NL L) t s ≤ 10 := by
  have n1 := NL_leM L (s - 3 ^ t)
  have n2 := NL_leM L (s - 2 * 3 ^ t)
  unfold lvV
  omega
theorem x_leastFrom {S : wd_W} {L : Ld} {s : Nat} (hM9 : l_M L ≤ 9) (h1 : S.1 15901 = nI (l_M L)) (hs : s < 3 ^ l_M L) (hn : 3 ^ l_M L ≤ S.2.2.2.2 160) (hn2 : S.2.2.2.2 160 ≤ 19683) (h : ∀ j, j < s → S.2.2.1 160 j = nI (NL L j)) :
    f_X4_leastFrom_q159 S (nI s) = some (nI (lvF (NL L) (l_M L) s (l_M L))) := by
  have hP := p3_le hM9
  unfold f_X4_leastFrom_q159
  rw [lz_eq, h1, li_0]
  refine Eq.trans ?_ (eq_for0 (W := fun m i => it3 (f_X4_leastFrom_q159_L10 S (nI s)) m (nI (lvF (NL L) (l_M L) s i)) (nI (s / 3 ^ i)) (nI i)) (e := l_M L) (by omega) ?_ ?_)
  · show it3 _ fuel (nI (l_M L)) (nI s) (nI 0) = it3 _ fuel (nI (l_M L)) (nI (s / 3 ^ 0)) (nI 0)
    rw [Nat.pow_zero, Nat.div_one]
  · intro m
    show f_X4_leastFrom_q159_L10 S _ _ _ _ (nI (l_M L)) = _
    unfold f_X4_leastFrom_q159_L10
    rw [h1, if_pos (nI_le (Nat.le_refl _) (by omega))]
  · intro m i hi
    show f_X4_leastFrom_q159_L10 S (nI s) (it3 _ m) _ _ (nI i) = it3 (f_X4_leastFrom_q159_L10 S (nI s)) m (nI (if dg i s = 2 then min (lvF (NL L) (l_M L) s i) (lvV (NL L) i s) else lvF (NL L) (l_M L) s i)) _ (nI (i + 1))
    generalize it3 (f_X4_leastFrom_q159_L10 S (nI s)) m = r
    have hd := dg_lt i s
    have hb : lvF (NL L) (l_M L) s i ≤ 10 := by
      rcases lvF_spec (NL L) (l_M L) s i with ⟨q, _⟩ | ⟨t, _, _, q, _⟩
      · omega
      · rw [q]; exact lvV_le hM9 t s
    have hv := lvV_le hM9 i s
    unfold f_X4_leastFrom_q159_L10
    rw [h1, if_neg (nI_ge hi (by omega)), dg_x (by omega), dg_next (by omega), nI_1, lk_eq, li_2]
    have k2 : nI (dg i s) = nI 2 ↔ dg i s = 2 := nI_eq (by omega) (by omega)
    by_cases c2 : dg i s = 2
    · have k : nI (lvV (NL L) i s) < nI (lvF (NL L) (l_M L) s i) ↔ lvV (NL L) i s < lvF (NL L) (l_M L) s i := nI_ltI (by omega) (by omega)
      rw [if_pos (k2.mpr c2), bd_s (x_neededBy (S := wd_o S [] [] [] [] []) hM9 hi hs c2 hn hn2 h), lz_eq]
      dsimp only
      rw [lz_eq, if_pos c2]
      by_cases c : lvV (NL L) i s < lvF (NL L) (l_M L) s i
      · rw [if_pos (k.mpr c), show min (lvF (NL L) (l_M L) s i) (lvV (NL L) i s) = lvV (NL L) i s by omega]
      · rw [if_neg (fun z => c (k.mp z)), show min (lvF (NL L) (l_M L) s i) (lvV (NL L) i s) = lvF (NL L) (l_M L) s i by omega]
    · rw [if_neg (fun z => c2 (k2.mp z))]
      dsimp only
      rw [lz_eq, if_neg c2]
def xN3 (S : wd_W) : Prop := ∃ e, e ≤ 9 ∧ S.2.2.2.2 160 = 3 ^ e
def xLk (S : wd_W) (L : Ld) : Prop := S.1 15901 = nI (l_M L) ∧ 3 ^ l_M L ≤ S.2.2.2.2 160 ∧ ∀ s, s < 3 ^ l_M L → S.2.2.1 160 s = nI (NL L s)
theorem nar_small : ∀ n, n ≤ 9 → vp_nar .byte (nI n).toInt8.toInt32 = nI n := by decide +kernel
theorem x_workLooks {S : wd_W} {L : Ld} (hL : lOk L) (h : xS S L) (hN : xN S) (hN3 : xN3 S) (hM9 : l_M L ≤ 9) :
    Ok (f_X4_workOut_q159 S) (fun o => o.1 = nI (l_M L) ∧ (∃ e, e ≤ 9 ∧ o.2.2.1 = 3 ^ e) ∧ 3 ^ l_M L ≤ o.2.2.1 ∧ (∀ s, s < 3 ^ l_M L → o.2.1 s = nI (NL L s)) ∧ o.2.2.2.1 ≤ 1 ∧ o.2.2.2.2 ≤ 19683 ∧ o.2.2.2.2 + 2 * S.2.2.2.2 160 ≤ 2 * o.2.2.1) := by
  have hP := p3_le hM9
  have hP0 := p3_pos (l_M L)
  have h4 : S.1 11700 = nI (l_M L) := h.2.2.2.1
  obtain ⟨e3, he3, n160⟩ := hN3
  have p9 := p3_le he3
  unfold f_X4_workOut_q159
  have emin : (if (9 : Int32) < S.1 11700 then (9 : Int32) else S.1 11700) = nI (l_M L) := by
    rw [h4, li_9, if_neg (nI_nlt (by omega) (by omega))]
  rw [emin, lz_eq, gd_in (by omega) (by omega)]
  refine ok_lk ?_
  rw [nI_clamp (by omega), st_pow_n _ (by omega)]
  have main : ∀ (a3 : Nat → Int32) (n4 n5 n6 : Nat), (∃ e, e ≤ 9 ∧ n4 = 3 ^ e) → 3 ^ l_M L ≤ n4 → n5 ≤ 1 → n6 ≤ 19683 → n6 + 2 * S.2.2.2.2 160 ≤ 2 * n4 →
      Ok (it2 (f_X4_workOut_q159_L51 S (nI (l_M L)) n4 n5 n6) fuel (0 : Int32) a3) (fun o => o.1 = nI (l_M L) ∧ (∃ e, e ≤ 9 ∧ o.2.2.1 = 3 ^ e) ∧ 3 ^ l_M L ≤ o.2.2.1 ∧ (∀ s, s < 3 ^ l_M L → o.2.1 s = nI (NL L s)) ∧ o.2.2.2.1 ≤ 1 ∧ o.2.2.2.2 ≤ 19683 ∧ o.2.2.2.2 + 2 * S.2.2.2.2 160 ≤ 2 * o.2.2.1) := by
    intro a3 n4 n5 n6 q1 q2 q3 q4 q5
    have q6 : n4 ≤ 19683 := by obtain ⟨e, he, rfl⟩ := q1; exact p3_le he
    rw [li_0]
    refine ok_for0 (W := fun m i (a : Nat → Int32) => it2 (f_X4_workOut_q159_L51 S (nI (l_M L)) n4 n5 n6) m (nI i) a) (I := fun i a => ∀ j, j < i → a j = nI (NL L j)) (e := 3 ^ l_M L) (s := a3) (by omega) (fun j hj => absurd hj (Nat.not_lt_zero j)) ?_ ?_
    · intro m a hI
      show Ok (f_X4_workOut_q159_L51 S (nI (l_M L)) n4 n5 n6 _ (nI (3 ^ l_M L)) a) _
      unfold f_X4_workOut_q159_L51
      rw [gd_in (by omega) (by omega), nI_clamp (by omega), st_pow_n _ (by omega), if_pos (nI_le (Nat.le_refl _) (by omega))]
      exact ok_some ⟨rfl, q1, q2, hI, q3, q4, q5⟩
    · intro m i a hi hI ih
      show Ok (f_X4_workOut_q159_L51 S (nI (l_M L)) n4 n5 n6 (it2 _ m) (nI i) a) _
      generalize it2 (f_X4_workOut_q159_L51 S (nI (l_M L)) n4 n5 n6) m = r at ih
      have fin : ∀ w, w = NL L i → Ok (lz ((nI w).toInt8.toInt32) fun x17 => gd (okx (nI i) n4) <| lz (upd a (nI i).toNatClampNeg (vp_nar .byte x17)) fun a19 => r (nI i + (1 : Int32)) a19) (fun o => o.1 = nI (l_M L) ∧ (∃ e, e ≤ 9 ∧ o.2.2.1 = 3 ^ e) ∧ 3 ^ l_M L ≤ o.2.2.1 ∧ (∀ s, s < 3 ^ l_M L → o.2.1 s = nI (NL L s)) ∧ o.2.2.2.1 ≤ 1 ∧ o.2.2.2.2 ≤ 19683 ∧ o.2.2.2.2 + 2 * S.2.2.2.2 160 ≤ 2 * o.2.2.1) := by
        intro w hw
        have hw9 : w ≤ 9 := by rw [hw]; exact Nat.le_trans (NL_leM L i) hM9
        rw [lz_eq, gd_in (by omega) (by omega), lz_eq, nI_clamp (by omega), nI_1, nar_small w hw9]
        refine ih _ (fun j hj => ?_)
        by_cases e : j = i
        · subst e; rw [pk_us, hw]
        · rw [pk_un e]; exact hI j (by omega)
      unfold f_X4_workOut_q159_L51
      rw [gd_in (by omega) (by omega), nI_clamp (by omega), st_pow_n _ (by omega), if_neg (nI_ge hi (by omega)), gd_t (okr_in (by omega) (by omega)), bd_s (x_isSure (S := wd_o S [(15901, nI (l_M L))] [] [(160, a)] [] [(160, n4)]) hL h hN hM9 rfl hi)]
      have hNL := NL_eq L i
      refine ok_lk (ok_b (fun hb => ?_) (fun hb => ?_))
      · rw [gd_t (okr_in (by omega) (by omega)), bd_s (x_leastFrom (S := wd_o S [(15901, nI (l_M L))] [] [(160, a)] [] [(160, n4)]) hM9 rfl hi q2 q6 hI)]
        rw [hb, if_neg (by decide)] at hNL
        exact fin _ hNL.symm
      · rw [hb, if_pos rfl] at hNL
        exact fin 0 hNL.symm
  have hx : Int32.ofNat (S.2.2.2.2 160) = nI (S.2.2.2.2 160) := rfl
  rw [hx]
  refine ok_ite (fun c => ?_) (fun c => ?_)
  · rw [nI_leI (by omega) (by omega)] at c
    exact main _ _ 0 0 ⟨e3, he3, n160⟩ (by omega) (by omega) (by omega) (by omega)
  · rw [nI_leI (by omega) (by omega)] at c
    rw [gd_in (by omega) (by omega), lz_eq, gd_t (okg_in (by omega) (by omega) (by omega)), nI_clamp (by omega)]
    have hlt : e3 < l_M L := by
      apply Classical.byContradiction
      intro hh
      have : 3 ^ l_M L ≤ 3 ^ e3 := Nat.pow_le_pow_right (by decide) (by omega)
      omega
    have h5 : 3 ^ (e3 + 1) ≤ 3 ^ l_M L := Nat.pow_le_pow_right (by decide) (by omega)
    have h6 : 3 ^ (e3 + 1) = 3 * 3 ^ e3 := by rw [Nat.pow_succ, Nat.mul_comm]
    exact main _ _ _ _ ⟨l_M L, hM9, rfl⟩ (Nat.le_refl _) (by omega) (by omega) (by omega)
theorem x_fewest {S : wd_W} {L : Ld} (hM9 : l_M L ≤ 9) (hk : xLk S L) (hN3 : xN3 S) : f_X4_fewest_q159 S = some (nI (NL L (3 ^ l_M L - 1))) := by
  have hP := p3_le hM9
  have hP0 := p3_pos (l_M L)
  obtain ⟨e3, he3, n160⟩ := hN3
  have p9 := p3_le he3
  obtain ⟨k1, k2, k3⟩ := hk
  unfold f_X4_fewest_q159
  rw [k1, gd_in (by omega) (by omega), nI_clamp (by omega), st_pow_n _ (by omega), li_1, oI_sub1 hP0, gd_in (by omega) (by omega), nI_clamp (by omega), k3 _ (by omega)]
theorem dg_top : ∀ {M t : Nat}, t < M → dg t (3 ^ M - 1) = 2 := by
  intro M t ht
  have := dg_neg (s := 0) ht (p3_pos M)
  rw [Nat.sub_zero] at this
  rw [this]
  have : dg t 0 = 0 := by unfold dg; rw [Nat.zero_div]
  rw [this]
theorem x_firstThing {S : wd_W} {L : Ld} (hL : lOk L) (hM9 : l_M L ≤ 9) (hk : xLk S L) (hN3 : xN3 S) : f_X4_firstThing_q159 S = some (fAt L (3 ^ l_M L - 1)) := by
  have hP := p3_le hM9
  have hP0 := p3_pos (l_M L)
  obtain ⟨e3, he3, n160⟩ := hN3
  have p9 := p3_le he3
  obtain ⟨k1, k2, k3⟩ := hk
  have hNM := NL_leM L (3 ^ l_M L - 1)
  apply ok_e
  unfold f_X4_firstThing_q159
  rw [k1, gd_in (by omega) (by omega), nI_clamp (by omega), st_pow_n _ (by omega), li_1, oI_sub1 hP0, lz_eq, gd_in (by omega) (by omega), nI_clamp (by omega), k3 _ (by omega)]
  cases hsr : srB L (3 ^ l_M L - 1) with
  | true =>
    have hz : NL L (3 ^ l_M L - 1) = 0 := by rw [NL_eq, if_pos hsr]
    have hf : fAt L (3 ^ l_M L - 1) = -1 := by unfold fAt; rw [if_pos hsr]
    rw [hz, hf]
    exact ok_ite (fun _ => ok_some rfl) (fun z => absurd rfl z)
  | false =>
    obtain ⟨t, t1, t2, t3, t4, t5⟩ := NL_first hL hsr
    have hf : fAt L (3 ^ l_M L - 1) = nI t := by unfold fAt; rw [hsr, if_neg (by decide), t3]
    have hpos : NL L (3 ^ l_M L - 1) ≠ 0 := by rw [t4]; unfold lvV; omega
    rw [hf]
    refine ok_ite (fun z => absurd ((oI_z (by omega)).mp z) hpos) (fun _ => ?_)
    rw [li_0]
    refine ok_up (W := fun m i (_ : Unit) => it1 (f_X4_firstThing_q159_L24 S (nI (3 ^ l_M L - 1))) m (nI i)) (I := fun _ _ => True) (e := t) ?_ ?_ fuel 0 () (Nat.zero_le _) trivial (by unfold fuel; omega)
    · intro m _ _
      show Ok (f_X4_firstThing_q159_L24 S (nI (3 ^ l_M L - 1)) _ (nI t)) _
      unfold f_X4_firstThing_q159_L24
      rw [k1, if_neg (nI_ge t1 (by omega)), bd_s (x_neededBy (S := wd_o S [] [] [] [] []) hM9 t1 (by omega) t2 k2 (by show S.2.2.2.2 160 ≤ 19683; omega) (fun j hj => k3 j (by omega))), gd_in (by omega) (by omega), nI_clamp (by omega), k3 _ (by omega), ← t4]
      exact ok_ite (fun _ => ok_some rfl) (fun z => absurd rfl z)
    · intro m i _ hi _ ih
      show Ok (f_X4_firstThing_q159_L24 S (nI (3 ^ l_M L - 1)) (it1 _ m) (nI i)) _
      generalize it1 (f_X4_firstThing_q159_L24 S (nI (3 ^ l_M L - 1))) m = r at ih
      have hdt := dg_top (M := l_M L) (t := i) (by omega)
      have hgt := t5 i hi hdt
      have hv := lvV_le hM9 i (3 ^ l_M L - 1)
      unfold f_X4_firstThing_q159_L24
      rw [k1, if_neg (nI_ge (by omega) (by omega)), bd_s (x_neededBy (S := wd_o S [] [] [] [] []) hM9 (by omega) (by omega) hdt k2 (by show S.2.2.2.2 160 ≤ 19683; omega) (fun j hj => k3 j (by omega))), gd_in (by omega) (by omega), nI_clamp (by omega), k3 _ (by omega), nI_1]
      refine ok_ite (fun z => ?_) (fun _ => ih () trivial)
      rw [nI_eq (by omega) (by omega)] at z
      omega
