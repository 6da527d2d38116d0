/-! the developers' sets, worked out -/
def wt (L : Ld) (s : Nat) : Nat := wtF (cha L) (fun t => 16 - cha L t) (l_M L) s
def hm (L : Ld) (s : Nat) : Nat := hmF (hT L) (l_M L) s
def opw (L : Ld) (j : Nat) : Nat := fb_sm (fun s => if opM L s false = j then wt L s else 0) (2 ^ l_M L)
theorem cha_le {L : Ld} (hL : lOk L) {t : Nat} (ht : t < l_M L) : cha L t ≤ 16 := by
  obtain ⟨g0, gk, gj, gu, gc, gw⟩ := hL
  unfold cha
  unfold l_M at ht
  split
  · exact (gk t (by omega)).2.2.2.1
  · split
    · exact (gj _ (by omega)).2
    · exact (gc _ (by omega)).1
theorem lk_eq {κ ρ : Type} (B : κ) (R : κ → Option ρ) : lk B R = R B := rfl
theorem lz_eq {α ρ : Type} (v : α) (k : α → Option ρ) : lz v k = k v := rfl
theorem li_12s : (12 : Int32) &&& 31 = nI 12 &&& 31 := rfl
theorem x_put_q117 {S : wd_W} {L : Ld} {c ch ls ps : Nat} (hL : lOr L) (hn : l_n L ≤ 12) (h : xR S 111 L) (hc : S.1 11700 = nI c) (hc15 : c < 15) (hls : ls < 2 ^ 12) (hps : ps < 2 ^ 10) :
    f_X10_put_q117 S (nI ch) (nI ls) (nI ps) = some (nI (c + 1), upd (S.2.2.1 118) c (nI ch), upd (S.2.2.1 119) c (nI (hmk L ls ps))) := by
  have hL0 := hL
  obtain ⟨⟨g1, g2, g3⟩, gk, w1, w2, w3, w4⟩ := hL
  simp only [xR, Nat.reduceMul, Nat.reduceAdd] at h
  obtain ⟨⟨h0, h1, h2, h3⟩, hk⟩ := h
  have hloop : ∀ (K : Int32 → Option o_X10_put_q117), it2 (f_X10_put_q117_L6 S (nI ps) K) fuel (nI ls) 0 = K (nI (ls ||| mk (fun i => tM L i &&& ps != 0) (l_n L))) := by
    intro K
    refine Eq.trans ?_ (eq_for0 (W := fun n i => it2 (f_X10_put_q117_L6 S (nI ps) K) n (nI (ls ||| mk (fun i => tM L i &&& ps != 0) i)) (nI i)) (e := l_n L) (by omega) ?_ ?_)
    · show it2 _ fuel (nI ls) (nI 0) = it2 _ fuel (nI (ls ||| 0)) (nI 0)
      rw [or_0]
    · intro n
      show f_X10_put_q117_L6 S (nI ps) _ _ _ (nI (l_n L)) = _
      unfold f_X10_put_q117_L6
      rw [h0, if_pos (nI_le (Nat.le_refl _) (by omega))]
    · intro n i hi
      show f_X10_put_q117_L6 S (nI ps) _ (it2 _ n) _ (nI i) = it2 _ n (nI (ls ||| mk (fun i => tM L i &&& ps != 0) (i + 1))) (nI (i + 1))
      generalize it2 (f_X10_put_q117_L6 S (nI ps) K) n = r
      obtain ⟨k1, k2, k3⟩ := hk i hi
      have htl := lt_1024 (tM_lt hL0 hi).1 g2
      have hand : tM L i &&& ps ≤ tM L i := Nat.and_le_left
      unfold f_X10_put_q117_L6
      rw [h0, if_neg (nI_ge hi (by omega)), mk, ← Nat.or_assoc]
      simp (disch := omega) only [nI_1, gd_in, nI_clamp, k1, oI_and, oI_z, oI_pow, oI_or]
      by_cases c0 : tM L i &&& ps = 0
      · simp [lk, c0]
      · simp [lk, lz, c0]
  unfold f_X10_put_q117
  rw [lk_eq, hloop]
  rw [hc, li_15, if_neg (nI_ge hc15 (by omega))]
  have e12 : nI ps <<< ((12 : Int32) &&& 31) = nI (ps * 2 ^ 12) := by
    rw [li_12s, oI_shl (by omega) (by omega)]
  rw [e12]
  simp (disch := omega) only [lz, gd_in, nI_clamp, nI_1, oI_or]
  rfl
theorem x_take_q117 {S : wd_W} {L : Ld} (hL : lOk L) (hc3 : l_c L ≤ 3) (hl : xL S 16 L) (h : xR S 111 L) :
    Ok (f_X10_take_q117 S 0) (fun o => o.1 = nI (l_M L) ∧ ∀ t, t < l_M L → o.2.1 t = nI (cha L t) ∧ o.2.2 t = nI (hT L t)) := by
  have hL0 := hL
  have hR := lOk_r hL
  have hxR := h
  obtain ⟨⟨g1, g2, g3, g4, g5, g6⟩, gk, gj, gu, gc, gw⟩ := hL
  have hM : l_n L + l_k L + l_c L ≤ 15 := g6
  simp only [xL, Nat.reduceMul, Nat.reduceAdd] at hl
  obtain ⟨⟨l0, l1, l7, l10, l14, l15, l16, l17⟩, lk1, lk2, lk3⟩ := hl
  unfold f_X10_take_q117
  have base : ∀ (x : Nat) (a b : Nat → Int32) (ch ls ps : Nat), x < 15 → ls < 2 ^ 12 → ps < 2 ^ 10 → ch = cha L x → hmk L ls ps = hT L x → (∀ t, t < x → a t = nI (cha L t) ∧ b t = nI (hT L t)) → f_X10_put_q117 (wd_o S [(11700, nI x)] [] [(118, a), (119, b)] [] []) (nI ch) (nI ls) (nI ps) = some (nI (x + 1), upd a x (nI ch), upd b x (nI (hT L x))) ∧ ∀ t, t < x + 1 → upd a x (nI ch) t = nI (cha L t) ∧ upd b x (nI (hT L x)) t = nI (hT L t) := by
    intro x a b ch ls ps hx hls hps hch hhm hab
    constructor
    · rw [x_put_q117 (S := wd_o S [(11700, nI x)] [] [(118, a), (119, b)] [] []) (c := x) hR g3 hxR rfl hx hls hps, hhm]
      rfl
    · intro t ht
      by_cases e : t = x
      · subst e; rw [pk_us, pk_us, hch]; exact ⟨rfl, rfl⟩
      · rw [pk_un e, pk_un e]; exact hab t (by omega)
  refine ok_lk ?_
  rw [li_0]
  refine ok_for0 (W := fun n i (s : (Nat → Int32) × (Nat → Int32)) => it4 (f_X10_take_q117_L7 S _) n (nI i) (nI i) s.1 s.2) (I := fun i s => ∀ t, t < i → s.1 t = nI (cha L t) ∧ s.2 t = nI (hT L t)) (e := l_n L) (s := (S.2.2.1 118, S.2.2.1 119)) (by omega) (fun t ht => by omega) ?_ ?_
  · intro n s hI
    show Ok (f_X10_take_q117_L7 S _ _ (nI (l_n L)) (nI (l_n L)) s.1 s.2) _
    unfold f_X10_take_q117_L7
    rw [l1, if_pos (nI_le (Nat.le_refl _) (by omega))]
    refine ok_lk ?_
    refine ok_for0 (W := fun n i (s : (Nat → Int32) × (Nat → Int32)) => it4 (f_X10_take_q117_L43 S _) n (nI i) (nI (l_n L + i)) s.1 s.2) (I := fun i s => ∀ t, t < l_n L + i → s.1 t = nI (cha L t) ∧ s.2 t = nI (hT L t)) (e := l_k L) (s := s) (by omega) hI ?_ ?_
    · intro n s hI
      show Ok (f_X10_take_q117_L43 S _ _ (nI (l_k L)) (nI (l_n L + l_k L)) s.1 s.2) _
      unfold f_X10_take_q117_L43
      rw [l7, if_pos (nI_le (Nat.le_refl _) (by omega))]
      refine ok_for0 (W := fun n i (s : (Nat → Int32) × (Nat → Int32)) => it4 (f_X10_take_q117_L87 S _) n (nI i) (nI (l_n L + l_k L + i)) s.1 s.2) (I := fun i s => ∀ t, t < l_n L + l_k L + i → s.1 t = nI (cha L t) ∧ s.2 t = nI (hT L t)) (e := l_c L) (s := s) (by omega) hI ?_ ?_
      · intro n s hI
        show Ok (f_X10_take_q117_L87 S _ _ (nI (l_c L)) (nI (l_n L + l_k L + l_c L)) s.1 s.2) _
        unfold f_X10_take_q117_L87
        rw [l10, if_pos (nI_le (Nat.le_refl _) (by omega))]
        exact ok_some ⟨rfl, hI⟩
      · intro n i s hi hI ih
        show Ok (f_X10_take_q117_L87 S _ (it4 _ n) (nI i) (nI (l_n L + l_k L + i)) s.1 s.2) _
        generalize it4 (f_X10_take_q117_L87 S _) n = r at ih
        obtain ⟨c1, c2, c3⟩ := gc i hi
        obtain ⟨d1, d2, d3⟩ := lk3 i hi
        unfold f_X10_take_q117_L87
        rw [l10, if_neg (nI_ge hi (by omega))]
        refine ok_lk (ok_ite (fun _ => ?_) (fun z => absurd rfl z))
        rw [gd_in (by omega) (by omega), gd_in (by omega) (by omega), gd_in (by omega) (by omega), nI_clamp (by omega), d1, d2, d3]
        obtain ⟨e1, e2⟩ := base (l_n L + l_k L + i) s.1 s.2 (l_R L i) (l_X L i) (l_Y L i) (by omega) (Nat.lt_of_lt_of_le c2 (pow_le_k g3)) (Nat.lt_of_lt_of_le c3 (pow_le_k g2)) (by unfold cha; rw [if_neg (by omega), if_neg (by omega), show l_n L + l_k L + i - l_n L - l_k L = i by omega]) (hT_2 L i).symm hI
        rw [bd_s e1, nI_1]
        exact ih (_, _) e2
    · intro n i s hi hI ih
      show Ok (f_X10_take_q117_L43 S _ (it4 _ n) (nI i) (nI (l_n L + i)) s.1 s.2) _
      generalize it4 (f_X10_take_q117_L43 S _) n = r at ih
      obtain ⟨c1, c2⟩ := gj i hi
      obtain ⟨d1, d2⟩ := lk2 i hi
      unfold f_X10_take_q117_L43
      rw [l7, if_neg (nI_ge hi (by omega)), gd_in (by omega) (by omega), gd_in (by omega) (by omega), nI_clamp (by omega), d1, d2, oI_pow (by omega)]
      obtain ⟨e1, e2⟩ := base (l_n L + i) s.1 s.2 (l_Q L i) 0 (2 ^ l_P L i) (by omega) (by omega) (Nat.pow_lt_pow_right (by decide) (by omega)) (by unfold cha; rw [if_neg (by omega), if_pos (by omega), show l_n L + i - l_n L = i by omega]) (hT_1 hi).symm hI
      rw [li_0, bd_s e1, nI_1]
      exact ih (_, _) e2
  · intro n i s hi hI ih
    show Ok (f_X10_take_q117_L7 S _ (it4 _ n) (nI i) (nI i) s.1 s.2) _
    generalize it4 (f_X10_take_q117_L7 S _) n = r at ih
    obtain ⟨d1, d2, d3, d4, d5⟩ := lk1 i hi
    unfold f_X10_take_q117_L7
    rw [l1, if_neg (nI_ge hi (by omega)), gd_in (by omega) (by omega), nI_clamp (by omega), d3, oI_pow (by omega)]
    obtain ⟨e1, e2⟩ := base i s.1 s.2 (l_C L i) (2 ^ i) 0 (by omega) (Nat.pow_lt_pow_right (by decide) (by omega)) (by omega) (by unfold cha; rw [if_pos hi]) (hT_0 hi).symm hI
    rw [li_0, bd_s e1, nI_1]
    exact ih (_, _) e2
