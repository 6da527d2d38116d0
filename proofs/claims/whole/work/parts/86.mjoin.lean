/-! joined: the reference joins at a place, by its method -/
/-- what the search for pieces at p has found among the first i -/
def fnd (A B : Nat → Nat) (p i mm : Nat) (one two : Int32) : Prop :=
  mm = fb_ct (fun k => A k == p || B k == p) i ∧
  (1 ≤ mm → ∃ k1, k1 < i ∧ one = nI k1 ∧ (A k1 = p ∨ B k1 = p) ∧ (mm = 1 → ∀ j, j < i → (A j = p ∨ B j = p) → j = k1) ∧
    (2 ≤ mm → ∃ k2, k2 < i ∧ two = nI k2 ∧ k1 ≠ k2 ∧ (A k2 = p ∨ B k2 = p) ∧ (mm = 2 → ∀ j, j < i → (A j = p ∨ B j = p) → j = k1 ∨ j = k2)))
theorem fnd_no {A B : Nat → Nat} {p i mm : Nat} {one two : Int32} (h : fnd A B p i mm one two) (hb : (A i == p || B i == p) = false) : fnd A B p (i + 1) mm one two := by
  obtain ⟨h1, h2⟩ := h
  have hnp : ¬ (A i = p ∨ B i = p) := by
    intro z
    rcases z with z | z <;> simp [z] at hb
  have lift : ∀ {P : Nat → Prop}, (∀ j, j < i → (A j = p ∨ B j = p) → P j) → ∀ j, j < i + 1 → (A j = p ∨ B j = p) → P j := by
    intro P hP j hj hat
    by_cases e : j = i
    · subst e; exact absurd hat hnp
    · exact hP j (by omega) hat
  refine ⟨by rw [fb_ct_succ, hb, h1]; rfl, fun hm => ?_⟩
  obtain ⟨k1, a1, a2, a3, a4, a5⟩ := h2 hm
  refine ⟨k1, by omega, a2, a3, fun e => lift (a4 e), fun e => ?_⟩
  obtain ⟨k2, b1, b2, b3, b4, b5⟩ := a5 e
  exact ⟨k2, by omega, b2, b3, b4, fun e2 => lift (b5 e2)⟩
theorem fnd_yes {A B : Nat → Nat} {p i mm : Nat} {one two : Int32} (h : fnd A B p i mm one two) (hb : (A i == p || B i == p) = true) : fnd A B p (i + 1) (mm + 1) (if mm + 1 = 1 then nI i else one) (if mm + 1 = 2 then nI i else two) := by
  obtain ⟨h1, h2⟩ := h
  have hat : A i = p ∨ B i = p := by simpa using hb
  refine ⟨by rw [fb_ct_succ, hb, h1]; rfl, fun _ => ?_⟩
  by_cases e0 : mm = 0
  · subst e0
    rw [if_pos rfl, if_neg (by omega)]
    have hz := fb_ct_zero.mp h1.symm
    refine ⟨i, by omega, rfl, hat, fun _ j hj hj2 => ?_, fun z => by omega⟩
    by_cases e : j = i
    · exact e
    · have := hz j (by omega)
      rcases hj2 with q | q <;> simp [q] at this
  · obtain ⟨k1, a1, a2, a3, a4, a5⟩ := h2 (by omega)
    rw [if_neg (by omega)]
    refine ⟨k1, Nat.lt_succ_of_lt a1, a2, a3, fun z => absurd (Nat.succ.inj z) e0, fun _ => ?_⟩
    by_cases e1 : mm = 1
    · subst e1
      rw [if_pos rfl]
      refine ⟨i, by omega, rfl, by omega, hat, fun _ j hj hj2 => ?_⟩
      by_cases e : j = i
      · exact Or.inr e
      · exact Or.inl (a4 rfl j (by omega) hj2)
    · rw [if_neg (by omega)]
      obtain ⟨k2, b1, b2, b3, b4, b5⟩ := a5 (by omega)
      exact ⟨k2, Nat.lt_succ_of_lt b1, b2, b3, b4, fun z => absurd (Nat.succ.inj z) e1⟩
theorem m_found {S : wd_W} {n p : Nat} {A B : Nat → Nat} (hn : n ≤ 12) (h : mPc S n A B) (hA : ∀ k, k < n → A k < 10 ∧ B k < 10) (hp : p < 10) (K : Int32 → Int32 → Int32 → Option o_X12_joinsAt) (Q : o_X12_joinsAt → Prop)
    (hK : ∀ mm one two, fnd A B p n mm one two → Ok (K (nI mm) one two) Q) : Ok (it4 (f_X12_joinsAt_L10 S (nI p) K) fuel (nI 0) (-1) (-1) (nI 0)) Q := by
  have h1 := h.1
  refine ok_for0 (W := fun m i (x : Nat × Int32 × Int32) => it4 (f_X12_joinsAt_L10 S (nI p) K) m (nI x.1) x.2.1 x.2.2 (nI i)) (I := fun i x => fnd A B p i x.1 x.2.1 x.2.2) (e := n) (s := (0, -1, -1)) (by omega) ⟨rfl, fun z => absurd z (by decide)⟩ ?_ ?_
  · rintro m ⟨mm, one, two⟩ hI
    show Ok (f_X12_joinsAt_L10 S (nI p) K _ (nI mm) one two (nI n)) _
    unfold f_X12_joinsAt_L10
    rw [h1, if_pos (nI_le (Nat.le_refl _) (by omega))]
    exact hK mm one two hI
  · rintro m i ⟨mm, one, two⟩ hi hI ih
    dsimp only at hI
    show Ok (f_X12_joinsAt_L10 S (nI p) K (it4 (f_X12_joinsAt_L10 S (nI p) K) m) (nI mm) one two (nI i)) _
    generalize it4 (f_X12_joinsAt_L10 S (nI p) K) m = r at ih
    unfold f_X12_joinsAt_L10
    have hmm : mm ≤ 12 := by
      have := fb_ct_le (fun k => A k == p || B k == p) i
      have := hI.1
      omega
    rw [h1, if_neg (nI_ge hi (by omega)), bd_s (m_isAt (S := wd_o S [(67, nI n)] [] [(37, (S.2.2.1 37)), (38, (S.2.2.1 38))] [] []) hn ⟨rfl, h.2⟩ hi hA hp), nI_1, nI_1]
    refine ok_lk (ok_b (fun z => ?_) (fun z => ?_))
    · exact ih (mm, one, two) (fnd_no hI z)
    · have hf := fnd_yes hI z
      refine ok_lk (ok_ite (fun c => ?_) (fun c => ?_))
      · rw [li_1, nI_eq (by omega) (by omega)] at c
        rw [if_pos c] at hf
        refine ok_lk (ok_ite (fun d => ?_) (fun d => ?_))
        · rw [li_2, nI_eq (by omega) (by omega)] at d
          rw [if_pos d] at hf
          exact ih (mm + 1, nI i, nI i) hf
        · rw [li_2, nI_eq (by omega) (by omega)] at d
          rw [if_neg d] at hf
          exact ih (mm + 1, nI i, two) hf
      · rw [li_1, nI_eq (by omega) (by omega)] at c
        rw [if_neg c] at hf
        refine ok_lk (ok_ite (fun d => ?_) (fun d => ?_))
        · rw [li_2, nI_eq (by omega) (by omega)] at d
          rw [if_pos d] at hf
          exact ih (mm + 1, one, nI i) hf
        · rw [li_2, nI_eq (by omega) (by omega)] at d
          rw [if_neg d] at hf
          exact ih (mm + 1, one, two) hf
