/-! joined: the reference joins at a place -/
theorem jE_one {A B : Nat → Nat} {n p k : Nat} (hk : k < n) (hat : A k = p ∨ B k = p) (hone : ∀ j, j < n → (A j = p ∨ B j = p) → j = k) : jL (upN A k (A (n - 1))) (upN B k (B (n - 1))) (n - 1) = jE p (jL A B n) := by
  funext u v
  have hlt : n - 1 < n := by omega
  have key : jL (upN A k (A (n - 1))) (upN B k (B (n - 1))) (n - 1) u v = true ↔ jE p (jL A B n) u v = true := by
    simp only [jE, Bool.and_eq_true, Bool.or_eq_true, Bool.not_eq_true', beq_eq_false_iff_ne]
    rw [jL_iff, jL_iff, jL_iff, jL_iff]
    constructor
    · rintro ⟨h1, j, hj, h2⟩
      have got : ∃ i, i < n ∧ i ≠ k ∧ ((A i = u ∧ B i = v) ∨ (A i = v ∧ B i = u)) := by
        by_cases e : j = k
        · subst e
          rw [upN_s, upN_s] at h2
          exact ⟨n - 1, hlt, by omega, h2⟩
        · rw [upN_n e, upN_n e] at h2
          exact ⟨j, by omega, e, h2⟩
      obtain ⟨i, i1, i2, i3⟩ := got
      have hnp : ¬ (A i = p ∨ B i = p) := fun w => i2 (hone i i1 w)
      refine ⟨?_, ?_, h1, Or.inl ⟨h1, i, i1, i3⟩⟩
      · intro e; subst e; apply hnp; rcases i3 with ⟨q, _⟩ | ⟨_, q⟩
        · exact Or.inl q
        · exact Or.inr q
      · intro e; subst e; apply hnp; rcases i3 with ⟨_, q⟩ | ⟨q, _⟩
        · exact Or.inr q
        · exact Or.inl q
    · rintro ⟨hup, hvp, huv, ⟨_, j, hj, h2⟩ | ⟨⟨_, j, hj, h2⟩, ⟨_, i, hi, h3⟩⟩⟩
      · have hjk : j ≠ k := by
          intro e; subst e
          rcases hat with q | q <;> rcases h2 with ⟨r1, r2⟩ | ⟨r1, r2⟩
          · exact hup (r1.symm.trans q)
          · exact hvp (r1.symm.trans q)
          · exact hvp (r2.symm.trans q)
          · exact hup (r2.symm.trans q)
        refine ⟨huv, ?_⟩
        by_cases e : j = n - 1
        · refine ⟨k, by omega, ?_⟩
          rw [upN_s, upN_s, ← e]; exact h2
        · refine ⟨j, by omega, ?_⟩
          rw [upN_n hjk, upN_n hjk]; exact h2
      · exfalso
        have e1 : j = k := hone j hj (by rcases h2 with ⟨_, q⟩ | ⟨q, _⟩; exact Or.inr q; exact Or.inl q)
        have e2 : i = k := hone i hi (by rcases h3 with ⟨q, _⟩ | ⟨_, q⟩; exact Or.inl q; exact Or.inr q)
        subst e1; subst e2
        rcases h2 with ⟨r1, r2⟩ | ⟨r1, r2⟩ <;> rcases h3 with ⟨s1, s2⟩ | ⟨s1, s2⟩
        · exact hup (r1.symm.trans s1)
        · exact huv (r1.symm.trans s1)
        · exact huv (r2.symm.trans s2)
        · exact hup (r2.symm.trans s2)
  cases q1 : jL (upN A k (A (n - 1))) (upN B k (B (n - 1))) (n - 1) u v <;> cases q2 : jE p (jL A B n) u v <;> simp_all
/-- two pieces at p: the one goes on to where the other led, that goes -/
theorem jE_two {A B A1 B1 : Nat → Nat} {n p k1 k2 c1 c2 : Nat} (hk1 : k1 < n) (hk2 : k2 < n) (hne : k1 ≠ k2) (h1 : (A k1 = p ∧ B k1 = c1) ∨ (A k1 = c1 ∧ B k1 = p)) (h2 : (A k2 = p ∧ B k2 = c2) ∨ (A k2 = c2 ∧ B k2 = p)) (n1 : c1 ≠ p) (n2 : c2 ≠ p)
    (hone : ∀ j, j < n → (A j = p ∨ B j = p) → j = k1 ∨ j = k2) (hA1 : (A1 k1 = c1 ∧ B1 k1 = c2) ∨ (A1 k1 = c2 ∧ B1 k1 = c1)) (hoth : ∀ j, j ≠ k1 → A1 j = A j ∧ B1 j = B j) :
    jL (upN A1 k2 (A1 (n - 1))) (upN B1 k2 (B1 (n - 1))) (n - 1) = jE p (jL A B n) := by
  funext u v
  have hlt : n - 1 < n := by omega
  have other : ∀ j, j < n → j ≠ k2 → ((A1 j = u ∧ B1 j = v) ∨ (A1 j = v ∧ B1 j = u)) → ∃ j', j' < n - 1 ∧ ((upN A1 k2 (A1 (n - 1)) j' = u ∧ upN B1 k2 (B1 (n - 1)) j' = v) ∨ (upN A1 k2 (A1 (n - 1)) j' = v ∧ upN B1 k2 (B1 (n - 1)) j' = u)) := by
    intro j hj hjk h
    by_cases e : j = n - 1
    · refine ⟨k2, by omega, ?_⟩
      rw [upN_s, upN_s, ← e]; exact h
    · refine ⟨j, by omega, ?_⟩
      rw [upN_n hjk, upN_n hjk]; exact h
  have key : jL (upN A1 k2 (A1 (n - 1))) (upN B1 k2 (B1 (n - 1))) (n - 1) u v = true ↔ jE p (jL A B n) u v = true := by
    simp only [jE, Bool.and_eq_true, Bool.or_eq_true, Bool.not_eq_true', beq_eq_false_iff_ne]
    rw [jL_iff, jL_iff, jL_iff, jL_iff]
    constructor
    · rintro ⟨huv, j, hj, h3⟩
      have got : ∃ i, i < n ∧ i ≠ k2 ∧ ((A1 i = u ∧ B1 i = v) ∨ (A1 i = v ∧ B1 i = u)) := by
        by_cases e : j = k2
        · subst e
          rw [upN_s, upN_s] at h3
          exact ⟨n - 1, hlt, by omega, h3⟩
        · rw [upN_n e, upN_n e] at h3
          exact ⟨j, by omega, e, h3⟩
      obtain ⟨i, i1, i2, i3⟩ := got
      by_cases ei : i = k1
      · subst ei
        -- u and v are c1 and c2
        have hcc : (u = c1 ∧ v = c2) ∨ (u = c2 ∧ v = c1) := by
          rcases hA1 with ⟨q1, q2⟩ | ⟨q1, q2⟩ <;> rcases i3 with ⟨r1, r2⟩ | ⟨r1, r2⟩
          · exact Or.inl ⟨r1.symm.trans q1, r2.symm.trans q2⟩
          · exact Or.inr ⟨r2.symm.trans q2, r1.symm.trans q1⟩
          · exact Or.inr ⟨r1.symm.trans q1, r2.symm.trans q2⟩
          · exact Or.inl ⟨r2.symm.trans q2, r1.symm.trans q1⟩
        rcases hcc with ⟨w1, w2⟩ | ⟨w1, w2⟩
        · subst w1; subst w2
          exact ⟨n1, n2, huv, Or.inr ⟨⟨n1, i, hk1, h1.symm⟩, ⟨Ne.symm n2, k2, hk2, h2⟩⟩⟩
        · subst w1; subst w2
          exact ⟨n2, n1, huv, Or.inr ⟨⟨n2, k2, hk2, h2.symm⟩, ⟨Ne.symm n1, i, hk1, h1⟩⟩⟩
      · obtain ⟨o1, o2⟩ := hoth i ei
        rw [o1, o2] at i3
        have hnp : ¬ (A i = p ∨ B i = p) := fun w => by rcases hone i i1 w with q | q; exact ei q; exact i2 q
        refine ⟨?_, ?_, huv, Or.inl ⟨huv, i, i1, i3⟩⟩
        · intro e; subst e; apply hnp; rcases i3 with ⟨q, _⟩ | ⟨_, q⟩
          · exact Or.inl q
          · exact Or.inr q
        · intro e; subst e; apply hnp; rcases i3 with ⟨_, q⟩ | ⟨q, _⟩
          · exact Or.inr q
          · exact Or.inl q
    · rintro ⟨hup, hvp, huv, ⟨_, j, hj, h3⟩ | ⟨⟨_, j, hj, h3⟩, ⟨_, i, hi, h4⟩⟩⟩
      · have hjp : ¬ (A j = p ∨ B j = p) := by
          rintro (q | q) <;> rcases h3 with ⟨r1, r2⟩ | ⟨r1, r2⟩
          · exact hup (r1.symm.trans q)
          · exact hvp (r1.symm.trans q)
          · exact hvp (r2.symm.trans q)
          · exact hup (r2.symm.trans q)
        have hj1 : j ≠ k1 := by intro e; subst e; apply hjp; rcases h1 with ⟨q, _⟩ | ⟨_, q⟩; exact Or.inl q; exact Or.inr q
        have hj2 : j ≠ k2 := by intro e; subst e; apply hjp; rcases h2 with ⟨q, _⟩ | ⟨_, q⟩; exact Or.inl q; exact Or.inr q
        obtain ⟨o1, o2⟩ := hoth j hj1
        exact ⟨huv, other j hj hj2 (by rw [o1, o2]; exact h3)⟩
      · have atj := hone j hj (by rcases h3 with ⟨_, q⟩ | ⟨q, _⟩; exact Or.inr q; exact Or.inl q)
        have ati := hone i hi (by rcases h4 with ⟨q, _⟩ | ⟨_, q⟩; exact Or.inl q; exact Or.inr q)
        have uj : ∀ c k, ((A k = p ∧ B k = c) ∨ (A k = c ∧ B k = p)) → j = k → c ≠ p → u = c := by
          intro c k hk e hc
          subst e
          rcases hk with ⟨q1, q2⟩ | ⟨q1, q2⟩ <;> rcases h3 with ⟨r1, r2⟩ | ⟨r1, r2⟩
          · exact absurd (r1.symm.trans q1) hup
          · exact r2.symm.trans q2
          · exact r1.symm.trans q1
          · exact absurd (r2.symm.trans q2) hup
        have vi : ∀ c k, ((A k = p ∧ B k = c) ∨ (A k = c ∧ B k = p)) → i = k → c ≠ p → v = c := by
          intro c k hk e hc
          subst e
          rcases hk with ⟨q1, q2⟩ | ⟨q1, q2⟩ <;> rcases h4 with ⟨r1, r2⟩ | ⟨r1, r2⟩
          · exact r2.symm.trans q2
          · exact absurd (r1.symm.trans q1) hvp
          · exact absurd (r2.symm.trans q2) hvp
          · exact r1.symm.trans q1
        refine ⟨huv, other k1 hk1 hne ?_⟩
        rcases atj with e1 | e1 <;> rcases ati with e2 | e2
        · exact absurd ((uj c1 k1 h1 e1 n1).trans (vi c1 k1 h1 e2 n1).symm) huv
        · have a := uj c1 k1 h1 e1 n1
          have b := vi c2 k2 h2 e2 n2
          rw [a, b]; exact hA1
        · have a := uj c2 k2 h2 e1 n2
          have b := vi c1 k1 h1 e2 n1
          rw [a, b]; exact hA1.symm
        · exact absurd ((uj c2 k2 h2 e1 n2).trans (vi c2 k2 h2 e2 n2).symm) huv
  cases q1 : jL (upN A1 k2 (A1 (n - 1))) (upN B1 k2 (B1 (n - 1))) (n - 1) u v <;> cases q2 : jE p (jL A B n) u v <;> simp_all
