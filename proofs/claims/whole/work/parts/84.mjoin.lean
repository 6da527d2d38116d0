/-! joined: the reference drops a piece -/
def mPc (S : wd_W) (n : Nat) (A B : Nat → Nat) : Prop := S.1 67 = nI n ∧ ∀ k, k < n → S.2.2.1 37 k = nI (A k) ∧ S.2.2.1 38 k = nI (B k)
theorem jL_drop {A B : Nat → Nat} {n k : Nat} (hk : k < n) (hd : A k = B k ∨ ∃ j, j < n ∧ j ≠ k ∧ ((A j = A k ∧ B j = B k) ∨ (A j = B k ∧ B j = A k))) : jL (upN A k (A (n - 1))) (upN B k (B (n - 1))) (n - 1) = jL A B n := by
  funext u v
  have hlt : n - 1 < n := by omega
  have key : jL (upN A k (A (n - 1))) (upN B k (B (n - 1))) (n - 1) u v = true ↔ jL A B n u v = true := by
    rw [jL_iff, jL_iff]
    constructor
    · rintro ⟨h1, j, hj, h2⟩
      by_cases e : j = k
      · subst e
        rw [upN_s, upN_s] at h2
        exact ⟨h1, n - 1, hlt, h2⟩
      · rw [upN_n e, upN_n e] at h2
        exact ⟨h1, j, by omega, h2⟩
    · rintro ⟨h1, j, hj, h2⟩
      have other : ∀ j, j < n → j ≠ k → ((A j = u ∧ B j = v) ∨ (A j = v ∧ B j = u)) → ∃ j', j' < n - 1 ∧ ((upN A k (A (n - 1)) j' = u ∧ upN B k (B (n - 1)) j' = v) ∨ (upN A k (A (n - 1)) j' = v ∧ upN B k (B (n - 1)) j' = u)) := by
        intro j hj hne h2
        by_cases e : j = n - 1
        · refine ⟨k, by omega, ?_⟩
          rw [upN_s, upN_s, ← e]; exact h2
        · refine ⟨j, by omega, ?_⟩
          rw [upN_n hne, upN_n hne]; exact h2
      refine ⟨h1, ?_⟩
      by_cases e : j = k
      · subst e
        rcases hd with hd | ⟨i, i1, i2, i3⟩
        · exfalso
          rcases h2 with ⟨q1, q2⟩ | ⟨q1, q2⟩ <;> omega
        · refine other i i1 i2 ?_
          rcases i3 with ⟨r1, r2⟩ | ⟨r1, r2⟩ <;> rcases h2 with ⟨q1, q2⟩ | ⟨q1, q2⟩
          · exact Or.inl ⟨by omega, by omega⟩
          · exact Or.inr ⟨by omega, by omega⟩
          · exact Or.inr ⟨by omega, by omega⟩
          · exact Or.inl ⟨by omega, by omega⟩
      · exact other j hj e h2
  cases q1 : jL (upN A k (A (n - 1))) (upN B k (B (n - 1))) (n - 1) u v <;> cases q2 : jL A B n u v <;> simp_all
theorem m_drops {S : wd_W} {n k : Nat} {A B : Nat → Nat} (hn : n ≤ 12) (h : mPc S n A B) (hk : k < n) :
    Ok (f_X12_drops S (nI k)) (fun o => o.1 = nI (n - 1) ∧ ∀ j, j < n - 1 → o.2.1 j = nI (upN A k (A (n - 1)) j) ∧ o.2.2 j = nI (upN B k (B (n - 1)) j)) := by
  obtain ⟨h1, h2⟩ := h
  obtain ⟨e1, e2⟩ := h2 (n - 1) (by omega)
  unfold f_X12_drops
  rw [h1, show nI n - (1 : Int32) = nI (n - 1) from by rw [li_1, oI_sub1 (by omega)], lz_eq, gd_in (by omega) (by omega), lz_eq, gd_in (by omega) (by omega), lz_eq, gd_in (by omega) (by omega), lz_eq, gd_in (by omega) (by omega), lz_eq, nI_clamp (by omega), nI_clamp (by omega), e1, e2]
  refine ok_some ⟨rfl, fun j hj => ?_⟩
  obtain ⟨d1, d2⟩ := h2 j (by omega)
  dsimp only
  by_cases e : j = k
  · subst e; rw [pk_us, pk_us, upN_s, upN_s]; exact ⟨rfl, rfl⟩
  · rw [pk_un e, pk_un e, upN_n e, upN_n e]; exact ⟨d1, d2⟩
theorem m_isAt {S : wd_W} {n k p : Nat} {A B : Nat → Nat} (hn : n ≤ 12) (h : mPc S n A B) (hk : k < n) (hA : ∀ k, k < n → A k < 10 ∧ B k < 10) (hp : p < 10) : f_X12_isAt S (nI k) (nI p) = some (nI (b2n (A k == p || B k == p))) := by
  obtain ⟨h1, h2⟩ := h
  obtain ⟨e1, e2⟩ := h2 k hk
  obtain ⟨a1, a2⟩ := hA k hk
  unfold f_X12_isAt
  rw [gd_in (by omega) (by omega), nI_clamp (by omega), e1, gd_in (by omega) (by omega), e2]
  by_cases c1 : A k = p
  · rw [if_pos (by rw [c1])]
    have : (A k == p || B k == p) = true := by simp [c1]
    rw [this]; rfl
  · rw [if_neg (by rw [nI_eq (by omega) (by omega)]; exact c1)]
    by_cases c2 : B k = p
    · rw [if_pos (by rw [c2])]
      have : (A k == p || B k == p) = true := by simp [c2]
      rw [this]; rfl
    · rw [if_neg (by rw [nI_eq (by omega) (by omega)]; exact c2)]
      have : (A k == p || B k == p) = false := by simp [c1, c2]
      rw [this]; rfl
/-- the piece i is one too many because of j -/
def dupB (A B : Nat → Nat) (i j : Nat) : Bool := (A j == A i || B j == A i) && ((A j == B i || B j == B i) && A j != B j)
theorem m_dropsOne {S : wd_W} {n : Nat} {A B : Nat → Nat} (hn : n ≤ 12) (h : mPc S n A B) (hA : ∀ k, k < n → A k < 10 ∧ B k < 10) :
    Ok (f_X12_dropsOne S) (fun o => (o.1 = nI 0 ∧ jSim A B n ∧ o.2.1 = nI n ∧ ∀ j, j < n → o.2.2.1 j = nI (A j) ∧ o.2.2.2 j = nI (B j)) ∨
      (o.1 = nI 1 ∧ 0 < n ∧ ∃ A' B' : Nat → Nat, o.2.1 = nI (n - 1) ∧ (∀ j, j < n - 1 → o.2.2.1 j = nI (A' j) ∧ o.2.2.2 j = nI (B' j)) ∧ jL A' B' (n - 1) = jL A B n ∧ ∀ j, j < n - 1 → ∃ i, i < n ∧ A' j = A i ∧ B' j = B i)) := by
  have h1 := h.1
  have h2 := h.2
  -- the inner loop
  have hin : ∀ (i : Nat), i < n → ∀ (K : Int32 → Option o_X12_dropsOne) (g : Bool), it2 (f_X12_dropsOne_L33 S (nI i) K) fuel (nI (b2n g)) (nI 0) = K (nI (b2n (g || !alls (fun j => !dupB A B i j) i))) := by
    intro i hi K g
    obtain ⟨d1, d2⟩ := h2 i hi
    obtain ⟨a1, a2⟩ := hA i hi
    refine Eq.trans ?_ (eq_for0 (W := fun m j => it2 (f_X12_dropsOne_L33 S (nI i) K) m (nI (b2n (g || !alls (fun j => !dupB A B i j) j))) (nI j)) (e := i) (by omega) ?_ ?_)
    · show it2 _ fuel (nI (b2n g)) (nI 0) = it2 _ fuel (nI (b2n (g || !true))) (nI 0)
      rw [show (g || !true) = g by cases g <;> rfl]
    · intro m
      show f_X12_dropsOne_L33 S _ K _ _ (nI i) = _
      unfold f_X12_dropsOne_L33
      rw [if_pos (nI_le (Nat.le_refl _) (by omega))]
    · intro m j hj
      show f_X12_dropsOne_L33 S _ K (it2 (f_X12_dropsOne_L33 S (nI i) K) m) _ (nI j) = it2 (f_X12_dropsOne_L33 S (nI i) K) m (nI (b2n (g || !(alls (fun j => !dupB A B i j) j && !dupB A B i j)))) (nI (j + 1))
      generalize it2 (f_X12_dropsOne_L33 S (nI i) K) m = r
      generalize alls (fun j => !dupB A B i j) j = al
      unfold f_X12_dropsOne_L33
      obtain ⟨b1, b2⟩ := h2 j (by omega)
      obtain ⟨c1, c2⟩ := hA j (by omega)
      rw [if_neg (nI_ge hj (by omega)), nI_1, lk_eq, lk_eq, gd_in (by omega) (by omega), nI_clamp (by omega), d1, bd_s (m_isAt (S := wd_o S [(67, (S.1 67))] [] [(37, (S.2.2.1 37)), (38, (S.2.2.1 38))] [] []) hn h (by omega) hA a1), lk_eq, gd_in (by omega) (by omega), d2, bd_s (m_isAt (S := wd_o S [(67, (S.1 67))] [] [(37, (S.2.2.1 37)), (38, (S.2.2.1 38))] [] []) hn h (by omega) hA a2), gd_in (by omega) (by omega), gd_in (by omega) (by omega), nI_clamp (by omega), b1, b2]
      unfold dupB
      have e : (nI (A j) = nI (B j)) ↔ A j = B j := nI_eq (by omega) (by omega)
      have z0 : nI (b2n false) = 0 := rfl
      have z1 : ¬ nI (b2n true) = 0 := n1_ne
      have zn : (0 : Int32) = nI (b2n false) := rfl
      have zo : (1 : Int32) = nI (b2n true) := rfl
      cases q1 : (g || !al) with
      | true =>
        rw [if_neg z1]
        have : (g || !(al && !((A j == A i || B j == A i) && ((A j == B i || B j == B i) && A j != B j)))) = true := by cases g <;> cases al <;> simp_all
        rw [this, zo]
      | false =>
        rw [if_pos z0]
        have hg : g = false := by cases g <;> simp_all
        have hal : al = true := by cases al <;> simp_all
        rw [hg, hal]
        cases q2 : (A j == A i || B j == A i) with
        | false => rw [if_pos z0, zn]; rfl
        | true =>
          rw [if_neg z1]
          cases q3 : (A j == B i || B j == B i) with
          | false => rw [if_pos z0, zn]; rfl
          | true =>
            rw [if_neg z1]
            by_cases q4 : A j = B j
            · rw [if_pos (e.mpr q4), zn]
              have : (A j != B j) = false := by simp [q4]
              rw [this]; rfl
            · rw [if_neg (fun w => q4 (e.mp w)), zo]
              have : (A j != B j) = true := by simp [q4]
              rw [this]; rfl
  unfold f_X12_dropsOne
  refine ok_lk ?_
  rw [li_0]
  refine ok_for0 (W := fun m i (_ : Unit) => it1 (f_X12_dropsOne_L2 S _) m (nI i)) (I := fun i _ => jSim A B i) (e := n) (s := ()) (by omega) (fun k hk => by omega) ?_ ?_
  · intro m _ hI
    show Ok (f_X12_dropsOne_L2 S _ _ (nI n)) _
    unfold f_X12_dropsOne_L2
    rw [h1, if_pos (nI_le (Nat.le_refl _) (by omega))]
    exact ok_some (Or.inl ⟨rfl, hI, rfl, h2⟩)
  · intro m i _ hi hI ih
    show Ok (f_X12_dropsOne_L2 S _ (it1 (f_X12_dropsOne_L2 S _) m) (nI i)) _
    generalize it1 (f_X12_dropsOne_L2 S _) m = r at ih
    unfold f_X12_dropsOne_L2
    obtain ⟨d1, d2⟩ := h2 i hi
    obtain ⟨a1, a2⟩ := hA i hi
    rw [h1, if_neg (nI_ge hi (by omega)), gd_in (by omega) (by omega), gd_in (by omega) (by omega), nI_clamp (by omega), d1, d2]
    refine ok_lk ?_
    have go : ∀ (g : Bool) (x8 : Int32), x8 = nI (b2n g) → (g = true ↔ A i = B i) → Ok (lk (fun x10 => if x10 = 0 then (r (nI i + (1 : Int32))) else (bd (f_X12_drops (wd_o S [(67, nI n)] [] [(37, (S.2.2.1 37)), (38, (S.2.2.1 38))] [] []) (nI i)) fun o3 => some ((1 : Int32), o3.1, o3.2.1, o3.2.2))) fun k97_11 => it2 (f_X12_dropsOne_L33 S (nI i) k97_11) fuel x8 (0 : Int32)) (fun o => (o.1 = nI 0 ∧ jSim A B n ∧ o.2.1 = nI n ∧ ∀ j, j < n → o.2.2.1 j = nI (A j) ∧ o.2.2.2 j = nI (B j)) ∨
      (o.1 = nI 1 ∧ 0 < n ∧ ∃ A' B' : Nat → Nat, o.2.1 = nI (n - 1) ∧ (∀ j, j < n - 1 → o.2.2.1 j = nI (A' j) ∧ o.2.2.2 j = nI (B' j)) ∧ jL A' B' (n - 1) = jL A B n ∧ ∀ j, j < n - 1 → ∃ i, i < n ∧ A' j = A i ∧ B' j = B i)) := by
      intro g x8 hx hg
      subst hx
      refine ok_lk ?_
      rw [li_0, hin i hi]
      refine ok_b (fun z => ?_) (fun z => ?_)
      · rw [nI_1]
        refine ih () (fun k hk => ?_)
        by_cases e : k = i
        · subst e
          have hgf : g = false := by cases g <;> simp_all
          have hne : A k ≠ B k := fun w => by have := hg.mpr w; rw [hgf] at this; cases this
          refine ⟨hne, ?_⟩
          have hall : alls (fun j => !dupB A B k j) k = true := by cases q : alls (fun j => !dupB A B k j) k <;> simp_all
          cases q : jL A B k (A k) (B k) with
          | false => rfl
          | true =>
            exfalso
            obtain ⟨_, j, hj, hh⟩ := jL_iff.mp q
            have hdj := alls_iff.mp hall j hj
            unfold dupB at hdj
            rcases hh with ⟨w1, w2⟩ | ⟨w1, w2⟩
            · simp [w1, w2, hne] at hdj
            · simp [w1, w2, Ne.symm hne] at hdj
        · exact hI k (by omega)
      · refine ok_bd (m_drops (S := wd_o S [(67, nI n)] [] [(37, (S.2.2.1 37)), (38, (S.2.2.1 38))] [] []) hn ⟨rfl, h2⟩ hi) ?_
        rintro ⟨o1, o2, o3⟩ ⟨w1, w2⟩
        dsimp only at w1 w2
        refine ok_some (Or.inr ⟨rfl, by omega, upN A i (A (n - 1)), upN B i (B (n - 1)), w1, w2, jL_drop hi ?_, fun j hj => ?_⟩)
        · cases hgt : g with
          | true => exact Or.inl (hg.mp hgt)
          | false =>
            right
            have hall : alls (fun j => !dupB A B i j) i = false := by
              rw [hgt] at z
              cases q : alls (fun j => !dupB A B i j) i <;> simp_all
            obtain ⟨j, hj, hd⟩ := alls_f.mp hall
            have hd : dupB A B i j = true := by simpa using hd
            have hne : A i ≠ B i := fun w => by have := hg.mpr w; rw [hgt] at this; cases this
            unfold dupB at hd
            simp only [Bool.and_eq_true, Bool.or_eq_true, beq_iff_eq, bne_iff_ne] at hd
            obtain ⟨u1, u2, u3⟩ := hd
            refine ⟨j, by omega, by omega, ?_⟩
            rcases u1 with u1 | u1 <;> rcases u2 with u2 | u2
            · exact absurd (by omega) hne
            · exact Or.inl ⟨u1, u2⟩
            · exact Or.inr ⟨u2, u1⟩
            · exact absurd (by omega) hne
        · by_cases e : j = i
          · subst e; exact ⟨n - 1, by omega, upN_s _ _ _, upN_s _ _ _⟩
          · exact ⟨j, by omega, upN_n e, upN_n e⟩
    by_cases c : A i = B i
    · rw [if_pos (by rw [c])]
      exact go true 1 rfl (by simp [c])
    · rw [if_neg (by rw [nI_eq (by omega) (by omega)]; exact c)]
      exact go false 0 rfl (by simp [c])
