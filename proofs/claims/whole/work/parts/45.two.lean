/-! two ways without a common line -/
/-- what is left to go along: used 1: ahead, 2: back -/
def rE (A B bo : Nat → Nat) (op : Nat) (us : Nat → Nat) (u v : Nat) : Prop :=
  ∃ k, op.testBit k = true ∧ ((us k ≠ 1 ∧ A k = u ∧ B k = v) ∨ ((us k = 1 ∨ (us k = 0 ∧ bo k ≠ 0)) ∧ B k = u ∧ A k = v))
/-- how a line crosses the border of a set of places -/
def crs (A B us : Nat → Nat) (X : Nat → Bool) (k : Nat) : Int :=
  if us k = 1 then (b2n (X (A k)) : Int) - b2n (X (B k)) else if us k = 2 then (b2n (X (B k)) : Int) - b2n (X (A k)) else 0
/-- the lines used are one way from a to b: it crosses each border once more than back -/
def flow (A B bo : Nat → Nat) (op K : Nat) (us : Nat → Nat) (a b : Nat) : Prop :=
  (∀ k, k < K → us k ≤ 2) ∧ (∀ k, k < K → us k ≠ 0 → op.testBit k = true) ∧ (∀ k, k < K → us k = 2 → bo k ≠ 0) ∧ ∀ X : Nat → Bool, fb_si (crs A B us X) K = (b2n (X a) : Int) - b2n (X b)
/-- no line alone stops it -/
def noCut (A B bo : Nat → Nat) (op a b : Nat) : Prop := ∀ i, op.testBit i = true → rch (gE A B bo (op ^^^ 2 ^ i)) a b
theorem xor_bit {op i : Nat} (h : op.testBit i = true) (k : Nat) : (op ^^^ 2 ^ i).testBit k = true ↔ op.testBit k = true ∧ k ≠ i := by
  rw [Nat.testBit_xor, Nat.testBit_two_pow]
  by_cases e : i = k
  · subst e; simp [h]
  · simp [e, Ne.symm e]
section TWO
variable {A B bo : Nat → Nat} {op K : Nat} {us : Nat → Nat} {a b : Nat}
theorem si_one {f : Nat → Int} : ∀ {n i : Nat}, i < n → (∀ k, k < n → k ≠ i → f k ≤ 0) → f i ≤ 1 → fb_si f n = 1 → f i = 1 ∧ ∀ k, k < n → k ≠ i → f k = 0 := by
  intro n
  have neg : ∀ (n : Nat) (f : Nat → Int), (∀ k, k < n → f k ≤ 0) → fb_si f n ≤ 0 ∧ (fb_si f n = 0 → ∀ k, k < n → f k = 0) := by
    intro n f
    induction n with
    | zero => intro _; exact ⟨Int.le_refl 0, fun _ k hk => absurd hk (Nat.not_lt_zero k)⟩
    | succ n ih =>
      intro h
      obtain ⟨i1, i2⟩ := ih (fun k hk => h k (by omega))
      have hn := h n (by omega)
      rw [fb_si_succ]
      refine ⟨by omega, fun e k hk => ?_⟩
      by_cases q : k = n
      · subst q; omega
      · exact i2 (by omega) k (by omega)
  intro i hi h1 h2 h3
  have e := fb_si_upd f 0 hi
  obtain ⟨n1, n2⟩ := neg n (fun k => if k = i then 0 else f k) (by
    intro k hk
    by_cases q : k = i
    · simp [q]
    · simp only [if_neg q]; exact h1 k hk q)
  have hfi : f i = 1 := by omega
  refine ⟨hfi, fun k hk q => ?_⟩
  have := n2 (by omega) k hk
  simp only [if_neg q] at this
  exact this
theorem si_pos {f : Nat → Int} : ∀ {n : Nat}, (∀ k, k < n → 0 ≤ f k) → fb_si f n = 1 → ∃ i, i < n ∧ f i = 1 ∧ ∀ k, k < n → k ≠ i → f k = 0 := by
  intro n
  have pos : ∀ (n : Nat), (∀ k, k < n → 0 ≤ f k) → 0 ≤ fb_si f n ∧ (fb_si f n = 0 → ∀ k, k < n → f k = 0) := by
    intro n
    induction n with
    | zero => intro _; exact ⟨Int.le_refl 0, fun _ k hk => absurd hk (Nat.not_lt_zero k)⟩
    | succ n ih =>
      intro h
      obtain ⟨i1, i2⟩ := ih (fun k hk => h k (by omega))
      have hn := h n (by omega)
      rw [fb_si_succ]
      refine ⟨by omega, fun e k hk => ?_⟩
      by_cases q : k = n
      · subst q; omega
      · exact i2 (by omega) k (by omega)
  induction n with
  | zero => intro _ h; simp [fb_si] at h
  | succ n ih =>
    intro h e
    rw [fb_si_succ] at e
    obtain ⟨p1, p2⟩ := pos n (fun k hk => h k (by omega))
    have hn := h n (by omega)
    by_cases q : f n = 0
    · obtain ⟨i, i1, i2, i3⟩ := ih (fun k hk => h k (by omega)) (by omega)
      refine ⟨i, by omega, i2, fun k hk hki => ?_⟩
      by_cases z : k = n
      · subst z; exact q
      · exact i3 k (by omega) hki
    · refine ⟨n, by omega, by omega, fun k hk hki => ?_⟩
      exact p2 (by omega) k (by omega)
theorem crs_bound (X : Nat → Bool) (k : Nat) : crs A B us X k ≤ 1 := by
  unfold crs
  cases X (A k) <;> cases X (B k) <;> simp [b2n] <;> split <;> (try split) <;> omega
theorem two_enough (hF : flow A B bo op K us a b) (hK : op < 2 ^ K) (hr : rch (rE A B bo op us) a b) : noCut A B bo op a b := by
  intro i hi
  apply Classical.byContradiction
  intro hno
  obtain ⟨f1, f2, f3, f4⟩ := hF
  have dec : ∀ p : Prop, ∃ x : Bool, x = true ↔ p := fun p => by
    rcases Classical.em p with h | h
    · exact ⟨true, by simp [h]⟩
    · exact ⟨false, by simp [h]⟩
  obtain ⟨X, hX⟩ : ∃ X : Nat → Bool, ∀ v, X v = true ↔ rch (gE A B bo (op ^^^ 2 ^ i)) a v :=
    ⟨fun v => Classical.choose (dec (rch (gE A B bo (op ^^^ 2 ^ i)) a v)), fun v => Classical.choose_spec (dec (rch (gE A B bo (op ^^^ 2 ^ i)) a v))⟩
  have ha : X a = true := (hX a).mpr (rch_refl _ a)
  have hb : X b = false := by
    cases q : X b with
    | false => rfl
    | true => exact absurd ((hX b).mp q) hno
  have hsum := f4 X
  rw [ha, hb] at hsum
  have hcl : ∀ k, op.testBit k = true → k ≠ i → (X (A k) = true → X (B k) = true) ∧ (bo k ≠ 0 → X (B k) = true → X (A k) = true) := by
    intro k hk hki
    refine ⟨fun h => ?_, fun h0 h => ?_⟩
    · exact (hX _).mpr (rch_step ((hX _).mp h) ⟨k, (xor_bit hi k).mpr ⟨hk, hki⟩, Or.inl ⟨rfl, rfl⟩⟩)
    · exact (hX _).mpr (rch_step ((hX _).mp h) ⟨k, (xor_bit hi k).mpr ⟨hk, hki⟩, Or.inr ⟨h0, rfl, rfl⟩⟩)
  have hone := si_one (f := crs A B us X) (tb_in hK hi) (by
    intro k hk hki
    have g0 := f1 k hk
    unfold crs
    by_cases q1 : us k = 1
    · rw [if_pos q1]
      obtain ⟨c1, _⟩ := hcl k (f2 k hk (by omega)) hki
      revert c1
      cases X (A k) <;> cases X (B k) <;> simp [b2n]
    · rw [if_neg q1]
      by_cases q2 : us k = 2
      · rw [if_pos q2]
        obtain ⟨_, c2⟩ := hcl k (f2 k hk (by omega)) hki
        have c2 := c2 (f3 k hk q2)
        revert c2
        cases X (A k) <;> cases X (B k) <;> simp [b2n]
      · rw [if_neg q2]; exact Int.le_refl 0) (crs_bound X i) (by rw [hsum]; rfl)
  obtain ⟨o1, o2⟩ := hone
  have hfin : X b = true := by
    refine hr (fun v => X v = true) ha ?_
    intro u v ⟨k, hk, q⟩ hu
    by_cases hki : k = i
    · subst hki
      exfalso
      unfold crs at o1
      rcases q with ⟨q1, q2, q3⟩ | ⟨q1, q2, q3⟩
      · rw [if_neg q1] at o1
        by_cases z : us k = 2
        · rw [if_pos z] at o1
          subst q2
          rw [hu] at o1
          revert o1
          cases X (B k) <;> simp [b2n]
        · rw [if_neg z] at o1; simp at o1
      · subst q2
        rcases q1 with q1 | ⟨q1, _⟩
        · rw [if_pos q1, hu] at o1
          revert o1
          cases X (A k) <;> simp [b2n]
        · rw [if_neg (by omega), if_neg (by omega)] at o1; simp at o1
    · obtain ⟨c1, c2⟩ := hcl k hk hki
      have oz := o2 k (tb_in hK hk) hki
      unfold crs at oz
      rcases q with ⟨q1, q2, q3⟩ | ⟨q1, q2, q3⟩
      · subst q2; subst q3; exact c1 hu
      · subst q2; subst q3
        rcases q1 with q1 | ⟨_, q1⟩
        · rw [if_pos q1, hu] at oz
          revert oz
          cases X (A k) <;> simp [b2n]
        · exact c2 q1 hu
  rw [hb] at hfin; cases hfin
theorem two_needed (hF : flow A B bo op K us a b) (hK : op < 2 ^ K) (hr : ¬ rch (rE A B bo op us) a b) : ¬ noCut A B bo op a b := by
  intro hno
  obtain ⟨f1, f2, f3, f4⟩ := hF
  have dec : ∀ p : Prop, ∃ x : Bool, x = true ↔ p := fun p => by
    rcases Classical.em p with h | h
    · exact ⟨true, by simp [h]⟩
    · exact ⟨false, by simp [h]⟩
  obtain ⟨X, hX⟩ : ∃ X : Nat → Bool, ∀ v, X v = true ↔ rch (rE A B bo op us) a v :=
    ⟨fun v => Classical.choose (dec (rch (rE A B bo op us) a v)), fun v => Classical.choose_spec (dec (rch (rE A B bo op us) a v))⟩
  have ha : X a = true := (hX a).mpr (rch_refl _ a)
  have hb : X b = false := by
    cases q : X b with
    | false => rfl
    | true => exact absurd ((hX b).mp q) hr
  have hsum := f4 X
  rw [ha, hb] at hsum
  have hcl : ∀ k, op.testBit k = true → (us k ≠ 1 → X (A k) = true → X (B k) = true) ∧ ((us k = 1 ∨ (us k = 0 ∧ bo k ≠ 0)) → X (B k) = true → X (A k) = true) := by
    intro k hk
    refine ⟨fun h0 h => ?_, fun h0 h => ?_⟩
    · exact (hX _).mpr (rch_step ((hX _).mp h) ⟨k, hk, Or.inl ⟨h0, rfl, rfl⟩⟩)
    · exact (hX _).mpr (rch_step ((hX _).mp h) ⟨k, hk, Or.inr ⟨h0, rfl, rfl⟩⟩)
  obtain ⟨i, i1, i2, i3⟩ := si_pos (f := crs A B us X) (n := K) (by
    intro k hk
    have g0 := f1 k hk
    unfold crs
    by_cases q1 : us k = 1
    · rw [if_pos q1]
      obtain ⟨_, c2⟩ := hcl k (f2 k hk (by omega))
      have c2 := c2 (Or.inl q1)
      revert c2
      cases X (A k) <;> cases X (B k) <;> simp [b2n]
    · rw [if_neg q1]
      by_cases q2 : us k = 2
      · rw [if_pos q2]
        obtain ⟨c1, _⟩ := hcl k (f2 k hk (by omega))
        have c1 := c1 q1
        revert c1
        cases X (A k) <;> cases X (B k) <;> simp [b2n]
      · rw [if_neg q2]; exact Int.le_refl 0) (by rw [hsum]; rfl)
  have hui : us i ≠ 0 := by
    intro z
    unfold crs at i2
    rw [if_neg (by omega), if_neg (by omega)] at i2
    simp at i2
  have hoi := f2 i i1 hui
  have hfin : X b = true := by
    refine hno i hoi (fun v => X v = true) ha ?_
    intro u v ⟨k, hk0, q⟩ hu
    obtain ⟨hk, hki⟩ := (xor_bit hoi k).mp hk0
    obtain ⟨c1, c2⟩ := hcl k hk
    have oz := i3 k (tb_in hK hk) hki
    have g0 := f1 k (tb_in hK hk)
    unfold crs at oz
    rcases q with ⟨q2, q3⟩ | ⟨q1, q2, q3⟩
    · subst q2; subst q3
      by_cases z : us k = 1
      · rw [if_pos z, hu] at oz
        revert oz
        cases X (B k) <;> simp [b2n]
      · exact c1 z hu
    · subst q2; subst q3
      by_cases z : us k = 1
      · exact c2 (Or.inl z) hu
      · by_cases z0 : us k = 0
        · exact c2 (Or.inr ⟨z0, q1⟩) hu
        · rw [if_neg z, if_pos (by omega), hu] at oz
          revert oz
          cases X (A k) <;> simp [b2n]
  rw [hb] at hfin; cases hfin
theorem flow_0 : flow A B bo op K (fun _ => 0) a a := by
  refine ⟨fun _ _ => Nat.zero_le 2, fun _ _ h => absurd rfl h, fun _ _ h => absurd (show (0 : Nat) = 2 from h) (by decide), fun X => ?_⟩
  have : fb_si (crs A B (fun _ => 0) X) K = fb_si (fun _ => 0) K := fb_si_cong (fun k _ => by simp [crs])
  rw [this]
  have h := fb_si_mul 0 (fun _ => 0) K
  simp only [Int.zero_mul] at h
  rw [h]; omega
theorem rE_0 {u v : Nat} : rE A B bo op (fun _ => 0) u v ↔ gE A B bo op u v := by
  constructor
  · rintro ⟨k, hk, ⟨_, q⟩ | ⟨q1, q⟩⟩
    · exact ⟨k, hk, Or.inl q⟩
    · rcases q1 with q1 | ⟨_, q1⟩
      · cases q1
      · exact ⟨k, hk, Or.inr ⟨q1, q⟩⟩
  · rintro ⟨k, hk, q | ⟨q1, q⟩⟩
    · exact ⟨k, hk, Or.inl ⟨by simp, q⟩⟩
    · exact ⟨k, hk, Or.inr ⟨Or.inr ⟨rfl, q1⟩, q⟩⟩
/-- one step of the way back from b: the line k leads from u to p -/
theorem flow_step {p u k : Nat} (hF : flow A B bo op K us p b) (hk : k < K) (hop : op.testBit k = true) (hz : us k = 0) {w : Nat} (hw : (w = 1 ∧ A k = u ∧ B k = p) ∨ (w = 2 ∧ bo k ≠ 0 ∧ B k = u ∧ A k = p)) : flow A B bo op K (upN us k w) u b := by
  obtain ⟨f1, f2, f3, f4⟩ := hF
  refine ⟨fun j hj => ?_, fun j hj h => ?_, fun j hj h => ?_, fun X => ?_⟩
  · by_cases e : j = k
    · subst e; rw [upN_s]; rcases hw with ⟨q, _⟩ | ⟨q, _⟩ <;> omega
    · rw [upN_n e]; exact f1 j hj
  · by_cases e : j = k
    · subst e; exact hop
    · rw [upN_n e] at h; exact f2 j hj h
  · by_cases e : j = k
    · subst e; rw [upN_s] at h
      rcases hw with ⟨q, _⟩ | ⟨_, q, _⟩
      · omega
      · exact q
    · rw [upN_n e] at h; exact f3 j hj h
  · have e1 := fb_si_upd (crs A B us X) (crs A B (upN us k w) X k) hk
    have e2 : fb_si (crs A B (upN us k w) X) K = fb_si (fun j => if j = k then crs A B (upN us k w) X k else crs A B us X j) K := by
      apply fb_si_cong
      intro j _
      by_cases e : j = k
      · subst e; rw [if_pos rfl]
      · rw [if_neg e]; unfold crs; rw [upN_n e]
    rw [e2, e1, f4 X]
    have c0 : crs A B us X k = 0 := by unfold crs; rw [if_neg (by omega), if_neg (by omega)]
    have c1 : crs A B (upN us k w) X k = (b2n (X u) : Int) - b2n (X p) := by
      unfold crs
      rw [upN_s]
      rcases hw with ⟨q0, q1, q2⟩ | ⟨q0, _, q1, q2⟩
      · rw [if_pos q0, q1, q2]
      · rw [if_neg (by omega), if_pos q0, q1, q2]
    rw [c0, c1]; omega
end TWO
