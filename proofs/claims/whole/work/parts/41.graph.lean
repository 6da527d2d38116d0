/-! masks -/
def mk (f : Nat → Bool) : Nat → Nat
  | 0 => 0
  | n + 1 => mk f n ||| (if f n then 2 ^ n else 0)
theorem mk_bit (f : Nat → Bool) (n i : Nat) : (mk f n).testBit i = (decide (i < n) && f i) := by
  induction n with
  | zero => simp [mk]
  | succ n ih =>
    rw [mk, Nat.testBit_or, ih]
    by_cases hn : f n = true
    · rw [if_pos hn, Nat.testBit_two_pow]
      by_cases h : n = i
      · subst h; simp [hn]
      · have h1 : decide (i < n + 1) = decide (i < n) := by apply decide_eq_decide.mpr; omega
        rw [h1]; simp [h]
    · rw [if_neg hn, Nat.zero_testBit]
      by_cases h : n = i
      · subst h; simp [hn]
      · have h1 : decide (i < n + 1) = decide (i < n) := by apply decide_eq_decide.mpr; omega
        rw [h1]; simp
theorem mk_lt (f : Nat → Bool) (n : Nat) : mk f n < 2 ^ n := by
  apply Nat.lt_pow_two_of_testBit
  intro j hj
  rw [mk_bit]; simp; omega
theorem tb_lt {m n i : Nat} (h : m < 2 ^ n) (hi : n ≤ i) : m.testBit i = false := Nat.testBit_lt_two_pow (Nat.lt_of_lt_of_le h (Nat.pow_le_pow_right (by decide) hi))
theorem tb_in {m n i : Nat} (h : m < 2 ^ n) (hb : m.testBit i = true) : i < n := by
  rcases Nat.lt_or_ge i n with q | q
  · exact q
  · rw [tb_lt h q] at hb; cases hb
theorem msk_ext {a b n : Nat} (ha : a < 2 ^ n) (hb : b < 2 ^ n) (h : ∀ i, i < n → a.testBit i = b.testBit i) : a = b := by
  apply Nat.eq_of_testBit_eq
  intro i
  rcases Nat.lt_or_ge i n with q | q
  · exact h i q
  · rw [tb_lt ha q, tb_lt hb q]
theorem mk_eq {m n : Nat} {f : Nat → Bool} (hm : m < 2 ^ n) (h : ∀ i, i < n → m.testBit i = f i) : m = mk f n := by
  apply msk_ext hm (mk_lt f n)
  intro i hi
  rw [mk_bit, h i hi]; simp [hi]
theorem mk_congr {f g : Nat → Bool} {n : Nat} (h : ∀ i, i < n → f i = g i) : mk f n = mk g n := by
  apply mk_eq (mk_lt f n)
  intro i hi
  rw [mk_bit, h i hi]; simp [hi]
theorem sub_le {a b : Nat} (h : ∀ i, a.testBit i = true → b.testBit i = true) : a ≤ b := by
  have : a ||| b = b := by
    apply Nat.eq_of_testBit_eq
    intro i
    rw [Nat.testBit_or]
    cases ha : a.testBit i with
    | false => simp
    | true => simp [h i ha]
  rw [← this]
  exact Nat.left_le_or
theorem all_bit (n i : Nat) : (2 ^ n - 1).testBit i = decide (i < n) := Nat.testBit_two_pow_sub_one n i
theorem eq_all {m n : Nat} (h : m < 2 ^ n) : m = 2 ^ n - 1 ↔ ∀ i, i < n → m.testBit i = true := by
  constructor
  · intro e i hi; rw [e, all_bit]; simp [hi]
  · intro e
    apply msk_ext h (by have := Nat.two_pow_pos n; omega)
    intro i hi
    rw [e i hi, all_bit]; simp [hi]
/-! led to -/
def gE (A B bo : Nat → Nat) (op u v : Nat) : Prop := ∃ k, op.testBit k = true ∧ ((A k = u ∧ B k = v) ∨ (bo k ≠ 0 ∧ B k = u ∧ A k = v))
def rch (E : Nat → Nat → Prop) (a p : Nat) : Prop := ∀ X : Nat → Prop, X a → (∀ u v, E u v → X u → X v) → X p
theorem rch_refl (E : Nat → Nat → Prop) (a : Nat) : rch E a a := fun _ h _ => h
theorem rch_step {E : Nat → Nat → Prop} {a u v : Nat} (h : rch E a u) (e : E u v) : rch E a v := fun X ha hc => hc u v e (h X ha hc)
theorem rch_trans {E : Nat → Nat → Prop} {a b c : Nat} (h : rch E a b) (h2 : rch E b c) : rch E a c := fun X ha hc => h2 X (h X ha hc) hc
theorem rch_mono {E E' : Nat → Nat → Prop} {a p : Nat} (hE : ∀ u v, E u v → E' u v) (h : rch E a p) : rch E' a p := fun X ha hc => h X ha (fun u v e => hc u v (hE u v e))
theorem rch_edge {E : Nat → Nat → Prop} {u v : Nat} (e : E u v) : rch E u v := rch_step (rch_refl E u) e
/-- the way back -/
theorem rch_rev {E : Nat → Nat → Prop} {a p : Nat} (h : rch E a p) : rch (fun u v => E v u) p a := by
  refine h (fun x => rch (fun u v => E v u) x a) (rch_refl _ a) ?_
  intro u v e hu
  exact rch_trans (rch_edge (E := fun u v => E v u) e) hu
theorem rch_last {E : Nat → Nat → Prop} {a p : Nat} (h : rch E a p) (hne : p ≠ a) : ∃ u, E u p := by
  have := h (fun x => x = a ∨ ∃ u, E u x) (Or.inl rfl) (fun u v e _ => Or.inr ⟨u, e⟩)
  rcases this with q | q
  · exact absurd q hne
  · exact q
theorem led_of {E : Nat → Nat → Prop} {a m : Nat} (ha : m.testBit a = true) (hc : ∀ u v, E u v → m.testBit u = true → m.testBit v = true) (hs : ∀ p, m.testBit p = true → rch E a p) (p : Nat) : m.testBit p = true ↔ rch E a p :=
  ⟨hs p, fun h => h (fun x => m.testBit x = true) ha hc⟩
theorem gE_mono {A B bo : Nat → Nat} {op op' : Nat} (h : ∀ k, op.testBit k = true → op'.testBit k = true) {u v : Nat} (e : gE A B bo op u v) : gE A B bo op' u v := by
  obtain ⟨k, h1, h2⟩ := e
  exact ⟨k, h k h1, h2⟩
theorem gE_congr {A B bo A' B' bo' : Nat → Nat} {op : Nat} (h : ∀ k, op.testBit k = true → A k = A' k ∧ B k = B' k ∧ bo k = bo' k) {u v : Nat} (e : gE A B bo op u v) : gE A' B' bo' op u v := by
  obtain ⟨k, h1, h2⟩ := e
  obtain ⟨q1, q2, q3⟩ := h k h1
  rw [q1, q2, q3] at h2
  exact ⟨k, h1, h2⟩
