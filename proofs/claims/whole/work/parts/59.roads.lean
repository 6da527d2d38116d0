/-! the developers' ways: gates and ends of lines, plainly -/
def rS (g t : Nat → Nat) (op : Nat) (k m : Nat) : Nat := if op.testBit k = true ∧ m &&& g k ≠ 0 then m ||| t k else m
def mE (g t : Nat → Nat) (op u v : Nat) : Prop := ∃ k, op.testBit k = true ∧ (g k).testBit u = true ∧ (t k).testBit v = true
theorem rS_infl (g t : Nat → Nat) (op : Nat) : infl (rS g t op) := by
  intro k m b hb
  unfold rS
  split
  · rw [Nat.testBit_or, hb]; rfl
  · exact hb
theorem rS_lt {g t : Nat → Nat} {op N : Nat} (ht : ∀ k, op.testBit k = true → t k < 2 ^ N) {k m : Nat} (hm : m < 2 ^ N) : rS g t op k m < 2 ^ N := by
  unfold rS
  split
  · rename_i h; exact Nat.or_lt_two_pow hm (ht k h.1)
  · exact hm
theorem and_ne0 {a b : Nat} : a &&& b ≠ 0 ↔ ∃ i, a.testBit i = true ∧ b.testBit i = true := by
  constructor
  · intro h
    apply Classical.byContradiction
    intro hno
    apply h
    apply Nat.eq_of_testBit_eq
    intro i
    rw [Nat.testBit_and, Nat.zero_testBit]
    cases ha : a.testBit i <;> cases hb : b.testBit i <;> first | rfl | exact absurd ⟨i, ha, hb⟩ hno
  · rintro ⟨i, ha, hb⟩ h
    have := congrArg (fun x => x.testBit i) h
    simp [ha, hb] at this
theorem rS_sub {g t : Nat → Nat} {op k m : Nat} {P : Nat → Prop} (hP : ∀ u v, mE g t op u v → P u → P v) (hm : ∀ p, m.testBit p = true → P p) : ∀ p, (rS g t op k m).testBit p = true → P p := by
  intro p hp
  unfold rS at hp
  split at hp
  · rename_i h
    obtain ⟨i, h1, h2⟩ := and_ne0.mp h.2
    rw [Nat.testBit_or, Bool.or_eq_true] at hp
    rcases hp with hp | hp
    · exact hm p hp
    · exact hP i p ⟨k, h.1, h2, hp⟩ (hm i h1)
  · exact hm p hp
theorem rS_closed {g t : Nat → Nat} {op m K : Nat} (hK : op < 2 ^ K) (hf : itf (rS g t op) m K = m) : ∀ u v, mE g t op u v → m.testBit u = true → m.testBit v = true := by
  intro u v ⟨k, hk, q1, q2⟩ hu
  have e := itf_fix (rS_infl g t op) hf k (tb_in hK hk)
  unfold rS at e
  rw [if_pos ⟨hk, and_ne0.mpr ⟨u, hu, q1⟩⟩] at e
  rw [← e, Nat.testBit_or, q2]; simp
def rP (g t : Nat → Nat) (op K m : Nat) : Nat := itf (rS g t op) m K
/-- what is reached from a: N - 1 passes -/
def rchM (g t : Nat → Nat) (op K N a : Nat) : Nat := rep (rP g t op K) (2 ^ a) (N - 1)
theorem rchM_ok {g t : Nat → Nat} {op K N a : Nat} (hK : op < 2 ^ K) (ht : ∀ k, op.testBit k = true → t k < 2 ^ N) (ha : a < N) : rchM g t op K N a < 2 ^ N ∧ ∀ p, (rchM g t op K N a).testBit p = true ↔ rch (mE g t op) a p := by
  have hl : ∀ m, m < 2 ^ N → rP g t op K m < 2 ^ N := fun m hm => itf_ind (P := fun _ x => x < 2 ^ N) hm (fun _ _ _ h => rS_lt ht h)
  have hi : ∀ m b, m.testBit b = true → (rP g t op K m).testBit b = true := fun m b hb => itf_infl (rS_infl g t op) (n := 0) K (Nat.zero_le _) b hb
  have h0 : 2 ^ a < 2 ^ N := Nat.pow_lt_pow_right (by decide) ha
  have hbit : (2 ^ a).testBit a = true := by rw [Nat.testBit_two_pow]; simp
  have hfix := rep_enough hi hl h0 (cnt_pos ha hbit)
  have hall : ∀ n, rep (rP g t op K) (2 ^ a) n < 2 ^ N ∧ (rep (rP g t op K) (2 ^ a) n).testBit a = true ∧ ∀ p, (rep (rP g t op K) (2 ^ a) n).testBit p = true → rch (mE g t op) a p := by
    intro n
    induction n with
    | zero =>
      refine ⟨h0, hbit, fun p hp => ?_⟩
      rw [show rep (rP g t op K) (2 ^ a) 0 = 2 ^ a from rfl, Nat.testBit_two_pow, decide_eq_true_eq] at hp
      subst hp; exact rch_refl _ _
    | succ n ih =>
      refine ⟨hl _ ih.1, hi _ _ ih.2.1, ?_⟩
      exact itf_ind (P := fun _ (x : Nat) => ∀ p, x.testBit p = true → rch (mE g t op) a p) ih.2.2 (fun i b _ h => rS_sub (P := fun p => rch (mE g t op) a p) (fun u v e h => rch_step h e) h)
  obtain ⟨k1, k2, k3⟩ := hall (N - 1)
  exact ⟨k1, led_of k2 (rS_closed hK hfix) k3⟩
/-- masks of a land's lines -/
def tM (L : Ld) (k : Nat) : Nat := 2 ^ l_A L k ||| 2 ^ l_B L k
def ouM (L : Ld) (k : Nat) : Nat := if l_O L k = 0 then 2 ^ l_A L k else 2 ^ l_A L k ||| 2 ^ l_B L k
def inM (L : Ld) (k : Nat) : Nat := if l_O L k = 0 then 2 ^ l_B L k else 2 ^ l_A L k ||| 2 ^ l_B L k
def neM (L : Ld) : Nat := if l_w L = 1 then 2 ^ l_N L - 1 else if l_w L = 2 then 2 ^ l_a L else 2 ^ l_a L ||| 2 ^ l_b L
theorem or2_bit (a b i : Nat) : (2 ^ a ||| 2 ^ b).testBit i = true ↔ a = i ∨ b = i := by
  rw [Nat.testBit_or, Nat.testBit_two_pow, Nat.testBit_two_pow, Bool.or_eq_true, decide_eq_true_eq, decide_eq_true_eq]
theorem pow_bit (a i : Nat) : (2 ^ a).testBit i = true ↔ a = i := by rw [Nat.testBit_two_pow, decide_eq_true_eq]
theorem rch_out (L : Ld) (op a p : Nat) : rch (mE (ouM L) (tM L) op) a p ↔ rch (l_E L op) a p := by
  constructor
  · intro h
    refine h (fun x => rch (l_E L op) a x) (rch_refl _ _) ?_
    intro u v ⟨k, hk, q1, q2⟩ hu
    unfold tM at q2
    rw [or2_bit] at q2
    unfold ouM at q1
    by_cases ho : l_O L k = 0
    · rw [if_pos ho, pow_bit] at q1
      subst q1
      rcases q2 with q2 | q2
      · subst q2; exact hu
      · subst q2; exact rch_step hu ⟨k, hk, Or.inl ⟨rfl, rfl⟩⟩
    · rw [if_neg ho, or2_bit] at q1
      rcases q1 with q1 | q1 <;> rcases q2 with q2 | q2 <;> subst q1 <;> subst q2
      · exact hu
      · exact rch_step hu ⟨k, hk, Or.inl ⟨rfl, rfl⟩⟩
      · exact rch_step hu ⟨k, hk, Or.inr ⟨ho, rfl, rfl⟩⟩
      · exact hu
  · intro h
    refine rch_mono ?_ h
    rintro u v ⟨k, hk, ⟨q1, q2⟩ | ⟨q0, q1, q2⟩⟩
    · refine ⟨k, hk, ?_, ?_⟩
      · unfold ouM; split
        · rw [pow_bit]; exact q1
        · rw [or2_bit]; exact Or.inl q1
      · unfold tM; rw [or2_bit]; exact Or.inr q2
    · refine ⟨k, hk, ?_, ?_⟩
      · unfold ouM; rw [if_neg q0, or2_bit]; exact Or.inr q1
      · unfold tM; rw [or2_bit]; exact Or.inl q2
theorem rch_in (L : Ld) (op a p : Nat) : rch (mE (inM L) (tM L) op) a p ↔ rch (l_E L op) p a := by
  constructor
  · intro h
    refine h (fun x => rch (l_E L op) x a) (rch_refl _ _) ?_
    intro u v ⟨k, hk, q1, q2⟩ hu
    unfold tM at q2
    rw [or2_bit] at q2
    unfold inM at q1
    by_cases ho : l_O L k = 0
    · rw [if_pos ho, pow_bit] at q1
      subst q1
      rcases q2 with q2 | q2
      · subst q2; exact rch_trans (rch_edge ⟨k, hk, Or.inl ⟨rfl, rfl⟩⟩) hu
      · subst q2; exact hu
    · rw [if_neg ho, or2_bit] at q1
      rcases q1 with q1 | q1 <;> rcases q2 with q2 | q2 <;> subst q1 <;> subst q2
      · exact hu
      · exact rch_trans (rch_edge ⟨k, hk, Or.inr ⟨ho, rfl, rfl⟩⟩) hu
      · exact rch_trans (rch_edge ⟨k, hk, Or.inl ⟨rfl, rfl⟩⟩) hu
      · exact hu
  · intro h
    have h2 := rch_rev h
    refine rch_mono ?_ h2
    rintro u v ⟨k, hk, ⟨q1, q2⟩ | ⟨q0, q1, q2⟩⟩
    · refine ⟨k, hk, ?_, ?_⟩
      · unfold inM; split
        · rw [pow_bit]; exact q2
        · rw [or2_bit]; exact Or.inr q2
      · unfold tM; rw [or2_bit]; exact Or.inl q1
    · refine ⟨k, hk, ?_, ?_⟩
      · unfold inM; rw [if_neg q0, or2_bit]; exact Or.inl q2
      · unfold tM; rw [or2_bit]; exact Or.inr q1
/-- how many bits, by the machine's own sums -/
theorem bitCount64 : ∀ a, a < 64 → ∀ b, b < 64 → f_J6_bitCount_0f7a4 (nI (64 * a + b)) = some (nI (cnt (64 * a + b) 12)) := by decide +kernel
theorem x_bitCount {m : Nat} (hm : m < 4096) : f_J6_bitCount_0f7a4 (nI m) = some (nI (cnt m 12)) := by
  have := bitCount64 (m / 64) (by omega) (m % 64) (by omega)
  rw [show 64 * (m / 64) + m % 64 = m by omega] at this
  exact this
