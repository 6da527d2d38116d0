/-! a land, in plain numbers -/
abbrev Ld : Type := Nat → Nat → Nat
abbrev l_N (L : Ld) : Nat := L 0 0
abbrev l_n (L : Ld) : Nat := L 1 0
abbrev l_A (L : Ld) : Nat → Nat := L 2
abbrev l_B (L : Ld) : Nat → Nat := L 3
abbrev l_C (L : Ld) : Nat → Nat := L 4
abbrev l_O (L : Ld) : Nat → Nat := L 5
abbrev l_D (L : Ld) : Nat → Nat := L 6
abbrev l_k (L : Ld) : Nat := L 7 0
abbrev l_P (L : Ld) : Nat → Nat := L 8
abbrev l_Q (L : Ld) : Nat → Nat := L 9
abbrev l_c (L : Ld) : Nat := L 10 0
abbrev l_R (L : Ld) : Nat → Nat := L 11
abbrev l_X (L : Ld) : Nat → Nat := L 12
abbrev l_Y (L : Ld) : Nat → Nat := L 13
abbrev l_w (L : Ld) : Nat := L 14 0
abbrev l_m (L : Ld) : Nat := L 15 0
abbrev l_a (L : Ld) : Nat := L 16 0
abbrev l_b (L : Ld) : Nat := L 17 0
def l_M (L : Ld) : Nat := l_n L + l_k L + l_c L
/-- a land that can be told -/
def lOk (L : Ld) : Prop :=
  (2 ≤ l_N L ∧ l_N L ≤ 10 ∧ l_n L ≤ 12 ∧ l_k L ≤ 10 ∧ l_c L ≤ 15 ∧ l_M L ≤ 15) ∧
  (∀ k, k < l_n L → l_A L k < l_N L ∧ l_B L k < l_N L ∧ l_A L k ≠ l_B L k ∧ l_C L k ≤ 16 ∧ l_O L k ≤ 1 ∧ 1 ≤ l_D L k ∧ l_D L k ≤ 9) ∧
  (∀ j, j < l_k L → l_P L j < l_N L ∧ l_Q L j ≤ 16) ∧ (∀ i j, i < l_k L → j < l_k L → l_P L i = l_P L j → i = j) ∧
  (∀ c, c < l_c L → l_R L c ≤ 16 ∧ l_X L c < 2 ^ l_n L ∧ l_Y L c < 2 ^ l_N L) ∧
  (l_w L ≤ 4 ∧ l_m L ≤ 99 ∧ l_a L < l_N L ∧ l_b L < l_N L ∧ (l_w L = 0 ∨ l_w L = 3 ∨ l_w L = 4 → l_a L ≠ l_b L) ∧ (l_w L = 2 → 1 ≤ l_m L))
def alls (f : Nat → Bool) : Nat → Bool
  | 0 => true
  | n + 1 => alls f n && f n
theorem alls_iff {f : Nat → Bool} {n : Nat} : alls f n = true ↔ ∀ i, i < n → f i = true := by
  induction n with
  | zero => simp [alls]
  | succ n ih =>
    simp only [alls, Bool.and_eq_true, ih]
    constructor
    · rintro ⟨h1, h2⟩ i hi
      by_cases e : i = n
      · subst e; exact h2
      · exact h1 i (by omega)
    · intro h; exact ⟨fun i hi => h i (by omega), h n (by omega)⟩
/-- a place stands with a set of things -/
def stB (L : Ld) (s p : Nat) : Bool := alls (fun j => !(l_P L j == p) || s.testBit (l_n L + j)) (l_k L) && alls (fun c => !(l_Y L c).testBit p || s.testBit (l_n L + l_k L + c)) (l_c L)
/-- a line is open with a set of things -/
def opB (L : Ld) (s k : Nat) : Bool := s.testBit k && alls (fun c => !(l_X L c).testBit k || s.testBit (l_n L + l_k L + c)) (l_c L) && (stB L s (l_A L k) && stB L s (l_B L k))
def stM (L : Ld) (s : Nat) : Nat := mk (stB L s) (l_N L)
/-- the lines open with a set; mo: with the new line behind them -/
def opM (L : Ld) (s : Nat) (mo : Bool) : Nat := mk (opB L s) (l_n L) ||| (if (mo && (stB L s (l_A L (l_n L)) && stB L s (l_B L (l_n L)))) = true then 2 ^ l_n L else 0)
theorem opM_bit (L : Ld) (s : Nat) (mo : Bool) (k : Nat) : (opM L s mo).testBit k = true ↔ (k < l_n L ∧ opB L s k = true) ∨ (k = l_n L ∧ mo = true ∧ stB L s (l_A L k) = true ∧ stB L s (l_B L k) = true) := by
  unfold opM
  rw [Nat.testBit_or, Bool.or_eq_true, mk_bit, Bool.and_eq_true, decide_eq_true_eq]
  apply or_congr Iff.rfl
  split
  · rename_i h
    rw [Nat.testBit_two_pow, decide_eq_true_eq]
    simp only [Bool.and_eq_true] at h
    constructor
    · intro e; subst e; exact ⟨rfl, h⟩
    · intro e; exact e.1.symm
  · rename_i h
    rw [Nat.zero_testBit]
    constructor
    · intro e; cases e
    · rintro ⟨e, h1, h2, h3⟩
      subst e
      exfalso; apply h
      simp [h1, h2, h3]
theorem opM_lt (L : Ld) (s : Nat) (mo : Bool) : opM L s mo < 2 ^ (l_n L + 1) := by
  unfold opM
  apply Nat.or_lt_two_pow
  · exact Nat.lt_of_lt_of_le (mk_lt _ _) (Nat.pow_le_pow_right (by decide) (by omega))
  · split
    · exact Nat.pow_lt_pow_right (by decide) (by omega)
    · exact Nat.two_pow_pos _
theorem opM_lt0 (L : Ld) (s : Nat) : opM L s false < 2 ^ l_n L := by
  unfold opM
  apply Nat.or_lt_two_pow
  · exact mk_lt _ _
  · rw [if_neg (by simp)]; exact Nat.two_pow_pos _
theorem stM_bit (L : Ld) (s p : Nat) : (stM L s).testBit p = true ↔ p < l_N L ∧ stB L s p = true := by
  unfold stM
  rw [mk_bit, Bool.and_eq_true, decide_eq_true_eq]
theorem stM_lt (L : Ld) (s : Nat) : stM L s < 2 ^ l_N L := mk_lt _ _
def far0 (a : Nat) : Nat → Nat := fun p => if p = a then 0 else 1000
/-- the fewest days from a, by these lines -/
def isD (L : Ld) (op a : Nat) (D : Nat → Nat) : Prop := ∃ n, D = repF (dP (l_A L) (l_B L) (l_O L) (l_D L) op 13) (far0 a) n ∧ dP (l_A L) (l_B L) (l_O L) (l_D L) op 13 D = D
abbrev l_E (L : Ld) (op : Nat) : Nat → Nat → Prop := gE (l_A L) (l_B L) (l_O L) op
/-- it is through by these open lines, if the places needed stand -/
def car (L : Ld) (op : Nat) : Prop :=
  (l_w L = 0 ∧ rch (l_E L op) (l_a L) (l_b L)) ∨
  (l_w L = 1 ∧ ∀ p, p < l_N L → rch (l_E L op) 0 p ∧ rch (l_E L op) p 0) ∨
  (l_w L = 2 ∧ ∃ m, m < 2 ^ l_N L ∧ (∀ p, m.testBit p = true ↔ rch (l_E L op) (l_a L) p) ∧ l_m L ≤ cnt m (l_N L)) ∨
  (l_w L = 3 ∧ ∃ D, isD L op (l_a L) D ∧ D (l_b L) ≤ l_m L) ∨
  (l_w L = 4 ∧ rch (l_E L op) (l_a L) (l_b L) ∧ noCut (l_A L) (l_B L) (l_O L) op (l_a L) (l_b L))
def ned (L : Ld) (s : Nat) : Prop :=
  (l_w L = 1 → ∀ p, p < l_N L → stB L s p = true) ∧ (l_w L = 2 → stB L s (l_a L) = true) ∧ (l_w L ≠ 1 → l_w L ≠ 2 → stB L s (l_a L) = true ∧ stB L s (l_b L) = true)
def thr (L : Ld) (s : Nat) (mo : Bool) : Prop := ned L s ∧ car L (opM L s mo)
theorem dP_K {A B bo dy : Nat → Nat} {op K : Nat} (hK : op < 2 ^ K) (far : Nat → Nat) : ∀ K', K ≤ K' → dP A B bo dy op K' far = dP A B bo dy op K far := by
  intro K'
  induction K' with
  | zero => intro h; have : K = 0 := by omega
            subst this; rfl
  | succ K' ih =>
    intro h
    by_cases e : K = K' + 1
    · subst e; rfl
    · rw [← ih (by omega)]
      show dS A B bo dy op K' (dP A B bo dy op K' far) = _
      unfold dS
      rw [tb_lt hK (show K ≤ K' by omega), if_neg (by decide)]
theorem dP_K13 {A B bo dy : Nat → Nat} {op K : Nat} (hK : op < 2 ^ K) (h : K ≤ 13) : dP A B bo dy op 13 = dP A B bo dy op K := by
  funext far
  exact dP_K hK far 13 h
theorem far0_le (a v : Nat) : far0 a v ≤ 1000 := by unfold far0; split <;> omega
theorem far0_sup (A B bo dy : Nat → Nat) (op a : Nat) : dSup A B bo dy op a (far0 a) := by
  refine ⟨by simp [far0], fun v hv h => ?_⟩
  simp [far0, hv] at h
theorem isD_one {L : Ld} {op a : Nat} {D D' : Nat → Nat} (h : isD L op a D) (h' : isD L op a D') : D = D' := by
  obtain ⟨n, h1, h2⟩ := h
  obtain ⟨m, h3, h4⟩ := h'
  subst h1; subst h3
  exact repF_one h2 h4
theorem isD_sup {L : Ld} {op a : Nat} {D : Nat → Nat} (hG : dG (l_A L) (l_B L) (l_D L) op (l_N L)) (h : isD L op a D) : dSup (l_A L) (l_B L) (l_O L) (l_D L) op a D := by
  obtain ⟨n, h1, _⟩ := h
  subst h1
  exact dSup_rep hG (far0_sup _ _ _ _ _ _) n
theorem isD_le {L : Ld} {op a : Nat} {D : Nat → Nat} (h : isD L op a D) (v : Nat) : D v ≤ 1000 := by
  obtain ⟨n, h1, _⟩ := h
  subst h1
  have := repF_le (A := l_A L) (B := l_B L) (bo := l_O L) (dy := l_D L) (op := op) (K := 13) (far0 a) v 0 n
  rw [Nat.zero_add] at this
  exact Nat.le_trans this (far0_le a v)
