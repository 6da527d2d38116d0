def itf {α : Type} (st : Nat → α → α) (a : α) : Nat → α
  | 0 => a
  | n + 1 => st n (itf st a n)
theorem itf_ind {α : Type} {st : Nat → α → α} {a : α} (P : Nat → α → Prop) (h0 : P 0 a) {n : Nat} (hs : ∀ i b, i < n → P i b → P (i + 1) (st i b)) : P n (itf st a n) := by
  have : ∀ k, k ≤ n → P k (itf st a k) := by
    intro k
    induction k with
    | zero => intro _; exact h0
    | succ k ih => intro hk; exact hs k _ (by omega) (ih (by omega))
  exact this n (Nat.le_refl n)
/-! passes over lines that only add -/
def infl (st : Nat → Nat → Nat) : Prop := ∀ i m b, m.testBit b = true → (st i m).testBit b = true
theorem itf_infl {st : Nat → Nat → Nat} (h : infl st) {m n : Nat} : ∀ k, n ≤ k → ∀ b, (itf st m n).testBit b = true → (itf st m k).testBit b = true := by
  intro k
  induction k with
  | zero => intro hk b hb; have : n = 0 := by omega
            subst this; exact hb
  | succ k ih =>
    intro hk b hb
    by_cases e : n = k + 1
    · subst e; exact hb
    · exact h k _ b (ih (by omega) b hb)
theorem itf_fix {st : Nat → Nat → Nat} (h : infl st) {m n : Nat} (hf : itf st m n = m) : ∀ i, i < n → st i m = m := by
  have key : ∀ i, i ≤ n → itf st m i = m := by
    intro i hi
    apply Nat.eq_of_testBit_eq
    intro b
    have h1 := itf_infl h (m := m) i (Nat.zero_le i) b
    have h2 := itf_infl h (m := m) n hi b
    rw [hf] at h2
    change (m.testBit b = true → _) at h1
    cases q1 : (itf st m i).testBit b <;> cases q2 : m.testBit b <;> simp_all
  intro i hi
  have a := key i (by omega)
  have b := key (i + 1) (by omega)
  change st i (itf st m i) = m at b
  rw [a] at b
  exact b
theorem itf_le {st : Nat → Nat → Nat} (h : infl st) (m n : Nat) : m ≤ itf st m n := sub_le (fun b hb => itf_infl h (m := m) (n := 0) n (Nat.zero_le n) b hb)
/-- how many of the first N are in a mask -/
def cnt (m N : Nat) : Nat := fb_ct (fun i => m.testBit i) N
theorem cnt_le (m N : Nat) : cnt m N ≤ N := fb_ct_le _ N
theorem cnt_mono {m m' N : Nat} (h : ∀ b, m.testBit b = true → m'.testBit b = true) : cnt m N ≤ cnt m' N := fb_ct_sub (fun k _ hk => h k hk)
theorem cnt_lt {m m' N : Nat} (h : ∀ b, m.testBit b = true → m'.testBit b = true) (hm' : m' < 2 ^ N) (hne : m' ≠ m) : cnt m N < cnt m' N := by
  rcases Nat.lt_or_ge (cnt m N) (cnt m' N) with q | q
  · exact q
  · exfalso
    apply hne
    have hle := cnt_mono (N := N) h
    have heq : cnt m N = cnt m' N := by omega
    have key : ∀ n, n ≤ N → fb_ct (fun i => m.testBit i) n = fb_ct (fun i => m'.testBit i) n := by
      intro n hn
      obtain ⟨d, rfl⟩ : ∃ d, N = n + d := ⟨N - n, by omega⟩
      have e1 := fb_ct_split (fun i => m.testBit i) n d
      have e2 := fb_ct_split (fun i => m'.testBit i) n d
      have l1 : fb_ct (fun i => m.testBit i) n ≤ fb_ct (fun i => m'.testBit i) n := fb_ct_sub (fun k _ hk => h k hk)
      have l2 : fb_ct (fun k => m.testBit (n + k)) d ≤ fb_ct (fun k => m'.testBit (n + k)) d := fb_ct_sub (fun k _ hk => h _ hk)
      unfold cnt at heq
      omega
    apply Nat.eq_of_testBit_eq
    intro i
    rcases Nat.lt_or_ge i N with hi | hi
    · have a := key i (by omega)
      have b := key (i + 1) (by omega)
      rw [fb_ct_succ, fb_ct_succ, a] at b
      have c := h i
      cases q1 : m.testBit i <;> cases q2 : m'.testBit i <;> simp_all
    · rw [tb_lt hm' hi]
      cases q1 : m.testBit i with
      | false => rfl
      | true => have := h i q1; rw [tb_lt hm' hi] at this; cases this
theorem cnt_full {m N : Nat} (h : cnt m N = N) : ∀ i, i < N → m.testBit i = true := fb_ct_all.mp h
/-- a pass done over and over -/
def rep (f : Nat → Nat) (m : Nat) : Nat → Nat
  | 0 => m
  | n + 1 => f (rep f m n)
theorem rep_fix {f : Nat → Nat} {m : Nat} (h : f m = m) : ∀ n, rep f m n = m
  | 0 => rfl
  | n + 1 => by rw [rep, rep_fix h n, h]
theorem rep_succ (f : Nat → Nat) (m : Nat) : ∀ n, rep f (f m) n = rep f m (n + 1)
  | 0 => rfl
  | n + 1 => by rw [rep, rep_succ f m n]; rfl
/-- N - 1 passes are enough -/
theorem rep_enough {f : Nat → Nat} {N : Nat} (hf : ∀ m b, m.testBit b = true → (f m).testBit b = true) (hl : ∀ m, m < 2 ^ N → f m < 2 ^ N) {m : Nat} (hm : m < 2 ^ N) (h1 : 1 ≤ cnt m N) : f (rep f m (N - 1)) = rep f m (N - 1) := by
  have key : ∀ n, rep f m n < 2 ^ N ∧ (f (rep f m n) = rep f m n ∨ n + 1 ≤ cnt (rep f m n) N) := by
    intro n
    induction n with
    | zero => exact ⟨hm, Or.inr h1⟩
    | succ n ih =>
      refine ⟨hl _ ih.1, ?_⟩
      rcases ih.2 with e | e
      · left; show f (f (rep f m n)) = f (rep f m n); rw [e, e]
      · by_cases q : f (rep f m n) = rep f m n
        · left; show f (f (rep f m n)) = f (rep f m n); rw [q, q]
        · right
          have := cnt_lt (N := N) (hf (rep f m n)) (hl _ ih.1) q
          show n + 1 + 1 ≤ cnt (f (rep f m n)) N
          omega
  obtain ⟨k1, k2⟩ := key (N - 1)
  rcases k2 with e | e
  · exact e
  · have hc := cnt_le (rep f m (N - 1)) N
    have hfull : cnt (rep f m (N - 1)) N = N := by omega
    have hall := cnt_full hfull
    apply msk_ext (hl _ k1) k1
    intro i hi
    rw [hall i hi, hf _ i (hall i hi)]
theorem cnt_pos {m N a : Nat} (ha : a < N) (h : m.testBit a = true) : 1 ≤ cnt m N := fb_ct_pos.mpr ⟨a, ha, h⟩
