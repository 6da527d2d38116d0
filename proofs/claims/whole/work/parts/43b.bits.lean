/-! how many bits -/
theorem bits_step64 : ∀ a, a < 64 → ∀ b, b < 64 → 64 * a + b ≠ 0 → cnt ((64 * a + b) &&& (64 * a + b - 1)) 12 + 1 = cnt (64 * a + b) 12 := by decide +kernel
theorem bits_step (m : Nat) (hm : m < 4096) (h : m ≠ 0) : cnt (m &&& (m - 1)) 12 + 1 = cnt m 12 := by
  have := bits_step64 (m / 64) (by omega) (m % 64) (by omega)
  rw [show 64 * (m / 64) + m % 64 = m by omega] at this
  exact this h
theorem cnt_ext {m N : Nat} (hm : m < 2 ^ N) : ∀ K, N ≤ K → cnt m K = cnt m N := by
  intro K
  induction K with
  | zero => intro h; have : N = 0 := by omega
            subst this; rfl
  | succ K ih =>
    intro h
    by_cases e : N = K + 1
    · subst e; rfl
    · rw [← ih (by omega)]
      unfold cnt
      rw [fb_ct_succ, tb_lt hm (show N ≤ K by omega)]; simp
theorem m_bits {m : Nat} (hm : m < 4096) : f_X12_bits (nI m) = some (nI (cnt m 12)) := by
  apply ok_e
  unfold f_X12_bits
  refine ok_while (W := fun n (s : Nat × Nat) => it2 f_X12_bits_L4 n (nI s.1) (nI s.2)) (I := fun s => s.2 < 4096 ∧ s.1 + cnt s.2 12 = cnt m 12) (μ := fun s => cnt s.2 12) (s := (0, m)) ⟨hm, Nat.zero_add _⟩ (by have := cnt_le m 12; dsimp only; omega) ?_
  intro n s hI ih
  obtain ⟨c, x⟩ := s
  obtain ⟨h1, h2⟩ := hI
  dsimp only at h1 h2 ih
  have hc := cnt_le m 12
  show Ok (f_X12_bits_L4 (it2 f_X12_bits_L4 n) (nI c) (nI x)) _
  generalize it2 f_X12_bits_L4 n = r at ih
  unfold f_X12_bits_L4
  simp (disch := omega) only [oI_z]
  by_cases hx : x = 0
  · subst hx
    have : cnt 0 12 = 0 := by decide +kernel
    rw [if_pos rfl]
    refine ok_some ?_
    rw [show c = cnt m 12 by omega]
  · rw [if_neg hx]
    have hs := bits_step x h1 hx
    simp only [lz, li_1]
    rw [oI_sub1 (by omega), oI_and, nI_add]
    have hle : x &&& (x - 1) ≤ x := Nat.and_le_left
    exact ih (c + 1, x &&& (x - 1)) ⟨by dsimp only; omega, by dsimp only; omega⟩ (by dsimp only; omega)
