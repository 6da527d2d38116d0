/-! the reference: one way more, two ways -/
def oM (A B bo us : Nat → Nat) (op : Nat) (i m : Nat) : Nat :=
  if op.testBit i = true then (if us i ≠ 1 ∧ m.testBit (A i) = true ∧ m.testBit (B i) = false then m ||| 2 ^ B i else if (us i = 1 ∨ (us i = 0 ∧ bo i ≠ 0)) ∧ m.testBit (B i) = true ∧ m.testBit (A i) = false then m ||| 2 ^ A i else m) else m
def oA (A B bo us : Nat → Nat) (op : Nat) (i m : Nat) (ar : Nat → Int32) : Nat → Int32 :=
  if op.testBit i = true then (if us i ≠ 1 ∧ m.testBit (A i) = true ∧ m.testBit (B i) = false then upd ar (B i) (nI i) else if (us i = 1 ∨ (us i = 0 ∧ bo i ≠ 0)) ∧ m.testBit (B i) = true ∧ m.testBit (A i) = false then upd ar (A i) (nI i) else ar) else ar
def oS (A B bo us : Nat → Nat) (op : Nat) (i : Nat) (s : Nat × (Nat → Int32)) : Nat × (Nat → Int32) := (oM A B bo us op i s.1, oA A B bo us op i s.1 s.2)
theorem oS_1 (A B bo us : Nat → Nat) (op : Nat) (s : Nat × (Nat → Int32)) : ∀ n, (itf (oS A B bo us op) s n).1 = itf (oM A B bo us op) s.1 n
  | 0 => rfl
  | n + 1 => by show oM A B bo us op n (itf (oS A B bo us op) s n).1 = _; rw [oS_1 A B bo us op s n]; rfl
theorem oM_infl (A B bo us : Nat → Nat) (op : Nat) : infl (oM A B bo us op) := by
  intro k m b hb
  unfold oM
  split
  · split
    · rw [or_pow_bit, hb]; rfl
    · split
      · rw [or_pow_bit, hb]; rfl
      · exact hb
  · exact hb
theorem oM_lt {A B bo us : Nat → Nat} {op N : Nat} (hG : ∀ k, op.testBit k = true → A k < N ∧ B k < N) {k m : Nat} (hm : m < 2 ^ N) : oM A B bo us op k m < 2 ^ N := by
  unfold oM
  split
  · rename_i h
    obtain ⟨h1, h2⟩ := hG k h
    split
    · exact or_pow_lt hm h2
    · split
      · exact or_pow_lt hm h1
      · exact hm
  · exact hm
theorem oM_closed {A B bo us : Nat → Nat} {op m K : Nat} (hK : op < 2 ^ K) (hf : itf (oM A B bo us op) m K = m) : ∀ u v, rE A B bo op us u v → m.testBit u = true → m.testBit v = true := by
  intro u v ⟨k, hk, q⟩ hu
  have e := itf_fix (oM_infl A B bo us op) hf k (tb_in hK hk)
  unfold oM at e
  rw [if_pos hk] at e
  cases hv : m.testBit v with
  | true => rfl
  | false =>
    rw [← hv, ← e]
    rcases q with ⟨q0, q1, q2⟩ | ⟨q0, q1, q2⟩
    · subst q1; subst q2
      rw [if_pos ⟨q0, hu, hv⟩, or_pow_bit]; simp
    · subst q1; subst q2
      rw [if_neg (fun z => by rw [hv] at z; cases z.2.1), if_pos ⟨q0, hu, hv⟩, or_pow_bit]; simp
/-- the tree by which the places were come to -/
def oT (A B bo us : Nat → Nat) (op a : Nat) (s : Nat × (Nat → Int32)) (rk pv : Nat → Nat) : Prop :=
  ∀ v, s.1.testBit v = true → v ≠ a → ∃ k, s.2 v = nI k ∧ op.testBit k = true ∧ s.1.testBit (pv v) = true ∧ rk (pv v) < rk v ∧ ((us k ≠ 1 ∧ A k = pv v ∧ B k = v) ∨ ((us k = 1 ∨ (us k = 0 ∧ bo k ≠ 0)) ∧ B k = pv v ∧ A k = v))
theorem oT_add {A B bo us : Nat → Nat} {op a m : Nat} {ar : Nat → Int32} {rk pv : Nat → Nat} (h : oT A B bo us op a (m, ar) rk pv) {i u v : Nat} (hi : op.testBit i = true) (hu : m.testBit u = true) (hv : m.testBit v = false)
    (he : (us i ≠ 1 ∧ A i = u ∧ B i = v) ∨ ((us i = 1 ∨ (us i = 0 ∧ bo i ≠ 0)) ∧ B i = u ∧ A i = v)) : oT A B bo us op a (m ||| 2 ^ v, upd ar v (nI i)) (upN rk v (rk u + 1)) (upN pv v u) := by
  intro w hw hwa
  dsimp only at hw ⊢
  have huv : u ≠ v := by intro e; subst e; rw [hu] at hv; cases hv
  by_cases e : w = v
  · subst e
    refine ⟨i, pk_us, hi, ?_, ?_, ?_⟩
    · rw [upN_s, or_pow_bit, hu]; rfl
    · rw [upN_s, upN_s, upN_n huv]; omega
    · rw [upN_s]; exact he
  · rw [or_pow_bit, Bool.or_eq_true, decide_eq_true_eq] at hw
    rcases hw with hw | hw
    · obtain ⟨k, k1, k2, k3, k4, k5⟩ := h w hw hwa
      dsimp only at k1 k3
      have hpv : pv w ≠ v := by intro z; rw [z, hv] at k3; cases k3
      refine ⟨k, by rw [pk_un e]; exact k1, k2, ?_, ?_, ?_⟩
      · rw [upN_n e, or_pow_bit, k3]; rfl
      · rw [upN_n e, upN_n e, upN_n hpv]; exact k4
      · rw [upN_n e]; exact k5
    · exact absurd hw.symm e
theorem oS_tree {A B bo us : Nat → Nat} {op a N : Nat} {s : Nat × (Nat → Int32)} (hG : ∀ k, op.testBit k = true → A k < N ∧ B k < N) (hs : s.1 < 2 ^ N) (h : ∃ rk pv, oT A B bo us op a s rk pv ∧ ∀ v, rk v ≤ cnt s.1 N) (i : Nat) : ∃ rk pv, oT A B bo us op a (oS A B bo us op i s) rk pv ∧ ∀ v, rk v ≤ cnt (oS A B bo us op i s).1 N := by
  obtain ⟨rk, pv, h, hc⟩ := h
  obtain ⟨m, ar⟩ := s
  dsimp only at hs hc
  have grow : ∀ u v, m.testBit v = false → v < N → ∀ w, upN rk v (rk u + 1) w ≤ cnt (m ||| 2 ^ v) N := by
    intro u v hv hvN w
    have hsub : ∀ b, m.testBit b = true → (m ||| 2 ^ v).testBit b = true := fun b hb => by rw [or_pow_bit, hb]; rfl
    have hlt := cnt_lt hsub (or_pow_lt hs hvN) (by
      intro e
      have : (m ||| 2 ^ v).testBit v = true := by rw [or_pow_bit]; simp
      rw [e, hv] at this; cases this)
    have h1 := hc u
    have h2 := hc w
    by_cases e : w = v
    · subst e; rw [upN_s]; omega
    · rw [upN_n e]; omega
  unfold oS oM oA
  dsimp only
  by_cases hk : op.testBit i = true
  · obtain ⟨g1, g2⟩ := hG i hk
    rw [if_pos hk, if_pos hk]
    by_cases c1 : us i ≠ 1 ∧ m.testBit (A i) = true ∧ m.testBit (B i) = false
    · rw [if_pos c1, if_pos c1]
      exact ⟨_, _, oT_add h hk c1.2.1 c1.2.2 (Or.inl ⟨c1.1, rfl, rfl⟩), grow _ _ c1.2.2 g2⟩
    · rw [if_neg c1, if_neg c1]
      by_cases c2 : (us i = 1 ∨ (us i = 0 ∧ bo i ≠ 0)) ∧ m.testBit (B i) = true ∧ m.testBit (A i) = false
      · rw [if_pos c2, if_pos c2]
        exact ⟨_, _, oT_add h hk c2.2.1 c2.2.2 (Or.inr ⟨c2.1, rfl, rfl⟩), grow _ _ c2.2.2 g1⟩
      · rw [if_neg c2, if_neg c2]; exact ⟨rk, pv, h, hc⟩
  · rw [if_neg hk, if_neg hk]; exact ⟨rk, pv, h, hc⟩
theorem oT_rch {A B bo us : Nat → Nat} {op a : Nat} {s : Nat × (Nat → Int32)} {rk pv : Nat → Nat} (h : oT A B bo us op a s rk pv) : ∀ d v, rk v ≤ d → s.1.testBit v = true → rch (rE A B bo op us) a v := by
  intro d
  induction d with
  | zero =>
    intro v hd hv
    by_cases e : v = a
    · subst e; exact rch_refl _ _
    · obtain ⟨k, _, _, _, k4, _⟩ := h v hv e
      omega
  | succ d ih =>
    intro v hd hv
    by_cases e : v = a
    · subst e; exact rch_refl _ _
    · obtain ⟨k, _, k2, k3, k4, k5⟩ := h v hv e
      exact rch_step (ih (pv v) (by omega) k3) ⟨k, k2, k5⟩
/-- the numbers that the reference sees as used -/
def mU (S : wd_W) (nl : Nat) (us : Nat → Nat) : Prop := ∀ k, k < nl + 1 → S.2.2.1 19 k = nI (us k) ∧ us k ≤ 2
theorem m_oS {S : wd_W} {N nl op m i : Nat} {A B bo dy us : Nat → Nat} {ar : Nat → Int32} (hG : mG S N nl op A B bo dy) (hU : mU S nl us) (hm : m < 2 ^ N) (hi : i < nl + 1) (k : Int32 → (Nat → Int32) → Option o_X12_oneMore) (r : Int32 → Int32 → (Nat → Int32) → Option o_X12_oneMore) :
    f_X12_oneMore_L42 S k r (nI m) (nI i) ar = r (nI (oM A B bo us op i m)) (nI (i + 1)) (oA A B bo us op i m ar) := by
  obtain ⟨h20, h21, h39, hN, hnl, hop, hk⟩ := hG
  have hop2 := op_lt hop hnl
  have hm2 := lt31_10 hm (by omega)
  obtain ⟨u1, u2⟩ := hU i hi
  unfold f_X12_oneMore_L42
  rw [h21, if_neg (nI_nlt (by omega) (by omega)), bd_s (m_isOpen (S := wd_o S [] [] [(18, ar), (19, (S.2.2.1 19))] [] []) h39 (by omega) (by omega))]
  unfold oM oA
  cases hoi : op.testBit i with
  | false => simp only [lk, li_0, li_1, oI_b0, nI_add]; simp
  | true =>
    obtain ⟨k8, k9, k11, k12, hAN, hBN, hAB, hbo, _, _⟩ := hk i hoi
    simp (disch := omega) only [li_0, li_1, li_2, oI_b0, oI_b1, nI_add, nI_clamp, gd_in, k8, k9, k11, u1, oI_tb, oI_p2, oI_or, nI_eq]
    have n1 : ¬ nI 1 = nI 0 := by decide
    cases hA : m.testBit (A i) <;> cases hB : m.testBit (B i) <;> by_cases c0 : us i = 0 <;> by_cases c1 : us i = 1 <;> by_cases c2 : us i = 2 <;> by_cases c3 : bo i = 0 <;> first | omega | simp [lk, lz, hA, hB, c0, c1, c2, c3, n1, oI_or]
