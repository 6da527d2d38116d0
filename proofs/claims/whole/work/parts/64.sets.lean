/-! all sets of things: what falls, what they weigh, whether it is through -/
noncomputable def carB (L : Ld) (op : Nat) : Bool := @decide (car L op) (Classical.propDecidable _)
theorem carB_iff (L : Ld) (op : Nat) : carB L op = true ↔ car L op := by unfold carB; exact @decide_eq_true_iff _ (Classical.propDecidable _)
noncomputable def thB (L : Ld) (s : Nat) : Bool := @decide (thr L s false) (Classical.propDecidable _)
theorem thB_iff (L : Ld) (s : Nat) : thB L s = true ↔ thr L s false := by unfold thB; exact @decide_eq_true_iff _ (Classical.propDecidable _)
theorem b_of_iff {x y : Bool} {P : Prop} (h : x = true ↔ P) (h2 : y = true ↔ P) : x = y := by
  cases x <;> cases y <;> simp_all
/-- what falls with these lines and places -/
def hmk (L : Ld) (ls ps : Nat) : Nat := (ls ||| mk (fun i => tM L i &&& ps != 0) (l_n L)) ||| ps * 2 ^ 12
def hT (L : Ld) (t : Nat) : Nat := if t < l_n L then hmk L (2 ^ t) 0 else if t < l_n L + l_k L then hmk L 0 (2 ^ l_P L (t - l_n L)) else hmk L (l_X L (t - l_n L - l_k L)) (l_Y L (t - l_n L - l_k L))
def hmF (H : Nat → Nat) : Nat → Nat → Nat
  | 0, _ => 0
  | t + 1, s => hmF H t s ||| (if s.testBit t = true then 0 else H t)
theorem hmF_bit (H : Nat → Nat) (n s i : Nat) : (hmF H n s).testBit i = true ↔ ∃ t, t < n ∧ s.testBit t = false ∧ (H t).testBit i = true := by
  induction n with
  | zero => simp [hmF]
  | succ n ih =>
    rw [hmF, Nat.testBit_or, Bool.or_eq_true, ih]
    constructor
    · rintro (⟨t, h1, h2, h3⟩ | h)
      · exact ⟨t, by omega, h2, h3⟩
      · cases hb : s.testBit n with
        | true => rw [hb] at h; simp at h
        | false => rw [hb] at h; exact ⟨n, by omega, hb, by simpa using h⟩
    · rintro ⟨t, h1, h2, h3⟩
      by_cases e : t = n
      · subst e; right; rw [h2]; simpa using h3
      · exact Or.inl ⟨t, by omega, h2, h3⟩
theorem hmF_lt {H : Nat → Nat} {n k : Nat} (h : ∀ t, t < n → H t < 2 ^ k) (s : Nat) : hmF H n s < 2 ^ k := by
  induction n with
  | zero => exact Nat.two_pow_pos k
  | succ n ih =>
    rw [hmF]
    apply Nat.or_lt_two_pow (ih (fun t ht => h t (by omega)))
    split
    · exact Nat.two_pow_pos k
    · exact h n (by omega)
theorem mul_bit (ps n i : Nat) : (ps * 2 ^ n).testBit i = (decide (n ≤ i) && ps.testBit (i - n)) := by rw [Nat.testBit_mul_two_pow]
theorem hmk_bit {L : Ld} {ls ps : Nat} (hls : ls < 2 ^ 12) (hn : l_n L ≤ 12) (i : Nat) : (hmk L ls ps).testBit i = true ↔ (i < 12 ∧ (ls.testBit i = true ∨ (i < l_n L ∧ ∃ p, (tM L i).testBit p = true ∧ ps.testBit p = true))) ∨ (12 ≤ i ∧ ps.testBit (i - 12) = true) := by
  unfold hmk
  rw [Nat.testBit_or, Nat.testBit_or, mk_bit, mul_bit]
  simp only [Bool.or_eq_true, Bool.and_eq_true, decide_eq_true_eq, bne_iff_ne]
  rw [and_ne0]
  constructor
  · rintro ((h | ⟨h1, h2⟩) | h)
    · exact Or.inl ⟨tb_in hls h, Or.inl h⟩
    · exact Or.inl ⟨by omega, Or.inr ⟨h1, h2⟩⟩
    · exact Or.inr h
  · rintro (⟨h1, h2 | h2⟩ | h)
    · exact Or.inl (Or.inl h2)
    · exact Or.inl (Or.inr h2)
    · exact Or.inr h
theorem hmk_lt {L : Ld} {ls ps : Nat} (hls : ls < 2 ^ 12) (hps : ps < 2 ^ 10) (hn : l_n L ≤ 12) : hmk L ls ps < 2 ^ 22 := by
  unfold hmk
  apply Nat.or_lt_two_pow
  · apply Nat.or_lt_two_pow
    · exact Nat.lt_of_lt_of_le hls (pow_le_k (by omega))
    · exact Nat.lt_of_lt_of_le (mk_lt _ _) (pow_le_k (by omega))
  · omega
theorem tM_bit (L : Ld) (k p : Nat) : (tM L k).testBit p = true ↔ l_A L k = p ∨ l_B L k = p := by unfold tM; rw [or2_bit]
/-- things that fall, by their kinds -/
theorem th_split {L : Ld} {t : Nat} (h : t < l_M L) : t < l_n L ∨ (∃ j, j < l_k L ∧ t = l_n L + j) ∨ ∃ c, c < l_c L ∧ t = l_n L + l_k L + c := by
  unfold l_M at h
  by_cases h1 : t < l_n L
  · exact Or.inl h1
  · by_cases h2 : t < l_n L + l_k L
    · exact Or.inr (Or.inl ⟨t - l_n L, by omega, by omega⟩)
    · exact Or.inr (Or.inr ⟨t - l_n L - l_k L, by omega, by omega⟩)
theorem hT_0 {L : Ld} {t : Nat} (h : t < l_n L) : hT L t = hmk L (2 ^ t) 0 := by unfold hT; rw [if_pos h]
theorem hT_1 {L : Ld} {j : Nat} (h : j < l_k L) : hT L (l_n L + j) = hmk L 0 (2 ^ l_P L j) := by
  unfold hT; rw [if_neg (by omega), if_pos (by omega), show l_n L + j - l_n L = j by omega]
theorem hT_2 (L : Ld) (c : Nat) : hT L (l_n L + l_k L + c) = hmk L (l_X L c) (l_Y L c) := by
  unfold hT; rw [if_neg (by omega), if_neg (by omega), show l_n L + l_k L + c - l_n L - l_k L = c by omega]
theorem hT_lt {L : Ld} (hL : lOk L) {t : Nat} (ht : t < l_M L) : hT L t < 2 ^ 22 := by
  obtain ⟨⟨g1, g2, g3, g4, g5, g6⟩, gk, gj, gu, gc, gw⟩ := hL
  rcases th_split ht with h | ⟨j, h1, h2⟩ | ⟨c, h1, h2⟩
  · rw [hT_0 h]; exact hmk_lt (Nat.pow_lt_pow_right (by decide) (by omega)) (by omega) g3
  · rw [h2, hT_1 h1]; exact hmk_lt (by omega) (Nat.pow_lt_pow_right (by decide) (by have := (gj j h1).1; omega)) g3
  · rw [h2, hT_2]
    obtain ⟨c1, c2, c3⟩ := gc c h1
    exact hmk_lt (Nat.lt_of_lt_of_le c2 (pow_le_k g3)) (Nat.lt_of_lt_of_le c3 (pow_le_k g2)) g3
theorem alls_f {f : Nat → Bool} {n : Nat} : alls f n = false ↔ ∃ i, i < n ∧ f i = false := by
  constructor
  · intro h
    apply Classical.byContradiction
    intro hno
    have : alls f n = true := alls_iff.mpr (fun i hi => by
      cases e : f i with
      | true => rfl
      | false => exact absurd ⟨i, hi, e⟩ hno)
    rw [h] at this; cases this
  · rintro ⟨i, hi, e⟩
    cases h : alls f n with
    | false => rfl
    | true => have := alls_iff.mp h i hi; rw [e] at this; cases this
theorem stB_f {L : Ld} {s p : Nat} : stB L s p = false ↔ (∃ j, j < l_k L ∧ l_P L j = p ∧ s.testBit (l_n L + j) = false) ∨ ∃ c, c < l_c L ∧ (l_Y L c).testBit p = true ∧ s.testBit (l_n L + l_k L + c) = false := by
  unfold stB
  rw [Bool.and_eq_false_iff, alls_f, alls_f]
  constructor
  · rintro (⟨j, h1, h2⟩ | ⟨c, h1, h2⟩)
    · rw [Bool.or_eq_false_iff] at h2
      exact Or.inl ⟨j, h1, by simpa using h2.1, h2.2⟩
    · rw [Bool.or_eq_false_iff] at h2
      exact Or.inr ⟨c, h1, by simpa using h2.1, h2.2⟩
  · rintro (⟨j, h1, h2, h3⟩ | ⟨c, h1, h2, h3⟩)
    · exact Or.inl ⟨j, h1, by simp [h2, h3]⟩
    · exact Or.inr ⟨c, h1, by simp [h2, h3]⟩
theorem opB_f {L : Ld} {s k : Nat} : opB L s k = false ↔ s.testBit k = false ∨ (∃ c, c < l_c L ∧ (l_X L c).testBit k = true ∧ s.testBit (l_n L + l_k L + c) = false) ∨ stB L s (l_A L k) = false ∨ stB L s (l_B L k) = false := by
  unfold opB
  rw [Bool.and_eq_false_iff, Bool.and_eq_false_iff, Bool.and_eq_false_iff, alls_f]
  constructor
  · rintro ((h | ⟨c, h1, h2⟩) | h)
    · exact Or.inl h
    · rw [Bool.or_eq_false_iff] at h2
      exact Or.inr (Or.inl ⟨c, h1, by simpa using h2.1, h2.2⟩)
    · exact Or.inr (Or.inr h)
  · rintro (h | ⟨c, h1, h2, h3⟩ | h)
    · exact Or.inl (Or.inl h)
    · exact Or.inl (Or.inr ⟨c, h1, by simp [h2, h3]⟩)
    · exact Or.inr h
/-- what falls with a set: its lines -/
theorem hm_line {L : Ld} (hL : lOk L) {s k : Nat} (hk : k < l_n L) : (hmF (hT L) (l_M L) s).testBit k = !opB L s k := by
  obtain ⟨⟨g1, g2, g3, g4, g5, g6⟩, gk, gj, gu, gc, gw⟩ := hL
  have key : (hmF (hT L) (l_M L) s).testBit k = true ↔ opB L s k = false := by
    rw [hmF_bit, opB_f, stB_f, stB_f]
    constructor
    · rintro ⟨t, h1, h2, h3⟩
      rcases th_split h1 with h | ⟨j, j1, j2⟩ | ⟨c, c1, c2⟩
      · rw [hT_0 h, hmk_bit (Nat.pow_lt_pow_right (by decide) (by omega)) g3] at h3
        rcases h3 with ⟨_, h3 | ⟨_, p, _, h3⟩⟩ | ⟨h3, _⟩
        · rw [pow_bit] at h3; subst h3; exact Or.inl h2
        · simp at h3
        · omega
      · subst j2
        rw [hT_1 j1, hmk_bit (by omega) g3] at h3
        rcases h3 with ⟨_, h3 | ⟨_, p, h4, h3⟩⟩ | ⟨h3, _⟩
        · simp at h3
        · rw [pow_bit] at h3; rw [tM_bit] at h4
          subst h3
          rcases h4 with h4 | h4
          · exact Or.inr (Or.inr (Or.inl (Or.inl ⟨j, j1, h4.symm, h2⟩)))
          · exact Or.inr (Or.inr (Or.inr (Or.inl ⟨j, j1, h4.symm, h2⟩)))
        · omega
      · subst c2
        rw [hT_2, hmk_bit (Nat.lt_of_lt_of_le (gc c c1).2.1 (pow_le_k g3)) g3] at h3
        rcases h3 with ⟨_, h3 | ⟨_, p, h4, h3⟩⟩ | ⟨h3, _⟩
        · exact Or.inr (Or.inl ⟨c, c1, h3, h2⟩)
        · rw [tM_bit] at h4
          rcases h4 with h4 | h4
          · subst h4; exact Or.inr (Or.inr (Or.inl (Or.inr ⟨c, c1, h3, h2⟩)))
          · subst h4; exact Or.inr (Or.inr (Or.inr (Or.inr ⟨c, c1, h3, h2⟩)))
        · omega
    · have cau : ∀ c p, c < l_c L → s.testBit (l_n L + l_k L + c) = false → ((l_X L c).testBit k = true ∨ ((tM L k).testBit p = true ∧ (l_Y L c).testBit p = true)) → ∃ t, t < l_M L ∧ s.testBit t = false ∧ (hT L t).testBit k = true := by
        intro c p h1 h3 h2
        refine ⟨_, by unfold l_M; omega, h3, ?_⟩
        rw [hT_2, hmk_bit (Nat.lt_of_lt_of_le (gc c h1).2.1 (pow_le_k g3)) g3]
        rcases h2 with h2 | h2
        · exact Or.inl ⟨by omega, Or.inl h2⟩
        · exact Or.inl ⟨by omega, Or.inr ⟨hk, p, h2⟩⟩
      have kee : ∀ j, j < l_k L → s.testBit (l_n L + j) = false → (tM L k).testBit (l_P L j) = true → ∃ t, t < l_M L ∧ s.testBit t = false ∧ (hT L t).testBit k = true := by
        intro j h1 h3 h2
        refine ⟨_, by unfold l_M; omega, h3, ?_⟩
        rw [hT_1 h1, hmk_bit (by omega) g3]
        exact Or.inl ⟨by omega, Or.inr ⟨hk, _, h2, by rw [pow_bit]⟩⟩
      rintro (h | ⟨c, h1, h2, h3⟩ | (⟨j, h1, h2, h3⟩ | ⟨c, h1, h2, h3⟩) | (⟨j, h1, h2, h3⟩ | ⟨c, h1, h2, h3⟩))
      · refine ⟨k, by unfold l_M; omega, h, ?_⟩
        rw [hT_0 hk, hmk_bit (Nat.pow_lt_pow_right (by decide) (by omega)) g3]
        exact Or.inl ⟨by omega, Or.inl (by rw [pow_bit])⟩
      · exact cau c 0 h1 h3 (Or.inl h2)
      · exact kee j h1 h3 (by rw [tM_bit]; exact Or.inl h2.symm)
      · exact cau c _ h1 h3 (Or.inr ⟨by rw [tM_bit]; exact Or.inl rfl, h2⟩)
      · exact kee j h1 h3 (by rw [tM_bit]; exact Or.inr h2.symm)
      · exact cau c _ h1 h3 (Or.inr ⟨by rw [tM_bit]; exact Or.inr rfl, h2⟩)
  cases e1 : (hmF (hT L) (l_M L) s).testBit k <;> cases e2 : opB L s k <;> simp_all
/-- and its places -/
theorem hm_place {L : Ld} (hL : lOk L) (s p : Nat) : (hmF (hT L) (l_M L) s).testBit (12 + p) = !stB L s p := by
  obtain ⟨⟨g1, g2, g3, g4, g5, g6⟩, gk, gj, gu, gc, gw⟩ := hL
  have key : (hmF (hT L) (l_M L) s).testBit (12 + p) = true ↔ stB L s p = false := by
    rw [hmF_bit, stB_f]
    have e : 12 + p - 12 = p := by omega
    constructor
    · rintro ⟨t, h1, h2, h3⟩
      rcases th_split h1 with h | ⟨j, j1, j2⟩ | ⟨c, c1, c2⟩
      · rw [hT_0 h, hmk_bit (Nat.pow_lt_pow_right (by decide) (by omega)) g3] at h3
        rcases h3 with ⟨h3, _⟩ | ⟨_, h3⟩
        · omega
        · simp at h3
      · subst j2
        rw [hT_1 j1, hmk_bit (by omega) g3, e] at h3
        rcases h3 with ⟨h3, _⟩ | ⟨_, h3⟩
        · omega
        · rw [pow_bit] at h3; exact Or.inl ⟨j, j1, h3, h2⟩
      · subst c2
        rw [hT_2, hmk_bit (Nat.lt_of_lt_of_le (gc c c1).2.1 (pow_le_k g3)) g3, e] at h3
        rcases h3 with ⟨h3, _⟩ | ⟨_, h3⟩
        · omega
        · exact Or.inr ⟨c, c1, h3, h2⟩
    · rintro (⟨j, h1, h2, h3⟩ | ⟨c, h1, h2, h3⟩)
      · refine ⟨_, by unfold l_M; omega, h3, ?_⟩
        rw [hT_1 h1, hmk_bit (by omega) g3, e]
        exact Or.inr ⟨by omega, by rw [pow_bit]; exact h2⟩
      · refine ⟨_, by unfold l_M; omega, h3, ?_⟩
        rw [hT_2, hmk_bit (Nat.lt_of_lt_of_le (gc c h1).2.1 (pow_le_k g3)) g3, e]
        exact Or.inr ⟨by omega, h2⟩
  cases e1 : (hmF (hT L) (l_M L) s).testBit (12 + p) <;> cases e2 : stB L s p <;> simp_all
/-- the lines open with a set, by what falls -/
theorem hm_open {L : Ld} (hL : lOk L) (s : Nat) : ndn (2 ^ l_n L - 1) (hmF (hT L) (l_M L) s) = opM L s false := by
  apply msk_ext (n := l_n L) (ndn_lt (by have := Nat.two_pow_pos (l_n L); omega)) (opM_lt0 L s)
  intro i hi
  rw [ndn_bit, all_bit, hm_line hL hi]
  have := opM_bit L s false i
  cases e1 : (opM L s false).testBit i <;> cases e2 : opB L s i <;> simp_all
theorem ned_iff {L : Ld} (hL : lOk L) (s : Nat) : ned L s ↔ ∀ p, (neM L).testBit p = true → stB L s p = true := by
  obtain ⟨⟨g1, g2, g3, g4, g5, g6⟩, gk, gj, gu, gc, gw1, gw2, gw3, gw4, gw5, gw6⟩ := hL
  unfold ned neM
  by_cases c1 : l_w L = 1
  · rw [if_pos c1]
    constructor
    · rintro ⟨h, _, _⟩ p hp
      rw [all_bit, decide_eq_true_eq] at hp
      exact h c1 p hp
    · intro h
      exact ⟨fun _ p hp => h p (by rw [all_bit]; simpa using hp), fun z => by omega, fun z => absurd c1 z⟩
  · rw [if_neg c1]
    by_cases c2 : l_w L = 2
    · rw [if_pos c2]
      constructor
      · rintro ⟨_, h, _⟩ p hp
        rw [pow_bit] at hp
        subst hp; exact h c2
      · intro h
        exact ⟨fun z => absurd z c1, fun _ => h _ (by rw [pow_bit]), fun _ z => absurd c2 z⟩
    · rw [if_neg c2]
      constructor
      · rintro ⟨_, _, h⟩ p hp
        rw [or2_bit] at hp
        rcases hp with hp | hp
        · subst hp; exact (h c1 c2).1
        · subst hp; exact (h c1 c2).2
      · intro h
        exact ⟨fun z => absurd z c1, fun z => absurd z c2, fun _ _ => ⟨h _ (by rw [or2_bit]; exact Or.inl rfl), h _ (by rw [or2_bit]; exact Or.inr rfl)⟩⟩
/-- it is through, by what falls -/
theorem hm_thr {L : Ld} (hL : lOk L) (s : Nat) : thB L s = true ↔ (hmF (hT L) (l_M L) s >>> 12 &&& neM L = 0 ∧ carB L (ndn (2 ^ l_n L - 1) (hmF (hT L) (l_M L) s)) = true) := by
  rw [thB_iff, carB_iff, hm_open hL]
  unfold thr
  have : hmF (hT L) (l_M L) s >>> 12 &&& neM L = 0 ↔ ned L s := by
    rw [ned_iff hL]
    have e : ∀ p, (hmF (hT L) (l_M L) s >>> 12).testBit p = !stB L s p := fun p => by rw [Nat.testBit_shiftRight, hm_place hL]
    constructor
    · intro h p hp
      cases hst : stB L s p with
      | true => rfl
      | false =>
        exfalso
        exact (and_ne0.mpr ⟨p, by rw [e, hst]; rfl, hp⟩) h
    · intro h
      apply Classical.byContradiction
      intro hne
      obtain ⟨p, h1, h2⟩ := and_ne0.mp hne
      rw [e, h p h2] at h1
      cases h1
  rw [this]
/-! weights -/
def wtF (h f : Nat → Nat) : Nat → Nat → Nat
  | 0, _ => 1
  | t + 1, s => wtF h f t s * (if s.testBit t = true then h t else f t)
theorem bit_hi {s t : Nat} (h : s < 2 ^ t) : (s + 2 ^ t).testBit t = true := by
  rw [Nat.add_comm, Nat.testBit_two_pow_add_eq]
  simp [tb_lt h (Nat.le_refl t)]
theorem bit_lo {s t i : Nat} (h : i < t) : (s + 2 ^ t).testBit i = s.testBit i := by
  rw [Nat.add_comm, Nat.testBit_two_pow_add_gt h]
theorem wtF_lo {h f : Nat → Nat} {s t : Nat} : ∀ n, n ≤ t → wtF h f n (s + 2 ^ t) = wtF h f n s
  | 0, _ => rfl
  | n + 1, hn => by rw [wtF, wtF, wtF_lo n (by omega), bit_lo (by omega)]
theorem hmF_lo {H : Nat → Nat} {s t : Nat} : ∀ n, n ≤ t → hmF H n (s + 2 ^ t) = hmF H n s
  | 0, _ => rfl
  | n + 1, hn => by rw [hmF, hmF, hmF_lo n (by omega), bit_lo (by omega)]
theorem wtF_le {h f : Nat → Nat} {n : Nat} (hh : ∀ t, t < n → h t ≤ 16 ∧ f t ≤ 16) (s : Nat) : wtF h f n s ≤ 16 ^ n := by
  induction n with
  | zero => exact Nat.le_refl 1
  | succ n ih =>
    rw [wtF, Nat.pow_succ]
    apply Nat.mul_le_mul (ih (fun t ht => hh t (by omega)))
    have := hh n (by omega)
    split <;> omega
/-- a row doubled up to j: G is the row that comes, F the one that was -/
def dbl {α : Type} (F G base : Nat → α) (half j : Nat) : Nat → α := fun k => if k < j then G k else if k < half then F k else if k < half + j then G k else base k
theorem dbl_0 {α : Type} (F G base : Nat → α) (half : Nat) : dbl F G base half 0 = fil F base half := by
  funext k
  unfold dbl fil
  by_cases h : k < half
  · simp [h]
  · simp [h]
theorem dbl_end {α : Type} (F G base : Nat → α) (half : Nat) : dbl F G base half half = fil G base (half + half) := by
  funext k
  unfold dbl fil
  by_cases h : k < half
  · have : k < half + half := by omega
    simp [h, this]
  · simp [h]
theorem dbl_lo {α : Type} {F G base : Nat → α} {half j : Nat} (h : j < half) : dbl F G base half j j = F j := by
  unfold dbl; simp [h]
theorem dbl_upd (F G base : Nat → Int32) {half j : Nat} (h : j < half) : upd (upd (dbl F G base half j) (j + half) (G (j + half))) j (G j) = dbl F G base half (j + 1) := by
  funext k
  unfold upd dbl
  by_cases h1 : k = j
  · subst h1; simp
  · by_cases h2 : k = j + half
    · subst h2
      rw [if_neg (by omega), if_pos rfl, if_neg (by omega), if_neg (by omega), if_pos (by omega)]
    · rw [if_neg h1, if_neg h2]
      by_cases h3 : k < j
      · rw [if_pos h3, if_pos (by omega)]
      · rw [if_neg h3, if_neg (show ¬ k < j + 1 by omega)]
        by_cases h4 : k < half
        · rw [if_pos h4, if_pos h4]
        · rw [if_neg h4, if_neg h4]
          by_cases h5 : k < half + j
          · rw [if_pos h5, if_pos (by omega)]
          · rw [if_neg h5, if_neg (by omega)]
theorem dbl_updL (F G base : Nat → Int64) {half j : Nat} (h : j < half) : vp_updL (vp_updL (dbl F G base half j) (j + half) (G (j + half))) j (G j) = dbl F G base half (j + 1) := by
  funext k
  unfold vp_updL dbl
  by_cases h1 : k = j
  · subst h1; simp
  · by_cases h2 : k = j + half
    · subst h2
      rw [if_neg (by omega), if_pos rfl, if_neg (by omega), if_neg (by omega), if_pos (by omega)]
    · rw [if_neg h1, if_neg h2]
      by_cases h3 : k < j
      · rw [if_pos h3, if_pos (by omega)]
      · rw [if_neg h3, if_neg (show ¬ k < j + 1 by omega)]
        by_cases h4 : k < half
        · rw [if_pos h4, if_pos h4]
        · rw [if_neg h4, if_neg h4]
          by_cases h5 : k < half + j
          · rw [if_pos h5, if_pos (by omega)]
          · rw [if_neg h5, if_neg (by omega)]
