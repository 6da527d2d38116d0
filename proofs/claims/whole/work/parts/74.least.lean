/-! ways and cuts, plainly -/
/-- the set that goes with a number: of a cut those that are not in it -/
def hol (L : Ld) (c : Bool) (s : Nat) : Nat := if c = true then ndn (2 ^ l_M L - 1) s else s
/-- one thing more fallen (of a way), or holding (of a cut) -/
def hol1 (L : Ld) (c : Bool) (s t : Nat) : Nat := if c = true then ndn (2 ^ l_M L - 1) s ||| 2 ^ t else ndn s (2 ^ t)
noncomputable def lea (L : Ld) (c : Bool) (s : Nat) : Bool := (thB L (hol L c s) != c) && alls (fun t => !s.testBit t || (thB L (hol1 L c s t) == c)) (l_M L)
/-- its chance -/
def val (L : Ld) (c : Bool) (s : Nat) : Nat := wtF (fun t => if c = true then 16 - cha L t else cha L t) (fun _ => 16) (l_M L) s
theorem val_le {L : Ld} (hL : lOk L) (c : Bool) (s : Nat) : val L c s ≤ 1152921504606846976 := by
  refine Nat.le_trans (wtF_le (fun t ht => ⟨?_, Nat.le_refl 16⟩) s) (pow16_le (lM_15 hL))
  have := cha_le hL ht
  split <;> omega
theorem hol_lt {L : Ld} {c : Bool} {s : Nat} (hs : s < 2 ^ l_M L) : hol L c s < 2 ^ l_M L := by
  unfold hol
  split
  · exact ndn_lt (by omega)
  · exact hs
theorem hol1_lt {L : Ld} {c : Bool} {s t : Nat} (hs : s < 2 ^ l_M L) (ht : t < l_M L) : hol1 L c s t < 2 ^ l_M L := by
  unfold hol1
  split
  · exact or_pow_lt (ndn_lt (by omega)) ht
  · exact ndn_lt hs
theorem xor_all {M s : Nat} (hs : s < 2 ^ M) : (2 ^ M - 1) ^^^ s = ndn (2 ^ M - 1) s := by
  apply Nat.eq_of_testBit_eq
  intro i
  rw [Nat.testBit_xor, ndn_bit, all_bit]
  rcases Nat.lt_or_ge i M with h | h
  · simp [h]
  · rw [tb_lt hs h]; simp
theorem hol_xor {L : Ld} {c : Bool} {s t : Nat} (hs : s < 2 ^ l_M L) (ht : t < l_M L) (hb : s.testBit t = true) : hol L c s ^^^ 2 ^ t = hol1 L c s t := by
  unfold hol hol1
  cases c with
  | true =>
    simp only [if_true]
    apply Nat.eq_of_testBit_eq
    intro i
    rw [Nat.testBit_xor, or_pow_bit, ndn_bit, all_bit, Nat.testBit_two_pow]
    by_cases e : t = i
    · subst e; simp [hb]
    · simp [e]
  | false =>
    simp only [Bool.false_eq_true, if_false]
    apply Nat.eq_of_testBit_eq
    intro i
    rw [Nat.testBit_xor, ndn_bit, Nat.testBit_two_pow]
    by_cases e : t = i
    · subst e; simp [hb]
    · simp [e]
/-- the place of a value among the first k told -/
def posF (V : Nat → Nat) (l : Nat → Nat) (v : Nat) : Nat → Nat
  | 0 => 0
  | k + 1 => if V (l k) < v then posF V l v k else k + 1
theorem posF_le (V l : Nat → Nat) (v : Nat) : ∀ k, posF V l v k ≤ k
  | 0 => Nat.le_refl 0
  | k + 1 => by
    have := posF_le V l v k
    unfold posF
    split <;> omega
/-- a set told: how many there are, how many are told, which -/
def insL (l : Nat → Nat) (k s : Nat) : Nat → Nat := fun j => if j < k then l j else if j = k then s else l (j - 1)
abbrev Ls : Type := Nat × Nat × (Nat → Nat)
noncomputable def lsS (L : Ld) (c : Bool) (s : Nat) (x : Ls) : Ls :=
  if lea L c s = true then (x.1 + 1, if posF (val L c) x.2.2 (val L c s) x.2.1 < 60 then (min (x.2.1 + 1) 60, insL x.2.2 (posF (val L c) x.2.2 (val L c s) x.2.1) s) else (x.2.1, x.2.2)) else x
noncomputable def lsF (L : Ld) (c : Bool) (n : Nat) : Ls := itf (lsS L c) (0, 0, fun _ => 0) n
theorem lsF_told (L : Ld) (c : Bool) (n : Nat) : (lsF L c n).2.1 ≤ 60 ∧ (lsF L c n).2.1 ≤ n ∧ (lsF L c n).1 ≤ n := by
  unfold lsF
  refine itf_ind (P := fun k (x : Ls) => x.2.1 ≤ 60 ∧ x.2.1 ≤ k ∧ x.1 ≤ k) ⟨Nat.zero_le _, Nat.le_refl _, Nat.le_refl _⟩ ?_
  intro i x _ ⟨h1, h2, h3⟩
  unfold lsS
  split
  · dsimp only
    split
    · dsimp only; omega
    · dsimp only; omega
  · omega
theorem lsF_set (L : Ld) (c : Bool) (n : Nat) : ∀ j, j < (lsF L c n).2.1 → (lsF L c n).2.2 j < n := by
  unfold lsF
  refine itf_ind (P := fun k (x : Ls) => ∀ j, j < x.2.1 → x.2.2 j < k) (fun j hj => by cases hj) ?_
  intro i x _ hx
  unfold lsS
  split
  · dsimp only
    have hp := posF_le (val L c) x.2.2 (val L c i) x.2.1
    generalize posF (val L c) x.2.2 (val L c i) x.2.1 = k at hp
    split
    · dsimp only
      intro j hj
      unfold insL
      split
      · have := hx j (by omega); omega
      · split
        · omega
        · have := hx (j - 1) (by omega); omega
    · dsimp only
      intro j hj
      have := hx j hj; omega
  · intro j hj
    have := hx j hj; omega
/-- the first of those told that is wholly in a set -/
def fstI (l : Nat → Nat) (h n : Nat) : Nat → Nat
  | 0 => n
  | k + 1 => if ndn (l (n - (k + 1))) h = 0 then n - (k + 1) else fstI l h n k
theorem fstI_le (l : Nat → Nat) (h n : Nat) : ∀ k, k ≤ n → fstI l h n k ≤ n
  | 0, _ => Nat.le_refl n
  | k + 1, hk => by
    have := fstI_le l h n k (by omega)
    unfold fstI
    split <;> omega
theorem fstI_spec (l : Nat → Nat) (h n m : Nat) : ∀ k, k ≤ n → (fstI l h n k < m ∧ fstI l h n k < n ↔ ∃ j, n - k ≤ j ∧ j < n ∧ j < m ∧ ndn (l j) h = 0)
  | 0, _ => by
    unfold fstI
    constructor
    · rintro ⟨_, h2⟩; omega
    · rintro ⟨j, h1, h2, _⟩; omega
  | k + 1, hk => by
    have ih := fstI_spec l h n m k (by omega)
    unfold fstI
    by_cases e : ndn (l (n - (k + 1))) h = 0
    · rw [if_pos e]
      constructor
      · rintro ⟨h1, h2⟩; exact ⟨n - (k + 1), Nat.le_refl _, h2, h1, e⟩
      · rintro ⟨j, h1, h2, h3, _⟩; omega
    · rw [if_neg e, ih]
      constructor
      · rintro ⟨j, h1, h2⟩; exact ⟨j, by omega, h2⟩
      · rintro ⟨j, h1, h2, h3, h4⟩
        refine ⟨j, ?_, h2, h3, h4⟩
        by_cases q : j = n - (k + 1)
        · subst q; exact absurd h4 e
        · omega
/-- the chance that some of the first m told holds (has fallen) -/
noncomputable def endF (L : Ld) (c : Bool) (m : Nat) : Nat := fb_sm (fun s => if fstI (lsF L c (2 ^ l_M L)).2.2 (hol L c s) (lsF L c (2 ^ l_M L)).2.1 (lsF L c (2 ^ l_M L)).2.1 < m ∧ fstI (lsF L c (2 ^ l_M L)).2.2 (hol L c s) (lsF L c (2 ^ l_M L)).2.1 (lsF L c (2 ^ l_M L)).2.1 < (lsF L c (2 ^ l_M L)).2.1 then wt L s else 0) (2 ^ l_M L)
/-- what one of those told has for itself -/
noncomputable def shaF (L : Ld) (c : Bool) (k n : Nat) : Nat := fb_sm (fun s => if fstI (lsF L c (2 ^ l_M L)).2.2 (hol L c s) (lsF L c (2 ^ l_M L)).2.1 (lsF L c (2 ^ l_M L)).2.1 = k then wt L s else 0) n
theorem sha_end (L : Ld) (c : Bool) : ∀ m, m ≤ (lsF L c (2 ^ l_M L)).2.1 → fb_sm (fun k => shaF L c k (2 ^ l_M L)) m = endF L c m
  | 0, _ => by unfold endF; exact (sm_zero (fun s _ => by simp)).symm
  | m + 1, hm => by
    rw [fb_sm_succ, sha_end L c m (by omega)]
    unfold endF shaF
    rw [← sm_add]
    apply fb_sm_cong
    intro s _
    generalize fstI (lsF L c (2 ^ l_M L)).2.2 (hol L c s) (lsF L c (2 ^ l_M L)).2.1 (lsF L c (2 ^ l_M L)).2.1 = f
    by_cases h1 : f < m
    · rw [if_pos ⟨h1, by omega⟩, if_neg (by omega), if_pos ⟨by omega, by omega⟩, Nat.add_zero]
    · by_cases h2 : f = m
      · rw [if_neg (by omega), if_pos h2, if_pos ⟨by omega, by omega⟩, Nat.zero_add]
      · rw [if_neg (by omega), if_neg h2, if_neg (by omega)]
