/-! the reference's ends -/
/-- one of the first m of the n told is wholly in a set -/
def hasB (l : Nat → Nat) (h k : Nat) : Bool := !alls (fun j => !(ndn (l j) h == 0)) k
theorem m_hasOne {S : wd_W} {c : Bool} {n m h : Nat} {l : Nat → Nat} (hn : n ≤ 60) (hm : m ≤ 60) (h25 : S.2.2.1 25 (b2n c) = nI n) (ha : mTo c n l (S.2.2.1 24)) (hl : ∀ j, j < n → l j < 32768) :
    f_X12_hasOne S (nI (b2n c)) (nI m) (nI h) = some (nI (b2n (hasB l h (min m n)))) := by
  have hsd := b2n_le c
  have key : ∀ k i, i + k = min m n → alls (fun j => !(ndn (l j) h == 0)) i = true → ∀ q, k < q → it1 (f_X12_hasOne_L6 S (nI (b2n c)) (nI m) (nI h)) q (nI (60 * b2n c + i)) = some (nI (b2n (hasB l h (min m n)))) := by
    intro k
    induction k with
    | zero =>
      intro i hi hall q hq
      obtain ⟨q, rfl⟩ : ∃ q', q = q' + 1 := ⟨q - 1, by omega⟩
      show f_X12_hasOne_L6 S _ _ _ _ (nI (60 * b2n c + i)) = _
      unfold f_X12_hasOne_L6
      have hmi : min m n = i := by omega
      have : hasB l h (min m n) = false := by unfold hasB; rw [hmi, hall]; rfl
      rw [this, gd_in (by omega) (by omega), nI_clamp (by omega), h25, li_60, pk_mul, nI_add, nI_add]
      by_cases z : n ≤ i
      · rw [if_pos (nI_le (by omega) (by omega))]; rfl
      · rw [if_neg (nI_ge (by omega) (by omega)), if_pos (nI_le (by omega) (by omega))]; rfl
    | succ k ihk =>
      intro i hi hall q hq
      obtain ⟨q, rfl⟩ : ∃ q', q = q' + 1 := ⟨q - 1, by omega⟩
      show f_X12_hasOne_L6 S _ _ _ (it1 (f_X12_hasOne_L6 S (nI (b2n c)) (nI m) (nI h)) q) (nI (60 * b2n c + i)) = _
      have hstep : alls (fun j => !(ndn (l j) h == 0)) (i + 1) = (alls (fun j => !(ndn (l j) h == 0)) i && !(ndn (l i) h == 0)) := rfl
      have ih2 := fun hall2 => ihk (i + 1) (by omega) hall2 q (by omega)
      generalize it1 (f_X12_hasOne_L6 S (nI (b2n c)) (nI m) (nI h)) q = r at ih2
      unfold f_X12_hasOne_L6
      have hnd : ndn (l i) h < 32768 := ndn_lt (n := 15) (hl i (by omega))
      rw [gd_in (by omega) (by omega), nI_clamp (by omega), h25, li_60, pk_mul, nI_add, nI_add, if_neg (nI_ge (by omega) (by omega)), if_neg (nI_ge (by omega) (by omega)), gd_in (by omega) (by omega), nI_clamp (by omega), ha i (by omega), oI_ndn, nI_1]
      by_cases e : ndn (l i) h = 0
      · rw [if_pos (by rw [e]; rfl)]
        have : hasB l h (min m n) = true := by
          unfold hasB
          have : alls (fun j => !(ndn (l j) h == 0)) (min m n) = false := alls_f.mpr ⟨i, by omega, by simp [e]⟩
          rw [this]; rfl
        rw [this]; rfl
      · rw [if_neg (by rw [oI_z (by omega)]; exact e), show 60 * b2n c + i + 1 = 60 * b2n c + (i + 1) by omega]
        exact ih2 (by rw [hstep, hall]; simp [e])
  unfold f_X12_hasOne
  rw [lz_eq, li_60, pk_mul]
  exact key (min m n) 0 (by omega) rfl fuel (by unfold fuel; omega)
theorem hasB_fst {l : Nat → Nat} {h n m : Nat} : hasB l h (min m n) = true ↔ fstI l h n n < m ∧ fstI l h n n < n := by
  rw [fstI_spec l h n m n (Nat.le_refl n)]
  unfold hasB
  rw [Bool.not_eq_true', alls_f]
  constructor
  · rintro ⟨j, h1, h2⟩
    exact ⟨j, by omega, by omega, by omega, by simpa using h2⟩
  · rintro ⟨j, _, h2, h3, h4⟩
    exact ⟨j, by omega, by simp [h4]⟩
noncomputable def endA (L : Ld) (c : Bool) (m : Nat) : Nat := if c = true then 16 ^ l_M L - endF L true m else endF L false m
theorem endF_le {L : Ld} (hL : lOk L) (c : Bool) (m : Nat) : endF L c m ≤ 16 ^ l_M L := by
  rw [← sm_wt16 hL]
  unfold endF
  apply fb_sm_le
  intro s _
  split <;> omega
theorem endA_sum {L : Ld} (hL : lOk L) (c : Bool) (m : Nat) : fb_sm (fun s => if (hasB (lsF L c (2 ^ l_M L)).2.2 (hol L c s) (min m (lsF L c (2 ^ l_M L)).2.1) != c) = true then wt L s else 0) (2 ^ l_M L) = endA L c m := by
  unfold endA
  cases c with
  | false =>
    rw [if_neg (by decide)]
    unfold endF
    apply fb_sm_cong
    intro s _
    have := hasB_fst (l := (lsF L false (2 ^ l_M L)).2.2) (h := hol L false s) (n := (lsF L false (2 ^ l_M L)).2.1) (m := m)
    generalize hasB (lsF L false (2 ^ l_M L)).2.2 (hol L false s) (min m (lsF L false (2 ^ l_M L)).2.1) = x at this
    cases x with
    | true => rw [if_pos (show (true != false) = true by decide), if_pos (this.mp rfl)]
    | false => rw [if_neg (show ¬ (false != false) = true by decide), if_neg (fun z => by have := this.mpr z; cases this)]
  | true =>
    rw [if_pos rfl]
    have h2 : fb_sm (fun s => if (hasB (lsF L true (2 ^ l_M L)).2.2 (hol L true s) (min m (lsF L true (2 ^ l_M L)).2.1) != true) = true then wt L s else 0) (2 ^ l_M L) + endF L true m = 16 ^ l_M L := by
      rw [← sm_wt16 hL]
      unfold endF
      rw [← sm_add]
      apply fb_sm_cong
      intro s _
      have := hasB_fst (l := (lsF L true (2 ^ l_M L)).2.2) (h := hol L true s) (n := (lsF L true (2 ^ l_M L)).2.1) (m := m)
      generalize hasB (lsF L true (2 ^ l_M L)).2.2 (hol L true s) (min m (lsF L true (2 ^ l_M L)).2.1) = x at this
      cases x with
      | true => rw [if_neg (show ¬ (true != true) = true by decide), if_pos (this.mp rfl), Nat.zero_add]
      | false => rw [if_pos (show (false != true) = true by decide), if_neg (fun z => by have := this.mpr z; cases this), Nat.add_zero]
    omega
