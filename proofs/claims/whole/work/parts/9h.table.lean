/-! tables over sets of lines -/
theorem b2n_mul (b : Bool) (x : Nat) : (if b = true then x else 0) = b2n b * x := by cases b <;> simp [b2n]
/-- what all other things make of a set of lines -/
noncomputable def Bq (L : Ld) (k : Nat) : Nat := fb_sm (fun u => b2n (thB L (k + u * 2 ^ l_n L)) * pdF (cha L) (fun t => 16 - cha L t) (l_n L) (u * 2 ^ l_n L) (l_M L - l_n L)) (2 ^ (l_M L - l_n L))
theorem sh_bit (u n i : Nat) : (u * 2 ^ n).testBit (n + i) = u.testBit i := by
  rw [Nat.testBit_mul_two_pow]
  simp
theorem pdF_lo {h f : Nat → Nat} {n u j : Nat} (hu : u < 2 ^ j) : pdF h f n (u * 2 ^ n) (j + 1) = pdF h f n (u * 2 ^ n) j * f (n + j) := by
  rw [pdF, sh_bit, tb_lt hu (Nat.le_refl j), if_neg (by decide)]
theorem pdF_same {h f : Nat → Nat} {n u j : Nat} : ∀ i, i ≤ j → pdF h f n ((u + 2 ^ j) * 2 ^ n) i = pdF h f n (u * 2 ^ n) i
  | 0, _ => rfl
  | i + 1, hi => by rw [pdF, pdF, pdF_same i (by omega), sh_bit, sh_bit, bit_lo (by omega)]
theorem pdF_hi {h f : Nat → Nat} {n u j : Nat} (hu : u < 2 ^ j) : pdF h f n ((u + 2 ^ j) * 2 ^ n) (j + 1) = pdF h f n (u * 2 ^ n) j * h (n + j) := by
  rw [pdF, sh_bit, bit_hi hu, if_pos rfl, pdF_same j (Nat.le_refl j)]
theorem tb_split (h f : Nat → Nat) (n : Nat) : ∀ (j : Nat) (G : Nat → Nat), fb_sm (fun s => G s * wtF h f (n + j) s) (2 ^ (n + j)) = fb_sm (fun k => wtF h f n k * fb_sm (fun u => G (k + u * 2 ^ n) * pdF h f n (u * 2 ^ n) j) (2 ^ j)) (2 ^ n)
  | 0, G => by
    rw [Nat.add_zero]
    apply fb_sm_cong
    intro k _
    rw [Nat.pow_zero, fb_sm_succ]
    show G k * wtF h f n k = wtF h f n k * (0 + G (k + 0 * 2 ^ n) * 1)
    rw [Nat.zero_mul, Nat.add_zero, Nat.zero_add, Nat.mul_one, Nat.mul_comm]
  | j + 1, G => by
    have e : fb_sm (fun s => G s * wtF h f (n + (j + 1)) s) (2 ^ (n + (j + 1))) = fb_sm (fun s => (f (n + j) * G s + h (n + j) * G (s + 2 ^ (n + j))) * wtF h f (n + j) s) (2 ^ (n + j)) := by
      show fb_sm (fun s => G s * wtF h f (n + j + 1) s) (2 ^ (n + j + 1)) = _
      rw [sm_top]
      apply fb_sm_cong
      intro s hs
      rw [wtF_low hs, wtF_hi hs, Nat.add_mul]
      congr 1
      · rw [Nat.mul_comm (wtF h f (n + j) s), ← Nat.mul_assoc, Nat.mul_comm (G s)]
      · rw [Nat.mul_comm (wtF h f (n + j) s), ← Nat.mul_assoc, Nat.mul_comm (G (s + 2 ^ (n + j)))]
    rw [e, tb_split h f n j]
    apply fb_sm_cong
    intro k _
    congr 1
    rw [sm_top]
    apply fb_sm_cong
    intro u hu
    rw [pdF_lo hu, pdF_hi hu, Nat.add_mul]
    have e2 : k + (u + 2 ^ j) * 2 ^ n = k + u * 2 ^ n + 2 ^ (n + j) := by rw [Nat.add_mul, Nat.pow_add, Nat.mul_comm (2 ^ j)]; omega
    rw [e2]
    congr 1
    · rw [Nat.mul_comm (pdF h f n (u * 2 ^ n) j), ← Nat.mul_assoc, Nat.mul_comm (f (n + j))]
    · rw [Nat.mul_comm (pdF h f n (u * 2 ^ n) j), ← Nat.mul_assoc, Nat.mul_comm (h (n + j))]
theorem pdF_congr {h f h' f' : Nat → Nat} {n s : Nat} : ∀ j, (∀ i, i < j → h (n + i) = h' (n + i) ∧ f (n + i) = f' (n + i)) → pdF h f n s j = pdF h' f' n s j
  | 0, _ => rfl
  | j + 1, hc => by rw [pdF, pdF, pdF_congr j (fun i hi => hc i (by omega)), (hc j (by omega)).1, (hc j (by omega)).2]
theorem lnM (L : Ld) : l_n L + (l_M L - l_n L) = l_M L := by unfold l_M; omega
/-- the chance by the lines' weights alone -/
theorem tgt_B {L : Ld} {h f : Nat → Nat} (hh : ∀ t, l_n L ≤ t → t < l_M L → h t = cha L t ∧ f t = 16 - cha L t) : tgt L h f = fb_sm (fun k => wtF h f (l_n L) k * Bq L k) (2 ^ l_n L) := by
  unfold tgt
  have e := tb_split h f (l_n L) (l_M L - l_n L) (fun s => b2n (thB L s))
  rw [lnM] at e
  rw [fb_sm_cong (g := fun s => b2n (thB L s) * wtF h f (l_M L) s) (fun s _ => b2n_mul _ _), e]
  apply fb_sm_cong
  intro k _
  unfold Bq
  congr 1
  apply fb_sm_cong
  intro u _
  congr 1
  exact pdF_congr _ (fun i hi => hh _ (by omega) (by omega))
/-- with a set of lines built -/
def blH (L : Ld) (k t : Nat) : Nat := if t < l_n L ∧ k.testBit t = false then 0 else cha L t
def blF (L : Ld) (k t : Nat) : Nat := if t < l_n L ∧ k.testBit t = false then 16 else 16 - cha L t
noncomputable def bltN (L : Ld) (k : Nat) : Nat := tgt L (blH L k) (blF L k)
theorem bltN_B (L : Ld) (k : Nat) : bltN L k = fb_sm (fun j => wtF (blH L k) (blF L k) (l_n L) j * Bq L j) (2 ^ l_n L) :=
  tgt_B (fun t h1 _ => by unfold blH blF; rw [if_neg (fun z => by omega), if_neg (fun z => by omega)]; exact ⟨rfl, rfl⟩)
/-- the table while lines are built or not, one by one -/
noncomputable def btT (L : Ld) : Nat → Nat → Nat
  | 0, k => Bq L k
  | i + 1, k => if k.testBit i = true then cha L i * btT L i k + (16 - cha L i) * btT L i (ndn k (2 ^ i)) else 16 * btT L i k
/-- a number without its bits below i -/
def hiP (k i : Nat) : Nat := k / 2 ^ i * 2 ^ i
theorem hiP_bit (k i j : Nat) : (hiP k i).testBit j = (decide (i ≤ j) && k.testBit j) := by
  unfold hiP
  rw [Nat.testBit_mul_two_pow, Nat.testBit_div_two_pow]
  by_cases h : i ≤ j
  · simp [h]
  · simp [h]
theorem hiP_or {k i j : Nat} (hj : j < 2 ^ i) : j + hiP k i = j ||| hiP k i := by
  unfold hiP
  rw [Nat.mul_comm, Nat.add_comm, Nat.two_pow_add_eq_or_of_lt hj, Nat.or_comm]
theorem wt_bl {L : Ld} {k k' : Nat} : ∀ n s, n ≤ l_n L → (∀ i, i < n → k.testBit i = k'.testBit i) → wtF (blH L k) (blF L k) n s = wtF (blH L k') (blF L k') n s := by
  intro n s _ h
  apply wtF_congr
  intro t ht
  unfold blH blF
  rw [h t ht]
  exact ⟨rfl, rfl⟩
theorem btT_eq (L : Ld) : ∀ i k, i ≤ l_n L → btT L i k = fb_sm (fun j => wtF (blH L k) (blF L k) i j * Bq L (j + hiP k i)) (2 ^ i)
  | 0, k, _ => by
    rw [btT, Nat.pow_zero, fb_sm_succ]
    show _ = 0 + 1 * Bq L (0 + hiP k 0)
    have : hiP k 0 = k := by unfold hiP; rw [Nat.pow_zero, Nat.div_one, Nat.mul_one]
    rw [this, Nat.zero_add, Nat.zero_add, Nat.one_mul]
  | i + 1, k, hi => by
    rw [btT, sm_top]
    by_cases hb : k.testBit i = true
    · have h1 : hiP k i = 2 ^ i + hiP k (i + 1) := by
        rw [Nat.add_comm]
        have e : hiP k (i + 1) + 2 ^ i = hiP k (i + 1) ||| 2 ^ i := by
          have := hiP_or (k := k) (i := i + 1) (j := 2 ^ i) (Nat.pow_lt_pow_right (by decide) (by omega))
          rw [Nat.add_comm, this, Nat.or_comm]
        rw [e]
        apply Nat.eq_of_testBit_eq
        intro j
        rw [hiP_bit, or_pow_bit, hiP_bit]
        by_cases c : i = j
        · subst c; simp [hb]
        · by_cases d : i ≤ j
          · have : i + 1 ≤ j := by omega
            simp [c, d, this]
          · have : ¬ i + 1 ≤ j := by omega
            simp [c, d, this]
      have h2 : hiP (ndn k (2 ^ i)) i = hiP k (i + 1) := by
        apply Nat.eq_of_testBit_eq
        intro j
        rw [hiP_bit, hiP_bit, ndn_bit, Nat.testBit_two_pow]
        by_cases c : i = j
        · subst c; simp; intro q; omega
        · by_cases d : i ≤ j
          · have : i + 1 ≤ j := by omega
            simp [c, d, this]
          · have : ¬ i + 1 ≤ j := by omega
            simp [d, this]
      rw [if_pos hb, btT_eq L i k (by omega), btT_eq L i (ndn k (2 ^ i)) (by omega), h1, h2, ← sm_mul, ← sm_mul, ← sm_add]
      apply fb_sm_cong
      intro j hj
      rw [wtF_low hj, wtF_hi hj]
      have w : wtF (blH L (ndn k (2 ^ i))) (blF L (ndn k (2 ^ i))) i j = wtF (blH L k) (blF L k) i j := wt_bl i j (by omega) (fun t ht => by
        rw [ndn_bit, Nat.testBit_two_pow]
        have : ¬ i = t := by omega
        simp [this])
      have hH : blH L k i = cha L i := by unfold blH; rw [hb]; simp
      have hF : blF L k i = 16 - cha L i := by unfold blF; rw [hb]; simp
      rw [w, hH, hF, Nat.add_assoc j (2 ^ i)]
      generalize wtF (blH L k) (blF L k) i j = W
      rw [Nat.add_comm]
      congr 1
      · rw [Nat.mul_left_comm, ← Nat.mul_assoc]
      · rw [Nat.mul_left_comm, ← Nat.mul_assoc]
    · have hb : k.testBit i = false := by simpa using hb
      have h1 : hiP k i = hiP k (i + 1) := by
        apply Nat.eq_of_testBit_eq
        intro j
        rw [hiP_bit, hiP_bit]
        by_cases c : i = j
        · subst c; simp [hb]
        · by_cases d : i ≤ j
          · have : i + 1 ≤ j := by omega
            simp [d, this]
          · have : ¬ i + 1 ≤ j := by omega
            simp [d, this]
      rw [hb, if_neg (by decide), btT_eq L i k (by omega), h1, ← sm_mul]
      apply fb_sm_cong
      intro j hj
      rw [wtF_low hj, wtF_hi hj]
      have hH : blH L k i = 0 := by unfold blH; rw [if_pos ⟨by omega, hb⟩]
      have hF : blF L k i = 16 := by unfold blF; rw [if_pos ⟨by omega, hb⟩]
      rw [hH, hF, Nat.mul_zero, Nat.zero_mul, ← Nat.mul_assoc, Nat.mul_comm 16]
      exact (Nat.add_zero _).symm
theorem btT_all {L : Ld} {k : Nat} (hk : k < 2 ^ l_n L) : btT L (l_n L) k = bltN L k := by
  rw [btT_eq L _ k (Nat.le_refl _), bltN_B]
  apply fb_sm_cong
  intro j _
  have : hiP k (l_n L) = 0 := by unfold hiP; rw [Nat.div_eq_of_lt hk, Nat.zero_mul]
  rw [this, Nat.add_zero]
theorem bltN_le {L : Ld} (hL : lOk L) (k : Nat) : bltN L k ≤ 16 ^ l_M L := by
  unfold bltN tgt
  have : fb_sm (wtF (blH L k) (blF L k) (l_M L)) (2 ^ l_M L) = 16 ^ l_M L := sm_wt (l_M L) (fun t ht => by
    have := cha_le hL ht
    unfold blH blF
    split <;> omega)
  rw [← this]
  apply fb_sm_le
  intro s _
  split
  · exact Nat.le_refl _
  · exact Nat.zero_le _
