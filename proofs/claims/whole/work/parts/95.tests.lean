/-! the tests of arguments -/
theorem pI_of {p : Int32} (h : ¬ p < 0) : ∃ n, n < 2 ^ 31 ∧ p = nI n := by
  have h1 : ¬ p.toInt < (0 : Int32).toInt := fun z => h (Int32.lt_iff_toInt_lt.mpr z)
  have h0 : (0 : Int32).toInt = 0 := rfl
  have h2 := fb_rng p
  refine ⟨p.toInt.toNat, by omega, ?_⟩
  apply Int32.toInt_inj.mp
  rw [nI_toInt (by omega)]
  omega
theorem pI_lt0 {p : Int32} : p < 0 ↔ p.toInt < 0 := Int32.lt_iff_toInt_lt
theorem pI_leN {n : Nat} {p : Int32} (h : n < 2 ^ 31) : nI n ≤ p ↔ (n : Int) ≤ p.toInt := by rw [Int32.le_iff_toInt_le, nI_toInt h]
theorem pI_leP {n : Nat} {p : Int32} (h : n < 2 ^ 31) : p ≤ nI n ↔ p.toInt ≤ (n : Int) := by rw [Int32.le_iff_toInt_le, nI_toInt h]
theorem pI_ltN {n : Nat} {p : Int32} (h : n < 2 ^ 31) : nI n < p ↔ (n : Int) < p.toInt := by rw [Int32.lt_iff_toInt_lt, nI_toInt h]
theorem pI_ltP {n : Nat} {p : Int32} (h : n < 2 ^ 31) : p < nI n ↔ p.toInt < (n : Int) := by rw [Int32.lt_iff_toInt_lt, nI_toInt h]
theorem pI_m1 {n : Nat} (h : n < 2 ^ 31) : (nI n - (1 : Int32)).toInt = (n : Int) - 1 := by
  have h1 : (1 : Int32).toInt = 1 := rfl
  rw [fb_subI, nI_toInt h, h1] <;> rw [nI_toInt h, h1] <;> omega
/-- a number from lo to hi -/
def inB (lo hi : Int) (p : Int32) : Bool := decide (lo ≤ p.toInt ∧ p.toInt ≤ hi)
theorem inB_t {lo hi : Int} {p : Int32} (h0 : 0 ≤ lo) (h : inB lo hi p = true) : ∃ n : Nat, n < 2 ^ 31 ∧ p = nI n ∧ lo ≤ n ∧ (n : Int) ≤ hi := by
  unfold inB at h
  rw [decide_eq_true_eq] at h
  obtain ⟨n, h1, h2⟩ := pI_of (p := p) (by rw [pI_lt0]; omega)
  subst h2
  rw [nI_toInt h1] at h
  exact ⟨n, h1, rfl, h.1, h.2⟩
theorem inB_n {lo hi : Int} {n : Nat} (h : n < 2 ^ 31) : inB lo hi (nI n) = decide (lo ≤ n ∧ (n : Int) ≤ hi) := by unfold inB; rw [nI_toInt h]
theorem m_inB {lo hi : Int} {p : Int32} {x y : Int64} (hx : x.toInt = lo) (hy : y.toInt = hi) : f_X12_in p.toInt64 x y = some (nI (b2n (inB lo hi p))) := by
  rw [m_in]
  simp only [Int64.lt_iff_toInt_lt, Int32.toInt_toInt64, hx, hy]
  unfold inB
  by_cases c1 : p.toInt < lo
  · rw [if_pos c1, decide_eq_false (by omega)]; rfl
  · by_cases c2 : hi < p.toInt
    · rw [if_neg c1, if_pos c2, decide_eq_false (by omega)]; rfl
    · rw [if_neg c1, if_neg c2, decide_eq_true (by omega)]; rfl
theorem m_inN {a b : Nat} {p : Int32} (ha : a < 2 ^ 31) (hb : b < 2 ^ 31) : f_X12_in p.toInt64 (lN a) (lN b) = some (nI (b2n (inB a b p))) := m_inB (lN_tI (by omega)) (lN_tI (by omega))
/-- below a number of things, lines .. -/
theorem m_inM {n : Nat} {p : Int32} (hn : n < 2 ^ 31) : f_X12_in p.toInt64 (lN 0) (nI n - (1 : Int32)).toInt64 = some (nI (b2n (inB 0 ((n : Int) - 1) p))) :=
  m_inB (lN_tI (by omega)) (by rw [Int32.toInt_toInt64, pI_m1 hn])
/-- two places, unlike -/
def prB (N : Nat) (p1 p2 : Int32) : Bool := inB 0 ((N : Int) - 1) p1 && (inB 0 ((N : Int) - 1) p2 && !(decide (p1 = p2)))
theorem prB_t {N : Nat} {p1 p2 : Int32} (h : prB N p1 p2 = true) : ∃ a b : Nat, p1 = nI a ∧ p2 = nI b ∧ a < N ∧ b < N ∧ a ≠ b := by
  unfold prB at h
  simp only [Bool.and_eq_true, Bool.not_eq_true', decide_eq_false_iff_not] at h
  obtain ⟨h1, h2, h3⟩ := h
  obtain ⟨a, a1, a2, a3, a4⟩ := inB_t (by omega) h1
  obtain ⟨b, b1, b2, b3, b4⟩ := inB_t (by omega) h2
  refine ⟨a, b, a2, b2, by omega, by omega, fun e => h3 ?_⟩
  rw [a2, b2, e]
theorem m_areEndsB {S : wd_W} {N : Nat} {p1 p2 : Int32} (h20 : S.1 20 = nI N) (hN : N < 2 ^ 31) : f_X12_areEnds S p1 p2 = some (nI (b2n (prB N p1 p2))) := by
  unfold f_X12_areEnds prB
  rw [h20, lN_0, bd_s (m_inM hN), bd_s (m_inM hN)]
  cases inB 0 ((N : Int) - 1) p1 with
  | false => rfl
  | true =>
    rw [if_neg (show ¬ nI (b2n true) = 0 from n1_ne)]
    cases inB 0 ((N : Int) - 1) p2 with
    | false => rfl
    | true =>
      rw [if_neg (show ¬ nI (b2n true) = 0 from n1_ne)]
      by_cases c : p1 = p2
      · rw [if_pos c, decide_eq_true c]; rfl
      · rw [if_neg c, decide_eq_false c]; rfl
theorem x_isPair {S : wd_W} {N : Nat} {p1 p2 : Int32} (h : S.1 1600 = nI N) (hN : N < 2 ^ 31) : f_X11_isPair S p1 p2 = some (nI (b2n (prB N p1 p2))) := by
  unfold f_X11_isPair prB inB
  rw [h]
  simp only [pI_lt0, pI_leN hN]
  by_cases c1 : p1.toInt < 0
  · rw [if_pos c1, decide_eq_false (by omega)]; rfl
  rw [if_neg c1]
  by_cases c2 : (N : Int) ≤ p1.toInt
  · rw [if_pos c2, decide_eq_false (by omega)]; rfl
  rw [if_neg c2, decide_eq_true (show 0 ≤ p1.toInt ∧ p1.toInt ≤ (N : Int) - 1 by omega)]
  by_cases c3 : p2.toInt < 0
  · rw [if_pos c3, decide_eq_false (by omega)]; rfl
  rw [if_neg c3]
  by_cases c4 : (N : Int) ≤ p2.toInt
  · rw [if_pos c4, decide_eq_false (by omega)]; rfl
  rw [if_neg c4, decide_eq_true (show 0 ≤ p2.toInt ∧ p2.toInt ≤ (N : Int) - 1 by omega)]
  by_cases c : p1 = p2
  · rw [if_pos c, decide_eq_true c]; rfl
  · rw [if_neg c, decide_eq_false c]; rfl
theorem m_isThingB {S : wd_W} {M : Nat} {p : Int32} (h : S.1 32 = nI M) (hM : M < 2 ^ 31) : f_X12_isThing S p = some (nI (b2n (inB 0 ((M : Int) - 1) p))) := by
  unfold f_X12_isThing inB
  rw [h]
  simp only [pI_lt0, pI_leN hM]
  by_cases c1 : p.toInt < 0
  · rw [if_pos c1, decide_eq_false (by omega)]; rfl
  rw [if_neg c1]
  by_cases c2 : (M : Int) ≤ p.toInt
  · rw [if_pos c2, decide_eq_false (by omega)]; rfl
  rw [if_neg c2, decide_eq_true (by omega)]; rfl
theorem x_things {S : wd_W} {L : Ld} (h : xL S 16 L) : f_X2_things_q16 S = some (nI (l_M L)) := by
  obtain ⟨⟨l0, l1, l7, l10, _⟩, _⟩ := h
  unfold f_X2_things_q16
  rw [show S.1 1601 = nI (l_n L) from l1, show S.1 1607 = nI (l_k L) from l7, show S.1 1610 = nI (l_c L) from l10, nI_add, nI_add]
  rfl
theorem x_isThing {S : wd_W} {L : Ld} {p : Int32} (hL : lOk L) (h : xL S 16 L) : f_X11_isThing S p = some (nI (b2n (inB 0 ((l_M L : Int) - 1) p))) := by
  have hM := lM_15 hL
  unfold f_X11_isThing inB
  rw [bd_s (x_things (S := wd_o S [] [] [] [] []) h)]
  simp only [pI_lt0, pI_leN (show l_M L < 2 ^ 31 by omega)]
  by_cases c1 : p.toInt < 0
  · rw [if_pos c1, decide_eq_false (by omega)]; rfl
  rw [if_neg c1]
  by_cases c2 : (l_M L : Int) ≤ p.toInt
  · rw [if_pos c2, decide_eq_false (by omega)]; rfl
  rw [if_neg c2, decide_eq_true (by omega)]; rfl
/-- 16 to as many -/
theorem pw16 : ∀ n, n < 16 → (1 : Int64) <<< (((4 : Int32) * nI n).toInt64 &&& 63) = lN (16 ^ n) := by decide +kernel
theorem m_power {n : Nat} (h : n < 16) : f_X12_power (nI n) = some (lN (16 ^ n)) := by unfold f_X12_power; rw [pw16 n h]
theorem x_power {n : Nat} (h : n < 16) : f_X8_power (nI n) = some (lN (16 ^ n)) := by unfold f_X8_power; rw [pw16 n h]
/-- a chance of so many sixteenths or more -/
def atL (M v n : Nat) : Bool := if M = 0 then decide (n ≤ 16 * v) else decide (n * 16 ^ (M - 1) ≤ v)
theorem m_isAtLeast {S : wd_W} {M v n : Nat} (h : S.1 32 = nI M) (hM : M ≤ 15) (hv : v ≤ 16 ^ M) (hn : n ≤ 16) : f_X12_isAtLeast S (lN v) (nI n) = some (nI (b2n (atL M v n))) := by
  have p1 := pow16_le hM
  unfold f_X12_isAtLeast atL
  rw [h, nI_l (by omega)]
  by_cases c : M = 0
  · subst c
    rw [if_pos (show nI 0 = 0 from rfl), if_pos rfl, show (16 : Int64) = lN 16 from rfl, lN_mul]
    have hv : v ≤ 1 := hv
    simp only [lN_ltL (show 16 * v < 2 ^ 63 by omega) (show n < 2 ^ 63 by omega)]
    by_cases d : 16 * v < n
    · rw [if_pos d, decide_eq_false (by omega)]; rfl
    · rw [if_neg d, decide_eq_true (by omega)]; rfl
  · have p2 := pow16_le (n := M - 1) (by omega)
    have p3 : 16 ^ M = 16 * 16 ^ (M - 1) := by rw [← Nat.pow_succ']; congr 1; omega
    have p4 : n * 16 ^ (M - 1) ≤ 16 * 16 ^ (M - 1) := Nat.mul_le_mul_right _ hn
    rw [if_neg (fun z => c ((oI_z (by omega)).mp z)), if_neg c, show nI M - (1 : Int32) = nI (M - 1) from oI_sub1 (by omega), bd_s (m_power (by omega)), lN_mul]
    simp only [lN_ltL (show v < 2 ^ 63 by omega) (show n * 16 ^ (M - 1) < 2 ^ 63 by omega)]
    by_cases d : v < n * 16 ^ (M - 1)
    · rw [if_pos d, decide_eq_false (by omega)]; rfl
    · rw [if_neg d, decide_eq_true (by omega)]; rfl
theorem x_isSixteenths {M v n : Nat} (hM : M ≤ 15) (hv : v ≤ 16 ^ M) (hn : n ≤ 16) : f_X8_isSixteenths (lN v) (nI n) (nI M) = some (nI (b2n (atL M v n))) := by
  have p1 := pow16_le hM
  unfold f_X8_isSixteenths atL
  rw [nI_l (by omega)]
  by_cases c : M = 0
  · subst c
    rw [if_pos (show nI 0 = 0 from rfl), if_pos rfl, show (16 : Int64) = lN 16 from rfl, lN_mul, Nat.mul_comm v 16]
    have hv : v ≤ 1 := hv
    simp only [lN_ltL (show 16 * v < 2 ^ 63 by omega) (show n < 2 ^ 63 by omega)]
    by_cases d : 16 * v < n
    · rw [if_pos d, decide_eq_false (by omega)]; rfl
    · rw [if_neg d, decide_eq_true (by omega)]; rfl
  · have p2 := pow16_le (n := M - 1) (by omega)
    have p3 : 16 ^ M = 16 * 16 ^ (M - 1) := by rw [← Nat.pow_succ']; congr 1; omega
    have p4 : n * 16 ^ (M - 1) ≤ 16 * 16 ^ (M - 1) := Nat.mul_le_mul_right _ hn
    rw [if_neg (fun z => c ((oI_z (by omega)).mp z)), if_neg c, show nI M - (1 : Int32) = nI (M - 1) from oI_sub1 (by omega), bd_s (x_power (by omega)), lN_mul]
    simp only [lN_ltL (show v < 2 ^ 63 by omega) (show n * 16 ^ (M - 1) < 2 ^ 63 by omega)]
    by_cases d : v < n * 16 ^ (M - 1)
    · rw [if_pos d, decide_eq_false (by omega)]; rfl
    · rw [if_neg d, decide_eq_true (by omega)]; rfl
