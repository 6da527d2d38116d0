/-! the reference's tape -/
def MTa (S : wd_W) (n : Nat) (t : Nat → Nat) : Prop := S.1 1 = nI n ∧ n ≤ 400 ∧ ∀ i, i < n → t i < 256 ∧ S.2.2.1 1 i = sby (t i)
theorem sby_32 : ∀ x, x < 256 → (sby x = 32 ↔ x = 32) := by decide +kernel
theorem sby_255 : ∀ x, x < 256 → sby x &&& (255 : Int32) = nI x := by decide +kernel
theorem sby_lt : ∀ x, x < 256 → ((sby x < 97 ∨ 122 < sby x) ↔ ¬ (97 ≤ x ∧ x ≤ 122)) := by decide +kernel
theorem sby_dg : ∀ x, x < 256 → ((sby x < 48 ∨ 57 < sby x) ↔ ¬ (48 ≤ x ∧ x ≤ 57)) := by decide +kernel
theorem sby_id : ∀ x, x < 128 → sby x = nI x := by decide +kernel
def seeA (t : Nat → Nat) (n q : Nat) : Int32 := if n ≤ q then -1 else nI (t q)
theorem m_see {S : wd_W} {n p : Nat} {t : Nat → Nat} (ht : MTa S n t) (h : S.1 17 = nI p) (hp : p ≤ n) : f_X12_see S = some (seeA t n (wB t n p), nI (wB t n p)) := by
  obtain ⟨h0, h4, hr⟩ := ht
  have hq : run (isBl t) n p ≤ n := run_le hp
  apply ok_e
  unfold f_X12_see
  rw [h]
  unfold wB
  refine ok_lk1 (fun x => x = nI (run (isBl t) n p)) (fun K hK => ?_) ?_
  · refine ok_up (W := fun m i (_ : Unit) => it1 (f_X12_see_L0 S K) m (nI i)) (I := fun i _ => run (isBl t) n p = run (isBl t) n i) (e := n) ?_ ?_ fuel p () hp rfl (by unfold fuel; omega)
    · intro m _ hI
      show Ok (f_X12_see_L0 S K _ (nI n)) _
      unfold f_X12_see_L0
      rw [h0, if_pos (nI_le (Nat.le_refl _) (by omega))]
      refine hK _ ?_
      rw [hI, run_eq, if_neg (fun z => Nat.lt_irrefl n z.1)]
    · intro m i _ hi hI ih
      show Ok (f_X12_see_L0 S K (it1 _ m) (nI i)) _
      generalize it1 (f_X12_see_L0 S K) m = r at ih
      have hb := (hr i hi).1
      unfold f_X12_see_L0
      rw [h0, if_neg (nI_ge hi (by omega)), gd_in (by omega) (by omega), nI_clamp (by omega), (hr i hi).2, nI_1]
      rw [run_eq (isBl t) n i] at hI
      refine ok_ite (fun c => ?_) (fun c => ?_)
      · rw [sby_32 _ hb] at c
        rw [if_pos ⟨hi, decide_eq_true c⟩] at hI
        exact ok_lz (ih () hI)
      · rw [sby_32 _ hb] at c
        rw [if_neg (fun z => c (of_decide_eq_true z.2))] at hI
        exact hK _ (by rw [hI])
  · rintro _ rfl
    rw [h0]
    unfold seeA
    refine ok_ite (fun c => ?_) (fun c => ?_)
    · rw [nI_leI (by omega) (by omega)] at c
      rw [if_pos c]; exact ok_some rfl
    · rw [nI_leI (by omega) (by omega)] at c
      rw [if_neg c, gd_in (by omega) (by omega), nI_clamp (by omega), (hr _ (by omega)).2, sby_255 _ (hr _ (by omega)).1]
      exact ok_some rfl
theorem m_isDigit {S : wd_W} {n q : Nat} {t : Nat → Nat} (ht : MTa S n t) (h : S.1 17 = nI q) (hq : q ≤ n) : f_X12_isDigit S = some (nI (b2n (decide (q < n) && isDg t q))) := by
  obtain ⟨h0, h4, hr⟩ := ht
  apply ok_e
  unfold f_X12_isDigit
  rw [h0, h]
  refine ok_ite (fun c => ?_) (fun c => ?_)
  · rw [nI_leI (by omega) (by omega)] at c
    rw [decide_eq_false (by omega)]; exact ok_some rfl
  · rw [nI_leI (by omega) (by omega)] at c
    have hb := (hr q (by omega)).1
    have hd := sby_dg _ hb
    rw [decide_eq_true (show q < n by omega), gd_in (by omega) (by omega), gd_in (by omega) (by omega), nI_clamp (by omega), (hr q (by omega)).2]
    unfold isDg
    refine ok_ite (fun d => ?_) (fun d => ok_ite (fun d2 => ?_) (fun d2 => ?_))
    · rw [decide_eq_false (hd.mp (Or.inl d))]; exact ok_some rfl
    · rw [decide_eq_false (hd.mp (Or.inr d2))]; exact ok_some rfl
    · rw [decide_eq_true (Classical.byContradiction fun z => by rcases hd.mpr z with w | w; exact d w; exact d2 w)]; exact ok_some rfl
theorem m_fails {S : wd_W} {q k : Nat} {p1 : Int32} (h1 : p1 = nI k) (h18 : S.1 18 = nI 0) : f_X12_fails S p1 (nI q) = some (0, nI (flt q k)) := by
  subst h1
  unfold f_X12_fails
  rw [h18, if_pos (show nI 0 = 0 from rfl), li_1, li_8, nI_mulR, nI_add, nI_add, lz_eq]
  rfl
/-! words, as the reference tells them -/
theorem lN_shl8 (v : Nat) : lN v <<< ((8 : Int32).toInt64 &&& 63) = lN (v * 256) := by
  apply Int64.toBitVec_inj.1
  rw [Int64.toBitVec_shiftLeft]
  have e : (((8 : Int32).toInt64 &&& 63).toBitVec.smod 64) = 8#64 := by decide
  rw [e]
  show BitVec.ofNat 64 v <<< (8#64).toNat = BitVec.ofNat 64 (v * 256)
  apply BitVec.eq_of_toNat_eq
  rw [BitVec.toNat_shiftLeft, BitVec.toNat_ofNat, BitVec.toNat_ofNat, BitVec.toNat_ofNat, show 8 % 2 ^ 64 = 8 from rfl, Nat.shiftLeft_eq, show 2 ^ 8 = 256 from rfl]
  omega
theorem lN_or (a b : Nat) : lN a ||| lN b = lN (a ||| b) := by
  apply Int64.toBitVec_inj.1
  show BitVec.ofNat 64 a ||| BitVec.ofNat 64 b = BitVec.ofNat 64 (a ||| b)
  apply BitVec.eq_of_getLsbD_eq
  intro i hi
  rw [BitVec.getLsbD_or, BitVec.getLsbD_ofNat, BitVec.getLsbD_ofNat, BitVec.getLsbD_ofNat, Nat.testBit_or]
  simp [hi]
theorem or_256 {v b : Nat} (hb : b < 256) : (v * 256) ||| b = v * 256 + b := by
  have := Nat.two_pow_add_eq_or_of_lt (i := 8) (b := b) (by omega) v
  rw [show (256 : Nat) = 2 ^ 8 from rfl, Nat.mul_comm v (2 ^ 8)]
  exact this.symm
theorem wcd_lt {t : Nat → Nat} {q : Nat} : ∀ k, (∀ j, j < k → t (q + j) < 256) → wcd (rwd t q k) < 256 ^ k
  | 0, _ => Nat.lt_add_one 0
  | k + 1, hk => by
    have a := wcd_lt k (fun j hj => hk j (by omega))
    have b := hk k (by omega)
    rw [rwd, wcd, Nat.pow_succ]
    omega
def isWB (t : Nat → Nat) (n p w : Nat) : Bool := decide (0 < wE t n p - wB t n p ∧ wE t n p - wB t n p < 8 ∧ wcd (rwd t (wB t n p) (wE t n p - wB t n p)) = w)
theorem m_isWord {S : wd_W} {n p w : Nat} {t : Nat → Nat} (ht : MTa S n t) (h : S.1 17 = nI p) (hp : p ≤ n) (hw : w < 2 ^ 62) : f_X12_isWord S (lN w) = some (nI (b2n (isWB t n p w)), nI (wB t n p)) := by
  apply ok_e
  unfold f_X12_isWord
  rw [bd_s (m_see (S := wd_o S [(17, (S.1 17))] [] [] [] []) ht h hp)]
  obtain ⟨h0, h4, hr⟩ := ht
  have hq : wB t n p ≤ n := run_le hp
  unfold isWB wE
  generalize wB t n p = q at hq
  have hqe : q ≤ run (isLt t) n q := run_ge _ _ _
  have hen : run (isLt t) n q ≤ n := run_le hq
  refine ok_lk2 (fun x2 x3 => x3 = nI (run (isLt t) n q - q) ∧ (run (isLt t) n q - q < 8 → x2 = lN (wcd (rwd t q (run (isLt t) n q - q))))) (fun K hK => ?_) ?_
  · rw [li_0, lN_0]
    refine ok_up (W := fun m i (v : Int64) => it2 (f_X12_isWord_L10 S (seeA t n q, nI q) K) m v (nI i)) (I := fun i v => run (isLt t) n q = run (isLt t) n (q + i) ∧ (i < 8 → v = lN (wcd (rwd t q i)))) (e := n - q) ?_ ?_ fuel 0 (lN 0) (Nat.zero_le _) ⟨rfl, fun _ => rfl⟩ (by unfold fuel; omega)
    · intro m v hI
      show Ok (f_X12_isWord_L10 S (seeA t n q, nI q) K _ v (nI (n - q))) _
      unfold f_X12_isWord_L10
      dsimp only
      rw [h0, nI_add, if_pos (nI_le (by omega) (by omega))]
      have e : run (isLt t) n q = n := by rw [hI.1, show q + (n - q) = n by omega, run_eq, if_neg (fun z => Nat.lt_irrefl n z.1)]
      rw [e]
      rw [e] at hK
      exact hK _ _ ⟨rfl, hI.2⟩
    · intro m i v hi hI ih
      show Ok (f_X12_isWord_L10 S (seeA t n q, nI q) K (it2 _ m) v (nI i)) _
      generalize it2 (f_X12_isWord_L10 S (seeA t n q, nI q) K) m = r at ih
      have hb := (hr (q + i) (by omega)).1
      have hd := sby_lt _ hb
      unfold f_X12_isWord_L10
      dsimp only
      rw [h0, nI_add, if_neg (nI_ge (by omega) (by omega)), gd_in (by omega) (by omega), gd_in (by omega) (by omega), nI_clamp (by omega), (hr (q + i) (by omega)).2, nI_1]
      have stop : ¬ isLt t (q + i) = true → Ok (K v (nI i)) _ := fun z => by
        have e := hI.1
        rw [run_eq (isLt t) n (q + i), if_neg (fun y => z y.2)] at e
        refine hK _ _ ⟨by rw [e, Nat.add_sub_cancel_left], fun h8 => ?_⟩
        rw [e, Nat.add_sub_cancel_left] at h8 ⊢
        exact hI.2 h8
      refine ok_ite (fun c => stop (fun z => (hd.mp (Or.inl c)) (of_decide_eq_true z))) (fun c => ok_ite (fun d => stop (fun z => (hd.mp (Or.inr d)) (of_decide_eq_true z))) (fun d => ?_))
      have hl : 97 ≤ t (q + i) ∧ t (q + i) ≤ 122 := Classical.byContradiction fun z => by rcases hd.mpr z with w | w; exact c w; exact d w
      have hrun : run (isLt t) n q = run (isLt t) n (q + (i + 1)) := by
        rw [hI.1, run_eq (isLt t) n (q + i), if_pos ⟨by omega, decide_eq_true hl⟩]
        rfl
      refine ok_lk1 (fun x => i + 1 < 8 → x = lN (wcd (rwd t q (i + 1)))) (fun K2 hK2 => ?_) (fun x hx => ih x ⟨hrun, hx⟩)
      refine ok_ite (fun y => hK2 _ (fun z => ?_)) (fun y => ?_)
      · rw [li_8, nI_leI (by omega) (by omega)] at y
        omega
      · rw [li_8, nI_leI (by omega) (by omega)] at y
        rw [gd_in (by omega) (by omega), sby_id _ (by omega), nI_l (by omega), hI.2 (by omega), lN_shl8, lN_or, or_256 hb]
        exact ok_lz (hK2 _ (fun _ => rfl))
  · rintro x2 x3 ⟨rfl, hx⟩
    have hk : q + (run (isLt t) n q - q) ≤ n := by omega
    generalize run (isLt t) n q - q = k at hx hk
    have no : ¬ (0 < k ∧ k < 8 ∧ wcd (rwd t q k) = w) → Ok (some ((0 : Int32), nI q)) (fun o => o = (nI (b2n (decide (0 < k ∧ k < 8 ∧ wcd (rwd t q k) = w))), nI q)) := fun z => by
      rw [decide_eq_false z]; exact ok_some rfl
    dsimp only
    rw [li_0, li_8]
    refine ok_ite (fun c => no (fun z => ?_)) (fun c => ok_ite (fun d => no (fun z => ?_)) (fun d => ok_ite (fun y => ?_) (fun y => no (fun z => ?_))))
    · rw [nI_leI (by omega) (by omega)] at c; omega
    · rw [nI_leI (by omega) (by omega)] at d; omega
    · rw [nI_leI (by omega) (by omega)] at c d
      have hlt := wcd_lt (t := t) (q := q) k (fun j hj => (hr (q + j) (by omega)).1)
      have hp7 : 256 ^ k ≤ 256 ^ 7 := Nat.pow_le_pow_right (by omega) (by omega)
      rw [hx (by omega), lN_eqL (by omega) (by omega)] at y
      rw [decide_eq_true ⟨by omega, by omega, y⟩]
      exact ok_some rfl
    · rw [nI_leI (by omega) (by omega)] at c d
      exact y (by rw [hx (by omega), z.2.2])
