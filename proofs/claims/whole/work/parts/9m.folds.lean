/-! mendings: the developers' tables -/
theorem and_sub {k r : Nat} : k &&& r = k ↔ ∀ i, k.testBit i = true → r.testBit i = true := by
  constructor
  · intro h i hi
    rw [← h, Nat.testBit_and, Bool.and_eq_true] at hi
    exact hi.2
  · intro h
    apply Nat.eq_of_testBit_eq
    intro i
    rw [Nat.testBit_and]
    cases hk : k.testBit i with
    | false => rfl
    | true => rw [h i hk]; rfl
theorem le_of_and {k r : Nat} (h : k &&& r = k) : k ≤ r := by rw [← h]; exact Nat.and_le_right
theorem sub_next : ∀ n k s r : Nat, s < 2 ^ n → k &&& r = k → s &&& r = s → k < s → k ≤ (s - 1) &&& r := by
  intro n
  induction n with
  | zero => intro k s r hs _ _ h; have : s < 1 := hs; omega
  | succ n ih =>
    intro k s r hs hk hsr h
    have hs2 : s < 2 * 2 ^ n := by rw [Nat.pow_succ] at hs; omega
    have k2 : k / 2 &&& r / 2 = k / 2 := by rw [← Nat.and_div_two, hk]
    have s2 : s / 2 &&& r / 2 = s / 2 := by rw [← Nat.and_div_two, hsr]
    have d : ((s - 1) &&& r) / 2 = (s - 1) / 2 &&& r / 2 := Nat.and_div_two
    have e := Nat.div_add_mod ((s - 1) &&& r) 2
    by_cases c : s % 2 = 1
    · have : (s - 1) / 2 = s / 2 := by omega
      rw [this, s2] at d
      omega
    · have h1 : (s - 1) / 2 = s / 2 - 1 := by omega
      rw [h1] at d
      have i1 := ih (k / 2) (s / 2) (r / 2) (by omega) k2 s2 (by omega)
      rw [← d] at i1
      have m : k % 2 = 1 → ((s - 1) &&& r) % 2 = 1 := by
        intro q
        have : (k &&& r) % 2 = 1 := by rw [hk]; exact q
        rw [Nat.and_mod_two_eq_one] at this
        rw [Nat.and_mod_two_eq_one]
        exact ⟨by omega, this.2⟩
      have := Nat.div_add_mod k 2
      omega
theorem and_idem (a r : Nat) : (a &&& r) &&& r = a &&& r := by rw [Nat.and_assoc, Nat.and_self]
theorem sub_or_lt {k r i n : Nat} (hr : r < 2 ^ n) (hk : k &&& r = k) (hi : i < n) : k < 2 ^ n ∧ k ||| 2 ^ i < 2 ^ n := by
  have : k ≤ r := by rw [← hk]; exact Nat.and_le_right
  exact ⟨by omega, or_pow_lt (by omega) hi⟩
theorem or_not_sub {k r i : Nat} (hri : r.testBit i = false) : ¬ (k ||| 2 ^ i) &&& r = k ||| 2 ^ i := by
  intro h
  have := and_sub.mp h i (by rw [or_pow_bit]; simp)
  rw [hri] at this; cases this
/-- a table with the lines of D folded into it -/
def fdH (h : Nat → Nat) (D i : Nat) : Nat := if D.testBit i = true then h i else 0
def fdF (h : Nat → Nat) (D i : Nat) : Nat := if D.testBit i = true then 16 - h i else 1
noncomputable def FT (L : Ld) (h : Nat → Nat) (D sub : Nat) : Nat := fb_sm (fun j => wtF (fdH h D) (fdF h D) (l_n L) j * Bq L (sub ||| j)) (2 ^ l_n L)
theorem FT_congr {L : Ld} {h h' : Nat → Nat} {D : Nat} (e : ∀ i, i < l_n L → D.testBit i = true → h i = h' i) (sub : Nat) : FT L h D sub = FT L h' D sub := by
  unfold FT
  apply fb_sm_cong
  intro j _
  congr 1
  apply wtF_congr
  intro t ht
  unfold fdH fdF
  by_cases c : D.testBit t = true
  · rw [if_pos c, if_pos c, if_pos c, if_pos c, e t ht c]; exact ⟨rfl, rfl⟩
  · rw [if_neg c, if_neg c, if_neg c, if_neg c]; exact ⟨rfl, rfl⟩
theorem wt01 {h : Nat → Nat} : ∀ n j, j < 2 ^ n → wtF (fdH h 0) (fdF h 0) n j = if j = 0 then 1 else 0
  | 0, j, hj => by
    have : j < 1 := hj
    have : j = 0 := by omega
    subst this; rfl
  | n + 1, j, hj => by
    rw [wtF]
    have e1 : fdH h 0 n = 0 := by unfold fdH; rw [Nat.zero_testBit]; rfl
    have e2 : fdF h 0 n = 1 := by unfold fdF; rw [Nat.zero_testBit]; rfl
    rw [e1, e2]
    by_cases c : j.testBit n = true
    · rw [if_pos c, Nat.mul_zero]
      have : j ≠ 0 := fun q => by rw [q, Nat.zero_testBit] at c; cases c
      rw [if_neg this]
    · rw [if_neg c, Nat.mul_one]
      have hlt : j < 2 ^ n := by
        apply lt_two_pow
        intro i hi
        by_cases q : i = n
        · subst q; simpa using c
        · exact tb_lt hj (by omega)
      exact wt01 n j hlt
theorem FT_0 (L : Ld) (h : Nat → Nat) (sub : Nat) : FT L h 0 sub = Bq L sub := by
  unfold FT
  rw [fb_sm_cong (g := fun j => if j = 0 then Bq L sub else 0) (fun j hj => by
    rw [wt01 _ j hj]
    by_cases c : j = 0
    · rw [if_pos c, if_pos c, c, Nat.or_zero, Nat.one_mul]
    · rw [if_neg c, if_neg c, Nat.zero_mul])]
  exact sm_one (Nat.two_pow_pos _)
theorem FT_step {L : Ld} {h : Nat → Nat} {D i sub : Nat} (hi : i < l_n L) (hD : D.testBit i = false) (hs : sub.testBit i = false) :
    FT L h (D ||| 2 ^ i) sub = h i * FT L h D (sub ||| 2 ^ i) + (16 - h i) * FT L h D sub := by
  have hDi : (D ||| 2 ^ i).testBit i = true := by rw [or_pow_bit]; simp
  have hw : ∀ j, wo (fdH h (D ||| 2 ^ i)) (fdF h (D ||| 2 ^ i)) i (l_n L) j = wo (fdH h D) (fdF h D) i (l_n L) j := by
    intro j
    unfold wo
    apply wtF_congr
    intro t _
    by_cases c : t = i
    · subst c; rw [upN_s, upN_s, upN_s, upN_s]; exact ⟨rfl, rfl⟩
    · rw [upN_n c, upN_n c, upN_n c, upN_n c]
      have : (D ||| 2 ^ i).testBit t = D.testBit t := by
        rw [or_pow_bit]
        have : ¬ i = t := fun q => c q.symm
        simp [this]
      unfold fdH fdF
      rw [this]
      exact ⟨rfl, rfl⟩
  have a1 : fdH h (D ||| 2 ^ i) i = h i := by unfold fdH; rw [if_pos hDi]
  have a2 : fdF h (D ||| 2 ^ i) i = 16 - h i := by unfold fdF; rw [if_pos hDi]
  have b1 : fdH h D i = 0 := by unfold fdH; rw [hD]; rfl
  have b2 : fdF h D i = 1 := by unfold fdF; rw [hD]; rfl
  have s1 := sm_bit (t := i) (l_n L) (fun j => wtF (fdH h (D ||| 2 ^ i)) (fdF h (D ||| 2 ^ i)) (l_n L) j * Bq L (sub ||| j)) hi
  have s2 := sm_bit (t := i) (l_n L) (fun j => wtF (fdH h D) (fdF h D) (l_n L) j * Bq L ((sub ||| 2 ^ i) ||| j)) hi
  have s3 := sm_bit (t := i) (l_n L) (fun j => wtF (fdH h D) (fdF h D) (l_n L) j * Bq L (sub ||| j)) hi
  unfold FT
  rw [s1, s2, s3, ← sm_mul, ← sm_mul, ← sm_add]
  apply fb_sm_cong
  intro j _
  by_cases c : j.testBit i = true
  · rw [if_pos c, if_pos c, if_pos c]; simp
  · have hj2 : (j ||| 2 ^ i).testBit i = true := by rw [or_pow_bit]; simp
    have o1 : (sub ||| 2 ^ i) ||| (j ||| 2 ^ i) = sub ||| (j ||| 2 ^ i) := by
      rw [Nat.or_assoc, ← Nat.or_assoc (2 ^ i), Nat.or_comm (2 ^ i) j, Nat.or_assoc, Nat.or_self]
    have o2 : (sub ||| 2 ^ i) ||| j = sub ||| (j ||| 2 ^ i) := by rw [Nat.or_assoc, Nat.or_comm (2 ^ i) j]
    rw [if_neg c, if_neg c, if_neg c, wt_fac (h := fdH h (D ||| 2 ^ i)) (s := j) (l_n L) hi, wt_fac (h := fdH h (D ||| 2 ^ i)) (s := j ||| 2 ^ i) (l_n L) hi, wt_fac (h := fdH h D) (s := j) (l_n L) hi, wt_fac (h := fdH h D) (s := j ||| 2 ^ i) (l_n L) hi, if_neg c, if_pos hj2, if_neg c, if_pos hj2, hw, hw, wo_flip, a1, a2, b1, b2, o1, o2]
    generalize wo (fdH h D) (fdF h D) i (l_n L) j = W
    generalize Bq L (sub ||| (j ||| 2 ^ i)) = X
    generalize Bq L (sub ||| j) = Y
    generalize 16 - h i = z
    generalize h i = y
    rw [Nat.mul_zero, Nat.zero_mul, Nat.add_zero, Nat.add_zero, Nat.mul_one, Nat.add_comm (W * z * Y)]
    congr 1
    · rw [Nat.mul_comm W y, Nat.mul_assoc]
    · rw [Nat.mul_comm W z, Nat.mul_assoc]
theorem FT_all {L : Ld} {h H F : Nat → Nat} (hh : ∀ t, t < l_n L → H t = h t ∧ F t = 16 - h t) (h2 : ∀ t, l_n L ≤ t → t < l_M L → H t = cha L t ∧ F t = 16 - cha L t) : FT L h (2 ^ l_n L - 1) 0 = tgt L H F := by
  rw [tgt_B h2]
  unfold FT
  apply fb_sm_cong
  intro j _
  rw [Nat.zero_or]
  congr 1
  apply wtF_congr
  intro t ht
  have : (2 ^ l_n L - 1).testBit t = true := by rw [all_bit]; simp [ht]
  unfold fdH fdF
  rw [if_pos this, if_pos this, (hh t ht).1, (hh t ht).2]
  exact ⟨rfl, rfl⟩
theorem x_fold_135_135 {S : wd_W} {n i c rest : Nat} {T : Nat → Nat} (hn : n ≤ 12) (hi : i < n) (hc : c ≤ 16) (hr : rest < 2 ^ n) (hri : rest.testBit i = false) (l1 : 2 ^ n ≤ S.2.2.2.2 135) (l2 : S.2.2.2.2 135 ≤ 4096) (m1 : 2 ^ n ≤ S.2.2.2.2 135) (m2 : S.2.2.2.2 135 ≤ 4096)
    (hT : ∀ k, k &&& rest = k → S.2.2.2.1 135 k = lN (T k) ∧ S.2.2.2.1 135 (k ||| 2 ^ i) = lN (T (k ||| 2 ^ i))) :
    Ok (f_X0_fold_g135_g135 S (nI i) (nI c) (nI rest)) (fun o => ∀ k, k &&& rest = k → o k = lN (c * T (k ||| 2 ^ i) + (16 - c) * T k)) := by
  have pn : 2 ^ n ≤ 4096 := pow_le_k (n := 12) hn
  unfold f_X0_fold_g135_g135
  rw [li_0]
  refine ok_while (W := fun m (x : Nat × Nat × (Nat → Int64)) => it3 (f_X0_fold_g135_g135_L7 S (nI i) (nI c) (nI rest)) m (nI x.1) (nI x.2.1) x.2.2) (I := fun x => x.1 &&& rest = x.1 ∧ x.1 + x.2.1 ≤ rest ∧ (∀ k, k &&& rest = k → x.1 < k → x.2.2 k = lN (c * T (k ||| 2 ^ i) + (16 - c) * T k)) ∧ (∀ k, k &&& rest = k → k ≤ x.1 → x.2.2 k = lN (T k)) ∧ ∀ k, k &&& rest = k → x.2.2 (k ||| 2 ^ i) = lN (T (k ||| 2 ^ i))) (μ := fun x => x.1) (s := (rest, 0, S.2.2.2.1 135)) ⟨Nat.and_self _, Nat.le_refl _, fun k hk h => absurd (le_of_and hk) (Nat.not_le.mpr h), fun k hk _ => (hT k hk).1, fun k hk => (hT k hk).2⟩ (by dsimp only; omega) ?_
  rintro m ⟨sub, cnt, a⟩ ⟨i1, i2, i3, i4, i5⟩ ih
  dsimp only at i1 i2 i3 i4 i5
  show Ok (f_X0_fold_g135_g135_L7 S (nI i) (nI c) (nI rest) (it3 _ m) (nI sub) (nI cnt) a) _
  generalize it3 (f_X0_fold_g135_g135_L7 S (nI i) (nI c) (nI rest)) m = r at ih
  obtain ⟨b1, b2⟩ := sub_or_lt hr i1 hi
  unfold f_X0_fold_g135_g135_L7
  rw [if_neg (nI_nlt (by omega) (by omega)), oI_pow (by omega), oI_or, gd_in (by omega) (by omega), gd_in (by omega) (by omega), nI_clamp (by omega), nI_clamp (by omega), i5 sub i1, i4 sub i1 (Nat.le_refl _), li_16, pk_sub hc, nI_l (by omega), nI_l (by omega), lN_mul, lN_mul, lN_add, lz_eq, gd_in (by omega) (by omega), lz_eq]
  have new : ∀ k, k &&& rest = k → ¬ k < sub → vp_updL a sub (lN (c * T (sub ||| 2 ^ i) + (16 - c) * T sub)) k = lN (c * T (k ||| 2 ^ i) + (16 - c) * T k) := by
    intro k hk h
    by_cases e : k = sub
    · subst e; rw [pk_uLs]
    · rw [pk_uLn e]; exact i3 k hk (by omega)
  refine ok_ite (fun z => ?_) (fun z => ?_)
  · have z := (oI_z (by omega)).mp z
    exact ok_some (fun k hk => new k hk (by omega))
  · have z : ¬ sub = 0 := fun q => z ((oI_z (by omega)).mpr q)
    have hle : (sub - 1) &&& rest ≤ sub - 1 := Nat.and_le_left
    rw [li_1, oI_sub1 (by omega), oI_and, lz_eq, nI_add]
    refine ih ((sub - 1) &&& rest, cnt + 1, vp_updL a sub (lN (c * T (sub ||| 2 ^ i) + (16 - c) * T sub))) ⟨and_idem _ _, by dsimp only; omega, fun k hk h => ?_, fun k hk h => ?_, fun k hk => ?_⟩ (by dsimp only; omega)
    · dsimp only at h ⊢
      refine new k hk (fun q => ?_)
      have := sub_next n k sub rest b1 hk i1 q
      omega
    · dsimp only at h ⊢
      rw [pk_uLn (by omega)]
      exact i4 k hk (by omega)
    · dsimp only
      rw [pk_uLn (fun q => or_not_sub (k := k) hri (by rw [q]; exact i1))]
      exact i5 k hk
theorem x_fold_135_136 {S : wd_W} {n i c rest : Nat} {T : Nat → Nat} (hn : n ≤ 12) (hi : i < n) (hc : c ≤ 16) (hr : rest < 2 ^ n) (hri : rest.testBit i = false) (l1 : 2 ^ n ≤ S.2.2.2.2 135) (l2 : S.2.2.2.2 135 ≤ 4096) (m1 : 2 ^ n ≤ S.2.2.2.2 136) (m2 : S.2.2.2.2 136 ≤ 4096)
    (hT : ∀ k, k &&& rest = k → S.2.2.2.1 135 k = lN (T k) ∧ S.2.2.2.1 135 (k ||| 2 ^ i) = lN (T (k ||| 2 ^ i))) :
    Ok (f_X0_fold_g135_g136 S (nI i) (nI c) (nI rest)) (fun o => ∀ k, k &&& rest = k → o k = lN (c * T (k ||| 2 ^ i) + (16 - c) * T k)) := by
  have pn : 2 ^ n ≤ 4096 := pow_le_k (n := 12) hn
  unfold f_X0_fold_g135_g136
  rw [li_0]
  refine ok_while (W := fun m (x : Nat × Nat × (Nat → Int64)) => it3 (f_X0_fold_g135_g136_L7 S (nI i) (nI c) (nI rest)) m (nI x.1) (nI x.2.1) x.2.2) (I := fun x => x.1 &&& rest = x.1 ∧ x.1 + x.2.1 ≤ rest ∧ (∀ k, k &&& rest = k → x.1 < k → x.2.2 k = lN (c * T (k ||| 2 ^ i) + (16 - c) * T k))) (μ := fun x => x.1) (s := (rest, 0, S.2.2.2.1 136)) ⟨Nat.and_self _, Nat.le_refl _, fun k hk h => absurd (le_of_and hk) (Nat.not_le.mpr h)⟩ (by dsimp only; omega) ?_
  rintro m ⟨sub, cnt, a⟩ ⟨i1, i2, i3⟩ ih
  dsimp only at i1 i2 i3
  show Ok (f_X0_fold_g135_g136_L7 S (nI i) (nI c) (nI rest) (it3 _ m) (nI sub) (nI cnt) a) _
  generalize it3 (f_X0_fold_g135_g136_L7 S (nI i) (nI c) (nI rest)) m = r at ih
  obtain ⟨b1, b2⟩ := sub_or_lt hr i1 hi
  unfold f_X0_fold_g135_g136_L7
  rw [if_neg (nI_nlt (by omega) (by omega)), oI_pow (by omega), oI_or, gd_in (by omega) (by omega), gd_in (by omega) (by omega), nI_clamp (by omega), nI_clamp (by omega), (hT sub i1).2, (hT sub i1).1, li_16, pk_sub hc, nI_l (by omega), nI_l (by omega), lN_mul, lN_mul, lN_add, lz_eq, gd_in (by omega) (by omega), lz_eq]
  have new : ∀ k, k &&& rest = k → ¬ k < sub → vp_updL a sub (lN (c * T (sub ||| 2 ^ i) + (16 - c) * T sub)) k = lN (c * T (k ||| 2 ^ i) + (16 - c) * T k) := by
    intro k hk h
    by_cases e : k = sub
    · subst e; rw [pk_uLs]
    · rw [pk_uLn e]; exact i3 k hk (by omega)
  refine ok_ite (fun z => ?_) (fun z => ?_)
  · have z := (oI_z (by omega)).mp z
    exact ok_some (fun k hk => new k hk (by omega))
  · have z : ¬ sub = 0 := fun q => z ((oI_z (by omega)).mpr q)
    have hle : (sub - 1) &&& rest ≤ sub - 1 := Nat.and_le_left
    rw [li_1, oI_sub1 (by omega), oI_and, lz_eq, nI_add]
    refine ih ((sub - 1) &&& rest, cnt + 1, vp_updL a sub (lN (c * T (sub ||| 2 ^ i) + (16 - c) * T sub))) ⟨and_idem _ _, by dsimp only; omega, fun k hk h => ?_⟩ (by dsimp only; omega)
    · dsimp only at h ⊢
      refine new k hk (fun q => ?_)
      have := sub_next n k sub rest b1 hk i1 q
      omega
theorem x_fold_136_136 {S : wd_W} {n i c rest : Nat} {T : Nat → Nat} (hn : n ≤ 12) (hi : i < n) (hc : c ≤ 16) (hr : rest < 2 ^ n) (hri : rest.testBit i = false) (l1 : 2 ^ n ≤ S.2.2.2.2 136) (l2 : S.2.2.2.2 136 ≤ 4096) (m1 : 2 ^ n ≤ S.2.2.2.2 136) (m2 : S.2.2.2.2 136 ≤ 4096)
    (hT : ∀ k, k &&& rest = k → S.2.2.2.1 136 k = lN (T k) ∧ S.2.2.2.1 136 (k ||| 2 ^ i) = lN (T (k ||| 2 ^ i))) :
    Ok (f_X0_fold_g136_g136 S (nI i) (nI c) (nI rest)) (fun o => ∀ k, k &&& rest = k → o k = lN (c * T (k ||| 2 ^ i) + (16 - c) * T k)) := by
  have pn : 2 ^ n ≤ 4096 := pow_le_k (n := 12) hn
  unfold f_X0_fold_g136_g136
  rw [li_0]
  refine ok_while (W := fun m (x : Nat × Nat × (Nat → Int64)) => it3 (f_X0_fold_g136_g136_L7 S (nI i) (nI c) (nI rest)) m (nI x.1) (nI x.2.1) x.2.2) (I := fun x => x.1 &&& rest = x.1 ∧ x.1 + x.2.1 ≤ rest ∧ (∀ k, k &&& rest = k → x.1 < k → x.2.2 k = lN (c * T (k ||| 2 ^ i) + (16 - c) * T k)) ∧ (∀ k, k &&& rest = k → k ≤ x.1 → x.2.2 k = lN (T k)) ∧ ∀ k, k &&& rest = k → x.2.2 (k ||| 2 ^ i) = lN (T (k ||| 2 ^ i))) (μ := fun x => x.1) (s := (rest, 0, S.2.2.2.1 136)) ⟨Nat.and_self _, Nat.le_refl _, fun k hk h => absurd (le_of_and hk) (Nat.not_le.mpr h), fun k hk _ => (hT k hk).1, fun k hk => (hT k hk).2⟩ (by dsimp only; omega) ?_
  rintro m ⟨sub, cnt, a⟩ ⟨i1, i2, i3, i4, i5⟩ ih
  dsimp only at i1 i2 i3 i4 i5
  show Ok (f_X0_fold_g136_g136_L7 S (nI i) (nI c) (nI rest) (it3 _ m) (nI sub) (nI cnt) a) _
  generalize it3 (f_X0_fold_g136_g136_L7 S (nI i) (nI c) (nI rest)) m = r at ih
  obtain ⟨b1, b2⟩ := sub_or_lt hr i1 hi
  unfold f_X0_fold_g136_g136_L7
  rw [if_neg (nI_nlt (by omega) (by omega)), oI_pow (by omega), oI_or, gd_in (by omega) (by omega), gd_in (by omega) (by omega), nI_clamp (by omega), nI_clamp (by omega), i5 sub i1, i4 sub i1 (Nat.le_refl _), li_16, pk_sub hc, nI_l (by omega), nI_l (by omega), lN_mul, lN_mul, lN_add, lz_eq, gd_in (by omega) (by omega), lz_eq]
  have new : ∀ k, k &&& rest = k → ¬ k < sub → vp_updL a sub (lN (c * T (sub ||| 2 ^ i) + (16 - c) * T sub)) k = lN (c * T (k ||| 2 ^ i) + (16 - c) * T k) := by
    intro k hk h
    by_cases e : k = sub
    · subst e; rw [pk_uLs]
    · rw [pk_uLn e]; exact i3 k hk (by omega)
  refine ok_ite (fun z => ?_) (fun z => ?_)
  · have z := (oI_z (by omega)).mp z
    exact ok_some (fun k hk => new k hk (by omega))
  · have z : ¬ sub = 0 := fun q => z ((oI_z (by omega)).mpr q)
    have hle : (sub - 1) &&& rest ≤ sub - 1 := Nat.and_le_left
    rw [li_1, oI_sub1 (by omega), oI_and, lz_eq, nI_add]
    refine ih ((sub - 1) &&& rest, cnt + 1, vp_updL a sub (lN (c * T (sub ||| 2 ^ i) + (16 - c) * T sub))) ⟨and_idem _ _, by dsimp only; omega, fun k hk h => ?_, fun k hk h => ?_, fun k hk => ?_⟩ (by dsimp only; omega)
    · dsimp only at h ⊢
      refine new k hk (fun q => ?_)
      have := sub_next n k sub rest b1 hk i1 q
      omega
    · dsimp only at h ⊢
      rw [pk_uLn (by omega)]
      exact i4 k hk (by omega)
    · dsimp only
      rw [pk_uLn (fun q => or_not_sub (k := k) hri (by rw [q]; exact i1))]
      exact i5 k hk
