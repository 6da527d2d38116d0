/-! mendings: the developers' -/
theorem x_coinsOf {S : wd_W} {L : Ld} {T : Nt} {s : Nat} (hT : xT S 27 T) (hn : nOk L T) (hs : s < 32768) : f_X6_coinsOf_q27 S (nI s) = some (nI (coiF T s)) := by
  obtain ⟨⟨n0, nk⟩, _⟩ := hn
  obtain ⟨t0, _, tk, _⟩ := hT
  have t0 : S.1 2700 = nI (T 0 0) := t0
  apply ok_e
  unfold f_X6_coinsOf_q27 coiF
  rw [li_0]
  refine ok_for0 (W := fun m i (v : Nat) => it2 (f_X6_coinsOf_q27_L4 S (nI s)) m (nI v) (nI i)) (I := fun i v => v = fb_sm (fun i => if s.testBit i = true then T 2 i else 0) i) (e := T 0 0) (s := 0) (by omega) rfl ?_ ?_
  · intro m v hI
    show Ok (f_X6_coinsOf_q27_L4 S (nI s) _ (nI v) (nI (T 0 0))) _
    unfold f_X6_coinsOf_q27_L4
    rw [t0, if_pos (nI_le (Nat.le_refl _) (by omega)), hI]
    exact ok_some rfl
  · intro m i v hi hI ih
    show Ok (f_X6_coinsOf_q27_L4 S (nI s) (it2 _ m) (nI v) (nI i)) _
    generalize it2 (f_X6_coinsOf_q27_L4 S (nI s)) m = r at ih
    have r2 : S.2.2.1 29 i = nI (T 2 i) := (tk i hi).2.1
    unfold f_X6_coinsOf_q27_L4
    rw [t0, if_neg (nI_ge hi (by omega)), gd_in (by omega) (by omega), nI_clamp (by omega), r2, oI_bit (by omega) (by omega), nI_1]
    refine ok_lz ?_
    by_cases z : s.testBit i = true
    · rw [if_pos z, li_1, pk_mul, nI_add]
      exact ih _ (by rw [fb_sm_succ, if_pos z, hI, Nat.one_mul])
    · rw [if_neg z, li_0, pk_mul, nI_add]
      exact ih _ (by rw [fb_sm_succ, if_neg z, hI, Nat.zero_mul])
def tcM (T : Nt) : Nat := orF (fun i => 2 ^ T 1 i) (T 0 0)
theorem tcM_bit (T : Nt) (t : Nat) : (tcM T).testBit t = true ↔ ∃ i, i < T 0 0 ∧ T 1 i = t := by
  unfold tcM
  rw [orF_bit]
  constructor
  · rintro ⟨c, h1, h2⟩; rw [pow_bit] at h2; exact ⟨c, h1, h2⟩
  · rintro ⟨c, h1, h2⟩; exact ⟨c, h1, by rw [pow_bit]; exact h2⟩
theorem tcM_lt {L : Ld} {T : Nt} (hn : nOk L T) : tcM T < 2 ^ l_n L := orF_lt (fun c hc => Nat.pow_lt_pow_right (by decide) (hn.1.2 c hc).1)
theorem x_linesMended {S : wd_W} {L : Ld} {T : Nt} (hL : lOk L) (hT : xT S 27 T) (hn : nOk L T) : f_X6_linesMended_q27 S = some (nI (tcM T)) := by
  have g3 := hL.1.2.2.1
  obtain ⟨⟨n0, nk⟩, _⟩ := hn
  obtain ⟨t0, _, tk, _⟩ := hT
  have t0 : S.1 2700 = nI (T 0 0) := t0
  unfold f_X6_linesMended_q27
  rw [li_0]
  refine Eq.trans ?_ (eq_for0 (W := fun m i => it2 (f_X6_linesMended_q27_L4 S) m (nI (orF (fun i => 2 ^ T 1 i) i)) (nI i)) (e := T 0 0) (by omega) ?_ ?_)
  · rfl
  · intro m
    show f_X6_linesMended_q27_L4 S _ _ (nI (T 0 0)) = _
    unfold f_X6_linesMended_q27_L4
    rw [t0, if_pos (nI_le (Nat.le_refl _) (by omega))]
    rfl
  · intro m i hi
    show f_X6_linesMended_q27_L4 S (it2 _ m) _ (nI i) = it2 (f_X6_linesMended_q27_L4 S) m _ (nI (i + 1))
    generalize it2 (f_X6_linesMended_q27_L4 S) m = r
    have r1 : S.2.2.1 28 i = nI (T 1 i) := (tk i hi).1
    have := (nk i hi).1
    unfold f_X6_linesMended_q27_L4
    rw [t0, if_neg (nI_ge hi (by omega)), gd_in (by omega) (by omega), nI_clamp (by omega), r1, oI_pow (by omega), oI_or, lz_eq, nI_1]
    rfl
theorem x_chAfter {S : wd_W} {L : Ld} {T : Nt} {s t c : Nat} (hL : lOk L) (hT : xT S 27 T) (hn : nOk L T) (hs : s < 32768) (ht : t < 32) (hc : c ≤ 16) : f_X6_chanceAfter_q27 S (nI s) (nI t) (nI c) = some (nI (mdG T s t c (T 0 0))) := by
  have g3 := hL.1.2.2.1
  obtain ⟨⟨n0, nk⟩, _⟩ := hn
  obtain ⟨t0, _, tk, _⟩ := hT
  have t0 : S.1 2700 = nI (T 0 0) := t0
  unfold f_X6_chanceAfter_q27
  rw [li_0]
  refine Eq.trans ?_ (eq_for0 (W := fun m i => it2 (f_X6_chanceAfter_q27_L6 S (nI s) (nI t)) m (nI (mdG T s t c i)) (nI i)) (e := T 0 0) (by omega) ?_ ?_)
  · rfl
  · intro m
    show f_X6_chanceAfter_q27_L6 S (nI s) (nI t) _ _ (nI (T 0 0)) = _
    unfold f_X6_chanceAfter_q27_L6
    rw [t0, if_pos (nI_le (Nat.le_refl _) (by omega))]
  · intro m i hi
    show f_X6_chanceAfter_q27_L6 S (nI s) (nI t) (it2 _ m) (nI (mdG T s t c i)) (nI i) = it2 (f_X6_chanceAfter_q27_L6 S (nI s) (nI t)) m (nI (if s.testBit i = true ∧ T 1 i = t then max (mdG T s t c i) (T 3 i) else mdG T s t c i)) (nI (i + 1))
    generalize it2 (f_X6_chanceAfter_q27_L6 S (nI s) (nI t)) m = r
    have r1 : S.2.2.1 28 i = nI (T 1 i) := (tk i hi).1
    have r3 : S.2.2.1 30 i = nI (T 3 i) := (tk i hi).2.2
    obtain ⟨k1, k2, k3, k4⟩ := nk i hi
    have hg := mdG_le (T := T) (s := s) (t := t) hc i (fun j hj => (nk j (by omega)).2.2.1)
    unfold f_X6_chanceAfter_q27_L6
    rw [t0, if_neg (nI_ge hi (by omega)), nI_1, lk_eq]
    by_cases z : s.testBit i = true
    · rw [if_neg (fun q => by rw [oI_bit0 (by omega) (by omega), z] at q; cases q), gd_in (by omega) (by omega), nI_clamp (by omega), r1]
      have e : nI (T 1 i) = nI t ↔ T 1 i = t := nI_eq (by omega) (by omega)
      by_cases y : T 1 i = t
      · have k : nI (mdG T s t c i) < nI (T 3 i) ↔ mdG T s t c i < T 3 i := nI_ltI (by omega) (by omega)
        rw [if_pos (e.mpr y), gd_in (by omega) (by omega), r3, lz_eq, if_pos (show s.testBit i = true ∧ T 1 i = t from ⟨z, y⟩)]
        by_cases w : mdG T s t c i < T 3 i
        · rw [if_pos (k.mpr w), show max (mdG T s t c i) (T 3 i) = T 3 i by omega]
        · rw [if_neg (fun q => w (k.mp q)), show max (mdG T s t c i) (T 3 i) = mdG T s t c i by omega]
      · rw [if_neg (fun q => y (e.mp q)), if_neg (show ¬ (s.testBit i = true ∧ T 1 i = t) from fun q => y q.2)]
    · have z2 : s.testBit i = false := by simpa using z
      rw [if_pos ((oI_bit0 (by omega) (by omega)).mpr z2), if_neg (show ¬ (s.testBit i = true ∧ T 1 i = t) from fun q => z q.1)]
/-- the untouched lines ahead of i, folded -/
def unM (T : Nt) (i : Nat) : Nat := mk (fun j => !(tcM T).testBit j) i
/-- the untouched lines, and the touched ones ahead of i -/
def doM (L : Ld) (T : Nt) (i : Nat) : Nat := mk (fun j => !(tcM T).testBit j || decide (j < i)) (l_n L)
theorem xor_pow_ndn {r i : Nat} (h : r.testBit i = true) : r ^^^ 2 ^ i = ndn r (2 ^ i) := by
  apply Nat.eq_of_testBit_eq
  intro j
  rw [Nat.testBit_xor, ndn_bit, Nat.testBit_two_pow]
  by_cases e : i = j
  · subst e; simp [h]
  · simp [e]
theorem sub_clear {k r i : Nat} (hk : k &&& ndn r (2 ^ i) = k) : k &&& r = k ∧ k.testBit i = false := by
  constructor
  · apply and_sub.mpr
    intro j hj
    have := and_sub.mp hk j hj
    rw [ndn_bit, Bool.and_eq_true] at this
    exact this.1
  · cases hb : k.testBit i with
    | false => rfl
    | true =>
      have := and_sub.mp hk i hb
      rw [ndn_bit, Nat.testBit_two_pow] at this
      simp at this
theorem sub_with {k r i : Nat} (hr : r.testBit i = true) (hk : k &&& ndn r (2 ^ i) = k) : (k ||| 2 ^ i) &&& r = k ||| 2 ^ i := by
  apply and_sub.mpr
  intro j hj
  rw [or_pow_bit, Bool.or_eq_true, decide_eq_true_eq] at hj
  rcases hj with hj | hj
  · exact and_sub.mp (sub_clear hk).1 j hj
  · subst hj; exact hr
theorem x_foldUntouched {S : wd_W} {L : Ld} {T : Nt} (hL : lOk L) (hl : xL S 16 L) (hn : nOk L T) (hb : xBu S L) (hN4 : xN4 S) :
    Ok (f_X0_foldUntouched_q131 S (nI (tcM T))) (fun o => ∀ k, k &&& tcM T = k → o k = lN (FT L (cha L) (unM T (l_n L)) k)) := by
  have g3 := hL.1.2.2.1
  have p3 : 2 ^ l_n L ≤ 4096 := pow_le_k (n := 12) g3
  have p0 := Nat.two_pow_pos (l_n L)
  have htc := tcM_lt hn
  obtain ⟨_, lk1, _⟩ := hl
  obtain ⟨b5, bl, bk⟩ := hb
  obtain ⟨e4, he4, n132, n134, n135, n136⟩ := hN4
  have p4 : 2 ^ e4 ≤ 4096 := pow_le_k (n := 12) he4
  unfold f_X0_foldUntouched_q131
  rw [b5, oI_pow (by omega), li_1, oI_sub1 p0, lz_eq, gd_t (okc_in (by omega) (by omega) (by omega)), lz_eq, li_0, nI_clamp (by omega), nI_clamp (by omega)]
  refine ok_for0 (W := fun m i (x : Nat × (Nat → Int64)) => it3 (f_X0_foldUntouched_q131_L30 S (nI (tcM T))) m (nI x.1) (nI i) x.2) (I := fun i x => x.1 = ndn (2 ^ l_n L - 1) (unM T i) ∧ ∀ k, k &&& x.1 = k → x.2 k = lN (FT L (cha L) (unM T i) k)) (e := l_n L) (s := (2 ^ l_n L - 1, va_cpy (S.2.2.2.1 134) (S.2.2.2.1 135) 0 0 (2 ^ l_n L))) (by omega) ⟨?_, fun k hk => ?_⟩ ?_ ?_
  · apply Nat.eq_of_testBit_eq
    intro j
    rw [ndn_bit]
    show _ = (_ && !(0 : Nat).testBit j)
    rw [Nat.zero_testBit]; simp
  · have hk : k < 2 ^ l_n L := by have := le_of_and (show k &&& (2 ^ l_n L - 1) = k from hk); omega
    show va_cpy _ _ 0 0 _ k = lN (FT L (cha L) 0 k)
    rw [cpy_in hk, FT_0, (bk k hk).2]
  · rintro m ⟨rest, a⟩ ⟨i1, i2⟩
    dsimp only at i1 i2
    show Ok (f_X0_foldUntouched_q131_L30 S (nI (tcM T)) _ (nI rest) (nI (l_n L)) a) _
    unfold f_X0_foldUntouched_q131_L30
    rw [b5, if_pos (nI_le (Nat.le_refl _) (by omega))]
    refine ok_some (fun k hk => i2 k ?_)
    apply and_sub.mpr
    intro j hj
    have hj2 := and_sub.mp hk j hj
    have hjn := tb_in htc hj2
    rw [i1, ndn_bit, all_bit]
    unfold unM
    rw [mk_bit, hj2]
    simp [hjn]
  · rintro m i ⟨rest, a⟩ hi ⟨i1, i2⟩ ih
    dsimp only at i1 i2
    show Ok (f_X0_foldUntouched_q131_L30 S (nI (tcM T)) (it3 _ m) (nI rest) (nI i) a) _
    generalize it3 (f_X0_foldUntouched_q131_L30 S (nI (tcM T))) m = r at ih
    have hrl : rest < 2 ^ l_n L := by rw [i1]; exact ndn_lt (by omega)
    have r19 : S.2.2.1 19 i = nI (l_C L i) := (lk1 i hi).2.2.1
    have hcl := (hL.2.1 i hi).2.2.2.1
    have hch : cha L i = l_C L i := by unfold cha; rw [if_pos hi]
    have hus : unM T (i + 1) = unM T i ||| (if (!(tcM T).testBit i) = true then 2 ^ i else 0) := rfl
    unfold f_X0_foldUntouched_q131_L30
    rw [b5, if_neg (nI_ge hi (by omega)), nI_1]
    refine ok_lk (ok_ite (fun z => ?_) (fun z => ?_))
    · have z := (oI_bit0 (by omega) (by omega)).mp z
      rw [z] at hus
      have hus : unM T (i + 1) = unM T i ||| 2 ^ i := hus
      have hru : (unM T i).testBit i = false := by unfold unM; rw [mk_bit]; simp
      have hri : rest.testBit i = true := by rw [i1, ndn_bit, all_bit, hru]; simp [hi]
      have hxr : rest ^^^ 2 ^ i = ndn rest (2 ^ i) := xor_pow_ndn hri
      rw [oI_pow (by omega), oI_xor, hxr, lz_eq, gd_in (by omega) (by omega), nI_clamp (by omega), r19]
      refine ok_bd (x_fold_135_135 (S := wd_o S [] [] [] [(135, a)] []) (n := l_n L) (i := i) (c := l_C L i) (rest := ndn rest (2 ^ i)) (T := FT L (cha L) (unM T i)) g3 hi hcl (ndn_lt hrl) (by rw [ndn_bit, Nat.testBit_two_pow]; simp) (by show 2 ^ l_n L ≤ S.2.2.2.2 135; omega) (by show S.2.2.2.2 135 ≤ 4096; omega) (by show 2 ^ l_n L ≤ S.2.2.2.2 135; omega) (by show S.2.2.2.2 135 ≤ 4096; omega) (fun k hk => ⟨i2 k (sub_clear hk).1, i2 _ (sub_with hri hk)⟩)) ?_
      intro o ho
      refine ih (ndn rest (2 ^ i), o) ⟨?_, fun k hk => ?_⟩
      · dsimp only
        rw [hus, i1]
        apply Nat.eq_of_testBit_eq
        intro j
        rw [ndn_bit, ndn_bit, ndn_bit, or_pow_bit, Nat.testBit_two_pow]
        cases (2 ^ l_n L - 1).testBit j <;> cases (unM T i).testBit j <;> simp
      · dsimp only at hk ⊢
        rw [ho k hk, hus, FT_step hi hru (sub_clear hk).2, hch]
    · have z : (tcM T).testBit i = true := by
        cases q : (tcM T).testBit i with
        | true => rfl
        | false => exact absurd ((oI_bit0 (by omega) (by omega)).mpr q) z
      rw [z] at hus
      have hus : unM T (i + 1) = unM T i := by rw [hus]; simp
      exact ih (rest, a) ⟨by dsimp only; rw [hus]; exact i1, fun k hk => by dsimp only; rw [hus]; exact i2 k hk⟩
