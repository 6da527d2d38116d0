/-! built: the reference -/
def boI (L : Ld) (k t a z : Nat) (so w : Nat → Nat) : Prop := a + z = t ∧ (∀ s, s < 2 ^ a → so s < 2 ^ t) ∧ ∀ F : Nat → Nat, fb_sm (fun s => F (so s) * w s) (2 ^ a) * 16 ^ z = fb_sm (fun j => wtF (blH L k) (blF L k) t j * F j) (2 ^ t)
def soN (so : Nat → Nat) (a t : Nat) : Nat → Nat := fun s => if s < 2 ^ a then so s else so (s - 2 ^ a) ||| 2 ^ t
def woN (w : Nat → Nat) (a c : Nat) : Nat → Nat := fun s => if s < 2 ^ a then w s * (16 - c) else w (s - 2 ^ a) * c
theorem bo_take {L : Ld} {k t a z : Nat} {so w : Nat → Nat} (h : boI L k t a z so w) (ht : ¬ (t < l_n L ∧ k.testBit t = false)) : boI L k (t + 1) (a + 1) z (soN so a t) (woN w a (cha L t)) := by
  obtain ⟨h1, h2, h3⟩ := h
  refine ⟨by omega, fun s hs => ?_, fun F => ?_⟩
  · unfold soN
    split
    · rename_i q
      exact Nat.lt_of_lt_of_le (h2 s q) (pow_le_k (by omega))
    · have : 2 ^ a + 2 ^ a = 2 ^ (a + 1) := pow_dbl a
      exact or_pow_lt (Nat.lt_of_lt_of_le (h2 (s - 2 ^ a) (by omega)) (pow_le_k (by omega))) (by omega)
  · have e := h3 (fun j => (16 - cha L t) * F j + cha L t * F (j ||| 2 ^ t))
    have hH : blH L k t = cha L t := by unfold blH; rw [if_neg ht]
    have hF : blF L k t = 16 - cha L t := by unfold blF; rw [if_neg ht]
    have e1 : fb_sm (fun s => F (soN so a t s) * woN w a (cha L t) s) (2 ^ (a + 1)) = fb_sm (fun s => ((16 - cha L t) * F (so s) + cha L t * F (so s ||| 2 ^ t)) * w s) (2 ^ a) := by
      rw [sm_top]
      apply fb_sm_cong
      intro s hs
      unfold soN woN
      rw [if_pos hs, if_pos hs, if_neg (by omega), if_neg (by omega), Nat.add_sub_cancel, Nat.add_mul]
      congr 1
      · rw [Nat.mul_comm (w s), ← Nat.mul_assoc, Nat.mul_comm (F (so s))]
      · rw [Nat.mul_comm (w s), ← Nat.mul_assoc, Nat.mul_comm (F (so s ||| 2 ^ t))]
    have e2 : fb_sm (fun j => wtF (blH L k) (blF L k) (t + 1) j * F j) (2 ^ (t + 1)) = fb_sm (fun j => wtF (blH L k) (blF L k) t j * ((16 - cha L t) * F j + cha L t * F (j ||| 2 ^ t))) (2 ^ t) := by
      rw [sm_top]
      apply fb_sm_cong
      intro j hj
      rw [wtF_low hj, wtF_hi hj, hH, hF, or_add hj, Nat.mul_add, ← Nat.mul_assoc, ← Nat.mul_assoc]
    rw [e1, e2, e]
theorem bo_skip {L : Ld} {k t a z : Nat} {so w : Nat → Nat} (h : boI L k t a z so w) (ht : t < l_n L ∧ k.testBit t = false) : boI L k (t + 1) a (z + 1) so w := by
  obtain ⟨h1, h2, h3⟩ := h
  refine ⟨by omega, fun s hs => Nat.lt_of_lt_of_le (h2 s hs) (pow_le_k (by omega)), fun F => ?_⟩
  have e := h3 F
  have hH : blH L k t = 0 := by unfold blH; rw [if_pos ht]
  have hF : blF L k t = 16 := by unfold blF; rw [if_pos ht]
  have e2 : fb_sm (fun j => wtF (blH L k) (blF L k) (t + 1) j * F j) (2 ^ (t + 1)) = 16 * fb_sm (fun j => wtF (blH L k) (blF L k) t j * F j) (2 ^ t) := by
    rw [sm_top, ← sm_mul]
    apply fb_sm_cong
    intro j hj
    rw [wtF_low hj, wtF_hi hj, hH, hF, Nat.mul_zero, Nat.zero_mul, Nat.mul_comm _ 16, Nat.mul_assoc]
    exact Nat.add_zero _
  rw [e2, ← e, Nat.pow_succ, Nat.mul_comm (16 ^ z), ← Nat.mul_assoc, Nat.mul_comm _ 16, Nat.mul_assoc]
theorem m_builtOf {S : wd_W} {L : Ld} {k : Nat} (hL : lOk L) (h : mL S L) (hla : mLaid S L) (hk : k < 32768) :
    Ok (f_X12_builtOf S (nI k)) (fun o => o.1 = lN (bltN L k) ∧ lai L o.2.2.2.1 o.2.2.2.2.2.2.2.1) := by
  have hM := lM_15 hL
  have g3 := hL.1.2.2.1
  have h32 : S.1 32 = nI (l_M L) := h.1.2.2.2.2.1
  have h21 : S.1 21 = nI (l_n L) := h.1.2.1
  have hch := h.2.2.2
  unfold f_X12_builtOf
  refine ok_bd (m_lays (S := wd_o S [(38, (S.1 38)), (39, (S.1 39)), (44, (S.1 44))] [] [(17, (S.2.2.1 17)), (18, (S.2.2.1 18)), (19, (S.2.2.1 19)), (20, (S.2.2.1 20)), (31, (S.2.2.1 31))] [(21, (S.2.2.2.1 21))] []) hL h hla) ?_
  rintro ⟨u1, u2, u3, u4, u5, u6, u7⟩ ⟨e1, e2⟩
  dsimp only at e1 e2
  rw [li_0, gd_in (by omega) (by omega), lz_eq, gd_in (by omega) (by omega), lz_eq, nI_clamp (by omega)]
  refine ok_lk ?_
  refine ok_for0 (W := fun m t (x : Int32 × Int32 × (Nat → Int32) × (Nat → Int64)) => it5 (f_X12_builtOf_L25 S (nI k) _) m x.1 x.2.1 (nI t) x.2.2.1 x.2.2.2) (I := fun t x => ∃ a z so w, boI L k t a z so w ∧ x.1 = nI (2 ^ a) ∧ x.2.1 = nI z ∧ (t ≤ l_n L ∨ z ≤ l_n L) ∧ (∀ s, s < 2 ^ a → x.2.2.1 s = nI (so s)) ∧ ∀ s, s < 2 ^ a → x.2.2.2 s = lN (w s)) (e := l_M L) (s := (1, nI 0, upd (S.2.2.1 31) 0 (nI 0), vp_updL (S.2.2.2.1 21) 0 1)) (by omega) ?_ ?_ ?_
  · refine ⟨0, 0, fun _ => 0, fun _ => 1, ⟨rfl, fun s hs => Nat.one_pos, fun F => ?_⟩, rfl, rfl, Or.inl (Nat.zero_le _), fun s hs => ?_, fun s hs => ?_⟩
    · show (0 + F 0 * 1) * 1 = 0 + 1 * F 0
      omega
    · have hs : s < 1 := hs
      have : s = 0 := by omega
      subst this
      show upd (S.2.2.1 31) 0 (nI 0) 0 = _
      exact pk_us
    · have hs : s < 1 := hs
      have : s = 0 := by omega
      subst this
      show vp_updL (S.2.2.2.1 21) 0 1 0 = _
      exact pk_uLs
  · rintro m ⟨x27, x28, a30, a31⟩ ⟨a, z, so, w, hb, j1, j2, j3, j4, j5⟩
    dsimp only at j1 j2 j4 j5
    subst j1; subst j2
    show Ok (f_X12_builtOf_L25 S (nI k) _ _ (nI (2 ^ a)) (nI z) (nI (l_M L)) a30 a31) _
    have hb0 := hb.1
    have pa := pow_le15 (t := a) (by omega)
    unfold f_X12_builtOf_L25
    rw [h32, if_pos (nI_le (Nat.le_refl _) (by omega))]
    refine ok_lk ?_
    rw [lN_0]
    refine ok_for0 (W := fun m i (v : Int64) => it2 (f_X12_builtOf_L156 (u1, u2, u3, u4, u5, u6, u7) (nI (2 ^ a)) a30 a31 _) m v (nI i)) (I := fun i v => v = lN (fb_sm (fun s => b2n (thB L (so s)) * w s) i)) (e := 2 ^ a) (by omega) rfl ?_ ?_
    · intro m v hI
      show Ok (f_X12_builtOf_L156 (u1, u2, u3, u4, u5, u6, u7) (nI (2 ^ a)) a30 a31 _ _ v (nI (2 ^ a))) _
      unfold f_X12_builtOf_L156
      rw [if_pos (nI_le (Nat.le_refl _) (by omega))]
      dsimp only
      rw [bd_s (m_power (by omega))]
      refine ok_some ⟨?_, e1, e2⟩
      show v * lN (16 ^ z) = _
      rw [hI, lN_mul]
      congr 1
      rw [hb.2.2 (fun s => b2n (thB L s))]
      unfold bltN tgt
      apply fb_sm_cong
      intro j _
      rw [b2n_mul, Nat.mul_comm]
    · intro m i v hi hI ih
      show Ok (f_X12_builtOf_L156 (u1, u2, u3, u4, u5, u6, u7) (nI (2 ^ a)) a30 a31 _ (it2 _ m) v (nI i)) _
      generalize it2 (f_X12_builtOf_L156 (u1, u2, u3, u4, u5, u6, u7) (nI (2 ^ a)) a30 a31 _) m = r at ih
      have hso : so i < 2 ^ l_M L := hb.2.1 i hi
      have p15 := pow_le15 hM
      unfold f_X12_builtOf_L156
      rw [if_neg (nI_ge hi (by omega)), gd_in (by omega) (by omega), nI_clamp (by omega), j4 i hi, gd_in (by omega) (by omega), nI_clamp (by omega), nI_1]
      have hth := th_ite (e2 _ hso)
      refine ok_lk (ok_ite (fun y => ?_) (fun y => ?_))
      · have hq := hth.mp y
        refine ok_lz (ih _ ?_)
        rw [fb_sm_succ, hq, hI, lN_0, lN_add]
        show lN _ = lN (_ + 0 * w i)
        rw [Nat.zero_mul]
      · have hq : thB L (so i) = true := by
          cases q : thB L (so i) with
          | true => rfl
          | false => exact absurd (hth.mpr q) y
        rw [gd_in (by omega) (by omega), j5 i hi]
        refine ok_lz (ih _ ?_)
        rw [fb_sm_succ, hq, hI, lN_add]
        show lN _ = lN (_ + 1 * w i)
        rw [Nat.one_mul]
  · rintro m t ⟨x27, x28, a30, a31⟩ ht ⟨a, z, so, w, hb, j1, j2, j3, j4, j5⟩ ih
    dsimp only at j1 j2 j3 j4 j5
    subst j1; subst j2
    show Ok (f_X12_builtOf_L25 S (nI k) _ (it5 _ m) (nI (2 ^ a)) (nI z) (nI t) a30 a31) _
    generalize it5 (f_X12_builtOf_L25 S (nI k) _) m = r at ih
    have hb0 := hb.1
    have pa := pow_le15 (t := a) (by omega)
    have pa1 := pow_le15 (t := a + 1) (by omega)
    have pd := pow_dbl a
    have hc := cha_le hL ht
    unfold f_X12_builtOf_L25
    rw [h32, if_neg (nI_ge ht (by omega)), h21, nI_1]
    refine ok_lk ?_
    have skip : t < l_n L ∧ k.testBit t = false → Ok (r (nI (2 ^ a)) (nI z + (1 : Int32)) (nI (t + 1)) a30 a31) _ := fun hs => by
      rw [nI_1]
      exact ih (nI (2 ^ a), nI (z + 1), a30, a31) ⟨a, z + 1, so, w, bo_skip hb hs, rfl, rfl, Or.inl (by omega), j4, j5⟩
    have take : ¬ (t < l_n L ∧ k.testBit t = false) → ∀ K : (Nat → Int32) → (Nat → Int64) → Option o_X12_builtOf, K = (fun a39 a40 => lz (nI (2 ^ a) * (2 : Int32)) fun x42 => r x42 (nI z) (nI (t + 1)) a39 a40) →
        Ok (it3 (f_X12_builtOf_L61 S (nI (2 ^ a)) (nI t) K) fuel (nI 0) a30 a31) (fun o => o.1 = lN (bltN L k) ∧ lai L o.2.2.2.1 o.2.2.2.2.2.2.2.1) := by
      intro hs K hK
      refine ok_for0 (W := fun m i (x : (Nat → Int32) × (Nat → Int64)) => it3 (f_X12_builtOf_L61 S (nI (2 ^ a)) (nI t) K) m (nI i) x.1 x.2) (I := fun i x => (∀ s, s < 2 ^ a → x.1 s = nI (so s)) ∧ (∀ s, s < i → x.1 (s + 2 ^ a) = nI (so s ||| 2 ^ t)) ∧ (∀ s, s < 2 ^ a → x.2 s = lN (if s < i then w s * (16 - cha L t) else w s)) ∧ ∀ s, s < i → x.2 (s + 2 ^ a) = lN (w s * cha L t)) (e := 2 ^ a) (s := (a30, a31)) (by omega) ⟨j4, fun s hs => absurd hs (Nat.not_lt_zero s), fun s hs => by rw [if_neg (by omega)]; exact j5 s hs, fun s hs => absurd hs (Nat.not_lt_zero s)⟩ ?_ ?_
      · rintro m ⟨b44, b45⟩ ⟨i1, i2, i3, i4⟩
        dsimp only at i1 i2 i3 i4
        show Ok (f_X12_builtOf_L61 S (nI (2 ^ a)) (nI t) K _ (nI (2 ^ a)) b44 b45) _
        unfold f_X12_builtOf_L61
        rw [if_pos (nI_le (Nat.le_refl _) (by omega)), hK]
        dsimp only
        rw [lz_eq, li_2, pk_mul, show 2 ^ a * 2 = 2 ^ (a + 1) by rw [Nat.pow_succ]]
        refine ih (nI (2 ^ (a + 1)), nI z, b44, b45) ⟨a + 1, z, soN so a t, woN w a (cha L t), bo_take hb hs, rfl, rfl, ?_, fun s hs' => ?_, fun s hs' => ?_⟩
        · rcases j3 with q | q
          · exact Or.inr (by omega)
          · exact Or.inr q
        · show b44 s = nI (soN so a t s)
          unfold soN
          by_cases q : s < 2 ^ a
          · rw [if_pos q]; exact i1 s q
          · rw [if_neg q]
            have := i2 (s - 2 ^ a) (by omega)
            rw [show s - 2 ^ a + 2 ^ a = s by omega] at this
            exact this
        · show b45 s = lN (woN w a (cha L t) s)
          unfold woN
          by_cases q : s < 2 ^ a
          · rw [if_pos q]
            have := i3 s q
            rw [if_pos q] at this
            exact this
          · rw [if_neg q]
            have := i4 (s - 2 ^ a) (by omega)
            rw [show s - 2 ^ a + 2 ^ a = s by omega] at this
            exact this
      · rintro m i ⟨b44, b45⟩ hi ⟨i1, i2, i3, i4⟩ ih2
        dsimp only at i1 i2 i3 i4
        show Ok (f_X12_builtOf_L61 S (nI (2 ^ a)) (nI t) K (it3 _ m) (nI i) b44 b45) _
        generalize it3 (f_X12_builtOf_L61 S (nI (2 ^ a)) (nI t) K) m = r2 at ih2
        have w0 := i3 i hi
        rw [if_neg (by omega)] at w0
        unfold f_X12_builtOf_L61
        rw [if_neg (nI_ge hi (by omega)), gd_in (by omega) (by omega), gd_in (by omega) (by omega), nI_clamp (by omega), nI_clamp (by omega), hch t ht, nI_l (by omega), w0, lN_mul, lz_eq, nI_add, gd_in (by omega) (by omega), lz_eq, nI_clamp (by omega)]
        rw [gd_in (by omega) (by omega), i1 i hi, oI_pow (by omega), oI_or, lz_eq, gd_in (by omega) (by omega), lz_eq, gd_in (by omega) (by omega), gd_in (by omega) (by omega), pk_uLn (show i ≠ i + 2 ^ a by have := Nat.two_pow_pos a; omega), w0, li_16, pk_sub hc, nI_l (by omega), lN_mul, lz_eq, gd_in (by omega) (by omega), lz_eq, nI_1]
        refine ih2 (upd b44 (i + 2 ^ a) (nI (so i ||| 2 ^ t)), vp_updL (vp_updL b45 (i + 2 ^ a) (lN (w i * cha L t))) i (lN (w i * (16 - cha L t)))) ⟨fun s hs' => ?_, fun s hs' => ?_, fun s hs' => ?_, fun s hs' => ?_⟩
        · dsimp only; rw [pk_un (by omega)]; exact i1 s hs'
        · dsimp only
          by_cases q : s = i
          · subst q; rw [pk_us]
          · rw [pk_un (by omega)]; exact i2 s (by omega)
        · dsimp only
          by_cases q : s = i
          · subst q; rw [pk_uLs, if_pos (by omega)]
          · rw [pk_uLn q, pk_uLn (by omega), i3 s hs']
            by_cases q2 : s < i
            · rw [if_pos q2, if_pos (by omega)]
            · rw [if_neg q2, if_neg (by omega)]
        · dsimp only
          rw [pk_uLn (by omega)]
          by_cases q : s = i
          · subst q; rw [pk_uLs]
          · rw [pk_uLn (by omega)]; exact i4 s (by omega)
    rw [li_0]
    refine ok_lk ?_
    refine ok_ite (fun y => ?_) (fun y => ?_)
    · rw [nI_leI (by omega) (by omega)] at y
      exact ok_lk (take (fun q => by omega) _ rfl)
    · rw [nI_leI (by omega) (by omega)] at y
      refine ok_ite (fun y2 => ?_) (fun y2 => ?_)
      · have y2 := (oI_bit0 (by omega) (by omega)).mp y2
        exact skip ⟨by omega, y2⟩
      · have y2 : ¬ k.testBit t = false := fun q => y2 ((oI_bit0 (by omega) (by omega)).mpr q)
        exact ok_lk (take (fun q => y2 q.2) _ rfl)
noncomputable def judA (L : Ld) (p1 : Int32) : Int64 := if inB 0 (((2 ^ l_n L : Nat) : Int) - 1) p1 = true then lN (bltN L p1.toNatClampNeg) else -1
theorem m_judge {S : wd_W} {L : Ld} {p1 : Int32} (hL : lOk L) (h : mL S L) (hla : mLaid S L) : Ok (f_X12_judge S p1) (fun o => o.1 = judA L p1 ∧ mLd L o.2.2.2.1 o.2.2.2.2.2.2.2.1) := by
  have g3 := hL.1.2.2.1
  have p3 : 2 ^ l_n L ≤ 4096 := pow_le_k (n := 12) g3
  have h21 : S.1 21 = nI (l_n L) := h.1.2.1
  unfold f_X12_judge judA
  rw [h21, oI_pow (by omega), lN_0, bd_s (m_inM (by omega))]
  refine ok_b (fun z => ok_some ⟨by rw [z]; rfl, hla⟩) (fun z => ?_)
  obtain ⟨k, k1, rfl, k2, k3⟩ := inB_t (by omega) z
  rw [z, if_pos rfl, nI_clamp (by omega)]
  refine ok_bd (m_builtOf (S := wd_o S [(38, (S.1 38)), (39, (S.1 39)), (44, (S.1 44))] [] [(17, (S.2.2.1 17)), (18, (S.2.2.1 18)), (19, (S.2.2.1 19)), (20, (S.2.2.1 20)), (31, (S.2.2.1 31))] [(21, (S.2.2.2.1 21))] []) hL h hla (show k < 32768 by omega)) ?_
  intro o ho
  exact ok_some ⟨ho.1, Or.inr ho.2⟩
