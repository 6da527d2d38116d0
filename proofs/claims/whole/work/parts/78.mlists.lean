/-! the reference's ways and cuts -/
theorem th_ite {x : Bool} {a : Int32} (h : a = nI (b2n x)) : a = 0 ↔ x = false := by
  rw [h]
  cases x with
  | false => exact ⟨fun _ => rfl, fun _ => rfl⟩
  | true => exact ⟨fun z => absurd z n1_ne, fun z => by cases z⟩
theorem m_isWay {S : wd_W} {L : Ld} {s : Nat} (hL : lOk L) (h32 : S.1 32 = nI (l_M L)) (ht : ∀ s, s < 2 ^ l_M L → S.2.2.1 20 s = nI (b2n (thB L s))) (hs : s < 2 ^ l_M L) : f_X12_isWay S (nI s) = some (nI (b2n (lea L false s))) := by
  have hM := lM_15 hL
  have pM := pow_le15 hM
  apply ok_e
  unfold f_X12_isWay
  rw [gd_in (by omega) (by omega), nI_clamp (by omega)]
  refine ok_ite (fun z => ?_) (fun z => ?_)
  · rw [th_ite (ht s hs)] at z
    refine ok_some ?_
    have : lea L false s = false := by unfold lea hol; simp [z]
    rw [this]; rfl
  · rw [th_ite (ht s hs)] at z
    have h1 : thB L s = true := by simpa using z
    rw [li_0]
    refine ok_for0 (W := fun n i (_ : Unit) => it1 (f_X12_isWay_L13 S (nI s)) n (nI i)) (I := fun i _ => alls (fun t => !s.testBit t || (thB L (hol1 L false s t) == false)) i = true) (e := l_M L) (s := ()) (by omega) rfl ?_ ?_
    · intro n _ hI
      show Ok (f_X12_isWay_L13 S _ _ (nI (l_M L))) _
      unfold f_X12_isWay_L13
      rw [h32, if_pos (nI_le (Nat.le_refl _) (by omega))]
      refine ok_some ?_
      have : lea L false s = true := by unfold lea; rw [hI]; unfold hol; simp [h1]
      rw [this]; rfl
    · intro n i _ hi hI ih
      show Ok (f_X12_isWay_L13 S _ (it1 (f_X12_isWay_L13 S (nI s)) n) (nI i)) _
      generalize it1 (f_X12_isWay_L13 S (nI s)) n = r at ih
      unfold f_X12_isWay_L13
      have hstep : alls (fun t => !s.testBit t || (thB L (hol1 L false s t) == false)) (i + 1) = (alls (fun t => !s.testBit t || (thB L (hol1 L false s t) == false)) i && (!s.testBit i || (thB L (hol1 L false s i) == false))) := rfl
      have hh : hol1 L false s i = ndn s (2 ^ i) := by unfold hol1; simp
      have hnd : ndn s (2 ^ i) < 2 ^ l_M L := ndn_lt hs
      rw [h32, if_neg (nI_ge hi (by omega)), nI_1, oI_pow (by omega), oI_ndn]
      refine ok_lk (ok_ite (fun y => ?_) (fun y => ?_))
      · rw [oI_bit1 (by omega) (by omega)] at y
        rw [gd_in (by omega) (by omega), nI_clamp (by omega)]
        refine ok_ite (fun w => ?_) (fun w => ?_)
        · rw [th_ite (ht _ hnd)] at w
          exact ih () (by rw [hstep, hI, y, hh, w]; rfl)
        · rw [th_ite (ht _ hnd)] at w
          refine ok_some ?_
          have : lea L false s = false := by
            unfold lea
            have : alls (fun t => !s.testBit t || (thB L (hol1 L false s t) == false)) (l_M L) = false := alls_f.mpr ⟨i, hi, by rw [hh]; simp [y, w]⟩
            rw [this]; simp
          rw [this]; rfl
      · rw [oI_bit1 (by omega) (by omega)] at y
        have y' : s.testBit i = false := by simpa using y
        exact ih () (by rw [hstep, hI, y']; rfl)
theorem m_isCut {S : wd_W} {L : Ld} {s : Nat} (hL : lOk L) (h32 : S.1 32 = nI (l_M L)) (ht : ∀ s, s < 2 ^ l_M L → S.2.2.1 20 s = nI (b2n (thB L s))) (hs : s < 2 ^ l_M L) : f_X12_isCut S (nI s) = some (nI (b2n (lea L true s))) := by
  have hM := lM_15 hL
  have pM := pow_le15 hM
  have p0 := Nat.two_pow_pos (l_M L)
  have hnd : ndn (2 ^ l_M L - 1) s < 2 ^ l_M L := ndn_lt (by omega)
  have hho : hol L true s = ndn (2 ^ l_M L - 1) s := by unfold hol; simp
  apply ok_e
  unfold f_X12_isCut
  rw [bd_s (m_sets (S := wd_o S [] [] [] [] []) h32 hM), show nI (2 ^ l_M L) - (1 : Int32) = nI (2 ^ l_M L - 1) from by rw [li_1, oI_sub1 p0], lz_eq, oI_ndn, gd_in (by omega) (by omega), nI_clamp (by omega)]
  refine ok_ite (fun z => ?_) (fun z => ?_)
  · rw [th_ite (ht _ hnd)] at z
    rw [li_0]
    refine ok_for0 (W := fun n i (_ : Unit) => it1 (f_X12_isCut_L24 S (nI s) (nI (2 ^ l_M L - 1))) n (nI i)) (I := fun i _ => alls (fun t => !s.testBit t || (thB L (hol1 L true s t) == true)) i = true) (e := l_M L) (s := ()) (by omega) rfl ?_ ?_
    · intro n _ hI
      show Ok (f_X12_isCut_L24 S _ _ _ (nI (l_M L))) _
      unfold f_X12_isCut_L24
      rw [h32, if_pos (nI_le (Nat.le_refl _) (by omega))]
      refine ok_some ?_
      have : lea L true s = true := by unfold lea; rw [hI, hho]; simp [z]
      rw [this]; rfl
    · intro n i _ hi hI ih
      show Ok (f_X12_isCut_L24 S _ _ (it1 (f_X12_isCut_L24 S (nI s) (nI (2 ^ l_M L - 1))) n) (nI i)) _
      generalize it1 (f_X12_isCut_L24 S (nI s) (nI (2 ^ l_M L - 1))) n = r at ih
      unfold f_X12_isCut_L24
      have hstep : alls (fun t => !s.testBit t || (thB L (hol1 L true s t) == true)) (i + 1) = (alls (fun t => !s.testBit t || (thB L (hol1 L true s t) == true)) i && (!s.testBit i || (thB L (hol1 L true s i) == true))) := rfl
      have hh : hol1 L true s i = ndn (2 ^ l_M L - 1) s ||| 2 ^ i := by unfold hol1; simp
      have hlt : ndn (2 ^ l_M L - 1) s ||| 2 ^ i < 2 ^ l_M L := or_pow_lt hnd hi
      rw [h32, if_neg (nI_ge hi (by omega)), nI_1, oI_pow (by omega), oI_ndn, oI_or]
      refine ok_lk (ok_ite (fun y => ?_) (fun y => ?_))
      · rw [oI_bit1 (by omega) (by omega)] at y
        rw [gd_in (by omega) (by omega), nI_clamp (by omega)]
        refine ok_ite (fun w => ?_) (fun w => ?_)
        · rw [th_ite (ht _ hlt)] at w
          refine ok_some ?_
          have : lea L true s = false := by
            unfold lea
            have : alls (fun t => !s.testBit t || (thB L (hol1 L true s t) == true)) (l_M L) = false := alls_f.mpr ⟨i, hi, by rw [hh]; simp [y, w]⟩
            rw [this]; simp
          rw [this]; rfl
        · rw [th_ite (ht _ hlt)] at w
          have w' : thB L (ndn (2 ^ l_M L - 1) s ||| 2 ^ i) = true := by simpa using w
          exact ih () (by rw [hstep, hI, y, hh, w']; rfl)
      · rw [oI_bit1 (by omega) (by omega)] at y
        have y' : s.testBit i = false := by simpa using y
        exact ih () (by rw [hstep, hI, y']; rfl)
  · rw [th_ite (ht _ hnd)] at z
    refine ok_some ?_
    have z' : thB L (ndn (2 ^ l_M L - 1) s) = true := by simpa using z
    have : lea L true s = false := by unfold lea; rw [hho, z']; simp
    rw [this]; rfl
theorem m_chanceOf {S : wd_W} {L : Ld} {c : Bool} {s : Nat} (hL : lOk L) (h32 : S.1 32 = nI (l_M L)) (ht : ∀ t, t < l_M L → S.2.2.1 16 t = nI (cha L t)) (hs : s < 32768) : f_X12_chanceOf S (nI s) (nI (b2n c)) = some (lN (val L c s)) := by
  have hM := lM_15 hL
  apply ok_e
  unfold f_X12_chanceOf
  rw [li_0, show (1 : Int64) = lN 1 from rfl]
  refine ok_for0 (W := fun n i (v : Int64) => it2 (f_X12_chanceOf_L5 S (nI s) (nI (b2n c))) n v (nI i)) (I := fun i v => v = lN (wtF (fun t => if c = true then 16 - cha L t else cha L t) (fun _ => 16) i s)) (e := l_M L) (by omega) rfl ?_ ?_
  · intro n v hI
    show Ok (f_X12_chanceOf_L5 S _ _ _ v (nI (l_M L))) _
    unfold f_X12_chanceOf_L5
    rw [h32, if_pos (nI_le (Nat.le_refl _) (by omega))]
    exact ok_some hI
  · intro n i v hi hI ih
    show Ok (f_X12_chanceOf_L5 S _ _ (it2 (f_X12_chanceOf_L5 S (nI s) (nI (b2n c))) n) v (nI i)) _
    generalize it2 (f_X12_chanceOf_L5 S (nI s) (nI (b2n c))) n = r at ih
    unfold f_X12_chanceOf_L5
    have hca := cha_le hL hi
    have hst : wtF (fun t => if c = true then 16 - cha L t else cha L t) (fun _ => 16) (i + 1) s = wtF (fun t => if c = true then 16 - cha L t else cha L t) (fun _ => 16) i s * (if s.testBit i = true then (if c = true then 16 - cha L i else cha L i) else 16) := rfl
    rw [h32, if_neg (nI_ge hi (by omega)), nI_1]
    refine ok_lk (ok_ite (fun y => ?_) (fun y => ?_))
    · rw [oI_bit0 (by omega) (by omega)] at y
      refine ok_lz (ih _ ?_)
      rw [hst, y, if_neg (by decide), hI, show (16 : Int64) = lN 16 from rfl, lN_mul]
    · rw [oI_bit0 (by omega) (by omega)] at y
      have hb : s.testBit i = true := by simpa using y
      refine ok_b (fun hc => ?_) (fun hc => ?_)
      · rw [gd_in (by omega) (by omega), nI_clamp (by omega), ht i hi, nI_l (by omega)]
        refine ok_lz (ih _ ?_)
        rw [hst, hb, if_pos rfl, hI, hc, if_neg (by decide), lN_mul]
      · rw [gd_in (by omega) (by omega), nI_clamp (by omega), ht i hi, li_16, pk_sub hca, nI_l (by omega)]
        refine ok_lz (ih _ ?_)
        rw [hst, hb, if_pos rfl, hI, hc, if_pos rfl, lN_mul]
