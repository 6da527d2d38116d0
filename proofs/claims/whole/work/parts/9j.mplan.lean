/-! plan: the reference -/
def lenF (L : Ld) (k : Nat) : Nat := fb_sm (fun i => if k.testBit i = true then l_D L i else 0) (l_n L)
theorem lenF_le {L : Ld} (hL : lOk L) (k : Nat) : lenF L k ≤ 108 := by
  have g3 := hL.1.2.2.1
  have : lenF L k ≤ l_n L * 9 := fb_sm_bound (fun i hi => by
    have := (hL.2.1 i hi).2.2.2.2.2.2
    split <;> omega)
  omega
theorem m_lengthOf {S : wd_W} {L : Ld} {k : Nat} (hL : lOk L) (h : mL S L) (hk : k < 32768) : f_X12_lengthOf S (nI k) = some (nI (lenF L k)) := by
  have g3 := hL.1.2.2.1
  have h21 : S.1 21 = nI (l_n L) := h.1.2.1
  apply ok_e
  unfold f_X12_lengthOf lenF
  rw [li_0]
  refine ok_for0 (W := fun m i (v : Nat) => it2 (f_X12_lengthOf_L4 S (nI k)) m (nI v) (nI i)) (I := fun i v => v = fb_sm (fun i => if k.testBit i = true then l_D L i else 0) i) (e := l_n L) (s := 0) (by omega) rfl ?_ ?_
  · intro m v hI
    show Ok (f_X12_lengthOf_L4 S (nI k) _ (nI v) (nI (l_n L))) _
    unfold f_X12_lengthOf_L4
    rw [h21, if_pos (nI_le (Nat.le_refl _) (by omega)), hI]
    exact ok_some rfl
  · intro m i v hi hI ih
    show Ok (f_X12_lengthOf_L4 S (nI k) (it2 _ m) (nI v) (nI i)) _
    generalize it2 (f_X12_lengthOf_L4 S (nI k)) m = r at ih
    unfold f_X12_lengthOf_L4
    rw [h21, if_neg (nI_ge hi (by omega)), nI_1]
    refine ok_lk (ok_ite (fun z => ?_) (fun z => ?_))
    · have z := (oI_bit1 (by omega) (by omega)).mp z
      rw [gd_in (by omega) (by omega), nI_clamp (by omega), (h.2.1 i hi).2.2.2.2.1]
      refine ok_lz ?_
      rw [nI_add]
      exact ih _ (by rw [fb_sm_succ, if_pos z, hI])
    · have z : ¬ k.testBit i = true := fun q => z ((oI_bit1 (by omega) (by omega)).mpr q)
      refine ok_lz ?_
      rw [li_0, nI_add]
      exact ih _ (by rw [fb_sm_succ, if_neg z, hI])
noncomputable def plS (L : Ld) (n : Nat) (s : Nat) (x : Int32 × Nat × Nat) : Int32 × Nat × Nat := if atL (l_M L) (bltN L s) n = true ∧ (x.1 < 0 ∨ lenF L s < x.2.1 ∨ (lenF L s = x.2.1 ∧ x.2.2 < bltN L s)) then (nI s, lenF L s, bltN L s) else x
noncomputable def plF (L : Ld) (n m : Nat) : Int32 × Nat × Nat := itf (plS L n) (-2, 0, 0) m
theorem plF_le {L : Ld} (hL : lOk L) (n m : Nat) : (plF L n m).2.1 ≤ 108 ∧ (plF L n m).2.2 ≤ 16 ^ l_M L :=
  itf_ind (P := fun _ (x : Int32 × Nat × Nat) => x.2.1 ≤ 108 ∧ x.2.2 ≤ 16 ^ l_M L) ⟨Nat.zero_le _, Nat.zero_le _⟩ (fun i x _ hx => by
    unfold plS
    split
    · exact ⟨lenF_le hL i, bltN_le hL i⟩
    · exact hx)
noncomputable def plaA (L : Ld) (p1 : Int32) : Int32 := if inB 0 16 p1 = true then (plF L p1.toNatClampNeg (2 ^ l_n L)).1 else -1
theorem m_plan {S : wd_W} {L : Ld} {p1 : Int32} (hL : lOk L) (h : mL S L) (hla : mLaid S L) : Ok (f_X12_plan S p1) (fun o => o.1 = plaA L p1 ∧ mLd L o.2.2.2.1 o.2.2.2.2.2.2.2.1) := by
  have g3 := hL.1.2.2.1
  have p3 : 2 ^ l_n L ≤ 4096 := pow_le_k (n := 12) g3
  have hM := lM_15 hL
  have pw := pow16_le hM
  have h21 : S.1 21 = nI (l_n L) := h.1.2.1
  have h32 : S.1 32 = nI (l_M L) := h.1.2.2.2.2.1
  unfold f_X12_plan plaA
  rw [lN_0, show (16 : Int64) = lN 16 from rfl, bd_s (m_inN (by omega) (by omega))]
  refine ok_b (fun z => ok_some ⟨by rw [show inB 0 16 p1 = false from z]; rfl, hla⟩) (fun z => ?_)
  have z : inB 0 16 p1 = true := z
  obtain ⟨n, n1, rfl, n2, n3⟩ := inB_t (by omega) z
  rw [z, if_pos rfl, nI_clamp (by omega), li_0]
  refine ok_for0 (W := fun m i (x : (Int32 × Nat × Nat) × Int32 × Int32 × Int32 × (Nat → Int32) × (Nat → Int32) × (Nat → Int32) × (Nat → Int32) × (Nat → Int32) × (Nat → Int64)) => it13 (f_X12_plan_L25 S (nI n)) m x.1.1 (nI x.1.2.1) (lN x.1.2.2) (nI i) x.2.1 x.2.2.1 x.2.2.2.1 x.2.2.2.2.1 x.2.2.2.2.2.1 x.2.2.2.2.2.2.1 x.2.2.2.2.2.2.2.1 x.2.2.2.2.2.2.2.2.1 x.2.2.2.2.2.2.2.2.2)
    (I := fun i x => x.1 = plF L n i ∧ mLd L x.2.2.2.1 x.2.2.2.2.2.2.2.1) (e := 2 ^ l_n L) (s := ((-2, 0, 0), S.1 38, S.1 39, S.1 44, S.2.2.1 17, S.2.2.1 18, S.2.2.1 19, S.2.2.1 20, S.2.2.1 31, S.2.2.2.1 21)) (by omega) ⟨rfl, hla⟩ ?_ ?_
  · rintro m ⟨⟨x2, x3, x4⟩, x6, x7, x8, a9, a10, a11, a12, a13, a14⟩ ⟨i1, i2⟩
    dsimp only at i1 i2
    show Ok (f_X12_plan_L25 S (nI n) _ x2 (nI x3) (lN x4) (nI (2 ^ l_n L)) x6 x7 x8 a9 a10 a11 a12 a13 a14) _
    unfold f_X12_plan_L25
    rw [h21, oI_pow (by omega), if_pos (nI_le (Nat.le_refl _) (by omega))]
    exact ok_some ⟨congrArg Prod.fst i1, i2⟩
  · rintro m i ⟨⟨x2, x3, x4⟩, x6, x7, x8, a9, a10, a11, a12, a13, a14⟩ hi ⟨i1, i2⟩ ih
    dsimp only at i1 i2
    show Ok (f_X12_plan_L25 S (nI n) (it13 _ m) x2 (nI x3) (lN x4) (nI i) x6 x7 x8 a9 a10 a11 a12 a13 a14) _
    generalize it13 (f_X12_plan_L25 S (nI n)) m = r at ih
    have hle := plF_le hL n i
    rw [← i1] at hle
    dsimp only at hle
    have hll := lenF_le hL i
    have hbl := bltN_le hL i
    have hstep : plF L n (i + 1) = if atL (l_M L) (bltN L i) n = true ∧ (x2 < 0 ∨ lenF L i < x3 ∨ (lenF L i = x3 ∧ x4 < bltN L i)) then (nI i, lenF L i, bltN L i) else (x2, x3, x4) := by
      show plS L n i (plF L n i) = _
      rw [← i1]
      rfl
    unfold f_X12_plan_L25
    rw [h21, oI_pow (by omega), if_neg (nI_ge hi (by omega)), bd_s (m_lengthOf (S := wd_o S [(38, x6), (39, x7), (44, x8)] [] [(17, a9), (18, a10), (19, a11), (20, a12), (31, a13)] [(21, a14)] []) hL h (show i < 32768 by omega)), nI_1]
    refine ok_lk (ok_lk ?_)
    have work : (x2 < 0 ∨ lenF L i ≤ x3) → Ok (bd (f_X12_builtOf (wd_o S [(38, x6), (39, x7), (44, x8)] [] [(17, a9), (18, a10), (19, a11), (20, a12), (31, a13)] [(21, a14)] []) (nI i)) fun o31 =>
      bd (f_X12_isAtLeast (wd_o S [(38, o31.2.1), (39, o31.2.2.1), (44, o31.2.2.2.1)] [] [(17, o31.2.2.2.2.1), (18, o31.2.2.2.2.2.1), (19, o31.2.2.2.2.2.2.1), (20, o31.2.2.2.2.2.2.2.1), (31, o31.2.2.2.2.2.2.2.2.1)] [(21, o31.2.2.2.2.2.2.2.2.2)] []) o31.1 (nI n)) fun o32 =>
      if o32 = 0 then (r x2 (nI x3) (lN x4) (nI (i + 1)) o31.2.1 o31.2.2.1 o31.2.2.2.1 o31.2.2.2.2.1 o31.2.2.2.2.2.1 o31.2.2.2.2.2.2.1 o31.2.2.2.2.2.2.2.1 o31.2.2.2.2.2.2.2.2.1 o31.2.2.2.2.2.2.2.2.2) else (
      lk (r (nI i) (nI (lenF L i)) o31.1 (nI (i + 1)) o31.2.1 o31.2.2.1 o31.2.2.2.1 o31.2.2.2.2.1 o31.2.2.2.2.2.1 o31.2.2.2.2.2.2.1 o31.2.2.2.2.2.2.2.1 o31.2.2.2.2.2.2.2.2.1 o31.2.2.2.2.2.2.2.2.2) fun k96_33 =>
      if x2 < 0 then (k96_33) else (
      if nI (lenF L i) = nI x3 then (
      if lN x4 < o31.1 then (k96_33) else (r x2 (nI x3) (lN x4) (nI (i + 1)) o31.2.1 o31.2.2.1 o31.2.2.2.1 o31.2.2.2.2.1 o31.2.2.2.2.2.1 o31.2.2.2.2.2.2.1 o31.2.2.2.2.2.2.2.1 o31.2.2.2.2.2.2.2.2.1 o31.2.2.2.2.2.2.2.2.2)) else (k96_33)))) (fun o => o.1 = (plF L n (2 ^ l_n L)).1 ∧ mLd L o.2.2.2.1 o.2.2.2.2.2.2.2.1) := by
      intro hpre
      refine ok_bd (m_builtOf (S := wd_o S [(38, x6), (39, x7), (44, x8)] [] [(17, a9), (18, a10), (19, a11), (20, a12), (31, a13)] [(21, a14)] []) hL h i2 (show i < 32768 by omega)) ?_
      rintro ⟨o1, b38, b39, b44, b17, b18, b19, b20, b31, b21⟩ ⟨q1, q2⟩
      dsimp only at q1 q2 ⊢
      subst q1
      rw [bd_s (m_isAtLeast (S := wd_o S [(38, b38), (39, b39), (44, b44)] [] [(17, b17), (18, b18), (19, b19), (20, b20), (31, b31)] [(21, b21)] []) h32 hM hbl (by omega))]
      have stay : ¬ (atL (l_M L) (bltN L i) n = true ∧ (x2 < 0 ∨ lenF L i < x3 ∨ (lenF L i = x3 ∧ x4 < bltN L i))) → Ok (r x2 (nI x3) (lN x4) (nI (i + 1)) b38 b39 b44 b17 b18 b19 b20 b31 b21) (fun o => o.1 = (plF L n (2 ^ l_n L)).1 ∧ mLd L o.2.2.2.1 o.2.2.2.2.2.2.2.1) := fun hn => ih ((x2, x3, x4), b38, b39, b44, b17, b18, b19, b20, b31, b21) ⟨by dsimp only; rw [hstep, if_neg hn], Or.inr q2⟩
      have take : (atL (l_M L) (bltN L i) n = true ∧ (x2 < 0 ∨ lenF L i < x3 ∨ (lenF L i = x3 ∧ x4 < bltN L i))) → Ok (r (nI i) (nI (lenF L i)) (lN (bltN L i)) (nI (i + 1)) b38 b39 b44 b17 b18 b19 b20 b31 b21) (fun o => o.1 = (plF L n (2 ^ l_n L)).1 ∧ mLd L o.2.2.2.1 o.2.2.2.2.2.2.2.1) := fun hn => ih ((nI i, lenF L i, bltN L i), b38, b39, b44, b17, b18, b19, b20, b31, b21) ⟨by dsimp only; rw [hstep, if_pos hn], Or.inr q2⟩
      refine ok_b (fun hb => stay (fun q => by rw [hb] at q; cases q.1)) (fun hb => ?_)
      refine ok_lk (ok_ite (fun y => take ⟨hb, Or.inl y⟩) (fun y => ?_))
      have hpre : lenF L i ≤ x3 := hpre.resolve_left y
      refine ok_ite (fun y2 => ?_) (fun y2 => ?_)
      · rw [nI_eq (by omega) (by omega)] at y2
        refine ok_ite (fun y3 => ?_) (fun y3 => ?_)
        · rw [lN_ltL (by omega) (by omega)] at y3
          exact take ⟨hb, Or.inr (Or.inr ⟨y2, y3⟩)⟩
        · rw [lN_ltL (by omega) (by omega)] at y3
          exact stay (fun q => by rcases q.2 with q | q | q; exact y q; omega; exact y3 q.2)
      · rw [nI_eq (by omega) (by omega)] at y2
        exact take ⟨hb, Or.inr (Or.inl (by omega))⟩
    refine ok_ite (fun y => work (Or.inl y)) (fun y => ?_)
    refine ok_ite (fun y2 => ?_) (fun y2 => ?_)
    · rw [nI_leI (by omega) (by omega)] at y2
      exact work (Or.inr y2)
    · rw [nI_leI (by omega) (by omega)] at y2
      exact ih ((x2, x3, x4), x6, x7, x8, a9, a10, a11, a12, a13, a14) ⟨by dsimp only; rw [hstep, if_neg (fun q => by rcases q.2 with q | q | q; exact y q; omega; omega)], i2⟩
