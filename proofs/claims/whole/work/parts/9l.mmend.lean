/-! mendings: the reference -/
def coiF (T : Nt) (s : Nat) : Nat := fb_sm (fun i => if s.testBit i = true then T 2 i else 0) (T 0 0)
theorem coiF_le {L : Ld} {T : Nt} (hn : nOk L T) (s : Nat) : coiF T s ≤ 8991 := by
  obtain ⟨⟨n0, nk⟩, _⟩ := hn
  have : coiF T s ≤ T 0 0 * 999 := fb_sm_bound (fun i hi => by
    have := (nk i hi).2.1
    split <;> omega)
  omega
theorem coiF_0 (T : Nt) : coiF T 0 = 0 := sm_zero (fun i _ => by rw [Nat.zero_testBit]; rfl)
theorem m_coinsOf {S : wd_W} {L : Ld} {T : Nt} {s : Nat} (hT : mT S T) (hn : nOk L T) (hs : s < 32768) : f_X12_coinsOf S (nI s) = some (nI (coiF T s)) := by
  obtain ⟨⟨n0, nk⟩, _⟩ := hn
  obtain ⟨t0, _, tk, _⟩ := hT
  apply ok_e
  unfold f_X12_coinsOf coiF
  rw [li_0]
  refine ok_for0 (W := fun m i (v : Nat) => it2 (f_X12_coinsOf_L4 S (nI s)) m (nI v) (nI i)) (I := fun i v => v = fb_sm (fun i => if s.testBit i = true then T 2 i else 0) i) (e := T 0 0) (s := 0) (by omega) rfl ?_ ?_
  · intro m v hI
    show Ok (f_X12_coinsOf_L4 S (nI s) _ (nI v) (nI (T 0 0))) _
    unfold f_X12_coinsOf_L4
    rw [t0, if_pos (nI_le (Nat.le_refl _) (by omega)), hI]
    exact ok_some rfl
  · intro m i v hi hI ih
    show Ok (f_X12_coinsOf_L4 S (nI s) (it2 _ m) (nI v) (nI i)) _
    generalize it2 (f_X12_coinsOf_L4 S (nI s)) m = r at ih
    unfold f_X12_coinsOf_L4
    rw [t0, if_neg (nI_ge hi (by omega)), nI_1]
    refine ok_lk (ok_ite (fun z => ?_) (fun z => ?_))
    · have z := (oI_bit1 (by omega) (by omega)).mp z
      rw [gd_in (by omega) (by omega), nI_clamp (by omega), (tk i hi).2.1]
      refine ok_lz ?_
      rw [nI_add]
      exact ih _ (by rw [fb_sm_succ, if_pos z, hI])
    · have z : ¬ s.testBit i = true := fun q => z ((oI_bit1 (by omega) (by omega)).mpr q)
      refine ok_lz ?_
      rw [li_0, nI_add]
      exact ih _ (by rw [fb_sm_succ, if_neg z, hI])
def mdS (T : Nt) (s i : Nat) (h : Nat → Nat) : Nat → Nat := if s.testBit i = true then (if h (T 1 i) < T 3 i then upN h (T 1 i) (T 3 i) else h) else h
def mdH (L : Ld) (T : Nt) (s : Nat) : Nat → Nat := itf (mdS T s) (cha L) (T 0 0)
/-- the greatest chance of one line -/
def mdG (T : Nt) (s t c n : Nat) : Nat := itf (fun i g => if s.testBit i = true ∧ T 1 i = t then max g (T 3 i) else g) c n
theorem mdS_0 {T : Nt} {s i : Nat} {h : Nat → Nat} (hb : s.testBit i = false) : mdS T s i h = h := by unfold mdS; rw [hb, if_neg (by decide)]
theorem mdS_1 {T : Nt} {s i : Nat} {h : Nat → Nat} (hb : s.testBit i = true) (hc : h (T 1 i) < T 3 i) : mdS T s i h = upN h (T 1 i) (T 3 i) := by unfold mdS; rw [if_pos hb, if_pos hc]
theorem mdS_2 {T : Nt} {s i : Nat} {h : Nat → Nat} (hb : s.testBit i = true) (hc : ¬ h (T 1 i) < T 3 i) : mdS T s i h = h := by unfold mdS; rw [if_pos hb, if_neg hc]
theorem mdS_at (T : Nt) (s i t : Nat) (h : Nat → Nat) : mdS T s i h t = if s.testBit i = true ∧ T 1 i = t then max (h t) (T 3 i) else h t := by
  by_cases c1 : s.testBit i = true
  · by_cases c2 : T 1 i = t
    · rw [if_pos (show s.testBit i = true ∧ T 1 i = t from ⟨c1, c2⟩)]
      by_cases c3 : h (T 1 i) < T 3 i
      · rw [mdS_1 c1 c3, ← c2, upN_s]; omega
      · rw [mdS_2 c1 c3, ← c2]; omega
    · rw [if_neg (show ¬ (s.testBit i = true ∧ T 1 i = t) from fun q => c2 q.2)]
      by_cases c3 : h (T 1 i) < T 3 i
      · rw [mdS_1 c1 c3, upN_n (fun q => c2 q.symm)]
      · rw [mdS_2 c1 c3]
  · rw [if_neg (show ¬ (s.testBit i = true ∧ T 1 i = t) from fun q => c1 q.1), mdS_0 (by simpa using c1)]
theorem mdH_G (L : Ld) (T : Nt) (s t : Nat) : ∀ n, itf (mdS T s) (cha L) n t = mdG T s t (cha L t) n
  | 0 => rfl
  | n + 1 => by
    show mdS T s n (itf (mdS T s) (cha L) n) t = _
    rw [mdS_at, mdH_G L T s t n]
    rfl
theorem mdG_out {T : Nt} {s t c : Nat} : ∀ n, (∀ i, i < n → T 1 i ≠ t) → mdG T s t c n = c
  | 0, _ => rfl
  | n + 1, h => by
    show (if s.testBit n = true ∧ T 1 n = t then _ else mdG T s t c n) = c
    rw [if_neg (fun q => h n (by omega) q.2), mdG_out n (fun i hi => h i (by omega))]
theorem mdG_le {T : Nt} {s t c : Nat} (hc : c ≤ 16) : ∀ n, (∀ i, i < n → T 3 i ≤ 16) → mdG T s t c n ≤ 16
  | 0, _ => hc
  | n + 1, h => by
    have h1 := mdG_le (T := T) (s := s) (t := t) hc n (fun i hi => h i (by omega))
    have h2 := h n (by omega)
    show (if s.testBit n = true ∧ T 1 n = t then max (mdG T s t c n) (T 3 n) else mdG T s t c n) ≤ 16
    split <;> omega
noncomputable def mndN (L : Ld) (T : Nt) (s : Nat) : Nat := tgt L (mdH L T s) (fun t => 16 - mdH L T s t)
theorem mdH_le {L : Ld} {T : Nt} (hL : lOk L) (hn : nOk L T) (s : Nat) {t : Nat} (ht : t < l_M L) : mdH L T s t ≤ 16 := by
  unfold mdH
  rw [mdH_G]
  exact mdG_le (cha_le hL ht) _ (fun i hi => (hn.1.2 i hi).2.2.1)
theorem mndN_le {L : Ld} {T : Nt} (hL : lOk L) (hn : nOk L T) (s : Nat) : mndN L T s ≤ 16 ^ l_M L := by
  unfold mndN tgt
  have : fb_sm (wtF (mdH L T s) (fun t => 16 - mdH L T s t) (l_M L)) (2 ^ l_M L) = 16 ^ l_M L := sm_wt (l_M L) (fun t ht => by
    have := mdH_le hL hn s ht
    omega)
  rw [← this]
  apply fb_sm_le
  intro s _
  split
  · exact Nat.le_refl _
  · exact Nat.zero_le _
theorem m_chanceWith {S : wd_W} {L : Ld} {T : Nt} {s : Nat} (hL : lOk L) (h : mL S L) (hla : mLaid S L) (hT : mT S T) (hn : nOk L T) (hs : s < 32768) :
    Ok (f_X12_chanceWith S (nI s)) (fun o => o.1 = lN (mndN L T s) ∧ lai L o.2.2.2.1 o.2.2.2.2.2.2.2.1) := by
  have hM := lM_15 hL
  have h32 : S.1 32 = nI (l_M L) := h.1.2.2.2.2.1
  have hn0 := hn
  have hnM : l_n L ≤ l_M L := by unfold l_M; omega
  obtain ⟨⟨n0, nk⟩, _⟩ := hn
  obtain ⟨t0, _, tk, _⟩ := hT
  unfold f_X12_chanceWith
  refine ok_bd (m_plain (S := wd_o S [(38, (S.1 38)), (39, (S.1 39)), (44, (S.1 44))] [] [(17, (S.2.2.1 17)), (18, (S.2.2.1 18)), (19, (S.2.2.1 19)), (20, (S.2.2.1 20)), (22, (S.2.2.1 22)), (23, (S.2.2.1 23))] [(21, (S.2.2.2.1 21))] []) hL h32 h.2.2.2) ?_
  rintro ⟨c1, c2⟩ ⟨e1, e2⟩
  dsimp only at e1 e2
  refine ok_lk ?_
  rw [li_0]
  refine ok_for0 (W := fun m i (x : (Nat → Int32) × (Nat → Int32)) => it3 (f_X12_chanceWith_L6 S (nI s) _) m (nI i) x.1 x.2) (I := fun i x => ∀ t, t < l_M L → x.1 t = nI (itf (mdS T s) (cha L) i t) ∧ x.2 t = nI (16 - itf (mdS T s) (cha L) i t)) (e := T 0 0) (s := (c1, c2)) (by omega) (fun t ht => ⟨e1 t ht, e2 t ht⟩) ?_ ?_
  · rintro m ⟨a7, a8⟩ hI
    dsimp only at hI
    show Ok (f_X12_chanceWith_L6 S (nI s) _ _ (nI (T 0 0)) a7 a8) _
    unfold f_X12_chanceWith_L6
    rw [t0, if_pos (nI_le (Nat.le_refl _) (by omega))]
    refine ok_bd (m_together (S := wd_o S [(38, (S.1 38)), (39, (S.1 39)), (44, (S.1 44))] [] [(17, (S.2.2.1 17)), (18, (S.2.2.1 18)), (19, (S.2.2.1 19)), (20, (S.2.2.1 20)), (22, a7), (23, a8)] [(21, (S.2.2.2.1 21))] []) (h := mdH L T s) (f := fun t => 16 - mdH L T s t) hL h hla (fun t ht => ⟨(hI t ht).1, (hI t ht).2, mdH_le hL hn0 s ht, by omega⟩)) ?_
    intro o ho
    exact ok_some ⟨ho.1, ho.2.1, ho.2.2⟩
  · rintro m i ⟨a7, a8⟩ hi hI ih
    dsimp only at hI
    show Ok (f_X12_chanceWith_L6 S (nI s) _ (it3 _ m) (nI i) a7 a8) _
    generalize it3 (f_X12_chanceWith_L6 S (nI s) _) m = r at ih
    obtain ⟨k1, k2, k3, k4⟩ := nk i hi
    obtain ⟨r1, r2, r3⟩ := tk i hi
    have hlt : T 1 i < l_M L := by omega
    have hcur : itf (mdS T s) (cha L) i (T 1 i) ≤ 16 := by rw [mdH_G]; exact mdG_le (cha_le hL hlt) _ (fun j hj => (nk j (by omega)).2.2.1)
    have stay : itf (mdS T s) (cha L) (i + 1) = itf (mdS T s) (cha L) i → Ok (r (nI (i + 1)) a7 a8) (fun o => o.1 = lN (mndN L T s) ∧ lai L o.2.2.2.1 o.2.2.2.2.2.2.2.1) := fun e => ih (a7, a8) (fun t ht => by dsimp only; rw [e]; exact hI t ht)
    have hstep : itf (mdS T s) (cha L) (i + 1) = mdS T s i (itf (mdS T s) (cha L) i) := rfl
    unfold f_X12_chanceWith_L6
    rw [t0, if_neg (nI_ge hi (by omega)), nI_1, nI_clamp (by omega), r1, r3, nI_clamp (by omega)]
    refine ok_lk (ok_ite (fun z => ?_) (fun z => ?_))
    · have z := (oI_bit0 (by omega) (by omega)).mp z
      exact stay (by rw [hstep, mdS_0 z])
    · have z : s.testBit i = true := by
        cases q : s.testBit i with
        | true => rfl
        | false => exact absurd ((oI_bit0 (by omega) (by omega)).mpr q) z
      rw [gd_in (by omega) (by omega), gd_in (by omega) (by omega), gd_in (by omega) (by omega), (hI _ hlt).1]
      refine ok_ite (fun y => ?_) (fun y => ?_)
      · rw [nI_ltI (by omega) (by omega)] at y
        rw [gd_in (by omega) (by omega), gd_in (by omega) (by omega), lz_eq, gd_in (by omega) (by omega), lz_eq, gd_in (by omega) (by omega), gd_in (by omega) (by omega), li_16, pk_sub k3, lz_eq, gd_in (by omega) (by omega), lz_eq]
        refine ih (upd a7 (T 1 i) (nI (T 3 i)), upd a8 (T 1 i) (nI (16 - T 3 i))) (fun t ht => ?_)
        dsimp only
        rw [hstep, mdS_1 z y]
        by_cases e : t = T 1 i
        · subst e; rw [pk_us, pk_us, upN_s]; exact ⟨rfl, rfl⟩
        · rw [pk_un e, pk_un e, upN_n e]; exact hI t ht
      · rw [nI_ltI (by omega) (by omega)] at y
        exact stay (by rw [hstep, mdS_2 z y])
/-- the best for so many coins, sets up to j -/
noncomputable def bmS (L : Ld) (T : Nt) (coins s : Nat) (b : Nat) : Nat := if coiF T s ≤ coins ∧ (mndN L T b < mndN L T s ∨ (mndN L T s = mndN L T b ∧ coiF T s < coiF T b)) then s else b
noncomputable def bmF (L : Ld) (T : Nt) (coins : Nat) : Nat → Nat
  | 0 => 0
  | j + 1 => bmS L T coins (j + 1) (bmF L T coins j)
theorem bmF_le (L : Ld) (T : Nt) (coins : Nat) : ∀ j, bmF L T coins j ≤ j
  | 0 => Nat.le_refl 0
  | j + 1 => by
    have := bmF_le L T coins j
    rw [bmF]
    unfold bmS
    split <;> omega
noncomputable def bst (L : Ld) (T : Nt) (coins : Nat) : Nat := bmF L T coins (2 ^ T 0 0 - 1)
noncomputable def menA (L : Ld) (T : Nt) (p1 : Int32) : Int64 := if inB 0 99999 p1 = true then lN (mndN L T (bst L T p1.toNatClampNeg)) else -1
theorem m_mend {S : wd_W} {L : Ld} {T : Nt} {p1 : Int32} (hL : lOk L) (h : mL S L) (hla : mLaid S L) (hT : mT S T) (hn : nOk L T) :
    Ok (f_X12_mend S p1) (fun o => o.1 = menA L T p1 ∧ mLd L o.2.2.2.1 o.2.2.2.2.2.2.2.2.2.2.1 ∧ o.2.2.2.2.1 = (if inB 0 99999 p1 = true then 1 else S.1 55) ∧ o.2.2.2.2.2.1 = (if inB 0 99999 p1 = true then nI (bst L T p1.toNatClampNeg) else S.1 56) ∧ o.2.2.2.2.2.2.1 = (if inB 0 99999 p1 = true then nI (coiF T (bst L T p1.toNatClampNeg)) else S.1 57)) := by
  have hM := lM_15 hL
  have pw := pow16_le hM
  have hn0 := hn.1.1
  have hT0 := hT
  obtain ⟨t0, _, tk, _⟩ := hT
  have pT : 2 ^ T 0 0 ≤ 512 := pow_le_k (n := 9) hn0
  have pT0 := Nat.two_pow_pos (T 0 0)
  unfold f_X12_mend menA
  rw [lN_0, show (99999 : Int64) = lN 99999 from rfl, bd_s (m_inN (by omega) (by omega))]
  refine ok_b (fun z => ?_) (fun z => ?_)
  · have z : inB 0 99999 p1 = false := z
    rw [z]
    exact ok_some ⟨rfl, hla, rfl, rfl, rfl⟩
  have z : inB 0 99999 p1 = true := z
  obtain ⟨c, c1, rfl, c2, c3⟩ := inB_t (by omega) z
  rw [z, if_pos rfl, if_pos rfl, if_pos rfl, if_pos rfl, nI_clamp (by omega), li_0]
  refine ok_lk ?_
  have fin : ∀ (x16 : Int64) (b : Nat) (x38 x39 x44 : Int32) (a23 a24 a25 a26 a27 a28 : Nat → Int32) (a29 : Nat → Int64), x16 = lN (mndN L T (bst L T c)) → b = bst L T c → mLd L x44 a26 →
      Ok (some (x16, x38, x39, x44, (1 : Int32), nI b, nI (coiF T b), a23, a24, a25, a26, a27, a28, a29) : Option o_X12_mend) (fun o => o.1 = lN (mndN L T (bst L T c)) ∧ mLd L o.2.2.2.1 o.2.2.2.2.2.2.2.2.2.2.1 ∧ o.2.2.2.2.1 = 1 ∧ o.2.2.2.2.2.1 = nI (bst L T c) ∧ o.2.2.2.2.2.2.1 = nI (coiF T (bst L T c))) := by
    intro x16 b x38 x39 x44 a23 a24 a25 a26 a27 a28 a29 h1 h2 h3
    subst h2
    exact ok_some ⟨h1, h3, rfl, rfl, rfl⟩
  refine ok_for0 (W := fun m i (x : Int64 × Int32 × Int32 × Int32 × Int32 × Int32 × (Nat → Int32) × (Nat → Int32) × (Nat → Int32) × (Nat → Int32) × (Nat → Int32) × (Nat → Int32) × (Nat → Int64)) => it14 (f_X12_mend_L23 S (nI c) _) m x.1 (nI i) x.2.1 x.2.2.1 x.2.2.2.1 x.2.2.2.2.1 x.2.2.2.2.2.1 x.2.2.2.2.2.2.1 x.2.2.2.2.2.2.2.1 x.2.2.2.2.2.2.2.2.1 x.2.2.2.2.2.2.2.2.2.1 x.2.2.2.2.2.2.2.2.2.2.1 x.2.2.2.2.2.2.2.2.2.2.2.1 x.2.2.2.2.2.2.2.2.2.2.2.2)
    (I := fun i x => mLd L x.2.2.2.1 x.2.2.2.2.2.2.2.2.2.1 ∧ ((i = 0 ∧ x.1 = -1) ∨ (1 ≤ i ∧ x.1 = lN (mndN L T (bmF L T c (i - 1))) ∧ x.2.2.2.2.1 = nI (bmF L T c (i - 1)) ∧ x.2.2.2.2.2.1 = nI (coiF T (bmF L T c (i - 1)))))) (e := 2 ^ T 0 0) (s := (-1, S.1 38, S.1 39, S.1 44, S.1 56, S.1 57, S.2.2.1 17, S.2.2.1 18, S.2.2.1 19, S.2.2.1 20, S.2.2.1 22, S.2.2.1 23, S.2.2.2.1 21)) (by omega) ⟨hla, Or.inl ⟨rfl, rfl⟩⟩ ?_ ?_
  · rintro m ⟨x16, x18, x19, x20, x21, x22, a23, a24, a25, a26, a27, a28, a29⟩ ⟨i1, i2⟩
    dsimp only at i1 i2
    rcases i2 with ⟨q, _⟩ | ⟨q1, q2, q3, q4⟩
    · omega
    · subst q3; subst q4
      show Ok (f_X12_mend_L23 S (nI c) _ _ x16 (nI (2 ^ T 0 0)) x18 x19 x20 (nI (bmF L T c (2 ^ T 0 0 - 1))) (nI (coiF T (bmF L T c (2 ^ T 0 0 - 1)))) a23 a24 a25 a26 a27 a28 a29) _
      unfold f_X12_mend_L23
      rw [t0, oI_pow (by omega), if_pos (nI_le (Nat.le_refl _) (by omega))]
      exact fin _ _ _ _ _ _ _ _ _ _ _ _ q2 rfl i1
  · rintro m i ⟨x16, x18, x19, x20, x21, x22, a23, a24, a25, a26, a27, a28, a29⟩ hi ⟨i1, i2⟩ ih
    dsimp only at i1 i2
    show Ok (f_X12_mend_L23 S (nI c) _ (it14 _ m) x16 (nI i) x18 x19 x20 x21 x22 a23 a24 a25 a26 a27 a28 a29) _
    generalize it14 (f_X12_mend_L23 S (nI c) _) m = r at ih
    have hcl := coiF_le hn i
    have hml := mndN_le hL hn i
    unfold f_X12_mend_L23
    rw [t0, oI_pow (by omega), if_neg (nI_ge hi (by omega)), bd_s (m_coinsOf (S := wd_o S [(38, x18), (39, x19), (44, x20), (55, (S.1 55)), (56, x21), (57, x22)] [] [(17, a23), (18, a24), (19, a25), (20, a26), (22, a27), (23, a28)] [(21, a29)] []) hT0 hn (show i < 32768 by omega)), nI_1]
    refine ok_lk (ok_ite (fun y => ?_) (fun y => ?_))
    · rw [nI_leI (by omega) (by omega)] at y
      refine ok_bd (m_chanceWith (S := wd_o S [(38, x18), (39, x19), (44, x20), (55, (S.1 55)), (56, x21), (57, x22)] [] [(17, a23), (18, a24), (19, a25), (20, a26), (22, a27), (23, a28)] [(21, a29)] []) hL h i1 hT0 hn (show i < 32768 by omega)) ?_
      rintro ⟨o1, b18, b19, b20, b23, b24, b25, b26, b27, b28, b29⟩ ⟨q1, q2⟩
      dsimp only at q1 q2 ⊢
      subst q1
      rcases i2 with ⟨j0, j1⟩ | ⟨j0, j1, j2, j3⟩
      · subst j0; subst j1
        have hno : ¬ lN (mndN L T 0) < -1 := by
          rw [Int64.lt_iff_toInt_lt, lN_tI (by omega)]
          show ¬ (_ : Int) < -1
          omega
        have hne : ¬ lN (mndN L T 0) = -1 := by
          intro q
          have := congrArg Int64.toInt q
          rw [lN_tI (by omega)] at this
          have h3 : (-1 : Int64).toInt = -1 := rfl
          omega
        rw [if_neg hno]
        refine ok_lk ?_
        rw [if_neg hne]
        exact ih (lN (mndN L T 0), b18, b19, b20, nI 0, nI (coiF T 0), b23, b24, b25, b26, b27, b28, b29) ⟨Or.inr q2, Or.inr ⟨by omega, rfl, rfl, rfl⟩⟩
      · subst j1; subst j2; subst j3
        have hbl := mndN_le hL hn (bmF L T c (i - 1))
        have hbc := coiF_le hn (bmF L T c (i - 1))
        have hstep : bmF L T c (i + 1 - 1) = bmS L T c i (bmF L T c (i - 1)) := by
          rw [show i + 1 - 1 = (i - 1) + 1 by omega, bmF, show i - 1 + 1 = i by omega]
        have stay : ¬ (mndN L T (bmF L T c (i - 1)) < mndN L T i ∨ (mndN L T i = mndN L T (bmF L T c (i - 1)) ∧ coiF T i < coiF T (bmF L T c (i - 1)))) → Ok (r (lN (mndN L T (bmF L T c (i - 1)))) (nI (i + 1)) b18 b19 b20 (nI (bmF L T c (i - 1))) (nI (coiF T (bmF L T c (i - 1)))) b23 b24 b25 b26 b27 b28 b29) _ := fun hs => by
          have e : bmF L T c (i + 1 - 1) = bmF L T c (i - 1) := by rw [hstep]; unfold bmS; rw [if_neg (fun q => hs q.2)]
          exact ih (lN (mndN L T (bmF L T c (i - 1))), b18, b19, b20, nI (bmF L T c (i - 1)), nI (coiF T (bmF L T c (i - 1))), b23, b24, b25, b26, b27, b28, b29) ⟨Or.inr q2, Or.inr ⟨by omega, by rw [e], by rw [e], by rw [e]⟩⟩
        have take : (mndN L T (bmF L T c (i - 1)) < mndN L T i ∨ (mndN L T i = mndN L T (bmF L T c (i - 1)) ∧ coiF T i < coiF T (bmF L T c (i - 1)))) → Ok (r (lN (mndN L T i)) (nI (i + 1)) b18 b19 b20 (nI i) (nI (coiF T i)) b23 b24 b25 b26 b27 b28 b29) _ := fun hs => by
          have e : bmF L T c (i + 1 - 1) = i := by rw [hstep]; unfold bmS; rw [if_pos ⟨y, hs⟩]
          exact ih (lN (mndN L T i), b18, b19, b20, nI i, nI (coiF T i), b23, b24, b25, b26, b27, b28, b29) ⟨Or.inr q2, Or.inr ⟨by omega, by rw [e], by rw [e], by rw [e]⟩⟩
        refine ok_ite (fun w => ?_) (fun w => ?_)
        · rw [lN_ltL (by omega) (by omega)] at w
          exact stay (by omega)
        · rw [lN_ltL (by omega) (by omega)] at w
          refine ok_lk (ok_ite (fun w2 => ?_) (fun w2 => ?_))
          · rw [lN_eqL (by omega) (by omega)] at w2
            refine ok_ite (fun w3 => ?_) (fun w3 => ?_)
            · rw [nI_ltI (by omega) (by omega)] at w3
              exact take (Or.inr ⟨w2, w3⟩)
            · rw [nI_ltI (by omega) (by omega)] at w3
              exact stay (by omega)
          · rw [lN_eqL (by omega) (by omega)] at w2
            exact take (Or.inl (by omega))
    · rw [nI_leI (by omega) (by omega)] at y
      rcases i2 with ⟨j0, j1⟩ | ⟨j0, j1, j2, j3⟩
      · subst j0
        rw [coiF_0] at y
        omega
      · have hstep : bmF L T c (i + 1 - 1) = bmS L T c i (bmF L T c (i - 1)) := by
          rw [show i + 1 - 1 = (i - 1) + 1 by omega, bmF, show i - 1 + 1 = i by omega]
        have e : bmF L T c (i + 1 - 1) = bmF L T c (i - 1) := by rw [hstep]; unfold bmS; rw [if_neg (fun q => y q.1)]
        exact ih (x16, x18, x19, x20, x21, x22, a23, a24, a25, a26, a27, a28, a29) ⟨i1, Or.inr ⟨by omega, by rw [e]; exact j1, by rw [e]; exact j2, by rw [e]; exact j3⟩⟩
