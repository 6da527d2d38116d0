/-! count, line and place, on both sides -/
def cntA (st : Sta) (p : Int32) : Int32 := if p = 0 then nI (l_N st.1) else if p = 1 then nI (l_n st.1) else if p = 2 then nI (l_k st.1) else if p = 3 then nI (l_c st.1) else if p = 4 then nI (st.2.1 0 0) else if p = 5 then nI (st.2.1 4 0) else if p = 6 then nI (l_w st.1) else if p = 7 then nI st.2.2.2.2.1 else -1
theorem x_count {S : wd_W} {st : Sta} {p1 : Int32} (h : XW S st) : f_X11_count S p1 = some (cntA st p1) := by
  obtain ⟨⟨⟨_, ⟨⟨l0, l1, l7, l10, l14, _⟩, _⟩, ⟨t0, t4, _⟩, _⟩, _⟩, _, _, ⟨tp, _⟩⟩ := h
  unfold f_X11_count cntA
  rw [show S.1 1600 = nI (l_N st.1) from l0, show S.1 1601 = nI (l_n st.1) from l1, show S.1 1607 = nI (l_k st.1) from l7, show S.1 1610 = nI (l_c st.1) from l10, show S.1 1614 = nI (l_w st.1) from l14, show S.1 2700 = nI (st.2.1 0 0) from t0, show S.1 2704 = nI (st.2.1 4 0) from t4, show S.1 1400 = nI st.2.2.2.2.1 from tp]
  repeat' split
  all_goals rfl
/-- the causes that name a line, a place -/
def nmC (F : Nat → Nat) (i n : Nat) : Nat := orF (fun c => if (F c).testBit i = true then 2 ^ c else 0) n
theorem nmC_lt (F : Nat → Nat) (i : Nat) {n k : Nat} (h : n ≤ k) : nmC F i n < 2 ^ k := by
  unfold nmC
  refine orF_lt (fun c hc => ?_)
  by_cases e : (F c).testBit i = true
  · rw [if_pos e]; exact Nat.pow_lt_pow_right (by omega) (by omega)
  · rw [if_neg e]; exact Nat.two_pow_pos k
theorem nmC_shr (F : Nat → Nat) (i b n : Nat) : orF (fun c => if (F c).testBit i = true then 2 ^ (b + c) else 0) n >>> b = nmC F i n := by
  unfold nmC
  apply Nat.eq_of_testBit_eq
  intro j
  rw [Nat.testBit_shiftRight]
  have a := orF_bit (fun c => if (F c).testBit i = true then 2 ^ (b + c) else 0) n (b + j)
  have d := orF_bit (fun c => if (F c).testBit i = true then 2 ^ c else 0) n j
  have q : ∀ c, (if (F c).testBit i = true then 2 ^ (b + c) else 0).testBit (b + j) = (if (F c).testBit i = true then 2 ^ c else 0).testBit j := by
    intro c
    by_cases e : (F c).testBit i = true
    · rw [if_pos e, if_pos e, Nat.testBit_two_pow, Nat.testBit_two_pow]
      congr 1
      apply propext
      omega
    · rw [if_neg e, if_neg e, Nat.zero_testBit, Nat.zero_testBit]
  rw [Bool.eq_iff_iff, a, d]
  constructor
  · rintro ⟨c, h1, h2⟩
    rw [q] at h2
    exact ⟨c, h1, h2⟩
  · rintro ⟨c, h1, h2⟩
    rw [← q] at h2
    exact ⟨c, h1, h2⟩
theorem x_naming25 {S : wd_W} {L : Ld} {i : Nat} (hL : lOk L) (hc3 : l_c L ≤ 3) (h : xL S 16 L) (hi : i < 31) : f_X2_causesNaming_q16_q25 S (nI i) = some (nI (nmC (l_X L) i (l_c L))) := by
  have h10 : S.1 1610 = nI (l_c L) := h.1.2.2.2.1
  apply ok_e
  unfold f_X2_causesNaming_q16_q25
  rw [li_0]
  refine ok_for0 (W := fun m c (v : Int32) => it2 (f_X2_causesNaming_q16_q25_L5 S (nI i)) m v (nI c)) (I := fun c v => v = nI (nmC (l_X L) i c)) (e := l_c L) (by omega) rfl ?_ ?_
  · intro m v hI
    show Ok (f_X2_causesNaming_q16_q25_L5 S (nI i) _ v (nI (l_c L))) _
    unfold f_X2_causesNaming_q16_q25_L5
    rw [h10, if_pos (nI_le (Nat.le_refl _) (by omega))]
    exact ok_some hI
  · intro m c v hc hI ih
    show Ok (f_X2_causesNaming_q16_q25_L5 S (nI i) (it2 _ m) v (nI c)) _
    generalize it2 (f_X2_causesNaming_q16_q25_L5 S (nI i)) m = r at ih
    have hx := (hL.2.2.2.2.1 c hc).2.1
    have hx2 : 2 ^ l_n L ≤ 4096 := pow_le_k (n := 12) hL.1.2.2.1
    unfold f_X2_causesNaming_q16_q25_L5
    rw [h10, if_neg (nI_ge hc (by omega)), gd_in (by omega) (by omega), nI_clamp (by omega), show S.2.2.1 25 c = nI (l_X L c) from (h.2.2.2 c hc).2.1, nI_1, li_1, oI_tb (by omega) (by omega), hI]
    have e : nI (b2n ((l_X L c).testBit i)) <<< (nI c &&& 31) = nI (if (l_X L c).testBit i = true then 2 ^ c else 0) := by
      cases (l_X L c).testBit i with
      | true => exact oI_pow (by omega)
      | false => rw [show nI (b2n false) = nI 0 from rfl, oI_shl (by omega) (by rw [Nat.zero_mul]; omega), Nat.zero_mul]; rfl
    rw [e, oI_or]
    exact ok_lz (ih _ rfl)
theorem x_naming26 {S : wd_W} {L : Ld} {i : Nat} (hL : lOk L) (hc3 : l_c L ≤ 3) (h : xL S 16 L) (hi : i < 31) : f_X2_causesNaming_q16_q26 S (nI i) = some (nI (nmC (l_Y L) i (l_c L))) := by
  have h10 : S.1 1610 = nI (l_c L) := h.1.2.2.2.1
  apply ok_e
  unfold f_X2_causesNaming_q16_q26
  rw [li_0]
  refine ok_for0 (W := fun m c (v : Int32) => it2 (f_X2_causesNaming_q16_q26_L5 S (nI i)) m v (nI c)) (I := fun c v => v = nI (nmC (l_Y L) i c)) (e := l_c L) (by omega) rfl ?_ ?_
  · intro m v hI
    show Ok (f_X2_causesNaming_q16_q26_L5 S (nI i) _ v (nI (l_c L))) _
    unfold f_X2_causesNaming_q16_q26_L5
    rw [h10, if_pos (nI_le (Nat.le_refl _) (by omega))]
    exact ok_some hI
  · intro m c v hc hI ih
    show Ok (f_X2_causesNaming_q16_q26_L5 S (nI i) (it2 _ m) v (nI c)) _
    generalize it2 (f_X2_causesNaming_q16_q26_L5 S (nI i)) m = r at ih
    have hx := (hL.2.2.2.2.1 c hc).2.2
    have hx2 : 2 ^ l_N L ≤ 1024 := pow_le_k (n := 10) hL.1.2.1
    unfold f_X2_causesNaming_q16_q26_L5
    rw [h10, if_neg (nI_ge hc (by omega)), gd_in (by omega) (by omega), nI_clamp (by omega), show S.2.2.1 26 c = nI (l_Y L c) from (h.2.2.2 c hc).2.2, nI_1, li_1, oI_tb (by omega) (by omega), hI]
    have e : nI (b2n ((l_Y L c).testBit i)) <<< (nI c &&& 31) = nI (if (l_Y L c).testBit i = true then 2 ^ c else 0) := by
      cases (l_Y L c).testBit i with
      | true => exact oI_pow (by omega)
      | false => rw [show nI (b2n false) = nI 0 from rfl, oI_shl (by omega) (by rw [Nat.zero_mul]; omega), Nat.zero_mul]; rfl
    rw [e, oI_or]
    exact ok_lz (ih _ rfl)
/-- the keeper of a place, from the first -/
def kpG (P : Nat → Nat) (p : Nat) (n : Nat) : Nat → Int32
  | 0 => -1
  | f + 1 => if P (n - (f + 1)) = p then nI (n - (f + 1)) else kpG P p n f
theorem x_keeperOf {S : wd_W} {L : Ld} {p : Nat} (hL : lOk L) (h : xL S 16 L) (hp : p < 2 ^ 31) : Ok (f_X2_keeperOf_q16 S (nI p)) (fun o => (o = -1 ∧ ∀ j, j < l_k L → l_P L j ≠ p) ∨ ∃ j, j < l_k L ∧ l_P L j = p ∧ o = nI j) := by
  have h7 : S.1 1607 = nI (l_k L) := h.1.2.2.1
  have g4 := hL.1.2.2.2.1
  have g2 := hL.1.2.1
  unfold f_X2_keeperOf_q16
  rw [li_0]
  refine ok_for0 (W := fun m i (_ : Unit) => it1 (f_X2_keeperOf_q16_L2 S (nI p)) m (nI i)) (I := fun i _ => ∀ j, j < i → l_P L j ≠ p) (e := l_k L) (s := ()) (by omega) (fun j hj => absurd hj (Nat.not_lt_zero j)) ?_ ?_
  · intro m _ hI
    show Ok (f_X2_keeperOf_q16_L2 S (nI p) _ (nI (l_k L))) _
    unfold f_X2_keeperOf_q16_L2
    rw [h7, if_pos (nI_le (Nat.le_refl _) (by omega))]
    exact ok_some (Or.inl ⟨rfl, hI⟩)
  · intro m i _ hi hI ih
    show Ok (f_X2_keeperOf_q16_L2 S (nI p) (it1 _ m) (nI i)) _
    generalize it1 (f_X2_keeperOf_q16_L2 S (nI p)) m = r at ih
    have hP := (hL.2.2.1 i hi).1
    unfold f_X2_keeperOf_q16_L2
    rw [h7, if_neg (nI_ge hi (by omega)), gd_in (by omega) (by omega), nI_clamp (by omega), show S.2.2.1 22 i = nI (l_P L i) from (h.2.2.1 i hi).1, nI_1]
    refine ok_ite (fun c => ?_) (fun c => ?_)
    · exact ok_some (Or.inr ⟨i, hi, (nI_eq (by omega) hp).mp c, rfl⟩)
    · refine ih () (fun j hj => ?_)
      by_cases e : j = i
      · subst e; exact fun z => c (by rw [z])
      · exact hI j (by omega)
def linA (L : Ld) (p1 p2 : Int32) : Int32 := if inB 0 ((l_n L : Int) - 1) p1 = true then (if p2 = 0 then nI (l_A L p1.toNatClampNeg) else if p2 = 1 then nI (l_B L p1.toNatClampNeg) else if p2 = 2 then nI (l_C L p1.toNatClampNeg) else if p2 = 3 then nI (l_O L p1.toNatClampNeg) else if p2 = 4 then nI (l_D L p1.toNatClampNeg) else if p2 = 5 then nI (nmC (l_X L) p1.toNatClampNeg (l_c L)) else -1) else -1
theorem x_line {S : wd_W} {L : Ld} {p1 p2 : Int32} (hL : lOk L) (hc3 : l_c L ≤ 3) (h : xL S 16 L) : f_X11_line S p1 p2 = some (linA L p1 p2) := by
  have g3 := hL.1.2.2.1
  unfold f_X11_line linA
  rw [tst_lt (q := S.1 1601) (k := l_n L) h.1.2.1 (by omega)]
  cases hin : inB 0 ((l_n L : Int) - 1) p1 with
  | false => rfl
  | true =>
    obtain ⟨l, hl, rfl, n1, n2⟩ := inB_t (by omega) hin
    obtain ⟨k1, k2, k3, k4, k5⟩ := h.2.1 l (by omega)
    have hO := (hL.2.1 l (by omega)).2.2.2.2.1
    rw [if_pos rfl, if_pos rfl, gd_in (by omega) (by omega), gd_in (by omega) (by omega), gd_in (by omega) (by omega), gd_in (by omega) (by omega), gd_in (by omega) (by omega), nI_clamp hl, show S.2.2.1 17 l = nI (l_A L l) from k1, show S.2.2.1 18 l = nI (l_B L l) from k2, show S.2.2.1 19 l = nI (l_C L l) from k3, show S.2.2.1 20 l = nI (1 - l_O L l) from k4, show S.2.2.1 21 l = nI (l_D L l) from k5, bd_s (x_naming25 (S := wd_o S [] [] [] [] []) (i := l) hL hc3 h (by omega))]
    have e : (if nI (1 - l_O L l) = 0 then some (1 : Int32) else some (0 : Int32)) = some (nI (l_O L l)) := by
      rcases (show l_O L l = 0 ∨ l_O L l = 1 by omega) with z | z
      · rw [z]; rfl
      · rw [z]; rfl
    rw [e]
    repeat' split
    all_goals rfl
theorem m_line {S : wd_W} {L : Ld} {p1 p2 : Int32} (hL : lOk L) (h : mL S L) : f_X12_line S p1 p2 = some (linA L p1 p2) := by
  have g3 := hL.1.2.2.1
  have g4 := hL.1.2.2.2.1
  have hM := lM_15 hL
  have hlM : l_M L = l_n L + l_k L + l_c L := rfl
  have h21 : S.1 21 = nI (l_n L) := h.1.2.1
  have h30 : S.1 30 = nI (l_k L) := h.1.2.2.1
  unfold f_X12_line linA
  rw [h21, h30, lN_0, bd_s (m_inM (by omega))]
  cases hin : inB 0 ((l_n L : Int) - 1) p1 with
  | false => rfl
  | true =>
    obtain ⟨l, hl, rfl, n1, n2⟩ := inB_t (by omega) hin
    obtain ⟨k1, k2, k3, k4, k5, k6⟩ := h.2.1 l (by omega)
    have hO := (hL.2.1 l (by omega)).2.2.2.2.1
    have hlt : lcm L l < 2 ^ 20 := by
      unfold lcm
      refine orF_lt (fun c hc => ?_)
      by_cases e : (l_X L c).testBit l = true
      · rw [if_pos e]; exact Nat.pow_lt_pow_right (by omega) (by omega)
      · rw [if_neg e]; exact Nat.two_pow_pos 20
    have e6 : lcm L l >>> (l_n L + l_k L) = nmC (l_X L) l (l_c L) := nmC_shr (l_X L) l (l_n L + l_k L) (l_c L)
    rw [if_neg (show ¬ nI (b2n true) = 0 from n1_ne), if_pos rfl, gd_in (by omega) (by omega), gd_in (by omega) (by omega), gd_in (by omega) (by omega), gd_in (by omega) (by omega), gd_in (by omega) (by omega), gd_in (by omega) (by omega), nI_clamp hl, k1, k2, k3, k4, k5, k6, nI_add, oI_shr (by omega) (by omega), e6]
    have e : (if nI (l_O L l) = 0 then some (0 : Int32) else some (1 : Int32)) = some (nI (l_O L l)) := by
      rcases (show l_O L l = 0 ∨ l_O L l = 1 by omega) with z | z
      · rw [z]; rfl
      · rw [z]; rfl
    rw [e]
    repeat' split
    all_goals rfl
def plcA (L : Ld) (p1 p2 : Int32) : Int32 := if inB 0 ((l_N L : Int) - 1) p1 = true then (if p2 = 0 then (if 0 ≤ kpr L p1.toNatClampNeg then nI (cha L (kpr L p1.toNatClampNeg).toNatClampNeg) else 16) else if p2 = 1 then kpr L p1.toNatClampNeg else if p2 = 2 then nI (nmC (l_Y L) p1.toNatClampNeg (l_c L)) else -1) else -1
theorem x_place {S : wd_W} {L : Ld} {p1 p2 : Int32} (hL : lOk L) (hc3 : l_c L ≤ 3) (h : xL S 16 L) : f_X11_place S p1 p2 = some (plcA L p1 p2) := by
  have g2 := hL.1.2.1
  have g3 := hL.1.2.2.1
  have g4 := hL.1.2.2.2.1
  apply ok_e
  unfold f_X11_place plcA
  rw [tst_lt (q := S.1 1600) (k := l_N L) h.1.1 (by omega)]
  cases hin : inB 0 ((l_N L : Int) - 1) p1 with
  | false => exact ok_some rfl
  | true =>
    obtain ⟨l, hl, rfl, n1, n2⟩ := inB_t (by omega) hin
    rw [if_pos rfl, if_pos rfl, nI_clamp hl]
    refine ok_bd (x_keeperOf (S := wd_o S [] [] [] [] []) (p := l) hL h (by omega)) ?_
    intro o ho
    rw [bd_s (x_naming26 (S := wd_o S [] [] [] [] []) (i := l) hL hc3 h (by omega)), show S.1 1601 = nI (l_n L) from h.1.2.1]
    have hk : (o = -1 ∧ kpr L l = -1) ∨ ∃ j, j < l_k L ∧ o = nI j ∧ kpr L l = nI (l_n L + j) := by
      rcases kpF_cases (l_P L) (l_n L) l (l_k L) with ⟨a1, a2⟩ | ⟨j, a1, a2, a3⟩
      · rcases ho with ⟨b1, b2⟩ | ⟨i, b1, b2, b3⟩
        · exact Or.inl ⟨b1, a1⟩
        · exact absurd b2 (a2 i b1)
      · rcases ho with ⟨b1, b2⟩ | ⟨i, b1, b2, b3⟩
        · exact absurd a2 (b2 j a1)
        · have : i = j := hL.2.2.2.1 i j b1 a1 (by rw [a2, b2])
          subst this
          exact Or.inr ⟨i, b1, b3, a3⟩
    rcases hk with ⟨rfl, e⟩ | ⟨j, hj, rfl, e⟩
    · rw [e, if_pos rfl, if_pos rfl, if_neg (show ¬ (0 : Int32) ≤ -1 by decide)]
      repeat' split
      all_goals exact ok_some rfl
    · have hne : ¬ nI j = (-1 : Int32) := fun z => (oI_m1 (by omega)).mp z
      have hch : cha L (l_n L + j) = l_Q L j := by
        unfold cha
        rw [if_neg (by omega), if_pos (by omega), Nat.add_sub_cancel_left]
      rw [e, if_neg hne, if_neg hne, if_pos (show (0 : Int32) ≤ nI (l_n L + j) from (oI_ge0 (by omega)).mpr trivial), gd_in (by omega) (by omega), nI_clamp (by omega), nI_clamp (by omega), hch, show S.2.2.1 23 j = nI (l_Q L j) from (h.2.2.1 j hj).2, nI_add]
      repeat' split
      all_goals exact ok_some rfl
theorem m_place {S : wd_W} {L : Ld} {p1 p2 : Int32} (hL : lOk L) (h : mL S L) : f_X12_place S p1 p2 = some (plcA L p1 p2) := by
  have g2 := hL.1.2.1
  have g3 := hL.1.2.2.1
  have g4 := hL.1.2.2.2.1
  have hM := lM_15 hL
  have hlM : l_M L = l_n L + l_k L + l_c L := rfl
  have h20 : S.1 20 = nI (l_N L) := h.1.1
  have h21 : S.1 21 = nI (l_n L) := h.1.2.1
  have h30 : S.1 30 = nI (l_k L) := h.1.2.2.1
  unfold f_X12_place plcA
  rw [h20, h21, h30, lN_0, bd_s (m_inM (by omega))]
  cases hin : inB 0 ((l_N L : Int) - 1) p1 with
  | false => rfl
  | true =>
    obtain ⟨l, hl, rfl, n1, n2⟩ := inB_t (by omega) hin
    obtain ⟨k1, k2⟩ := h.2.2.1 l (by omega)
    have hlt : pcm L l < 2 ^ 20 := by
      unfold pcm
      refine orF_lt (fun c hc => ?_)
      by_cases e : (l_Y L c).testBit l = true
      · rw [if_pos e]; exact Nat.pow_lt_pow_right (by omega) (by omega)
      · rw [if_neg e]; exact Nat.two_pow_pos 20
    have e6 : pcm L l >>> (l_n L + l_k L) = nmC (l_Y L) l (l_c L) := nmC_shr (l_Y L) l (l_n L + l_k L) (l_c L)
    rw [if_neg (show ¬ nI (b2n true) = 0 from n1_ne), if_pos rfl, gd_in (by omega) (by omega), gd_in (by omega) (by omega), gd_in (by omega) (by omega), gd_in (by omega) (by omega), nI_clamp hl, k1, k2, nI_add, oI_shr (by omega) (by omega), e6]
    rcases kpF_cases (l_P L) (l_n L) l (l_k L) with ⟨a1, a2⟩ | ⟨j, a1, a2, a3⟩
    · have e : kpr L l = -1 := a1
      rw [e, if_neg (show ¬ (0 : Int32) ≤ -1 by decide), if_neg (show ¬ (0 : Int32) ≤ -1 by decide)]
      repeat' split
      all_goals rfl
    · have e : kpr L l = nI (l_n L + j) := a3
      have e0 : (0 : Int32) ≤ nI (l_n L + j) := (oI_ge0 (by omega)).mpr trivial
      rw [e, if_pos e0, if_pos e0, gd_in (by omega) (by omega), nI_clamp (by omega), h.2.2.2 (l_n L + j) (by omega)]
      repeat' split
      all_goals rfl
