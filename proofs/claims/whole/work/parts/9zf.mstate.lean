/-! the reference's whole state -/
def mPic (L : Ld) (T : Nt) (f : Nat → Int32) : Prop :=
  (f 0 = nI (l_N L) ∧ f 1 = nI (l_n L) ∧ f 2 = nI (l_k L) ∧ f 3 = nI (l_c L) ∧ f 4 = nI (l_M L) ∧ f 5 = nI (l_w L) ∧ f 6 = nI (l_m L) ∧ f 7 = nI (l_a L) ∧ f 8 = nI (l_b L) ∧ f 9 = nI (T 0 0) ∧ f 10 = nI (T 4 0)) ∧
  (∀ i, i < l_n L → f (11 + 6 * i) = nI (l_A L i) ∧ f (12 + 6 * i) = nI (l_B L i) ∧ f (13 + 6 * i) = nI (l_C L i) ∧ f (14 + 6 * i) = nI (l_O L i) ∧ f (15 + 6 * i) = nI (l_D L i) ∧ f (16 + 6 * i) = nI (lcm L i)) ∧
  (∀ p, p < 10 → f (83 + 2 * p) = nI (pcm L p) ∧ f (84 + 2 * p) = kpr L p) ∧
  (∀ t, t < l_M L → f (103 + t) = nI (cha L t)) ∧
  (∀ i, i < T 0 0 → f (118 + 3 * i) = nI (T 1 i) ∧ f (119 + 3 * i) = nI (T 2 i) ∧ f (120 + 3 * i) = nI (T 3 i)) ∧
  (∀ i, i < T 4 0 → f (145 + 3 * i) = nI (T 5 i) ∧ f (146 + 3 * i) = nI (T 6 i) ∧ f (147 + 3 * i) = nI (T 7 i))
def MIm (S : wd_W) (I : Nat → Option (Ld × Nt)) : Prop := ∀ i, i < 4 → S.2.2.1 47 i = nI (b2n (I i).isSome) ∧ ∀ L T, I i = some (L, T) → lnOk L T ∧ mPic L T (fun j => S.2.2.1 46 (200 * i + j))
def sby (n : Nat) : Int32 := (nI n).toInt8.toInt32
def MTp (S : wd_W) (t : Nat × (Nat → Nat)) : Prop := S.1 1 = nI t.1 ∧ ∀ i, i < t.1 → S.2.2.1 1 i = sby (t.2 i)
def MMd (S : wd_W) (M : Int32 × Int32) : Prop := (S.1 55 = nI 0 ∧ M = (-1, -1)) ∨ (S.1 55 = nI 1 ∧ S.1 56 = M.1 ∧ S.1 57 = M.2)
def MQs (S : wd_W) (L : Ld) (T : Nt) : Prop := lnOk L T ∧ mL S L ∧ S.1 31 = nI (l_c L) ∧ mT S T
def MW (S : wd_W) (st : Sta) : Prop := MQs S st.1 st.2.1 ∧ mLaid S st.1 ∧ MMd S st.2.2.1 ∧ MIm S st.2.2.2.1 ∧ MTp S st.2.2.2.2
/-- worlds that differ in the reference's scratch alone -/
abbrev mO (S : wd_W) (x38 x39 x44 : Int32) (a17 a18 a19 a20 a22 a23 : Nat → Int32) (a21 : Nat → Int64) : wd_W := wd_o S [(38, x38), (39, x39), (44, x44)] [] [(17, a17), (18, a18), (19, a19), (20, a20), (22, a22), (23, a23)] [(21, a21)] []
theorem MW_lai {S : wd_W} {st : Sta} {x38 x39 x44 : Int32} {a17 a18 a19 a20 a22 a23 : Nat → Int32} {a21 : Nat → Int64} (h : MW S st) (hl : mLd st.1 x44 a20) : MW (mO S x38 x39 x44 a17 a18 a19 a20 a22 a23 a21) st := by
  obtain ⟨⟨h1, h2, h3, h4⟩, _, h6, h7, h8⟩ := h
  exact ⟨⟨h1, h2, h3, h4⟩, hl, h6, h7, h8⟩
abbrev mO4 (S : wd_W) (x38 x39 x44 : Int32) (a17 a18 a19 a20 : Nat → Int32) : wd_W := wd_o S [(38, x38), (39, x39), (44, x44)] [] [(17, a17), (18, a18), (19, a19), (20, a20)] [] []
theorem MW_lai4 {S : wd_W} {st : Sta} {x38 x39 x44 : Int32} {a17 a18 a19 a20 : Nat → Int32} (h : MW S st) (hl : mLd st.1 x44 a20) : MW (mO4 S x38 x39 x44 a17 a18 a19 a20) st := by
  obtain ⟨⟨h1, h2, h3, h4⟩, _, h6, h7, h8⟩ := h
  exact ⟨⟨h1, h2, h3, h4⟩, hl, h6, h7, h8⟩
abbrev mOl (S : wd_W) (x38 x39 x44 : Int32) (a17 a18 a19 a20 a24 a25 a26 : Nat → Int32) : wd_W := wd_o S [(38, x38), (39, x39), (44, x44)] [] [(17, a17), (18, a18), (19, a19), (20, a20), (24, a24), (25, a25), (26, a26)] [] []
theorem MW_lail {S : wd_W} {st : Sta} {x38 x39 x44 : Int32} {a17 a18 a19 a20 a24 a25 a26 : Nat → Int32} (h : MW S st) (hl : mLd st.1 x44 a20) : MW (mOl S x38 x39 x44 a17 a18 a19 a20 a24 a25 a26) st := by
  obtain ⟨⟨h1, h2, h3, h4⟩, _, h6, h7, h8⟩ := h
  exact ⟨⟨h1, h2, h3, h4⟩, hl, h6, h7, h8⟩
theorem lai_Ld {L : Ld} {x : Int32} {a : Nat → Int32} (h : lai L x a) : mLd L x a := Or.inr h
theorem laid_Ld {S : wd_W} {L : Ld} (h : mLaid S L) : mLd L (S.1 44) (S.2.2.1 20) := h
/-! the reference's queries, tests of arguments and all -/
theorem m_soT {S : wd_W} {L : Ld} {p1 : Int32} (hL : lOk L) (h : mL S L) (hla : mLaid S L) : Ok (f_X12_so S p1) (fun o => o.1 = sosA L p1 ∧ mLd L o.2.2.2.1 o.2.2.2.2.2.2.2) := by
  have hM := lM_15 hL
  have pM := pow_le15 hM
  have p0 := Nat.two_pow_pos (l_M L)
  have h32 : S.1 32 = nI (l_M L) := h.1.2.2.2.2.1
  unfold f_X12_so sosA
  rw [bd_s (m_sets (S := wd_o S [(38, (S.1 38)), (39, (S.1 39)), (44, (S.1 44))] [] [(17, (S.2.2.1 17)), (18, (S.2.2.1 18)), (19, (S.2.2.1 19)), (20, (S.2.2.1 20))] [] []) h32 hM), lN_0, bd_s (m_inM (by omega))]
  refine ok_b (fun z => ?_) (fun z => ?_)
  · rw [z]; exact ok_some ⟨rfl, laid_Ld hla⟩
  · obtain ⟨n, hn, rfl, n1, n2⟩ := inB_t (by omega) z
    rw [if_pos z, nI_clamp hn]
    refine ok_bd (m_lays (S := wd_o S [(38, (S.1 38)), (39, (S.1 39)), (44, (S.1 44))] [] [(17, (S.2.2.1 17)), (18, (S.2.2.1 18)), (19, (S.2.2.1 19)), (20, (S.2.2.1 20))] [] []) hL h hla) ?_
    rintro ⟨u1, u2, u3, u4, u5, u6, u7⟩ ⟨e1, e2⟩
    dsimp only at e1 e2 ⊢
    rw [gd_in (by omega) (by omega)]
    refine ok_ite (fun w => ?_) (fun w => ?_)
    · rw [e2 n (by omega)] at w
      have w : thB L n = false := (oI_b0 _).mp w
      rw [w]; exact ok_some ⟨rfl, Or.inr ⟨e1, e2⟩⟩
    · rw [e2 n (by omega)] at w
      have w : thB L n = true := by
        cases q : thB L n with
        | true => rfl
        | false => rw [q] at w; exact absurd rfl w
      rw [w]; exact ok_some ⟨rfl, Or.inr ⟨e1, e2⟩⟩
theorem m_chanceT {S : wd_W} {L : Ld} {p1 : Int32} (hL : lOk L) (h : mL S L) (hla : mLaid S L) : Ok (f_X12_chance S p1) (fun o => o.1 = chaA L p1 ∧ mLd L o.2.2.2.1 o.2.2.2.2.2.2.2.1) := by
  have hM := lM_15 hL
  have h32 : S.1 32 = nI (l_M L) := h.1.2.2.2.2.1
  unfold f_X12_chance chaA
  rw [lN_0, show (1 : Int64) = lN 1 from rfl, bd_s (m_inN (by omega) (by omega))]
  have e01 : inB ((0 : Nat) : Int) ((1 : Nat) : Int) p1 = inB 0 1 p1 := rfl
  rw [e01]
  refine ok_b (fun z => ?_) (fun z => ?_)
  · have n0 : ¬ p1 = 0 := fun q => by rw [q] at z; cases z
    have n1 : ¬ p1 = 1 := fun q => by rw [q] at z; cases z
    rw [if_neg n0, if_neg n1]
    exact ok_some ⟨rfl, laid_Ld hla⟩
  · refine ok_ite (fun c => ?_) (fun c => ?_)
    · rw [if_neg (fun q => by rw [q] at c; cases c), if_pos c, h32, bd_s (m_power (by omega))]
      exact ok_some ⟨rfl, laid_Ld hla⟩
    · have n0 : p1 = 0 := by
        obtain ⟨n, hn, rfl, n1, n2⟩ := inB_t (by omega) z
        have : n = 0 := by
          have : n ≠ 1 := fun z => c (by rw [z]; rfl)
          omega
        rw [this]; rfl
      rw [if_pos n0]
      refine ok_bd (m_plain (S := wd_o S [(38, (S.1 38)), (39, (S.1 39)), (44, (S.1 44))] [] [(17, (S.2.2.1 17)), (18, (S.2.2.1 18)), (19, (S.2.2.1 19)), (20, (S.2.2.1 20)), (22, (S.2.2.1 22)), (23, (S.2.2.1 23))] [(21, (S.2.2.2.1 21))] []) hL h32 h.2.2.2) ?_
      rintro ⟨a1, a2⟩ ⟨f1, f2⟩
      dsimp only at f1 f2 ⊢
      refine ok_bd (m_together (S := wd_o S [(38, (S.1 38)), (39, (S.1 39)), (44, (S.1 44))] [] [(17, (S.2.2.1 17)), (18, (S.2.2.1 18)), (19, (S.2.2.1 19)), (20, (S.2.2.1 20)), (22, a1), (23, a2)] [(21, (S.2.2.2.1 21))] []) (L := L) (h := cha L) (f := fun t => 16 - cha L t) hL h hla (fun t ht => by
        have hc := cha_le hL ht
        exact ⟨f1 t ht, f2 t ht, hc, by omega⟩)) ?_
      rintro o ⟨e1, e2, e3⟩
      exact ok_some ⟨e1, Or.inr ⟨e2, e3⟩⟩
theorem m_sureT {S : wd_W} {L : Ld} {p1 p2 : Int32} (hL : lOk L) (h : mL S L) (hla : mLaid S L) : Ok (f_X12_sure S p1 p2) (fun o => o.1 = surA L p1 p2 ∧ mLd L o.2.2.2.1 o.2.2.2.2.2.2.2.1) := by
  have hM := lM_15 hL
  have h32 : S.1 32 = nI (l_M L) := h.1.2.2.2.2.1
  unfold f_X12_sure surA
  rw [bd_s (m_isThingB (S := wd_o S [(38, (S.1 38)), (39, (S.1 39)), (44, (S.1 44))] [] [(17, (S.2.2.1 17)), (18, (S.2.2.1 18)), (19, (S.2.2.1 19)), (20, (S.2.2.1 20)), (22, (S.2.2.1 22)), (23, (S.2.2.1 23))] [(21, (S.2.2.2.1 21))] []) (p := p1) h32 (by omega))]
  refine ok_b (fun z => ?_) (fun z => ?_)
  · rw [z]; exact ok_some ⟨rfl, laid_Ld hla⟩
  · obtain ⟨n, hn, rfl, n1, n2⟩ := inB_t (by omega) z
    rw [if_pos z, nI_clamp hn]
    refine ok_bd (m_sureOf (S := wd_o S [(38, (S.1 38)), (39, (S.1 39)), (44, (S.1 44))] [] [(17, (S.2.2.1 17)), (18, (S.2.2.1 18)), (19, (S.2.2.1 19)), (20, (S.2.2.1 20)), (22, (S.2.2.1 22)), (23, (S.2.2.1 23))] [(21, (S.2.2.2.1 21))] []) (L := L) (t := n) (p2 := p2) hL h hla (by omega)) ?_
    rintro o ⟨e1, e2⟩
    exact ok_some ⟨e1, Or.inr e2⟩
theorem m_withoutT {S : wd_W} {L : Ld} {p1 : Int32} (hL : lOk L) (h : mL S L) (h31 : S.1 31 = nI (l_c L)) (hla : mLaid S L) : Ok (f_X12_without S p1) (fun o => o.1 = witoA L p1 ∧ mLd L o.2.2.2.1 o.2.2.2.2.2.2.2.1) := by
  have hM := lM_15 hL
  have g5 := hL.1.2.2.2.2.1
  have hlM : l_M L = l_n L + l_k L + l_c L := rfl
  have h21 : S.1 21 = nI (l_n L) := h.1.2.1
  have h30 : S.1 30 = nI (l_k L) := h.1.2.2.1
  unfold f_X12_without witoA
  rw [h31, lN_0, bd_s (m_inM (by omega))]
  refine ok_b (fun z => ?_) (fun z => ?_)
  · rw [z]; exact ok_some ⟨rfl, laid_Ld hla⟩
  · obtain ⟨n, hn, rfl, n1, n2⟩ := inB_t (by omega) z
    rw [if_pos z, nI_clamp hn, h21, h30, nI_add, nI_add]
    refine ok_bd (m_sureOf (S := wd_o S [(38, (S.1 38)), (39, (S.1 39)), (44, (S.1 44))] [] [(17, (S.2.2.1 17)), (18, (S.2.2.1 18)), (19, (S.2.2.1 19)), (20, (S.2.2.1 20)), (22, (S.2.2.1 22)), (23, (S.2.2.1 23))] [(21, (S.2.2.2.1 21))] []) (L := L) (t := l_n L + l_k L + n) (p2 := (1 : Int32)) hL h hla (by omega)) ?_
    rintro o ⟨e1, e2⟩
    exact ok_some ⟨e1, Or.inr e2⟩
theorem m_mattersOf {S : wd_W} {L : Ld} {t : Nat} (hL : lOk L) (h : mL S L) (hla : mLaid S L) (ht : t < l_M L) : Ok (f_X12_mattersOf S (nI t)) (fun o => o.1 = weiN L t ∧ lai L o.2.2.2.1 o.2.2.2.2.2.2.2.1) := by
  unfold f_X12_mattersOf
  refine ok_bd (m_sureOf (S := wd_o S [(38, (S.1 38)), (39, (S.1 39)), (44, (S.1 44))] [] [(17, (S.2.2.1 17)), (18, (S.2.2.1 18)), (19, (S.2.2.1 19)), (20, (S.2.2.1 20)), (22, (S.2.2.1 22)), (23, (S.2.2.1 23))] [(21, (S.2.2.2.1 21))] []) (L := L) (t := t) (p2 := (1 : Int32)) hL h hla ht) ?_
  rintro ⟨v, u1, u2, u3, u4, u5, u6, u7, u8, u9, u10⟩ ⟨e1, e2⟩
  dsimp only at e1 e2 ⊢
  refine ok_bd (m_sureOf (S := wd_o S [(38, u1), (39, u2), (44, u3)] [] [(17, u4), (18, u5), (19, u6), (20, u7), (22, u8), (23, u9)] [(21, u10)] []) (L := L) (t := t) (p2 := (0 : Int32)) hL h (Or.inr e2) ht) ?_
  rintro o ⟨d1, d2⟩
  exact ok_some ⟨by dsimp only; rw [e1, d1]; rfl, d2⟩
theorem m_mattersT {S : wd_W} {L : Ld} {p1 p2 : Int32} (hL : lOk L) (h : mL S L) (hla : mLaid S L) : Ok (f_X12_matters S p1 p2) (fun o => o.1 = matA L p1 p2 ∧ mLd L o.2.2.2.1 o.2.2.2.2.2.2.2.1) := by
  have hM := lM_15 hL
  have h32 : S.1 32 = nI (l_M L) := h.1.2.2.2.2.1
  unfold f_X12_matters matA
  rw [bd_s (m_isThingB (S := wd_o S [(38, (S.1 38)), (39, (S.1 39)), (44, (S.1 44))] [] [(17, (S.2.2.1 17)), (18, (S.2.2.1 18)), (19, (S.2.2.1 19)), (20, (S.2.2.1 20)), (22, (S.2.2.1 22)), (23, (S.2.2.1 23))] [(21, (S.2.2.2.1 21))] []) (p := p1) h32 (by omega))]
  refine ok_b (fun z => ?_) (fun z => ?_)
  · rw [z]; exact ok_some ⟨rfl, laid_Ld hla⟩
  · obtain ⟨n, hn, rfl, n1, n2⟩ := inB_t (by omega) z
    rw [if_pos z, nI_clamp hn]
    refine ok_ite (fun c => ?_) (fun c => ?_)
    · rw [if_pos c]
      refine ok_bd (m_mattersOf (S := wd_o S [(38, (S.1 38)), (39, (S.1 39)), (44, (S.1 44))] [] [(17, (S.2.2.1 17)), (18, (S.2.2.1 18)), (19, (S.2.2.1 19)), (20, (S.2.2.1 20)), (22, (S.2.2.1 22)), (23, (S.2.2.1 23))] [(21, (S.2.2.2.1 21))] []) (L := L) (t := n) hL h hla (by omega)) ?_
      rintro o ⟨e1, e2⟩
      exact ok_some ⟨e1, Or.inr e2⟩
    · rw [if_neg c]
      refine ok_ite (fun c => ?_) (fun c => ?_)
      · rw [if_pos c]
        refine ok_bd (m_decides (S := wd_o S [(38, (S.1 38)), (39, (S.1 39)), (44, (S.1 44))] [] [(17, (S.2.2.1 17)), (18, (S.2.2.1 18)), (19, (S.2.2.1 19)), (20, (S.2.2.1 20)), (22, (S.2.2.1 22)), (23, (S.2.2.1 23))] [(21, (S.2.2.2.1 21))] []) (L := L) (t := n) hL h hla (by omega)) ?_
        rintro o ⟨e1, e2⟩
        exact ok_some ⟨by dsimp only; rw [e1], Or.inr e2⟩
      · rw [if_neg c]
        refine ok_ite (fun c => ?_) (fun c => ?_)
        · rw [if_pos c, gd_in (by omega) (by omega), h.2.2.2 n (by omega)]
          exact ok_some ⟨rfl, laid_Ld hla⟩
        · rw [if_neg c]; exact ok_some ⟨rfl, laid_Ld hla⟩
theorem m_mostT {S : wd_W} {L : Ld} (hL : lOk L) (h : mL S L) (hla : mLaid S L) : Ok (f_X12_most S) (fun o => o.1 = (mstF L (l_M L)).1 ∧ mLd L o.2.2.2.1 o.2.2.2.2.2.2.2.1) := by
  have hM := lM_15 hL
  have h32 : S.1 32 = nI (l_M L) := h.1.2.2.2.2.1
  unfold f_X12_most
  rw [li_0]
  refine ok_for0 (W := fun m i (s : Int32 × Int64 × Int32 × Int32 × Int32 × (Nat → Int32) × (Nat → Int32) × (Nat → Int32) × (Nat → Int32) × (Nat → Int32) × (Nat → Int32) × (Nat → Int64)) => it13 (f_X12_most_L7 S) m s.1 s.2.1 (nI i) s.2.2.1 s.2.2.2.1 s.2.2.2.2.1 s.2.2.2.2.2.1 s.2.2.2.2.2.2.1 s.2.2.2.2.2.2.2.1 s.2.2.2.2.2.2.2.2.1 s.2.2.2.2.2.2.2.2.2.1 s.2.2.2.2.2.2.2.2.2.2.1 s.2.2.2.2.2.2.2.2.2.2.2) (I := fun i s => s.1 = (mstF L i).1 ∧ s.2.1 = (mstF L i).2 ∧ mLd L s.2.2.2.2.1 s.2.2.2.2.2.2.2.2.1) (e := l_M L) (s := (-1, 0, S.1 38, S.1 39, S.1 44, S.2.2.1 17, S.2.2.1 18, S.2.2.1 19, S.2.2.1 20, S.2.2.1 22, S.2.2.1 23, S.2.2.2.1 21)) (by omega) ⟨rfl, rfl, hla⟩ ?_ ?_
  · rintro m ⟨x1, x2, u1, u2, u3, u4, u5, u6, u7, u8, u9, u10⟩ ⟨i1, i2, i3⟩
    dsimp only at i1 i2 i3
    show Ok (f_X12_most_L7 S _ x1 x2 (nI (l_M L)) u1 u2 u3 u4 u5 u6 u7 u8 u9 u10) _
    unfold f_X12_most_L7
    rw [h32, if_pos (nI_le (Nat.le_refl _) (by omega))]
    exact ok_some ⟨i1, i3⟩
  · rintro m i ⟨x1, x2, u1, u2, u3, u4, u5, u6, u7, u8, u9, u10⟩ hi ⟨i1, i2, i3⟩ ih
    dsimp only at i1 i2 i3
    show Ok (f_X12_most_L7 S (it13 (f_X12_most_L7 S) m) x1 x2 (nI i) u1 u2 u3 u4 u5 u6 u7 u8 u9 u10) _
    generalize it13 (f_X12_most_L7 S) m = r at ih
    unfold f_X12_most_L7
    rw [h32, if_neg (nI_ge hi (by omega))]
    refine ok_bd (m_mattersOf (S := wd_o S [(38, u1), (39, u2), (44, u3)] [] [(17, u4), (18, u5), (19, u6), (20, u7), (22, u8), (23, u9)] [(21, u10)] []) (L := L) (t := i) hL h i3 hi) ?_
    rintro ⟨v, w1, w2, w3, w4, w5, w6, w7, w8, w9, w10⟩ ⟨e1, e2⟩
    dsimp only at e1 e2 ⊢
    rw [nI_1, i1, i2, e1]
    refine ok_lk (ok_lk ?_)
    have up : (i = 0 ∨ (mstF L i).2 < weiN L i) → Ok (r (nI i) (weiN L i) (nI (i + 1)) w1 w2 w3 w4 w5 w6 w7 w8 w9 w10) (fun o => o.1 = (mstF L (l_M L)).1 ∧ mLd L o.2.2.2.1 o.2.2.2.2.2.2.2.1) := by
      intro c
      refine ih (nI i, weiN L i, w1, w2, w3, w4, w5, w6, w7, w8, w9, w10) ⟨?_, ?_, Or.inr e2⟩
      · rw [mstF, if_pos c]
      · rw [mstF, if_pos c]
    have st : ¬ (i = 0 ∨ (mstF L i).2 < weiN L i) → Ok (r (mstF L i).1 (mstF L i).2 (nI (i + 1)) w1 w2 w3 w4 w5 w6 w7 w8 w9 w10) (fun o => o.1 = (mstF L (l_M L)).1 ∧ mLd L o.2.2.2.1 o.2.2.2.2.2.2.2.1) := by
      intro c
      refine ih ((mstF L i).1, (mstF L i).2, w1, w2, w3, w4, w5, w6, w7, w8, w9, w10) ⟨?_, ?_, Or.inr e2⟩
      · rw [mstF, if_neg c]
      · rw [mstF, if_neg c]
    refine ok_ite (fun c => ?_) (fun c => ?_)
    · refine up (Or.inl ?_)
      rcases mstF_i L i with ⟨z, _⟩ | ⟨_, j, hj, z⟩
      · exact z
      · rw [z] at c; exact absurd c (fun q => (oI_neg (by omega)).mp q)
    · have c0 : i ≠ 0 := by
        rintro rfl
        exact c (show (-1 : Int32) < 0 by decide)
      refine ok_ite (fun d => ?_) (fun d => ?_)
      · exact up (Or.inr d)
      · exact st (fun q => by rcases q with q | q; exact c0 q; exact d q)
theorem m_uselessT {S : wd_W} {L : Ld} (hL : lOk L) (h : mL S L) (hla : mLaid S L) : Ok (f_X12_useless S) (fun o => o.1 = nI (uslN L (l_M L)) ∧ mLd L o.2.2.2.1 o.2.2.2.2.2.2.2) := by
  have hM := lM_15 hL
  have pM := pow_le15 hM
  have h32 : S.1 32 = nI (l_M L) := h.1.2.2.2.2.1
  unfold f_X12_useless
  rw [li_0]
  refine ok_for0 (W := fun m i (s : Int32 × Int32 × Int32 × Int32 × (Nat → Int32) × (Nat → Int32) × (Nat → Int32) × (Nat → Int32)) => it9 (f_X12_useless_L4 S) m s.1 (nI i) s.2.1 s.2.2.1 s.2.2.2.1 s.2.2.2.2.1 s.2.2.2.2.2.1 s.2.2.2.2.2.2.1 s.2.2.2.2.2.2.2) (I := fun i s => s.1 = nI (uslN L i) ∧ mLd L s.2.2.2.1 s.2.2.2.2.2.2.2) (e := l_M L) (s := (nI 0, S.1 38, S.1 39, S.1 44, S.2.2.1 17, S.2.2.1 18, S.2.2.1 19, S.2.2.1 20)) (by omega) ⟨rfl, hla⟩ ?_ ?_
  · rintro m ⟨x1, u1, u2, u3, u4, u5, u6, u7⟩ ⟨i1, i3⟩
    dsimp only at i1 i3
    show Ok (f_X12_useless_L4 S _ x1 (nI (l_M L)) u1 u2 u3 u4 u5 u6 u7) _
    unfold f_X12_useless_L4
    rw [h32, if_pos (nI_le (Nat.le_refl _) (by omega))]
    exact ok_some ⟨i1, i3⟩
  · rintro m i ⟨x1, u1, u2, u3, u4, u5, u6, u7⟩ hi ⟨i1, i3⟩ ih
    dsimp only at i1 i3
    show Ok (f_X12_useless_L4 S (it9 (f_X12_useless_L4 S) m) x1 (nI i) u1 u2 u3 u4 u5 u6 u7) _
    have hd := dcd_le L i
    generalize it9 (f_X12_useless_L4 S) m = r at ih
    unfold f_X12_useless_L4
    rw [h32, if_neg (nI_ge hi (by omega))]
    refine ok_bd (m_decides (S := wd_o S [(38, u1), (39, u2), (44, u3)] [] [(17, u4), (18, u5), (19, u6), (20, u7)] [] []) (L := L) (t := i) hL h i3 hi) ?_
    rintro ⟨v, w1, w2, w3, w4, w5, w6, w7⟩ ⟨e1, e2⟩
    dsimp only at e1 e2 ⊢
    rw [nI_1, i1, e1]
    refine ok_lk (ok_ite (fun c => ?_) (fun c => ?_))
    · dsimp only
      rw [oI_pow (by omega), oI_or]
      refine ok_lz (ih (nI (uslN L i ||| 2 ^ i), w1, w2, w3, w4, w5, w6, w7) ⟨?_, Or.inr e2⟩)
      rw [uslN, if_pos ((oI_z (by omega)).mp c)]
    · dsimp only
      rw [li_0, oI_or, Nat.or_zero]
      refine ok_lz (ih (nI (uslN L i), w1, w2, w3, w4, w5, w6, w7) ⟨?_, Or.inr e2⟩)
      rw [uslN, if_neg (fun z => c ((oI_z (by omega)).mpr z))]
