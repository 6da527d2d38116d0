/-! the reference: alike, even, differ, mending, letter, mended, count -/
theorem m_alikeT {S : wd_W} {L : Ld} {p1 : Int32} (hL : lOk L) (h : mL S L) (hla : mLaid S L) : Ok (f_X12_alike S p1) (fun o => o.1 = likA L p1 ∧ mLd L o.2.2.2.1 o.2.2.2.2.2.2.2) := by
  have g3 := hL.1.2.2.1
  have h21 : S.1 21 = nI (l_n L) := h.1.2.1
  unfold f_X12_alike likA
  rw [lN_0, show (16 : Int64) = lN 16 from rfl, bd_s (m_inN (by omega) (by omega))]
  have e01 : inB ((0 : Nat) : Int) ((16 : Nat) : Int) p1 = inB 0 16 p1 := rfl
  rw [e01]
  refine ok_b (fun z => ?_) (fun z => ?_)
  · rw [z]; exact ok_some ⟨rfl, laid_Ld hla⟩
  · obtain ⟨p, hp, rfl, n1, n2⟩ := inB_t (by omega) z
    rw [if_pos z, nI_clamp hp, li_0]
    refine ok_for0 (W := fun m i (s : Int64 × Int32 × Int32 × Int32 × (Nat → Int32) × (Nat → Int32) × (Nat → Int32) × (Nat → Int32)) => it9 (f_X12_alike_L21 S (nI p)) m s.1 (nI i) s.2.1 s.2.2.1 s.2.2.2.1 s.2.2.2.2.1 s.2.2.2.2.2.1 s.2.2.2.2.2.2.1 s.2.2.2.2.2.2.2) (I := fun i s => s.1 = lN (likF L p i) ∧ mLd L s.2.2.2.1 s.2.2.2.2.2.2.2) (e := l_n L + 1) (s := (lN 0, S.1 38, S.1 39, S.1 44, S.2.2.1 17, S.2.2.1 18, S.2.2.1 19, S.2.2.1 20)) (by omega) ⟨rfl, hla⟩ ?_ ?_
    · rintro m ⟨x1, u1, u2, u3, u4, u5, u6, u7⟩ ⟨i1, i3⟩
      dsimp only at i1 i3
      show Ok (f_X12_alike_L21 S (nI p) _ x1 (nI (l_n L + 1)) u1 u2 u3 u4 u5 u6 u7) _
      unfold f_X12_alike_L21
      rw [h21, if_pos (nI_lt (by omega) (by omega))]
      exact ok_some ⟨i1, i3⟩
    · rintro m i ⟨x1, u1, u2, u3, u4, u5, u6, u7⟩ hi ⟨i1, i3⟩ ih
      dsimp only at i1 i3
      show Ok (f_X12_alike_L21 S (nI p) (it9 (f_X12_alike_L21 S (nI p)) m) x1 (nI i) u1 u2 u3 u4 u5 u6 u7) _
      generalize it9 (f_X12_alike_L21 S (nI p)) m = r at ih
      have hr := rowN_le hL i
      unfold f_X12_alike_L21
      rw [h21, if_neg (nI_nlt (by omega) (by omega))]
      refine ok_bd (m_row (S := wd_o S [(38, u1), (39, u2), (44, u3)] [] [(17, u4), (18, u5), (19, u6), (20, u7)] [] []) (L := L) (k := i) hL h i3 rfl (by omega)) ?_
      rintro ⟨v, w1, w2, w3, w4, w5, w6, w7⟩ ⟨e1, e2⟩
      dsimp only at e1 e2 ⊢
      rw [e1, nI_l (by omega), nI_1]
      refine ok_lz (ok_lk1 (fun v => v = lN (rowN L i * p ^ i * (16 - p) ^ (l_n L - i))) (fun K hK => ?_) ?_)
      · rw [li_0]
        refine ok_for0 (W := fun m j (v : Int64) => it2 (f_X12_alike_L42 S (nI p) (nI i) K) m v (nI j)) (I := fun j v => v = lN (rowN L i * p ^ (min j i) * (16 - p) ^ (j - i))) (e := l_n L) (by omega) ?_ ?_ ?_
        · rw [Nat.zero_min, Nat.zero_sub, Nat.pow_zero, Nat.pow_zero, Nat.mul_one, Nat.mul_one]
        · intro m v hI
          show Ok (f_X12_alike_L42 S (nI p) (nI i) K _ v (nI (l_n L))) _
          unfold f_X12_alike_L42
          rw [h21, if_pos (nI_le (Nat.le_refl _) (by omega))]
          refine hK _ ?_
          rw [hI, Nat.min_eq_right (by omega)]
        · intro m j v hj hI ihj
          show Ok (f_X12_alike_L42 S (nI p) (nI i) K (it2 _ m) v (nI j)) _
          generalize it2 (f_X12_alike_L42 S (nI p) (nI i) K) m = rj at ihj
          unfold f_X12_alike_L42
          rw [h21, if_neg (nI_ge hj (by omega)), nI_1]
          refine ok_lk (ok_ite (fun c => ?_) (fun c => ?_))
          · rw [nI_leI (by omega) (by omega)] at c
            dsimp only
            rw [li_16, pk_sub (by omega), nI_l (by omega), hI, lN_mul]
            refine ok_lz (ihj _ ?_)
            rw [Nat.min_eq_right c, Nat.min_eq_right (show i ≤ j + 1 by omega), show j + 1 - i = (j - i) + 1 by omega, Nat.pow_succ, Nat.mul_assoc (rowN L i * p ^ i)]
          · rw [nI_leI (by omega) (by omega)] at c
            dsimp only
            rw [nI_l hp, hI, lN_mul]
            refine ok_lz (ihj _ ?_)
            rw [Nat.min_eq_left (show j ≤ i by omega), Nat.min_eq_left (show j + 1 ≤ i by omega), show j + 1 - i = 0 by omega, show j - i = 0 by omega, Nat.pow_zero, Nat.mul_one, Nat.mul_one, Nat.pow_succ, Nat.mul_assoc]
      · rintro _ rfl
        rw [i1, lN_add]
        exact ok_lz (ih (_, w1, w2, w3, w4, w5, w6, w7) ⟨rfl, Or.inr e2⟩)
theorem m_evenT {S : wd_W} {L : Ld} (hL : lOk L) (h : mL S L) (hla : mLaid S L) : Ok (f_X12_even S) (fun o => o.1 = nI (b2n (evnB L)) ∧ mLd L o.2.2.2.1 o.2.2.2.2.2.2.2) := by
  have g3 := hL.1.2.2.1
  have h21 : S.1 21 = nI (l_n L) := h.1.2.1
  unfold f_X12_even
  show Ok (it8 (f_X12_even_L2 S) fuel (nI (0 + 1)) (S.1 38) (S.1 39) (S.1 44) (S.2.2.1 17) (S.2.2.1 18) (S.2.2.1 19) (S.2.2.1 20)) _
  refine ok_for0 (W := fun m i (s : Int32 × Int32 × Int32 × (Nat → Int32) × (Nat → Int32) × (Nat → Int32) × (Nat → Int32)) => it8 (f_X12_even_L2 S) m (nI (i + 1)) s.1 s.2.1 s.2.2.1 s.2.2.2.1 s.2.2.2.2.1 s.2.2.2.2.2.1 s.2.2.2.2.2.2) (I := fun i s => (∀ k, k < i → decide (rowN L k * rowN L (k + 2) ≤ rowN L (k + 1) * rowN L (k + 1)) = true) ∧ mLd L s.2.2.1 s.2.2.2.2.2.2) (e := l_n L - 1) (s := (S.1 38, S.1 39, S.1 44, S.2.2.1 17, S.2.2.1 18, S.2.2.1 19, S.2.2.1 20)) (by omega) ⟨fun k hk => absurd hk (Nat.not_lt_zero k), hla⟩ ?_ ?_
  · rintro m ⟨u1, u2, u3, u4, u5, u6, u7⟩ ⟨i1, i3⟩
    dsimp only at i1 i3
    show Ok (f_X12_even_L2 S _ (nI (l_n L - 1 + 1)) u1 u2 u3 u4 u5 u6 u7) _
    unfold f_X12_even_L2
    rw [h21, if_pos (nI_le (by omega) (by omega))]
    have : evnB L = true := alls_iff.mpr i1
    exact ok_some ⟨by rw [this]; rfl, i3⟩
  · rintro m i ⟨u1, u2, u3, u4, u5, u6, u7⟩ hi ⟨i1, i3⟩ ih
    dsimp only at i1 i3
    show Ok (f_X12_even_L2 S (it8 (f_X12_even_L2 S) m) (nI (i + 1)) u1 u2 u3 u4 u5 u6 u7) _
    generalize it8 (f_X12_even_L2 S) m = r at ih
    have hr0 := rowN_le hL i
    have hr1 := rowN_le hL (i + 1)
    have hr2 := rowN_le hL (i + 1 + 1)
    have b1 : rowN L i * rowN L (i + 1 + 1) ≤ 4096 * 4096 := Nat.mul_le_mul hr0 hr2
    have b2 : rowN L (i + 1) * rowN L (i + 1) ≤ 4096 * 4096 := Nat.mul_le_mul hr1 hr1
    have es : nI (i + 1) - (1 : Int32) = nI i := by rw [li_1, pk_sub (by omega), Nat.add_sub_cancel]
    unfold f_X12_even_L2
    rw [h21, if_neg (nI_ge (by omega) (by omega)), es, nI_1]
    refine ok_bd (m_row (S := wd_o S [(38, u1), (39, u2), (44, u3)] [] [(17, u4), (18, u5), (19, u6), (20, u7)] [] []) (L := L) (k := i + 1) hL h i3 rfl (by omega)) ?_
    rintro ⟨v, w1, w2, w3, w4, w5, w6, w7⟩ ⟨e1, e2⟩
    dsimp only at e1 e2 ⊢
    refine ok_bd (m_row (S := wd_o S [(38, w1), (39, w2), (44, w3)] [] [(17, w4), (18, w5), (19, w6), (20, w7)] [] []) (L := L) (k := i + 1) hL h (Or.inr e2) rfl (by omega)) ?_
    rintro ⟨v', y1, y2, y3, y4, y5, y6, y7⟩ ⟨d1, d2⟩
    dsimp only at d1 d2 ⊢
    refine ok_bd (m_row (S := wd_o S [(38, y1), (39, y2), (44, y3)] [] [(17, y4), (18, y5), (19, y6), (20, y7)] [] []) (L := L) (k := i) hL h (Or.inr d2) rfl (by omega)) ?_
    rintro ⟨v2, q1, q2, q3, q4, q5, q6, q7⟩ ⟨f1, f2⟩
    dsimp only at f1 f2 ⊢
    refine ok_bd (m_row (S := wd_o S [(38, q1), (39, q2), (44, q3)] [] [(17, q4), (18, q5), (19, q6), (20, q7)] [] []) (L := L) (k := i + 1 + 1) hL h (Or.inr f2) rfl (by omega)) ?_
    rintro ⟨v3, s1, s2, s3, s4, s5, s6, s7⟩ ⟨g1, g2⟩
    dsimp only at g1 g2 ⊢
    rw [e1, d1, f1, g1, nI_l (by omega), nI_l (by omega), nI_l (by omega), lN_mul, lN_mul]
    refine ok_ite (fun c => ?_) (fun c => ?_)
    · rw [lN_leL (by omega) (by omega)] at c
      refine ih (s1, s2, s3, s4, s5, s6, s7) ⟨fun k hk => ?_, Or.inr g2⟩
      by_cases q : k = i
      · subst q; exact decide_eq_true c
      · exact i1 k (by omega)
    · rw [lN_leL (by omega) (by omega)] at c
      have : evnB L = false := by
        cases q : evnB L with
        | false => rfl
        | true => exact absurd (of_decide_eq_true (alls_iff.mp q i hi)) c
      exact ok_some ⟨by rw [this]; rfl, Or.inr g2⟩
theorem b2n_inj {x y : Bool} (h : b2n x = b2n y) : x = y := by cases x <;> cases y <;> first | rfl | cases h
theorem ok_lk2 {ρ α β : Type} {B : α → β → Option ρ} {R : (α → β → Option ρ) → Option ρ} {Q : ρ → Prop} (I : α → β → Prop) (hR : ∀ K, (∀ a b, I a b → Ok (K a b) Q) → Ok (R K) Q) (hB : ∀ a b, I a b → Ok (B a b) Q) : Ok (lk B R) Q := hR B hB
theorem m_differT {S : wd_W} {L : Ld} {p1 p2 p3 : Int32} (hL : lOk L) (h : mL S L) (hla : mLaid S L) : Ok (f_X12_differ S p1 p2 p3) (fun o => o.1 = difA L p1 p2 p3 ∧ mLd L o.2.2.2.1 o.2.2.2.2.2.2.2.1) := by
  have hM := lM_15 hL
  have pM := pow_le15 hM
  have h32 : S.1 32 = nI (l_M L) := h.1.2.2.2.2.1
  unfold f_X12_differ difA
  rw [bd_s (m_isThingB (S := wd_o S [(38, (S.1 38)), (39, (S.1 39)), (44, (S.1 44))] [] [(17, (S.2.2.1 17)), (18, (S.2.2.1 18)), (19, (S.2.2.1 19)), (20, (S.2.2.1 20)), (22, (S.2.2.1 22)), (23, (S.2.2.1 23))] [(21, (S.2.2.2.1 21))] []) (p := p1) h32 (by omega))]
  refine ok_b (fun z => ?_) (fun z => ?_)
  · rw [z]; exact ok_some ⟨rfl, laid_Ld hla⟩
  obtain ⟨a, ha, rfl, a1, a2⟩ := inB_t (by omega) z
  rw [if_pos z, bd_s (m_isThingB (S := wd_o S [(38, (S.1 38)), (39, (S.1 39)), (44, (S.1 44))] [] [(17, (S.2.2.1 17)), (18, (S.2.2.1 18)), (19, (S.2.2.1 19)), (20, (S.2.2.1 20)), (22, (S.2.2.1 22)), (23, (S.2.2.1 23))] [(21, (S.2.2.2.1 21))] []) (p := p2) h32 (by omega))]
  refine ok_b (fun z2 => ?_) (fun z2 => ?_)
  · rw [z2]; exact ok_some ⟨rfl, laid_Ld hla⟩
  obtain ⟨b, hb, rfl, b1, b2⟩ := inB_t (by omega) z2
  rw [if_pos z2]
  refine ok_ite (fun z3 => ?_) (fun z3 => ?_)
  · rw [if_pos z3]; exact ok_some ⟨rfl, laid_Ld hla⟩
  rw [if_neg z3]
  have e01 : inB ((0 : Nat) : Int) ((3 : Nat) : Int) p3 = inB 0 3 p3 := rfl
  rw [lN_0, show (3 : Int64) = lN 3 from rfl, bd_s (m_inN (by omega) (by omega)), e01]
  refine ok_b (fun z4 => ?_) (fun z4 => ?_)
  · rw [z4]; exact ok_some ⟨rfl, laid_Ld hla⟩
  obtain ⟨p, hp, rfl, n1, n2⟩ := inB_t (by omega) z4
  rw [if_pos z4, nI_clamp ha, nI_clamp hb, nI_clamp hp]
  refine ok_bd (m_lays (S := wd_o S [(38, (S.1 38)), (39, (S.1 39)), (44, (S.1 44))] [] [(17, (S.2.2.1 17)), (18, (S.2.2.1 18)), (19, (S.2.2.1 19)), (20, (S.2.2.1 20)), (22, (S.2.2.1 22)), (23, (S.2.2.1 23))] [(21, (S.2.2.2.1 21))] []) hL h hla) ?_
  rintro ⟨u1, u2, u3, u4, u5, u6, u7⟩ ⟨e1, e2⟩
  dsimp only at e1 e2
  refine ok_bd (m_plain (S := wd_o S [(38, u1), (39, u2), (44, u3)] [] [(17, u4), (18, u5), (19, u6), (20, u7), (22, (S.2.2.1 22)), (23, (S.2.2.1 23))] [(21, (S.2.2.2.1 21))] []) hL h32 h.2.2.2) ?_
  rintro ⟨c1, c2⟩ ⟨f1, f2⟩
  dsimp only at f1 f2
  refine ok_bd (P := fun o => ∀ s, s < 2 ^ l_M L → o s = lN (wt L s)) (ok_of (m_weighs (S := wd_o S [(38, u1), (39, u2), (44, u3)] [] [(17, u4), (18, u5), (19, u6), (20, u7), (22, c1), (23, c2)] [(21, (S.2.2.2.1 21))] []) (M := l_M L) (h := cha L) (f := fun t => 16 - cha L t) hM h32 (fun t ht => by
    have hc := cha_le hL ht
    exact ⟨f1 t ht, f2 t ht, hc, by omega⟩)) (fun s hs => fil_in (f := fun s => lN (wtF (cha L) (fun t => 16 - cha L t) (l_M L) s)) hs)) ?_
  intro o7 hw
  rw [li_0]
  have fun_eq : ∀ u v : Bool, u = decide (p < 2) → v = decide (p % 2 = 0) →
      Ok (it2 (f_X12_differ_L55 S (nI a) (nI b) (nI p) (u1, u2, u3, u4, u5, u6, u7) (c1, c2) o7) fuel (lN 0) (nI 0)) (fun o => o.1 = lN (difN L a b u v) ∧ mLd L o.2.2.2.1 o.2.2.2.2.2.2.2.1) := by
    intro u v hu hv
    refine ok_for0 (W := fun n i (x : Int64) => it2 (f_X12_differ_L55 S (nI a) (nI b) (nI p) (u1, u2, u3, u4, u5, u6, u7) (c1, c2) o7) n x (nI i)) (I := fun i x => x = lN (fb_sm (fun s => if (s.testBit a = u ∧ s.testBit b = v) ∧ thB L s = true then wt L s else 0) i)) (e := 2 ^ l_M L) (by omega) rfl ?_ ?_
    · intro n x hI
      show Ok (f_X12_differ_L55 S _ _ _ _ _ _ _ x (nI (2 ^ l_M L))) _
      unfold f_X12_differ_L55
      rw [bd_s (m_sets (S := wd_o S [(38, u1), (39, u2), (44, u3)] [] [(17, u4), (18, u5), (19, u6), (20, u7), (22, c1), (23, c2)] [(21, o7)] []) h32 hM), if_pos (nI_le (Nat.le_refl _) (by omega))]
      exact ok_some ⟨hI, Or.inr ⟨e1, e2⟩⟩
    · intro n i x hi hI ih
      show Ok (f_X12_differ_L55 S _ _ _ _ _ _ (it2 (f_X12_differ_L55 S (nI a) (nI b) (nI p) (u1, u2, u3, u4, u5, u6, u7) (c1, c2) o7) n) x (nI i)) _
      generalize it2 (f_X12_differ_L55 S (nI a) (nI b) (nI p) (u1, u2, u3, u4, u5, u6, u7) (c1, c2) o7) n = r at ih
      have hstep := fb_sm_succ (fun s => if (s.testBit a = u ∧ s.testBit b = v) ∧ thB L s = true then wt L s else 0) i
      unfold f_X12_differ_L55
      rw [bd_s (m_sets (S := wd_o S [(38, u1), (39, u2), (44, u3)] [] [(17, u4), (18, u5), (19, u6), (20, u7), (22, c1), (23, c2)] [(21, o7)] []) h32 hM), if_neg (nI_ge hi (by omega)), nI_1, li_1, oI_tb (by omega) (by omega), oI_tb (by omega) (by omega)]
      refine ok_lk2 (fun x11 x12 => x11 = nI (b2n u) ∧ x12 = nI (b2n (i.testBit a))) (fun K hK => ?_) ?_
      · refine ok_ite (fun q => hK _ _ ⟨?_, rfl⟩) (fun q => hK _ _ ⟨?_, rfl⟩)
        · rw [li_2, nI_leI (by omega) hp] at q
          rw [hu, decide_eq_false (by omega)]; rfl
        · rw [li_2, nI_leI (by omega) hp] at q
          rw [hu, decide_eq_true (by omega)]; rfl
      · rintro x11 x12 ⟨rfl, rfl⟩
        refine ok_lk1 (fun x14 => x14 = nI (b2n (decide (i.testBit a = u ∧ i.testBit b = v)))) (fun K hK => ?_) ?_
        · have bad : ¬ (i.testBit a = u ∧ i.testBit b = v) → Ok (K (nI 0)) _ := fun q => hK _ (by rw [decide_eq_false q]; rfl)
          have good : (i.testBit a = u ∧ i.testBit b = v) → Ok (K (nI 1)) _ := fun q => hK _ (by rw [decide_eq_true q]; rfl)
          refine ok_lk (ok_ite (fun c => ?_) (fun c => bad (fun q => c (by rw [q.1]))))
          have ca : i.testBit a = u := b2n_inj ((nI_eq (by have := b2n_le (i.testBit a); omega) (by have := b2n_le u; omega)).mp c)
          refine ok_lk2 (fun x27 x28 => x27 = nI (b2n v) ∧ x28 = nI (b2n (i.testBit b))) (fun K' hK' => ?_) ?_
          · refine ok_lk (ok_ite (fun q => hK' _ _ ⟨?_, rfl⟩) (fun q => ok_ite (fun q2 => hK' _ _ ⟨?_, rfl⟩) (fun q2 => hK' _ _ ⟨?_, rfl⟩)))
            · have : p = 0 := (oI_z hp).mp q
              subst this
              rw [hv]; rfl
            · have : p = 2 := (nI_eq hp (by omega)).mp q2
              subst this
              rw [hv]; rfl
            · have q0 : p ≠ 0 := fun z => q (by rw [z]; rfl)
              have q3 : p ≠ 2 := fun z => q2 (by rw [z]; rfl)
              rw [hv, decide_eq_false (by omega)]; rfl
          · rintro x27 x28 ⟨rfl, rfl⟩
            refine ok_ite (fun d => good ⟨ca, b2n_inj ((nI_eq (by have := b2n_le (i.testBit b); omega) (by have := b2n_le v; omega)).mp d)⟩) (fun d => bad (fun q => d (by rw [q.2])))
        · rintro x14 rfl
          have zero : ¬ ((i.testBit a = u ∧ i.testBit b = v) ∧ thB L i = true) → Ok (lz (x + lN 0) fun x19 => r x19 (nI (i + 1))) (fun o => o.1 = lN (difN L a b u v) ∧ mLd L o.2.2.2.1 o.2.2.2.2.2.2.2.1) := by
            intro q
            refine ok_lz (ih _ ?_)
            rw [hstep, if_neg q, hI, lN_add]
          have one : ((i.testBit a = u ∧ i.testBit b = v) ∧ thB L i = true) → Ok (lz (x + lN (wt L i)) fun x19 => r x19 (nI (i + 1))) (fun o => o.1 = lN (difN L a b u v) ∧ mLd L o.2.2.2.1 o.2.2.2.2.2.2.2.1) := by
            intro q
            refine ok_lz (ih _ ?_)
            rw [hstep, if_pos q, hI, lN_add]
          refine ok_lk (ok_lk (ok_b (fun q => zero (fun z => ?_)) (fun q => ?_)))
          · exact absurd z.1 (of_decide_eq_false q)
          · have q := of_decide_eq_true q
            rw [gd_in (by omega) (by omega)]
            dsimp only
            have e7 : u7 (nI i).toNatClampNeg = nI (b2n (thB L i)) := by rw [nI_clamp (by omega)]; exact e2 i hi
            refine ok_ite (fun d => ?_) (fun d => ?_)
            · rw [e7] at d
              have d : thB L i = false := (oI_b0 _).mp d
              exact zero (fun z => by rw [d] at z; exact absurd z.2 (by decide))
            · rw [e7] at d
              have d : thB L i = true := by
                cases w : thB L i with
                | true => rfl
                | false => rw [w] at d; exact absurd rfl d
              rw [gd_in (by omega) (by omega), nI_clamp (by omega), hw i hi]
              exact one ⟨q, d⟩
  exact fun_eq _ _ rfl rfl
theorem m_mendingT {S : wd_W} {st : Sta} {p1 p2 p3 : Int32} (h : MW S st) : Ok (f_X12_mending S p1 p2 p3) (fun o => o.1 = mngA st.1 st.2.1 p1 p2 p3 ∧ MW (wd_o S [(51, o.2.1)] [] [(27, o.2.2.1), (28, o.2.2.2.1), (29, o.2.2.2.2)] [] []) (st.1, mngT st.1 st.2.1 p1 p2 p3, st.2.2)) := by
  obtain ⟨L, T, M, I, tp⟩ := st
  obtain ⟨⟨⟨hL, hc3, hT⟩, hl, h31, hmT⟩, hla, hm, hi, ht⟩ := h
  dsimp only at hL hc3 hT hl h31 hmT hla hm hi ht ⊢
  have g3 := hL.1.2.2.1
  have h00 := hT.1.1
  have t0 : S.1 51 = nI (T 0 0) := hmT.1
  have h21 : S.1 21 = nI (l_n L) := hl.1.2.1
  have stay : mngB L T p1 p2 p3 = false → Ok (some ((-1 : Int32), (S.1 51), (S.2.2.1 27), (S.2.2.1 28), (S.2.2.1 29))) (fun o : o_X12_mending => o.1 = mngA L T p1 p2 p3 ∧ MW (wd_o S [(51, o.2.1)] [] [(27, o.2.2.1), (28, o.2.2.2.1), (29, o.2.2.2.2)] [] []) (L, mngT L T p1 p2 p3, M, I, tp)) := by
    intro z
    unfold mngA mngT
    rw [z]
    exact ok_some ⟨rfl, ⟨⟨hL, hc3, hT⟩, hl, h31, hmT⟩, hla, hm, hi, ht⟩
  unfold f_X12_mending
  rw [h21, lN_0, bd_s (m_inM (by omega)), show (1 : Int64) = lN 1 from rfl, show (999 : Int64) = lN 999 from rfl, bd_s (m_inN (by omega) (by omega))]
  refine ok_ite (fun z => ?_) (fun z => ?_)
  · rw [t0, li_9, nI_eq (by omega) (by omega)] at z
    exact stay (by unfold mngB; rw [decide_eq_false (by omega)]; rfl)
  rw [t0, li_9, nI_eq (by omega) (by omega)] at z
  refine ok_b (fun y => ?_) (fun y => ?_)
  · exact stay (by unfold mngB; rw [y, Bool.false_and, Bool.and_false])
  have hin1 := y
  obtain ⟨l, hll, rfl, n1, n2⟩ := inB_t (by omega) y
  refine ok_b (fun y => ?_) (fun y => ?_)
  · have y : inB 1 999 p2 = false := y
    exact stay (by unfold mngB; rw [y, Bool.false_and, Bool.and_false, Bool.and_false])
  have hin2 : inB 1 999 p2 = true := y
  obtain ⟨c, hcl, rfl, c1, c2⟩ := inB_t (by omega) hin2
  have hC := (hL.2.1 l (by omega)).2.2.2.1
  have h10 : S.2.2.1 10 l = nI (l_C L l) := (hl.2.1 l (by omega)).2.2.1
  rw [gd_in (by omega) (by omega), nI_clamp hll, h10, nI_1, nI_l (by omega), show (16 : Int64) = lN 16 from rfl, bd_s (m_inN (by omega) (by omega))]
  have e3 : inB ((l_C L l + 1 : Nat) : Int) ((16 : Nat) : Int) p3 = inB ((l_C L l : Int) + 1) 16 p3 := rfl
  rw [e3]
  refine ok_b (fun y => ?_) (fun y => ?_)
  · exact stay (by unfold mngB; rw [nI_clamp hll, y, Bool.and_false, Bool.and_false, Bool.and_false])
  have hin3 := y
  obtain ⟨v, hv, rfl, v1, v2⟩ := inB_t (by omega) y
  have hB : mngB L T (nI l) (nI c) (nI v) = true := by unfold mngB; rw [nI_clamp hll, hin1, hin2, hin3, decide_eq_true (show T 0 0 < 9 by omega)]; rfl
  unfold mngA mngT
  rw [hB, if_pos rfl, if_pos rfl, nI_clamp hll, nI_clamp hcl, nI_clamp hv, t0, gd_in (by omega) (by omega), lz_eq, gd_in (by omega) (by omega), lz_eq, gd_in (by omega) (by omega), lz_eq, nI_clamp (by omega), nI_1, lz_eq, li_1, pk_sub (by omega), Nat.add_sub_cancel]
  have hT2 : nOk L (mendT T l c v) := mendT_ok hT (by omega) (by omega) (by omega) (by omega) (by omega)
  refine ok_some ⟨rfl, ⟨⟨hL, hc3, hT2⟩, hl, h31, ⟨rfl, hmT.2.1, fun i hi => ?_, hmT.2.2.2⟩⟩, hla, hm, hi, ht⟩
  have hi : i < T 0 0 + 1 := hi
  show upd (S.2.2.1 27) (T 0 0) (nI l) i = nI (upN (T 1) (T 0 0) l i) ∧ upd (S.2.2.1 28) (T 0 0) (nI c) i = nI (upN (T 2) (T 0 0) c i) ∧ upd (S.2.2.1 29) (T 0 0) (nI v) i = nI (upN (T 3) (T 0 0) v i)
  by_cases e : i = T 0 0
  · subst e; rw [pk_us, pk_us, pk_us, upN_s, upN_s, upN_s]; exact ⟨rfl, rfl, rfl⟩
  · rw [pk_un e, pk_un e, pk_un e, upN_n e, upN_n e, upN_n e]; exact hmT.2.2.1 i (by omega)
theorem m_letterT {S : wd_W} {st : Sta} {p1 p2 : Int32} {v : Bool} (h : MW S st) : Ok (f_X12_letter S p1 p2 (nI (b2n v))) (fun o => o.1 = letA st.1 st.2.1 p1 p2 ∧ MW (wd_o S [(60, o.2.1)] [] [(32, o.2.2.1), (33, o.2.2.2.1), (34, o.2.2.2.2)] [] []) (st.1, letT st.1 st.2.1 p1 p2 v, st.2.2)) := by
  obtain ⟨L, T, M, I, tp⟩ := st
  obtain ⟨⟨⟨hL, hc3, hT⟩, hl, h31, hmT⟩, hla, hm, hi, ht⟩ := h
  dsimp only at hL hc3 hT hl h31 hmT hla hm hi ht ⊢
  have g2 := hL.1.2.1
  have h04 := hT.2.1
  have t4 : S.1 60 = nI (T 4 0) := hmT.2.1
  have stay : letB L T p1 p2 = false → Ok (some ((-1 : Int32), (S.1 60), (S.2.2.1 32), (S.2.2.1 33), (S.2.2.1 34))) (fun o : o_X12_letter => o.1 = letA L T p1 p2 ∧ MW (wd_o S [(60, o.2.1)] [] [(32, o.2.2.1), (33, o.2.2.2.1), (34, o.2.2.2.2)] [] []) (L, letT L T p1 p2 v, M, I, tp)) := by
    intro z
    unfold letA letT
    rw [z]
    exact ok_some ⟨rfl, ⟨⟨hL, hc3, hT⟩, hl, h31, hmT⟩, hla, hm, hi, ht⟩
  unfold f_X12_letter
  rw [bd_s (m_areEndsB (S := wd_o S [(60, (S.1 60))] [] [(32, (S.2.2.1 32)), (33, (S.2.2.1 33)), (34, (S.2.2.1 34))] [] []) (N := l_N L) (p1 := p1) (p2 := p2) hl.1.1 (by omega))]
  refine ok_ite (fun z => ?_) (fun z => ?_)
  · rw [t4, li_6, nI_eq (by omega) (by omega)] at z
    exact stay (by unfold letB; rw [decide_eq_false (by omega)]; rfl)
  rw [t4, li_6, nI_eq (by omega) (by omega)] at z
  refine ok_b (fun y => stay (by unfold letB; rw [y, Bool.and_false])) (fun y => ?_)
  have hpr := y
  obtain ⟨a, b, rfl, rfl, ha, hb, hab⟩ := prB_t y
  have hB : letB L T (nI a) (nI b) = true := by unfold letB; rw [hpr, decide_eq_true (show T 4 0 < 6 by omega)]; rfl
  have ev : vp_nar .boolean (nI (b2n v)) = nI (b2n v) := by cases v <;> rfl
  unfold letA letT
  rw [hB, if_pos rfl, if_pos rfl, nI_clamp (by omega), nI_clamp (by omega), t4, gd_in (by omega) (by omega), lz_eq, gd_in (by omega) (by omega), lz_eq, gd_in (by omega) (by omega), lz_eq, nI_clamp (by omega), nI_1, lz_eq, li_1, pk_sub (by omega), Nat.add_sub_cancel, ev]
  have hT2 : nOk L (lettT T a b (b2n v)) := lettT_ok hT (by omega) ha hb hab (b2n_le v)
  refine ok_some ⟨rfl, ⟨⟨hL, hc3, hT2⟩, hl, h31, ⟨hmT.1, rfl, hmT.2.2.1, fun i hi => ?_⟩⟩, hla, hm, hi, ht⟩
  have hi : i < T 4 0 + 1 := hi
  show upd (S.2.2.1 32) (T 4 0) (nI a) i = nI (upN (T 5) (T 4 0) a i) ∧ upd (S.2.2.1 33) (T 4 0) (nI b) i = nI (upN (T 6) (T 4 0) b i) ∧ upd (S.2.2.1 34) (T 4 0) (nI (b2n v)) i = nI (upN (T 7) (T 4 0) (b2n v) i)
  by_cases e : i = T 4 0
  · subst e; rw [pk_us, pk_us, pk_us, upN_s, upN_s, upN_s]; exact ⟨rfl, rfl, rfl⟩
  · rw [pk_un e, pk_un e, pk_un e, upN_n e, upN_n e, upN_n e]; exact hmT.2.2.2 i (by omega)
theorem m_mendedT {S : wd_W} {st : Sta} {p1 : Int32} (h : MW S st) : f_X12_mended S p1 = some (mdAns st.2.2.1 p1) := by
  obtain ⟨_, _, hm, _⟩ := h
  apply ok_e
  unfold f_X12_mended mdAns
  rcases hm with ⟨e1, e2⟩ | ⟨e1, e2, e3⟩
  · rw [e1, e2, if_pos (show nI 0 = 0 from rfl)]
    refine ok_some ?_
    repeat' split
    all_goals rfl
  · rw [e1, e2, e3, if_neg (show ¬ nI 1 = 0 by decide)]
    repeat' split
    all_goals exact ok_some rfl
theorem m_countT {S : wd_W} {st : Sta} {p1 : Int32} (h : MW S st) : f_X12_count S p1 = some (cntA st p1) := by
  obtain ⟨⟨_, ⟨⟨l0, l1, l7, _, _, l14, _⟩, _⟩, h31, t0, t4, _⟩, _, _, _, tp, _⟩ := h
  unfold f_X12_count cntA
  rw [l0, l1, l7, h31, t0, t4, l14, tp]
  repeat' split
  all_goals rfl
