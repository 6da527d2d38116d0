/-! the reference's queries, on -/
theorem m_waysT {S : wd_W} {L : Ld} {c : Bool} (hL : lOk L) (h : mL S L) (hla : mLaid S L) : Ok (f_X12_ways S (nI (b2n c))) (fun o => o.1 = waysA L c ∧ mLd L o.2.2.2.1 o.2.2.2.2.2.2.2.1) := by
  unfold f_X12_ways waysA
  refine ok_bd (m_lists (S := wd_o S [(38, (S.1 38)), (39, (S.1 39)), (44, (S.1 44))] [] [(17, (S.2.2.1 17)), (18, (S.2.2.1 18)), (19, (S.2.2.1 19)), (20, (S.2.2.1 20)), (24, (S.2.2.1 24)), (25, (S.2.2.1 25)), (26, (S.2.2.1 26))] [] []) (L := L) (c := c) hL h hla) ?_
  rintro ⟨u1, u2, u3, u4, u5, u6, u7, u8, u9, u10⟩ ⟨e2, e3, e4, e5⟩
  dsimp only at e2 e3 e4 e5 ⊢
  refine ok_lk (ok_b (fun z => ?_) (fun z => ?_))
  · subst z
    exact ok_some ⟨e3, Or.inr e2⟩
  · subst z
    exact ok_some ⟨e3, Or.inr e2⟩
theorem m_wayT {S : wd_W} {L : Ld} {c : Bool} {p2 : Int32} (hL : lOk L) (h : mL S L) (hla : mLaid S L) : Ok (f_X12_way S (nI (b2n c)) p2) (fun o => o.1 = wayA L c p2 ∧ mLd L o.2.2.2.1 o.2.2.2.2.2.2.2.1) := by
  have htold := (lsF_told L c (2 ^ l_M L)).1
  unfold f_X12_way wayA
  refine ok_bd (m_lists (S := wd_o S [(38, (S.1 38)), (39, (S.1 39)), (44, (S.1 44))] [] [(17, (S.2.2.1 17)), (18, (S.2.2.1 18)), (19, (S.2.2.1 19)), (20, (S.2.2.1 20)), (24, (S.2.2.1 24)), (25, (S.2.2.1 25)), (26, (S.2.2.1 26))] [] []) (L := L) (c := c) hL h hla) ?_
  rintro ⟨u1, u2, u3, u4, u5, u6, u7, u8, u9, u10⟩ ⟨e2, e3, e4, e5⟩
  dsimp only at e2 e3 e4 e5 ⊢
  have fin : ∀ x : Int32, x = nI (b2n c) → Ok (gd (okx x 2) <| bd (f_X12_in p2.toInt64 (0 : Int64) (((u9 x.toNatClampNeg) - (1 : Int32)).toInt64)) fun o5 => if o5 = 0 then some ((-1 : Int32), u1, u2, u3, u4, u5, u6, u7, u8, u9, u10) else gd (okx (((60 : Int32) * x) + p2) 120) <| some (u8 (((60 : Int32) * x) + p2).toNatClampNeg, u1, u2, u3, u4, u5, u6, u7, u8, u9, u10)) (fun o : o_X12_way => o.1 = wayA L c p2 ∧ mLd L o.2.2.2.1 o.2.2.2.2.2.2.2.1) := by
    rintro _ rfl
    have hb := b2n_le c
    rw [gd_in (by omega) (by omega), nI_clamp (by omega), e4, lN_0, bd_s (m_inM (by omega))]
    refine ok_b (fun z => ?_) (fun z => ?_)
    · unfold wayA
      rw [z]
      exact ok_some ⟨rfl, Or.inr e2⟩
    · obtain ⟨n, hn, rfl, n1, n2⟩ := inB_t (by omega) z
      unfold wayA
      rw [if_pos z, li_60, nI_mulR, nI_add, gd_in (by omega) (by omega), nI_clamp (by omega), nI_clamp hn]
      exact ok_some ⟨e5 n (by omega), Or.inr e2⟩
  refine ok_lk (ok_b (fun z => ?_) (fun z => ?_))
  · exact fin 0 (by rw [z]; rfl)
  · exact fin 1 (by rw [z]; rfl)
theorem m_endsT {S : wd_W} {L : Ld} {p1 p2 : Int32} (hL : lOk L) (h : mL S L) (hla : mLaid S L) : Ok (f_X12_ends S p1 p2) (fun o => o.1 = endsA L p1 p2 ∧ mLd L o.2.2.2.1 o.2.2.2.2.2.2.2.1) := by
  by_cases hin : inB 0 60 p1 = true
  · by_cases hin2 : inB 0 1 p2 = true
    · obtain ⟨n, hn, rfl, n1, n2⟩ := inB_t (by omega) hin
      obtain ⟨r, hr, rfl, r1, r2⟩ := inB_t (by omega) hin2
      have hc : nI r = nI (b2n (decide (nI r ≠ 0))) := by
        rcases (show r = 0 ∨ r = 1 by omega) with rfl | rfl
        · rfl
        · rfl
      have := m_ends (S := S) (L := L) (c := decide (nI r ≠ 0)) (m := n) hL h hla (by omega)
      rw [← hc] at this
      refine ok_mono this (fun o ho => ⟨?_, Or.inr ho.2⟩)
      unfold endsA
      rw [hin, hin2, if_pos (show (true && true) = true from rfl), nI_clamp hn]
      exact ho.1
    · have hin2 : inB 0 1 p2 = false := by
        cases q : inB 0 1 p2 with
        | false => rfl
        | true => exact absurd q hin2
      unfold f_X12_ends endsA
      rw [lN_0, show (60 : Int64) = lN 60 from rfl, show (1 : Int64) = lN 1 from rfl, bd_s (m_inN (by omega) (by omega)), bd_s (m_inN (by omega) (by omega)), hin2, Bool.and_false]
      refine ok_b (fun z => ok_some ⟨rfl, laid_Ld hla⟩) (fun z => ok_b (fun z => ok_some ⟨rfl, laid_Ld hla⟩) (fun z => ?_))
      have z : inB 0 1 p2 = true := z
      rw [hin2] at z; cases z
  · have hin : inB 0 60 p1 = false := by
      cases q : inB 0 60 p1 with
      | false => rfl
      | true => exact absurd q hin
    unfold f_X12_ends endsA
    rw [lN_0, show (60 : Int64) = lN 60 from rfl, bd_s (m_inN (by omega) (by omega)), hin, Bool.false_and]
    refine ok_b (fun z => ok_some ⟨rfl, laid_Ld hla⟩) (fun z => ?_)
    have z : inB 0 60 p1 = true := z
    rw [hin] at z; cases z
theorem m_drawT {S : wd_W} {L : Ld} {p1 p2 : Int32} (hL : lOk L) (h : mL S L) (hla : mLaid S L) : Ok (f_X12_draw S p1 p2) (fun o => o.1 = drwA L p1 p2 ∧ mLd L o.2.2.2.1 o.2.2.2.2.2.2.2) := by
  unfold drwA
  by_cases hp : p1 < 0
  · rw [if_pos hp]
    unfold f_X12_draw
    rw [if_pos hp]
    exact ok_some ⟨rfl, laid_Ld hla⟩
  · rw [if_neg hp]
    cases hin : inB 1 1000 p2 with
    | false =>
      unfold f_X12_draw
      rw [if_neg hp, show (1 : Int64) = lN 1 from rfl, show (1000 : Int64) = lN 1000 from rfl, bd_s (m_inN (by omega) (by omega))]
      refine ok_b (fun z => ok_some ⟨rfl, laid_Ld hla⟩) (fun z => ?_)
      have z : inB 1 1000 p2 = true := z
      rw [hin] at z; cases z
    | true =>
      obtain ⟨n, hn, rfl, n1, n2⟩ := inB_t (by omega) hin
      rw [if_pos rfl, nI_clamp hn]
      exact ok_mono (m_draw (S := S) (L := L) (p1 := p1) (n := n) hL h hla hp (by omega) (by omega)) (fun o ho => ⟨ho.1, Or.inr ho.2⟩)
theorem ct_le_n {p : Nat → Bool} {n : Nat} (h : ∀ i, n ≤ i → p i = false) : ∀ m, fb_ct p m ≤ n
  | 0 => Nat.zero_le _
  | m + 1 => by
    rw [fb_ct_succ]
    by_cases c : m < n
    · have := fb_ct_le p m
      split <;> omega
    · rw [h m (by omega)]
      exact ct_le_n h m
theorem cnt_le_n {s n : Nat} (h : s < 2 ^ n) : cnt s 12 ≤ n := ct_le_n (fun i hi => Nat.testBit_lt_two_pow (Nat.lt_of_lt_of_le h (Nat.pow_le_pow_right (by omega) hi))) 12
theorem rowN_0 {L : Ld} {k : Nat} (h : l_n L < k) : rowN L k = 0 := by
  unfold rowN
  have : ∀ m, m ≤ 2 ^ l_n L → fb_ct (fun s => (cnt s 12 == k) && thB L (s ||| (2 ^ l_M L - 2 ^ l_n L))) m = 0 := by
    intro m
    induction m with
    | zero => intro _; rfl
    | succ m ih =>
      intro hm
      have hc := cnt_le_n (show m < 2 ^ l_n L by omega)
      have e : (cnt m 12 == k) = false := by
        cases q : cnt m 12 == k with
        | false => rfl
        | true => have := eq_of_beq q; omega
      rw [fb_ct_succ, ih (by omega), e, Bool.false_and]
      rfl
  exact this _ (Nat.le_refl _)
theorem m_rowN {S : wd_W} {L : Ld} {p1 : Int32} (hL : lOk L) (h : mL S L) (hla : mLaid S L) (hp : p1 < 0) : Ok (f_X12_row S p1) (fun o => o.1 = nI 0 ∧ lai L o.2.2.2.1 o.2.2.2.2.2.2.2) := by
  have hM := lM_15 hL
  have pM := pow_le15 hM
  have h32 : S.1 32 = nI (l_M L) := h.1.2.2.2.2.1
  have h21 : S.1 21 = nI (l_n L) := h.1.2.1
  have g3 : l_n L ≤ 12 := hL.1.2.2.1
  have p3 : 2 ^ l_n L ≤ 4096 := pow_le_k (n := 12) g3
  have hnM : l_n L ≤ l_M L := by unfold l_M; omega
  have pnM := pow_le_k hnM
  unfold f_X12_row
  refine ok_bd (m_lays (S := wd_o S [(38, (S.1 38)), (39, (S.1 39)), (44, (S.1 44))] [] [(17, (S.2.2.1 17)), (18, (S.2.2.1 18)), (19, (S.2.2.1 19)), (20, (S.2.2.1 20))] [] []) hL h hla) ?_
  rintro ⟨u1, u2, u3, u4, u5, u6, u7⟩ ⟨e1, e2⟩
  dsimp only at e1 e2
  rw [bd_s (m_sets (S := wd_o S [(38, u1), (39, u2), (44, u3)] [] [(17, u4), (18, u5), (19, u6), (20, u7)] [] []) h32 hM), h21, oI_pow (by omega), pk_sub pnM, li_0]
  refine ok_lz ?_
  refine ok_for0 (W := fun n i (v : Int32) => it2 (f_X12_row_L21 S p1 (u1, u2, u3, u4, u5, u6, u7) (nI (2 ^ l_M L - 2 ^ l_n L))) n v (nI i)) (I := fun i v => v = nI 0) (e := 2 ^ l_n L) (by omega) rfl ?_ ?_
  · intro n v hI
    show Ok (f_X12_row_L21 S _ _ _ _ v (nI (2 ^ l_n L))) _
    unfold f_X12_row_L21
    rw [h21, oI_pow (by omega), if_pos (nI_le (Nat.le_refl _) (by omega)), hI]
    exact ok_some ⟨rfl, e1, e2⟩
  · intro n i v hi hI ih
    show Ok (f_X12_row_L21 S _ _ _ (it2 (f_X12_row_L21 S p1 (u1, u2, u3, u4, u5, u6, u7) (nI (2 ^ l_M L - 2 ^ l_n L))) n) v (nI i)) _
    generalize it2 (f_X12_row_L21 S p1 (u1, u2, u3, u4, u5, u6, u7) (nI (2 ^ l_M L - 2 ^ l_n L))) n = r at ih
    unfold f_X12_row_L21
    have hc := cnt_le i 12
    rw [h21, oI_pow (by omega), if_neg (nI_ge hi (by omega)), bd_s (m_bits (show i < 4096 by omega)), hI]
    refine ok_lk (ok_lk (ok_ite (fun c => ?_) (fun c => ?_)))
    · rw [← c] at hp
      exact absurd hp (fun q => (oI_neg (by omega)).mp q)
    · dsimp only
      rw [nI_1]
      exact ok_lz (ih _ rfl)
theorem m_rowT {S : wd_W} {L : Ld} {p1 : Int32} (hL : lOk L) (h : mL S L) (hla : mLaid S L) : Ok (f_X12_row S p1) (fun o => o.1 = rowA L p1 ∧ lai L o.2.2.2.1 o.2.2.2.2.2.2.2) := by
  by_cases hp : p1 < 0
  · refine ok_mono (m_rowN hL h hla hp) (fun o ho => ⟨?_, ho.2⟩)
    rw [ho.1]
    unfold rowA
    have : inB 0 (l_n L) p1 = false := decide_eq_false (by rw [pI_lt0] at hp; omega)
    rw [this]; rfl
  · obtain ⟨k, hk, rfl⟩ := pI_of hp
    refine ok_mono (m_row hL h hla rfl hk) (fun o ho => ⟨?_, ho.2⟩)
    rw [ho.1]
    unfold rowA
    rw [inB_n hk, nI_clamp hk]
    by_cases c : k ≤ l_n L
    · rw [decide_eq_true (by omega), if_pos rfl]
    · rw [decide_eq_false (by omega), rowN_0 (by omega)]; rfl
/-- joined: what the reference answers -/
def joM (L : Ld) (a b : Nat) (v : Int32) : Prop := ∃ k y n, jS a b (l_N L) k (jL (l_A L) (l_B L) (l_n L)) y ∧ jN a b (l_N L) y ∧ v = nI n ∧ jT y (l_N L) = 2 * n
theorem m_joinedT {S : wd_W} {L : Ld} {p1 p2 : Int32} (hL : lOk L) (h : mL S L) : Ok (f_X12_joined S p1 p2) (fun o => if prB (l_N L) p1 p2 = true then joM L p1.toNatClampNeg p2.toNatClampNeg o.1 else o.1 = -1) := by
  have g2 := hL.1.2.1
  cases z : prB (l_N L) p1 p2 with
  | false =>
    unfold f_X12_joined
    rw [bd_s (m_areEndsB (S := wd_o S [(67, (S.1 67))] [] [(37, (S.2.2.1 37)), (38, (S.2.2.1 38))] [] []) (N := l_N L) (p1 := p1) (p2 := p2) h.1.1 (by omega)), z]
    exact ok_some rfl
  | true =>
    obtain ⟨a, b, rfl, rfl, ha, hb, hab⟩ := prB_t z
    refine ok_mono (m_joined hL h ha hb hab) (fun o ho => ?_)
    rw [if_pos rfl, nI_clamp (by omega), nI_clamp (by omega)]
    exact ho
