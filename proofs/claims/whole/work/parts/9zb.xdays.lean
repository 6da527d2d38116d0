/-! the days, joined, a new line -/
theorem ok_lk0 {ρ : Type} {B : Option ρ} {R : Option ρ → Option ρ} {Q : ρ → Prop} (hB : Ok B Q) (hR : ∀ K, Ok K Q → Ok (R K) Q) : Ok (lk B R) Q := hR B hB
theorem x_kd {S : wd_W} {L : Ld} {T : Nt} {a b : Nat} (h : XI S L T) (ha : a < l_N L) (hb : b < l_N L) : Ok (f_X11_knownDays S (nI a) (nI b)) (fun o => xE S L T o.1 o.2.1 o.2.2 ∧ (o.2.1 ≤ 11 ∧ o.2.2 ≤ 120675) ∧ xDy o.1 L a b) := by
  have hL := h.1.1.1
  have g2 := hL.1.2.1
  unfold f_X11_knownDays
  refine ok_bd (x_know (S := wd_o S [] [] [] [] []) (q := 1) h (by omega) (by decide) (fun z => absurd z (by decide))) ?_
  rintro ⟨S1, nc, ns⟩ hI
  obtain ⟨hC, ⟨k, hk, h7, hn, hm⟩, hf, h4, h5, h6⟩ := hI
  have hI : xKI S L T (kW 1) 11 120675 S1 nc ns := ⟨hC, ⟨k, hk, h7, hn, hm⟩, hf, h4, h5, h6⟩
  have hs : xS S1 L := hn 0 (by omega) (hm 0 rfl)
  dsimp only at h4 h5 h7 ⊢
  rw [gd_t (okr_in (by omega) (by omega)), bd_s (x_isNew (S := wd_o S1 [(7, (S1.1 7))] [] [] [] []) (p := (256 : Int32)) (k := k) (b := 8) h7 hk (by omega) rfl)]
  refine ok_lk1 (fun S4 => xE S L T S4 nc ns ∧ xDy S4 L a b) (fun K hK => ?_) (fun S4 hI4 => ok_some ⟨xE_0 hI4.1, by dsimp only; omega, hI4.2⟩)
  refine ok_lk0 ?_ (fun K2 hK2 => ?_)
  · refine ok_lz ?_
    rw [gd_t (okr_in (by omega) (by omega))]
    refine ok_bd (x_travel hL ?_ ?_ ?_ ha hb) ?_
    · exact hC.2.1
    · exact hs
    · exact hC.2.2.2.2.1
    · rintro ⟨o1, o2, o3, o4⟩ ⟨w1, w2, w3⟩
      dsimp only at w1 w2 w3 ⊢
      subst w1; subst w2
      refine hK _ ⟨xKI_E (xKI_set (b := 8) (m' := kW 1) hI hk hn hm (by omega) (fun c hc => Or.inl hc) (xFr_trans (xFr_o rfl rfl) (xFr_o rfl rfl)) hC.2.2.2.2 rfl ⟨a, b, ha, hb, rfl, rfl, w3⟩ (fun c hc hc0 hp => ?_) h4 h5 (Nat.le_refl _)), w3⟩
      match c, hc, hc0, hp with
      | 0, _, _, hp => exact hp
      | 1, _, _, hp => exact hp
      | 2, _, _, hp => exact hp
      | 3, _, _, hp => exact hp
      | 4, _, _, hp => exact hp
      | 5, _, _, hp => exact hp
      | 6, _, _, hp => exact hp
      | 7, _, _, hp => exact hp
      | 8, _, hc0, _ => exact absurd rfl hc0
      | n + 9, hc, _, _ => exact absurd hc (by omega)
  · refine ok_b (fun z => ?_) (fun z => hK2)
    have z : k.testBit 8 = true := by
      cases w : k.testBit 8 with
      | true => rfl
      | false => rw [w] at z; cases z
    obtain ⟨a', b', ha', hb', d1, d2, d3⟩ := hn 8 (by omega) z
    rw [gd_t (okr_in (by omega) (by omega)), or_same z]
    have e : wd_o S1 [(7, nI k)] [] [] [] [] = S1 := wd7 h7
    rw [e]
    unfold f_X5_isFor_q137
    rw [d1, d2]
    refine ok_bd (P := fun o => o = 0 ∨ (a' = a ∧ b' = b)) ?_ ?_
    · refine ok_ite (fun c1 => ok_ite (fun c2 => ok_some (Or.inr ⟨(nI_eq (by omega) (by omega)).mp c1, (nI_eq (by omega) (by omega)).mp c2⟩)) (fun _ => ok_some (Or.inl rfl))) (fun _ => ok_some (Or.inl rfl))
    · intro o ho
      refine ok_ite (fun _ => hK2) (fun c => ?_)
      rcases ho with ho | ⟨rfl, rfl⟩
      · exact absurd ho c
      · exact hK _ ⟨xKI_E hI, d3⟩
theorem x_within {S : wd_W} {L : Ld} {T : Nt} {p1 p2 p3 : Int32} (h : XI S L T) : Ok (f_X11_within S p1 p2 p3) (fun o => o.1 = witA L p1 p2 p3 ∧ xE S L T o.2.1 o.2.2.1 o.2.2.2) := by
  have hL := h.1.1.1
  have g2 := hL.1.2.1
  unfold f_X11_within witA
  rw [bd_s (x_isPair (S := wd_o S [] [] [] [] []) (N := l_N L) (p1 := p1) (p2 := p2) h.1.2.1.1.1 (by omega))]
  refine ok_b (fun z => ?_) (fun z => ?_)
  · rw [z]; exact ok_some ⟨rfl, xE_refl h⟩
  obtain ⟨a, b, rfl, rfl, ha, hb, hab⟩ := prB_t z
  have e16 : inB 0 ((99 : Nat) : Int) p3 = inB 0 99 p3 := rfl
  rw [z, Bool.true_and, tst_le (q := (99 : Int32)) (k := 99) rfl (by omega), e16]
  cases hin : inB 0 99 p3 with
  | false => exact ok_some ⟨rfl, xE_refl h⟩
  | true =>
    obtain ⟨p, hp, rfl, n1, n2⟩ := inB_t (by omega) hin
    rw [if_pos rfl, if_pos rfl, nI_clamp hp, nI_clamp (by omega), nI_clamp (by omega)]
    refine ok_bd (x_kd (S := wd_o S [] [] [] [] []) h ha hb) ?_
    rintro ⟨S', nc, ns⟩ ⟨e, ⟨e1, e2⟩, hd⟩
    dsimp only at e e1 e2 hd ⊢
    rw [gd_t (okr_in (by omega) (by omega)), bd_s (x_cameWithin (S := wd_o S' [] [] [] [] []) (n := p) hd (by omega))]
    exact ok_some ⟨rfl, xE_0 e⟩
theorem x_soon {S : wd_W} {L : Ld} {T : Nt} {p1 p2 p3 : Int32} (h : XI S L T) : Ok (f_X11_soon S p1 p2 p3) (fun o => o.1 = soA L p1 p2 p3 ∧ xE S L T o.2.1 o.2.2.1 o.2.2.2) := by
  have hL := h.1.1.1
  have hM := lM_15 hL
  have g2 := hL.1.2.1
  unfold f_X11_soon soA
  rw [bd_s (x_isPair (S := wd_o S [] [] [] [] []) (N := l_N L) (p1 := p1) (p2 := p2) h.1.2.1.1.1 (by omega))]
  refine ok_b (fun z => ?_) (fun z => ?_)
  · rw [z]; exact ok_some ⟨rfl, xE_refl h⟩
  obtain ⟨a, b, rfl, rfl, ha, hb, hab⟩ := prB_t z
  have e16 : inB 0 ((16 : Nat) : Int) p3 = inB 0 16 p3 := rfl
  rw [z, Bool.true_and, tst_le (q := (16 : Int32)) (k := 16) rfl (by omega), e16]
  cases hin : inB 0 16 p3 with
  | false => exact ok_some ⟨rfl, xE_refl h⟩
  | true =>
    obtain ⟨p, hp, rfl, n1, n2⟩ := inB_t (by omega) hin
    rw [if_pos rfl, if_pos rfl, nI_clamp hp, nI_clamp (by omega), nI_clamp (by omega)]
    refine ok_bd (x_kd (S := wd_o S [] [] [] [] []) h ha hb) ?_
    rintro ⟨S', nc, ns⟩ ⟨e, ⟨e1, e2⟩, hd⟩
    dsimp only at e e1 e2 hd ⊢
    rw [li_1]
    refine ok_up (W := fun m i (_ : Unit) => it1 (f_X11_soon_L32 (nI p) (S', nc, ns)) m (nI i)) (I := fun i _ => fstD (fun d => atL (l_M L) (wiD L a b d) p) 99 1 = fstD (fun d => atL (l_M L) (wiD L a b d) p) (100 - i) i) (e := 100) ?_ ?_ fuel 1 () (by omega) rfl (by unfold fuel; omega)
    · intro m _ hI
      show Ok (f_X11_soon_L32 (nI p) (S', nc, ns) _ (nI 100)) _
      unfold f_X11_soon_L32
      rw [if_pos (show (99 : Int32) < nI 100 by decide)]
      exact ok_some ⟨by rw [hI]; rfl, xE_0 e⟩
    · intro m i _ hi hI ih
      show Ok (f_X11_soon_L32 (nI p) (S', nc, ns) (it1 _ m) (nI i)) _
      generalize it1 (f_X11_soon_L32 (nI p) (S', nc, ns)) m = r at ih
      have hst : fstD (fun d => atL (l_M L) (wiD L a b d) p) (100 - i) i = if atL (l_M L) (wiD L a b i) p = true then nI i else fstD (fun d => atL (l_M L) (wiD L a b d) p) (100 - (i + 1)) (i + 1) := by
        rw [show 100 - i = (100 - (i + 1)) + 1 by omega]; rfl
      rw [hst] at hI
      unfold f_X11_soon_L32
      dsimp only
      rw [if_neg (by rw [li_99, pI_ltN (by omega), nI_toInt (by omega)]; omega), gd_t (okr_in (by omega) (by omega)), bd_s (x_cameWithin (S := wd_o S' [] [] [] [] []) (n := i) hd (by omega)), gd_t (okr_in (by omega) (by omega)), bd_s (x_things (S := wd_o S' [] [] [] [] []) e.1.1.2.1), gd_t (okr_in (by omega) (by omega)), bd_s (x_isSixteenths hM (wiD_le hL a b i) (by omega)), nI_1]
      refine ok_b (fun w => ih () ?_) (fun w => ok_some ⟨?_, xE_0 e⟩)
      · rw [hI, w]; rfl
      · rw [hI, w]; rfl
theorem x_mean {S : wd_W} {L : Ld} {T : Nt} {p1 p2 p3 : Int32} (h : XI S L T) : Ok (f_X11_mean S p1 p2 p3) (fun o => o.1 = meA L p1 p2 p3 ∧ xE S L T o.2.1 o.2.2.1 o.2.2.2) := by
  have hL := h.1.1.1
  have g2 := hL.1.2.1
  unfold f_X11_mean meA
  rw [bd_s (x_isPair (S := wd_o S [] [] [] [] []) (N := l_N L) (p1 := p1) (p2 := p2) h.1.2.1.1.1 (by omega))]
  refine ok_b (fun z => ?_) (fun z => ?_)
  · rw [z]; exact ok_some ⟨rfl, xE_refl h⟩
  obtain ⟨a, b, rfl, rfl, ha, hb, hab⟩ := prB_t z
  have e16 : inB 0 ((1 : Nat) : Int) p3 = inB 0 1 p3 := rfl
  rw [z, Bool.true_and, tst_le (q := (1 : Int32)) (k := 1) rfl (by omega), e16]
  cases hin : inB 0 1 p3 with
  | false => exact ok_some ⟨rfl, xE_refl h⟩
  | true =>
    rw [if_pos rfl, if_pos rfl, nI_clamp (by omega), nI_clamp (by omega)]
    refine ok_bd (x_kd (S := wd_o S [] [] [] [] []) h ha hb) ?_
    rintro ⟨S', nc, ns⟩ ⟨e, ⟨e1, e2⟩, hd⟩
    dsimp only at e e1 e2 hd ⊢
    refine ok_ite (fun c => ?_) (fun c => ?_)
    · rw [if_pos c, gd_t (okr_in (by omega) (by omega)), bd_s (x_daysTogether (S := wd_o S' [] [] [] [] []) (L := L) (a := a) (b := b) hd)]
      exact ok_some ⟨rfl, xE_0 e⟩
    · rw [if_neg c, gd_t (okr_in (by omega) (by omega)), li_99, bd_s (x_cameWithin (S := wd_o S' [] [] [] [] []) (n := 99) hd (by omega)), wiD_99 hL ha hab]
      exact ok_some ⟨rfl, xE_0 e⟩
def joX (L : Ld) (a b : Nat) (v : Int32) : Prop := ∃ k y, jG (l_N L) y ∧ jS a b (l_N L) k (jL (l_A L) (l_B L) (l_n L)) y ∧ jN a b (l_N L) y ∧ v = nI (jT y (l_N L) / 2)
theorem x_joinedT {S : wd_W} {L : Ld} {T : Nt} {p1 p2 : Int32} (h : XI S L T) : Ok (f_X11_joined S p1 p2) (fun o => (if prB (l_N L) p1 p2 = true then joX L p1.toNatClampNeg p2.toNatClampNeg o.1 else o.1 = -1) ∧ xE S L T o.2.1 o.2.2.1 o.2.2.2) := by
  have hL := h.1.1.1
  have g2 := hL.1.2.1
  unfold f_X11_joined
  rw [bd_s (x_isPair (S := wd_o S [] [] [] [] []) (N := l_N L) (p1 := p1) (p2 := p2) h.1.2.1.1.1 (by omega))]
  refine ok_b (fun z => ?_) (fun z => ?_)
  · rw [z]; exact ok_some ⟨rfl, xE_refl h⟩
  obtain ⟨a, b, rfl, rfl, ha, hb, hab⟩ := prB_t z
  refine ok_bd (x_ks (S := wd_o S [] [] [] [] []) h) ?_
  rintro ⟨S', nc, ns⟩ ⟨e, ⟨e1, e2⟩, hs, hN, hl⟩
  dsimp only at e e1 e2 hs hN hl ⊢
  rw [gd_t (okr_in (by omega) (by omega))]
  refine ok_bd (x_joined (S := wd_o S' [] [] [(116, (S'.2.2.1 116))] [] []) (lOk_r hL) hl hs.1 ha hb) ?_
  rintro ⟨o1, o2⟩ ho
  refine ok_some ⟨by rw [if_pos z, nI_clamp (by omega), nI_clamp (by omega)]; exact ho, xE_over (xE_0 e) (xFr_o rfl rfl) rfl e.1.1.2.2.2.2 rfl (fun c hc hp => ?_)⟩
  match c, hp with
  | 0, hp => exact hp
  | 1, hp => exact hp
  | 2, hp => exact hp
  | 3, hp => exact hp
  | 4, hp => exact hp
  | 5, hp => exact hp
  | 6, hp => exact hp
  | 7, hp => exact hp
  | _ + 8, hp => exact hp
