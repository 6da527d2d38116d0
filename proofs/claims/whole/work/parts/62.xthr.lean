/-! the developers' two ways, and whether it is through -/
theorem x_without_q111 {S : wd_W} {L : Ld} {op a b : Nat} (hL : lOr L) (h : xR S 111 L) (ha : a < l_N L) (hb : b < l_N L) (hop : op < 2 ^ l_n L) :
    Ok (f_X7_leadsWithoutAny_q111 S (nI a) (nI b) (nI op)) (fun o => ∃ x : Bool, o = nI (b2n x) ∧ (x = true ↔ noCut (l_A L) (l_B L) (l_O L) op a b)) := by
  have hL0 := hL
  obtain ⟨⟨g1, g2, g3⟩, gk, w1, w2, w3, w4⟩ := hL
  simp only [xR, Nat.reduceMul, Nat.reduceAdd] at h
  obtain ⟨⟨h0, h1, h2, h3⟩, hk⟩ := h
  have hop2 := lt31_10 hop (by omega)
  unfold f_X7_leadsWithoutAny_q111
  refine ok_for0 (W := fun n i (_ : Unit) => it1 (f_X7_leadsWithoutAny_q111_L3 S (nI a) (nI b) (nI op)) n (nI i)) (I := fun i _ => ∀ j, j < i → op.testBit j = true → rch (l_E L (op ^^^ 2 ^ j)) a b) (e := l_n L) (s := ()) (by omega) (fun j hj => by omega) ?_ ?_
  · intro n _ hI
    show Ok (f_X7_leadsWithoutAny_q111_L3 S _ _ _ _ (nI (l_n L))) _
    unfold f_X7_leadsWithoutAny_q111_L3
    rw [h0, if_pos (nI_le (Nat.le_refl _) (by omega))]
    refine ok_some ⟨true, rfl, ?_⟩
    simp only [true_iff]
    intro i hi
    exact hI i (tb_in hop hi) hi
  · intro n i _ hi hI ih
    show Ok (f_X7_leadsWithoutAny_q111_L3 S _ _ _ (it1 _ n) (nI i)) _
    generalize it1 (f_X7_leadsWithoutAny_q111_L3 S (nI a) (nI b) (nI op)) n = r at ih
    unfold f_X7_leadsWithoutAny_q111_L3
    rw [h0, if_neg (nI_ge hi (by omega))]
    refine ok_lk ?_
    rw [oI_pow (by omega), oI_xor, nI_1]
    simp (disch := omega) only [oI_bit0]
    refine ok_if0 (fun c => ?_) (fun c => ?_)
    · refine ih () (fun j hj ho => ?_)
      by_cases e : j = i
      · subst e; rw [c] at ho; cases ho
      · exact hI j (by omega) ho
    · have hx : op ^^^ 2 ^ i < 2 ^ l_n L := Nat.xor_lt_two_pow hop (Nat.pow_lt_pow_right (by decide) hi)
      have hr := rchM_ok (g := ouM L) (t := tM L) hx (fun k hk' => (tM_lt hL0 (tb_in hx hk')).1) ha
      rw [bd_s (x_reached_q111_q113 (S := wd_o S [] [] [] [] []) (g := ouM L) (t := tM L) h0 h3 g2 g3 ha hx (fun k hk' => ⟨(hk k hk').2.1, (tM_lt hL0 hk').2.1, (hk k hk').1, (tM_lt hL0 hk').1⟩))]
      have hb2 := lt_1024 hr.1 g2
      have hiff := hr.2 b
      rw [rch_out] at hiff
      generalize rchM (ouM L) (tM L) (op ^^^ 2 ^ i) (l_n L) (l_N L) a = m at hb2 hiff
      simp (disch := omega) only [oI_bit0]
      refine ok_if0 (fun d => ok_some ⟨false, rfl, ?_⟩) (fun d => ?_)
      · constructor
        · intro z; cases z
        · intro z
          have := hiff.mpr (z i c)
          rw [d] at this; cases this
      · refine ih () (fun j hj ho => ?_)
        by_cases e : j = i
        · subst e; exact hiff.mp d
        · exact hI j (by omega) ho
theorem x_carries_q111 {S : wd_W} {L : Ld} {op : Nat} (hL : lOr L) (hl : xL S 16 L) (h : xR S 111 L) (hop : op < 2 ^ l_n L) :
    Ok (f_X7_carries_q111 S (nI op)) (fun o => ∃ x : Bool, o.1 = nI (b2n x) ∧ (x = true ↔ car L op)) := by
  have hL0 := hL
  have hl0 := hl
  have hR := h
  obtain ⟨⟨g1, g2, g3⟩, gk, w1, w2, w3, w4⟩ := hL
  simp only [xL, Nat.reduceMul, Nat.reduceAdd] at hl
  obtain ⟨⟨l0, l1, l7, l10, l14, l15, l16, l17⟩, hlk, _, _⟩ := hl
  simp only [xR, Nat.reduceMul, Nat.reduceAdd] at h
  obtain ⟨⟨h0, h1, h2, h3⟩, hk⟩ := h
  have hk1 : ∀ k, k < l_n L → S.2.2.1 113 k = nI (ouM L k) ∧ ouM L k < 2 ^ l_N L ∧ S.2.2.1 112 k = nI (tM L k) ∧ tM L k < 2 ^ l_N L := fun k hk' => ⟨(hk k hk').2.1, (tM_lt hL0 hk').2.1, (hk k hk').1, (tM_lt hL0 hk').1⟩
  have hk2 : ∀ k, k < l_n L → S.2.2.1 114 k = nI (inM L k) ∧ inM L k < 2 ^ l_N L ∧ S.2.2.1 112 k = nI (tM L k) ∧ tM L k < 2 ^ l_N L := fun k hk' => ⟨(hk k hk').2.2, (tM_lt hL0 hk').2.2, (hk k hk').1, (tM_lt hL0 hk').1⟩
  have hr := fun {a : Nat} (ha : a < l_N L) => rchM_ok (g := ouM L) (t := tM L) hop (fun k hk' => (tM_lt hL0 (tb_in hop hk')).1) ha
  have hri := fun {a : Nat} (ha : a < l_N L) => rchM_ok (g := inM L) (t := tM L) hop (fun k hk' => (tM_lt hL0 (tb_in hop hk')).1) ha
  have h2N := Nat.two_pow_pos (l_N L)
  have h2N2 : 2 ^ l_N L ≤ 2 ^ 10 := pow_le_k g2
  unfold f_X7_carries_q111
  refine ok_lz (ok_lz ?_)
  rw [l14, l16, l17]
  simp (disch := omega) only [li_0, li_1, li_2, li_3, nI_eq]
  refine ok_ite (fun c0 => ?_) (fun c0 => ?_)
  · obtain ⟨e1, e2⟩ := x_leads_q111 (S := wd_o S [] [] [(115, (S.2.2.1 115))] [] []) hL0 hR w3 w4 hop
    rw [bd_s e1]
    generalize (rchM (ouM L) (tM L) op (l_n L) (l_N L) (l_a L)).testBit (l_b L) = x at e2
    refine ok_gd (by cases x <;> rfl) (ok_some ⟨x, rfl, ?_⟩)
    rw [e2]
    unfold car
    constructor
    · intro q; exact Or.inl ⟨c0, q⟩
    · intro q; rcases q with q | q | q | q | q <;> first | exact q.2 | omega
  refine ok_ite (fun c1 => ?_) (fun c1 => ?_)
  · rw [bd_s (x_reached_q111_q113 (S := wd_o S [] [] [(115, (S.2.2.1 115))] [] []) (g := ouM L) (t := tM L) (a := 0) h0 h3 g2 g3 (by omega) hop hk1), h1]
    have q1 := hr (a := 0) (by omega)
    have q2 := hri (a := 0) (by omega)
    have b1 := lt_1024 q1.1 g2
    have b2 := lt_1024 q2.1 g2
    have hcar : car L op ↔ rchM (ouM L) (tM L) op (l_n L) (l_N L) 0 = 2 ^ l_N L - 1 ∧ rchM (inM L) (tM L) op (l_n L) (l_N L) 0 = 2 ^ l_N L - 1 := by
      rw [eq_all q1.1, eq_all q2.1]
      unfold car
      constructor
      · intro q
        rcases q with q | q | q | q | q <;> first | omega | skip
        exact ⟨fun p hp => (q1.2 p).mpr ((rch_out L op 0 p).mpr (q.2 p hp).1), fun p hp => (q2.2 p).mpr ((rch_in L op 0 p).mpr (q.2 p hp).2)⟩
      · rintro ⟨z1, z2⟩
        exact Or.inr (Or.inl ⟨c1, fun p hp => ⟨(rch_out L op 0 p).mp ((q1.2 p).mp (z1 p hp)), (rch_in L op 0 p).mp ((q2.2 p).mp (z2 p hp))⟩⟩)
    rw [hcar]
    simp (disch := omega) only [nI_eq]
    refine ok_ite (fun d => ?_) (fun d => ok_some ⟨false, rfl, by simp [d]⟩)
    rw [bd_s (x_reached_q111_q114 (S := wd_o S [] [] [(115, (S.2.2.1 115))] [] []) (g := inM L) (t := tM L) (a := 0) h0 h3 g2 g3 (by omega) hop hk2)]
    simp (disch := omega) only [nI_eq]
    exact ok_ite (fun d2 => ok_some ⟨true, rfl, by simp [d, d2]⟩) (fun d2 => ok_some ⟨false, rfl, by simp [d2]⟩)
  refine ok_ite (fun c2 => ?_) (fun c2 => ?_)
  · rw [bd_s (x_reached_q111_q113 (S := wd_o S [] [] [(115, (S.2.2.1 115))] [] []) (g := ouM L) (t := tM L) h0 h3 g2 g3 w3 hop hk1)]
    have q1 := hr w3
    have hm4 : rchM (ouM L) (tM L) op (l_n L) (l_N L) (l_a L) < 4096 := Nat.lt_of_lt_of_le q1.1 (pow_le_k (n := 12) (by omega))
    rw [bd_s (x_bitCount hm4), l15]
    have hc := cnt_le (rchM (ouM L) (tM L) op (l_n L) (l_N L) (l_a L)) 12
    simp (disch := omega) only [nI_ltI]
    rw [cnt_ext q1.1 12 (by omega)]
    have hcar : car L op ↔ l_m L ≤ cnt (rchM (ouM L) (tM L) op (l_n L) (l_N L) (l_a L)) (l_N L) := by
      unfold car
      constructor
      · intro q
        rcases q with q | q | q | q | q <;> first | omega | skip
        obtain ⟨_, m', hm', hp', hc'⟩ := q
        have : rchM (ouM L) (tM L) op (l_n L) (l_N L) (l_a L) = m' := by
          apply msk_ext q1.1 hm'
          intro i _
          rw [Bool.eq_iff_iff, q1.2 i, rch_out, hp' i]
        rw [this]; exact hc'
      · intro q
        exact Or.inr (Or.inr (Or.inl ⟨c2, _, q1.1, fun p => by rw [q1.2 p, rch_out], q⟩))
    rw [hcar]
    exact ok_ite (fun d => ok_some ⟨false, rfl, by simp; omega⟩) (fun d => ok_some ⟨true, rfl, by simp; omega⟩)
  refine ok_ite (fun c3 => ?_) (fun c3 => ?_)
  · rw [bd_s (x_days_q111 (S := wd_o S [] [] [(115, (S.2.2.1 115))] [] []) hL0 hl0 hR w3 w4 hop), l15]
    have hdG := l_dG hL0 hop
    have hen := dP_enough (bo := l_O L) hdG hop w3 (far0_sup (l_A L) (l_B L) (l_O L) (l_D L) op (l_a L)) (far0_le (l_a L))
    have hD : isD L op (l_a L) (repF (dP (l_A L) (l_B L) (l_O L) (l_D L) op (l_n L)) (far0 (l_a L)) (l_N L - 1)) := ⟨l_N L - 1, by rw [dP_K13 hop (by omega)], by rw [dP_K13 hop (by omega)]; exact hen⟩
    have hb := isD_le hD (l_b L)
    generalize repF (dP (l_A L) (l_B L) (l_O L) (l_D L) op (l_n L)) (far0 (l_a L)) (l_N L - 1) = D at hD hb
    have hcar : car L op ↔ D (l_b L) ≤ l_m L := by
      unfold car
      constructor
      · intro q
        rcases q with q | q | q | q | q <;> first | omega | skip
        obtain ⟨_, D', d1, d2⟩ := q
        rw [isD_one hD d1]; exact d2
      · intro q
        exact Or.inr (Or.inr (Or.inr (Or.inl ⟨c3, D, hD, q⟩)))
    rw [hcar]
    simp (disch := omega) only [nI_ltI]
    exact ok_ite (fun d => ok_some ⟨false, rfl, by simp; omega⟩) (fun d => ok_some ⟨true, rfl, by simp; omega⟩)
  · obtain ⟨e1, e2⟩ := x_leads_q111 (S := wd_o S [] [] [(115, (S.2.2.1 115))] [] []) hL0 hR w3 w4 hop
    rw [bd_s e1]
    generalize (rchM (ouM L) (tM L) op (l_n L) (l_N L) (l_a L)).testBit (l_b L) = x at e2
    have hcar : car L op ↔ rch (l_E L op) (l_a L) (l_b L) ∧ noCut (l_A L) (l_B L) (l_O L) op (l_a L) (l_b L) := by
      unfold car
      constructor
      · intro q; rcases q with q | q | q | q | q <;> first | exact q.2 | omega
      · intro q; exact Or.inr (Or.inr (Or.inr (Or.inr ⟨by omega, q⟩)))
    rw [hcar, ← e2]
    cases x with
    | false => exact ok_ite (fun _ => ok_some ⟨false, rfl, by simp⟩) (fun h => absurd rfl h)
    | true =>
      refine ok_ite (fun h => absurd h (by decide)) (fun _ => ?_)
      refine ok_bd (x_without_q111 (S := wd_o S [] [] [(115, (S.2.2.1 115))] [] []) hL0 hR w3 w4 hop) ?_
      rintro _ ⟨y, rfl, hy⟩
      rw [← hy]
      cases y with
      | false => exact ok_ite (fun _ => ok_some ⟨false, rfl, by simp⟩) (fun h => absurd rfl h)
      | true => exact ok_ite (fun h => absurd h (by decide)) (fun _ => ok_some ⟨true, rfl, by simp⟩)
