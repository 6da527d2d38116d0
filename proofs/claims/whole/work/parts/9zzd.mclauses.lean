/-! the reference's clauses: keeper, cause, through -/
theorem m_rkeep {S : wd_W} {n p q d : Nat} {t : Nat → Nat} {L : Ld} (ht : MTa S n t) (hp : p ≤ n) (h : S.1 17 = nI p) (h18 : S.1 18 = nI 0) (hL : lOk L) (hm : mRd S L d) :
    Ok (f_X12_keeper S (nI q)) (fun o => match pKeep t n L q p with
      | .ok x => o.1 = nI 1 ∧ o.2.2.1 = nI x.1 ∧ o.2.2.2.1 = nI 0 ∧ mRd (wd_o S [(6, o.2.1)] [] [(3, o.2.2.2.2.2.1), (4, o.2.2.2.2.2.2)] [] []) x.2 d
      | .error f => mBad t n p f o.1 o.2.2.1 o.2.2.2.1) := by
  obtain ⟨c1, c2, c3, c4, c5⟩ := lOk_cnt hL
  have h4 := ht.2.1
  have g6 : S.1 6 = nI (l_k L) := hm.1.2.1
  have g11 : S.1 11 = nI (l_N L) := hm.1.2.2.2.1
  have hq := wB_le (t := t) hp
  unfold f_X12_keeper
  generalize hP : pKeep t n L q p = P
  unfold pKeep at hP
  rw [bd_s (m_things (S := wd_o S [(6, (S.1 6)), (17, (S.1 17)), (18, (S.1 18)), (19, (S.1 19))] [] [(3, (S.2.2.1 3)), (4, (S.2.2.1 4))] [] []) (L := L) hm.1.1 g6 hm.1.2.2.1), li_15]
  refine ok_ite (fun c => ?_) (fun c => ?_)
  · rw [nI_eq (by omega) (by omega)] at c
    rw [if_pos c] at hP
    rw [bd_s (m_fails (S := wd_o S [(6, (S.1 6)), (17, (S.1 17)), (18, (S.1 18)), (19, (S.1 19))] [] [(3, (S.2.2.1 3)), (4, (S.2.2.1 4))] [] []) (q := q) (k := 3) (p1 := (3 : Int32)) rfl h18)]
    dsimp only
    rw [gd_t okz_0, ← hP]
    exact ok_some (Or.inl ⟨rfl, rfl⟩)
  · rw [nI_eq (by omega) (by omega)] at c
    rw [if_neg c] at hP
    rw [bd_s (m_see (S := wd_o S [(6, (S.1 6)), (17, (S.1 17)), (18, (S.1 18)), (19, (S.1 19))] [] [(3, (S.2.2.1 3)), (4, (S.2.2.1 4))] [] []) ht h hp)]
    dsimp only
    refine ok_bd (m_rplace (S := wd_o S [(6, (S.1 6)), (17, nI (wB t n p)), (18, (S.1 18)), (19, (S.1 19))] [] [(3, (S.2.2.1 3)), (4, (S.2.2.1 4))] [] []) ht rfl hq h18 g11 (by omega)) ?_
    rintro o ho
    rw [pNum_wB] at ho
    cases hA : pNum t n p 0 (l_N L) with
    | error f =>
      rw [hA] at ho hP
      rw [pb_er] at hP
      have ho1 : o.1 = nI 0 := ho.1
      rw [ho1, ite_0, ← hP]
      exact ok_some (Or.inl ⟨rfl, ho.2⟩)
    | ok y =>
    obtain ⟨e, a⟩ := y
    rw [hA] at ho hP
    rw [pb_ok] at hP
    have ho : o = (nI 1, nI e, nI 0, nI a) := ho
    subst ho
    have kA := pNum_inv hA
    have en : e ≤ n := by rw [kA.1]; exact nE_le hp
    dsimp only
    rw [ite_1]
    refine ok_lkP (ktB L a = false) (fun K1 hK1 => ?_) (fun z => ?_)
    · refine ok_lkP (ktB L a = true) (fun K2 hK2 => ?_) (fun z => ?_)
      · rw [li_0]
        refine ok_for0 (W := fun m i (_ : Unit) => it1 (f_X12_keeper_L37 S (nI 1, nI e, nI 0, nI a) K1 K2) m (nI i)) (I := fun i _ => ∀ j, j < i → l_P L j ≠ a) (e := l_k L) (s := ()) (by omega) (fun j hj => absurd hj (Nat.not_lt_zero j)) ?_ ?_
        · intro m _ hI
          show Ok (f_X12_keeper_L37 S (nI 1, nI e, nI 0, nI a) K1 K2 _ (nI (l_k L))) _
          unfold f_X12_keeper_L37
          rw [g6, if_pos (nI_le (Nat.le_refl _) (by omega))]
          refine hK1 ?_
          cases w : ktB L a with
          | false => rfl
          | true =>
            obtain ⟨j, hj, ej⟩ := ktB_iff.mp w
            exact absurd ej (hI j hj)
        · intro m i _ hi hI ih
          show Ok (f_X12_keeper_L37 S (nI 1, nI e, nI 0, nI a) K1 K2 (it1 _ m) (nI i)) _
          generalize it1 (f_X12_keeper_L37 S (nI 1, nI e, nI 0, nI a) K1 K2) m = r at ih
          have hPi := (hL.2.2.1 i hi).1
          unfold f_X12_keeper_L37
          rw [g6, if_neg (nI_ge hi (by omega)), gd_in (by omega) (by omega), nI_clamp (by omega), (hm.2.2.1 i hi).1, nI_1]
          refine ok_ite (fun w => hK2 ?_) (fun w => ih () (fun j hj => ?_))
          · rw [nI_eq (by omega) (by omega)] at w
            exact ktB_iff.mpr ⟨i, hi, w⟩
          · rw [nI_eq (by omega) (by omega)] at w
            by_cases ej : j = i
            · subst ej; exact w
            · exact hI j (by omega)
      · rw [if_pos z] at hP
        rw [bd_s (m_fails (S := wd_o S [(6, (S.1 6)), (17, nI e), (18, nI 0), (19, nI a)] [] [(3, (S.2.2.1 3)), (4, (S.2.2.1 4))] [] []) (q := wB t n p) (k := 2) (p1 := (2 : Int32)) rfl rfl)]
        dsimp only
        rw [gd_t okz_0, ← hP]
        exact ok_some (Or.inl ⟨rfl, rfl⟩)
    · have hroom := kept_room hL (by omega) z
      rw [if_neg (by rw [z]; decide)] at hP
      rw [g6, gd_in (by omega) (by omega), lz_eq, nI_clamp (by omega)]
      refine ok_bd (m_number (S := wd_o S [(6, nI (l_k L)), (17, nI e), (18, nI 0), (19, nI a)] [] [(3, upd (S.2.2.1 3) (l_k L) (nI a)), (4, (S.2.2.1 4))] [] []) ht rfl en rfl (lo := 0) rfl (by omega) (le_lit (N := 16) (by omega) rfl)) ?_
      rintro o ho
      cases hC : pNum t n e 0 17 with
      | error f =>
        rw [hC] at ho hP
        rw [pb_er] at hP
        have ho1 : o.1 = nI 0 := ho.1
        rw [ho1, ite_0, ← hP]
        exact ok_some (Or.inl ⟨rfl, ho.2⟩)
      | ok y =>
      obtain ⟨e2, c'⟩ := y
      rw [hC] at ho hP
      rw [pb_ok] at hP
      have ho : o = (nI 1, nI e2, nI 0, nI c') := ho
      subst ho
      dsimp only
      rw [ite_1, gd_in (by omega) (by omega), lz_eq, nI_1, lz_eq, ← hP]
      refine ok_some ⟨rfl, rfl, rfl, ?_⟩
      obtain ⟨⟨m1, m2, m3, m4, m5, m6, m7, m8, m9⟩, mk, mj, mc⟩ := hm
      refine ⟨⟨m1, rfl, m3, m4, m5, m6, m7, m8, m9⟩, mk, fun k hk => ?_, mc⟩
      have hk : k < l_k L + 1 := hk
      show upd (S.2.2.1 3) (l_k L) (nI a) k = nI (upN (L 8) (l_k L) a k) ∧ upd (S.2.2.1 4) (l_k L) (nI c') k = nI (upN (L 9) (l_k L) c' k)
      by_cases ek : k = l_k L
      · subst ek
        rw [pk_us, pk_us, upN_s, upN_s]
        exact ⟨rfl, rfl⟩
      · rw [pk_un ek, pk_un ek, upN_n ek, upN_n ek]
        exact mj k (by omega)
theorem kw61 : kw6 ≠ kw1 := by decide
/-- the items of a cause -/
theorem m_items {S : wd_W} {n p b : Nat} {t : Nat → Nat} {L : Ld} {a7 a9 a11 : Nat → Int32} {Q : o_X12_cause → Prop} (ht : MTa S n t) (hp : p ≤ n) (hL : lOk L) (h10 : S.1 10 = nI b) (hb : b < 3) (h3 : S.1 3 = nI (l_n L)) (h11 : S.1 11 = nI (l_N L)) (z9 : a9 b = nI 0) (z11 : a11 b = nI 0) {x19 : Int32}
    (K : Int32 → Int32 → Int32 → Int32 → (Nat → Int32) → (Nat → Int32) → Option o_X12_cause)
    (hret : ∀ f e x a a', pItems t n L 400 0 p 0 0 = .error f → Ok (some ((0 : Int32), S.1 10, e, nI f, x, a7, a, a')) Q)
    (hgood : ∀ i e x a a' u v, i ≤ 400 → e ≤ n → p ≤ e → (∀ j, j ≠ b → a j = a9 j ∧ a' j = a11 j) → a b = nI u → a' b = nI v → ((i ≠ 0 ∧ pItems t n L 400 0 p 0 0 = .ok (e, u, v)) ∨ (i ≠ 0 ∧ wB t n e < n ∧ t (wB t n e) ≠ 59 ∧ pItems t n L 400 0 p 0 0 = .error (flt (wB t n e) 0)) ∨ (i = 0 ∧ pItems t n L 400 0 p 0 0 = .error (flt e 0))) → Ok (K (nI i) (nI e) (nI 0) x a a') Q) :
    Ok (it6 (f_X12_cause_L71 S a7 K) fuel (nI 0) (nI p) (nI 0) x19 a9 a11) Q := by
  obtain ⟨c1, c2, c3, c4, c5⟩ := lOk_cnt hL
  generalize hR0 : pItems t n L 400 0 p 0 0 = R0 at hret hgood
  refine ok_while (W := fun m (s : Nat × Nat × Int32 × (Nat → Int32) × (Nat → Int32) × Nat × Nat) => it6 (f_X12_cause_L71 S a7 K) m (nI s.1) (nI s.2.1) (nI 0) s.2.2.1 s.2.2.2.1 s.2.2.2.2.1) (I := fun s => s.1 ≤ 400 ∧ s.1 ≤ s.2.1 ∧ s.2.1 ≤ n ∧ p ≤ s.2.1 ∧ R0 = pItems t n L (400 - s.1) s.1 s.2.1 s.2.2.2.2.2.1 s.2.2.2.2.2.2 ∧ (∀ j, j ≠ b → s.2.2.2.1 j = a9 j ∧ s.2.2.2.2.1 j = a11 j) ∧ s.2.2.2.1 b = nI s.2.2.2.2.2.1 ∧ s.2.2.2.2.1 b = nI s.2.2.2.2.2.2) (μ := fun s => 401 - s.1) (s := (0, p, x19, a9, a11, 0, 0)) ⟨Nat.zero_le _, Nat.zero_le _, hp, Nat.le_refl _, hR0.symm, fun _ _ => ⟨rfl, rfl⟩, z9, z11⟩ (by show 401 - 0 < _; omega) ?_
  rintro m ⟨i, e, x, a, a', u, v⟩ ⟨i4, ie, en, pe, hR, r1, r2, r3⟩ ih
  dsimp only at i4 ie en pe hR r1 r2 r3
  show Ok (f_X12_cause_L71 S a7 K (it6 _ m) (nI i) (nI e) (nI 0) x a a') Q
  have h4 := ht.2.1
  have hq := wB_le (t := t) en
  have hpq := wB_ge t n e
  have en2 := wE_le (t := t) en
  have hpe := wE_ge t n e
  have eu : uw t n (wB t n e) = uw t n e := uw_wB t n e
  have eWW : wB t n (wB t n e) = wB t n e := wB_wB t n e
  have eEE : wE t n (wB t n e) = wE t n e := wE_wB t n e
  have nstop : uw t n e = kw1 ∨ uw t n e = kw6 → ¬ n ≤ wB t n e ∧ t (wB t n e) ≠ 59 ∧ wB t n e < wE t n e := by
    intro z
    have hl : wB t n e < wE t n e := by
      have e1 : (uw t n e).length = wE t n e - wB t n e := rwd_len _ _ _
      have e2 : 0 < (uw t n e).length := by
        rcases z with z | z <;> rw [z] <;> decide
      omega
    have := of_decide_eq_true (run_in (c := isLt t) (n := n) (p := wB t n e) (i := wB t n e) (Nat.le_refl _) hl)
    exact ⟨by omega, by omega, hl⟩
  have ih2 := fun (e' : Nat) (x' : Int32) (b1 b2 : Nat → Int32) (u' v' : Nat) h => ih (i + 1, e', x', b1, b2, u', v') h (by show 401 - (i + 1) < 401 - i; omega)
  dsimp only at ih2
  clear ih
  generalize it6 (f_X12_cause_L71 S a7 K) m = r at ih2
  unfold f_X12_cause_L71
  have q10 : ∀ {Z : Option o_X12_cause}, gd (okx (S.1 10) 3) Z = Z := fun {Z} => by rw [h10, gd_in (by omega) (by omega)]
  have q11 : (S.1 10).toNatClampNeg = b := by rw [h10, nI_clamp (by omega)]
  by_cases c1' : uw t n e = kw1
  · obtain ⟨s1, s2, s3⟩ := nstop (Or.inl c1')
    have hi400 : i < 400 := by omega
    rw [show 400 - i = (399 - i) + 1 by omega, pItems_s, if_neg (fun z => s1 z.2), if_neg (fun z => s2 z.2)] at hR
    unfold pItem1 at hR
    rw [if_pos c1'] at hR
    rw [bd_s (m_uwT (S := wd_o S [(10, (S.1 10)), (17, nI e), (18, nI 0), (19, x)] [] [(5, a7), (6, a), (7, a')] [] []) kw1 kq1 kz1 ky1 ht rfl en c1')]
    dsimp only
    refine ok_lk ?_
    dsimp only
    rw [ite_1]
    rw [bd_s (m_tkT (S := wd_o S [(10, (S.1 10)), (17, nI (wB t n e)), (18, nI 0), (19, x)] [] [(5, a7), (6, a), (7, a')] [] []) kw1 kq1 kz1 ky1 ht rfl hq (by rw [eu]; exact c1')), eEE]
    dsimp only
    refine ok_lk ?_
    dsimp only
    rw [ite_1]
    refine ok_lk ?_
    dsimp only
    rw [ite_1]
    refine ok_bd (m_number (S := wd_o S [(10, (S.1 10)), (17, nI (wE t n e)), (18, nI 0), (19, x)] [] [(5, a7), (6, a), (7, a')] [] []) ht rfl en2 rfl (lo := 0) rfl (by omega) (le_sub1 (N := l_n L) (by omega) h3)) ?_
    rintro o ho
    cases hP : pNum t n (wE t n e) 0 (l_n L) with
    | error f =>
      rw [hP] at ho
      rw [hP, pb_er] at hR
      have ho1 : o.1 = nI 0 := ho.1
      have ho2 : o.2.2.1 = nI f := ho.2
      rw [ho1, ite_0, ho2]
      exact hret f _ _ _ _ hR
    | ok y =>
      obtain ⟨e2, w⟩ := y
      rw [hP] at ho
      have ho : o = (nI 1, nI e2, nI 0, nI w) := ho
      subst ho
      rw [hP, pb_ok] at hR
      have kk := pNum_inv hP
      have e2n : e2 ≤ n := by rw [kk.1]; exact nE_le en2
      dsimp only
      rw [ite_1]
      refine ok_lk ?_
      dsimp only
      rw [ite_1, q10, lz_eq, q10, lz_eq, q11, nI_1, or_p2 r2 (by omega)]
      refine ih2 e2 (nI w) _ _ (u ||| 2 ^ w) v ⟨by omega, by omega, e2n, by omega, ?_, fun j hj => ?_, ?_, r3⟩
      · rw [show 400 - (i + 1) = 399 - i by omega]; exact hR
      · rw [pk_un hj]; exact r1 j hj
      · rw [pk_us]
  · rw [bd_s (m_uwF (S := wd_o S [(10, (S.1 10)), (17, nI e), (18, nI 0), (19, x)] [] [(5, a7), (6, a), (7, a')] [] []) kw1 kq1 kz1 ky1 ht rfl en c1')]
    dsimp only
    refine ok_lk ?_
    dsimp only
    rw [ite_0]
    by_cases c6 : uw t n e = kw6
    · obtain ⟨s1, s2, s3⟩ := nstop (Or.inr c6)
      have hi400 : i < 400 := by omega
      rw [show 400 - i = (399 - i) + 1 by omega, pItems_s, if_neg (fun z => s1 z.2), if_neg (fun z => s2 z.2)] at hR
      unfold pItem1 at hR
      rw [if_neg c1', if_pos c6] at hR
      rw [bd_s (m_uwT (S := wd_o S [(10, (S.1 10)), (17, nI (wB t n e)), (18, nI 0), (19, x)] [] [(5, a7), (6, a), (7, a')] [] []) kw6 kq6 kz6 ky6 ht rfl hq (by rw [eu]; exact c6)), eWW]
      dsimp only
      rw [ite_1]
      rw [bd_s (m_tkF (S := wd_o S [(10, (S.1 10)), (17, nI (wB t n e)), (18, nI 0), (19, x)] [] [(5, a7), (6, a), (7, a')] [] []) kw1 kq1 kz1 ky1 ht rfl hq (by rw [eu]; exact c1')), eWW]
      dsimp only
      refine ok_lk ?_
      dsimp only
      rw [ite_0]
      rw [bd_s (m_tkT (S := wd_o S [(10, (S.1 10)), (17, nI (wB t n e)), (18, nI 0), (19, x)] [] [(5, a7), (6, a), (7, a')] [] []) kw6 kq6 kz6 ky6 ht rfl hq (by rw [eu]; exact c6)), eEE]
      dsimp only
      refine ok_lk ?_
      dsimp only
      rw [ite_0]
      refine ok_bd (m_number (S := wd_o S [(10, (S.1 10)), (17, nI (wE t n e)), (18, nI 0), (19, x)] [] [(5, a7), (6, a), (7, a')] [] []) ht rfl en2 rfl (lo := 0) rfl (by omega) (le_sub1 (N := l_N L) (by omega) h11)) ?_
      rintro o ho
      cases hP : pNum t n (wE t n e) 0 (l_N L) with
      | error f =>
        rw [hP] at ho
        rw [hP, pb_er] at hR
        have ho1 : o.1 = nI 0 := ho.1
        have ho2 : o.2.2.1 = nI f := ho.2
        rw [ho1, ite_0, ho2]
        exact hret f _ _ _ _ hR
      | ok y =>
        obtain ⟨e2, w⟩ := y
        rw [hP] at ho
        have ho : o = (nI 1, nI e2, nI 0, nI w) := ho
        subst ho
        rw [hP, pb_ok] at hR
        have kk := pNum_inv hP
        have e2n : e2 ≤ n := by rw [kk.1]; exact nE_le en2
        dsimp only
        rw [ite_1]
        refine ok_lk ?_
        dsimp only
        rw [ite_0, q10, lz_eq, q10, lz_eq, q11, nI_1, or_p2 r3 (by omega)]
        refine ih2 e2 (nI w) _ _ u (v ||| 2 ^ w) ⟨by omega, by omega, e2n, by omega, ?_, fun j hj => ?_, r2, ?_⟩
        · rw [show 400 - (i + 1) = 399 - i by omega]; exact hR
        · rw [pk_un hj]; exact r1 j hj
        · rw [pk_us]
    · rw [bd_s (m_uwF (S := wd_o S [(10, (S.1 10)), (17, nI (wB t n e)), (18, nI 0), (19, x)] [] [(5, a7), (6, a), (7, a')] [] []) kw6 kq6 kz6 ky6 ht rfl hq (by rw [eu]; exact c6)), eWW]
      dsimp only
      rw [ite_0]
      refine hgood i (wB t n e) x a a' u v i4 hq (by omega) r1 r2 r3 ?_
      rw [eWW]
      by_cases i400 : i = 400
      · subst i400
        have e4 : wB t n e = e := by omega
        rw [Nat.sub_self, pItems] at hR
        rw [e4]
        exact Or.inl ⟨by omega, hR⟩
      · rw [show 400 - i = (399 - i) + 1 by omega, pItems_s] at hR
        unfold pItem1 at hR
        rw [if_neg c1', if_neg c6] at hR
        by_cases i0 : i = 0
        · rw [if_neg (fun z => z.1 i0), if_neg (fun z => z.1 i0)] at hR
          exact Or.inr (Or.inr ⟨i0, hR⟩)
        · by_cases s1 : n ≤ wB t n e
          · rw [if_pos ⟨i0, s1⟩] at hR
            exact Or.inl ⟨i0, hR⟩
          · rw [if_neg (fun z => s1 z.2)] at hR
            by_cases s2 : t (wB t n e) = 59
            · rw [if_pos ⟨i0, s2⟩] at hR
              exact Or.inl ⟨i0, hR⟩
            · rw [if_neg (fun z => s2 z.2)] at hR
              exact Or.inr (Or.inl ⟨i0, by omega, s2, hR⟩)
