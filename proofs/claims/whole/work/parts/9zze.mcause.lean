/-! the reference's clauses: cause, through -/
theorem ok_lk6 {ρ α β γ δ ε ζ : Type} {B : α → β → γ → δ → ε → ζ → Option ρ} {R : (α → β → γ → δ → ε → ζ → Option ρ) → Option ρ} {Q : ρ → Prop} (I : α → β → γ → δ → ε → ζ → Prop) (hR : ∀ K, (∀ a b c d e f, I a b c d e f → Ok (K a b c d e f) Q) → Ok (R K) Q) (hB : ∀ a b c d e f, I a b c d e f → Ok (B a b c d e f) Q) : Ok (lk B R) Q := hR B hB
theorem m_rcause {S : wd_W} {n p q d : Nat} {t : Nat → Nat} {L : Ld} (ht : MTa S n t) (hp : p ≤ n) (h : S.1 17 = nI p) (h18 : S.1 18 = nI 0) (hL : lOk L) (hc3 : l_c L ≤ 3) (hm : mRd S L d) :
    Ok (f_X12_cause S (nI q)) (fun o => match pCause t n L q p with
      | .ok x => o.1 = nI 1 ∧ o.2.2.1 = nI x.1 ∧ o.2.2.2.1 = nI 0 ∧ mRd (wd_o S [(10, o.2.1)] [] [(5, o.2.2.2.2.2.1), (6, o.2.2.2.2.2.2.1), (7, o.2.2.2.2.2.2.2)] [] []) x.2 d
      | .error f => mBad t n p f o.1 o.2.2.1 o.2.2.2.1) := by
  obtain ⟨c1, c2, c3, c4, c5⟩ := lOk_cnt hL
  have h4 := ht.2.1
  have g3 : S.1 3 = nI (l_n L) := hm.1.1
  have g10 : S.1 10 = nI (l_c L) := hm.1.2.2.1
  have g11 : S.1 11 = nI (l_N L) := hm.1.2.2.2.1
  unfold f_X12_cause
  generalize hP : pCause t n L q p = P
  unfold pCause at hP
  refine ok_lkP (l_c L = 3 ∨ l_M L = 15) (fun K hK => ?_) (fun z => ?_)
  · rw [g10, li_3]
    refine ok_ite (fun c => hK (Or.inl ?_)) (fun c => ?_)
    · rw [nI_eq (by omega) (by omega)] at c; exact c
    rw [nI_eq (by omega) (by omega)] at c
    rw [bd_s (m_things (S := wd_o S [(10, nI (l_c L)), (17, (S.1 17)), (18, (S.1 18)), (19, (S.1 19))] [] [(5, (S.2.2.1 5)), (6, (S.2.2.1 6)), (7, (S.2.2.1 7))] [] []) (L := L) g3 hm.1.2.1 rfl), li_15]
    refine ok_ite (fun c' => hK (Or.inr ?_)) (fun c' => ?_)
    · rw [nI_eq (by omega) (by omega)] at c'; exact c'
    rw [nI_eq (by omega) (by omega)] at c'
    rw [if_neg (by omega)] at hP
    refine ok_bd (m_number (S := wd_o S [(10, nI (l_c L)), (17, (S.1 17)), (18, (S.1 18)), (19, (S.1 19))] [] [(5, (S.2.2.1 5)), (6, (S.2.2.1 6)), (7, (S.2.2.1 7))] [] []) ht h hp h18 (lo := 0) rfl (by omega) (le_lit (N := 16) (by omega) rfl)) ?_
    rintro o ho
    cases hC : pNum t n p 0 17 with
    | error f =>
      rw [hC] at ho hP
      rw [pb_er] at hP
      have ho1 : o.1 = nI 0 := ho.1
      rw [ho1, ite_0, ← hP]
      exact ok_some (Or.inl ⟨rfl, ho.2⟩)
    | ok y =>
    obtain ⟨e, c'⟩ := y
    rw [hC] at ho hP
    rw [pb_ok] at hP
    have ho : o = (nI 1, nI e, nI 0, nI c') := ho
    subst ho
    have kC := pNum_inv hC
    have en : e ≤ n := by rw [kC.1]; exact nE_le hp
    dsimp only
    rw [ite_1, gd_in (by omega) (by omega), lz_eq, gd_in (by omega) (by omega), lz_eq, gd_in (by omega) (by omega), lz_eq, nI_clamp (by omega), li_0]
    have hbad : ∀ f, pItems t n L 400 0 e 0 0 = .error f → P = .error f := by
      intro f hf
      rw [hf, pb_er] at hP
      exact hP.symm
    refine ok_lk6 (fun x12 x13 x14 x15 a16 a17 => x14 = nI 0 ∧ ∃ i e2 u v, x12 = nI i ∧ x13 = nI e2 ∧ i ≤ 400 ∧ e2 ≤ n ∧ e ≤ e2 ∧ (∀ j, j ≠ l_c L → a16 j = S.2.2.1 6 j ∧ a17 j = S.2.2.1 7 j) ∧ a16 (l_c L) = nI u ∧ a17 (l_c L) = nI v ∧ ((i ≠ 0 ∧ pItems t n L 400 0 e 0 0 = .ok (e2, u, v)) ∨ (i ≠ 0 ∧ wB t n e2 < n ∧ t (wB t n e2) ≠ 59 ∧ pItems t n L 400 0 e 0 0 = .error (flt (wB t n e2) 0)) ∨ (i = 0 ∧ pItems t n L 400 0 e 0 0 = .error (flt e2 0)))) (fun K1 hK1 => ?_) ?_
    · have hl : ∀ Z : Int32, (Z, K1) = (Z, K1) := fun _ => rfl
      refine m_items (b := l_c L) ht en hL g10 (by omega) g3 g11 pk_us pk_us K1 (fun f e2 x a a' hf => ?_) (fun i e2 x a a' u v k1 k2 k3 k4 k5 k6 k7 => hK1 _ _ _ _ _ _ ⟨rfl, i, e2, u, v, rfl, rfl, k1, k2, k3, fun j hj => ?_, k5, k6, k7⟩)
      · rw [hbad _ hf]
        exact ok_some (Or.inl ⟨rfl, rfl⟩)
      · have := k4 j hj
        rw [pk_un hj, pk_un hj] at this
        exact this
    · rintro _ _ _ x15 a16 a17 ⟨rfl, i, e2, u, v, rfl, rfl, k1, k2, k3, k4, k5, k6, k7⟩
      refine ok_ite (fun z => ?_) (fun z => ?_)
      · rw [nI_eq (by omega) (by omega)] at z
        rw [bd_s (m_fails (S := wd_o S [(10, nI (l_c L)), (17, nI e2), (18, nI 0), (19, x15)] [] [(5, upd (S.2.2.1 5) (l_c L) (nI c')), (6, a16), (7, a17)] [] []) (q := e2) (k := 0) (p1 := nI 0) rfl rfl)]
        dsimp only
        rw [gd_t okz_0]
        rcases k7 with k7 | k7 | k7
        · exact absurd z k7.1
        · exact absurd z k7.1
        · rw [hbad _ k7.2]
          exact ok_some (Or.inl ⟨rfl, rfl⟩)
      · rw [nI_eq (by omega) (by omega)] at z
        rw [nI_1, lz_eq]
        rcases k7 with k7 | k7 | k7
        · rw [k7.2, pb_ok] at hP
          rw [← hP]
          refine ok_some ⟨rfl, rfl, rfl, ?_⟩
          obtain ⟨⟨m1, m2, m3, m4, m5, m6, m7, m8, m9⟩, mk, mj, mc⟩ := hm
          refine ⟨⟨m1, m2, rfl, m4, m5, m6, m7, m8, m9⟩, mk, mj, fun k hk => ?_⟩
          have hk : k < l_c L + 1 := hk
          show upd (S.2.2.1 5) (l_c L) (nI c') k = nI (upN (L 11) (l_c L) c' k) ∧ a16 k = nI (upN (L 12) (l_c L) u k) ∧ a17 k = nI (upN (L 13) (l_c L) v k)
          by_cases ek : k = l_c L
          · subst ek
            rw [pk_us, upN_s, upN_s, upN_s]
            exact ⟨rfl, k5, k6⟩
          · rw [pk_un ek, upN_n ek, upN_n ek, upN_n ek, (k4 k ek).1, (k4 k ek).2]
            exact mc k (by omega)
        · rw [hbad _ k7.2.2.2]
          exact ok_some (Or.inr ⟨rfl, rfl, e2, rfl, k2, by omega, k7.2.1, k7.2.2.1, rfl⟩)
        · exact absurd k7.1 z
  · rw [if_pos z] at hP
    rw [bd_s (m_fails (S := wd_o S [(10, (S.1 10)), (17, (S.1 17)), (18, (S.1 18)), (19, (S.1 19))] [] [(5, (S.2.2.1 5)), (6, (S.2.2.1 6)), (7, (S.2.2.1 7))] [] []) (q := q) (k := 3) (p1 := (3 : Int32)) rfl h18)]
    dsimp only
    rw [gd_t okz_0, ← hP]
    exact ok_some (Or.inl ⟨rfl, rfl⟩)
theorem kwd2_10 : kw2 ≠ kw10 := by decide
theorem kwd2_8 : kw2 ≠ kw8 := by decide
theorem kwd2_3 : kw2 ≠ kw3 := by decide
theorem kwd2_9 : kw2 ≠ kw9 := by decide
theorem kwd8_10 : kw8 ≠ kw10 := by decide
theorem kwd3_10 : kw3 ≠ kw10 := by decide
theorem kwd9_10 : kw9 ≠ kw10 := by decide
theorem kwd8_3 : kw8 ≠ kw3 := by decide
theorem kwd8_9 : kw8 ≠ kw9 := by decide
theorem kwd3_9 : kw3 ≠ kw9 := by decide
theorem m_rthr {S : wd_W} {n p q d : Nat} {t : Nat → Nat} {L : Ld} (ht : MTa S n t) (hp : p ≤ n) (h : S.1 17 = nI p) (h18 : S.1 18 = nI 0) (hL : lOk L) (hd : d ≤ 1) (hm : mRd S L d) (h0 : d = 0 → l_m L = 0 ∧ l_a L = 0 ∧ l_b L = 0) :
    Ok (f_X12_what S (nI q)) (fun o => match pThr t n L d q p with
      | .ok x => o.1 = nI 1 ∧ o.2.2.2.2.2.2.1 = nI x.1 ∧ o.2.2.2.2.2.2.2.1 = nI 0 ∧ mRd (wd_o S [(12, o.2.1), (13, o.2.2.1), (14, o.2.2.2.1), (15, o.2.2.2.2.1), (16, o.2.2.2.2.2.1)] [] [] [] []) x.2 1
      | .error f => mBad t n p f o.1 o.2.2.2.2.2.2.1 o.2.2.2.2.2.2.2.1) := by
  obtain ⟨c1, c2, c3, c4, c5⟩ := lOk_cnt hL
  have h4 := ht.2.1
  have hq := wB_le (t := t) hp
  have hpq := wB_ge t n p
  have en2 := wE_le (t := t) hp
  have hpe := wE_ge t n p
  have eu : uw t n (wB t n p) = uw t n p := uw_wB t n p
  have eWW : wB t n (wB t n p) = wB t n p := wB_wB t n p
  have eEE : wE t n (wB t n p) = wE t n p := wE_wB t n p
  have g11 : S.1 11 = nI (l_N L) := hm.1.2.2.2.1
  have g16 : S.1 16 = nI d := hm.1.2.2.2.2.2.2.2.2
  unfold f_X12_what
  generalize hP : pThr t n L d q p = P
  unfold pThr at hP
  rw [g16]
  refine ok_ite (fun z => ?_) (fun z => ?_)
  · rw [oI_z (by omega)] at z
    obtain ⟨z1, z2, z3⟩ := h0 z
    have g13 : S.1 13 = nI 0 := by rw [← z1]; exact hm.1.2.2.2.2.2.1
    have g14 : S.1 14 = nI 0 := by rw [← z2]; exact hm.1.2.2.2.2.2.2.1
    have g15 : S.1 15 = nI 0 := by rw [← z3]; exact hm.1.2.2.2.2.2.2.2.1
    rw [if_neg (fun y => y z)] at hP
    have word : ∀ (kw : List Nat) (w : Int64), kwOk kw → w = lN (wcd kw) → wcd kw < 2 ^ 62 → ∀ p' : Nat, p' = p ∨ p' = wB t n p → f_X12_isWord (wd_o S [(12, (S.1 12)), (13, (S.1 13)), (14, (S.1 14)), (15, (S.1 15)), (16, (1 : Int32)), (17, nI p'), (18, (S.1 18)), (19, (S.1 19))] [] [] [] []) w = some (nI (b2n (decide (uw t n p = kw))), nI (wB t n p)) := by
      intro kw w a1 a2 a3 p' hp'
      rcases hp' with rfl | rfl
      · exact m_uw kw a1 a2 a3 ht rfl hp
      · have hh := m_uw (S := wd_o S [(12, (S.1 12)), (13, (S.1 13)), (14, (S.1 14)), (15, (S.1 15)), (16, (1 : Int32)), (17, nI (wB t n p)), (18, (S.1 18)), (19, (S.1 19))] [] [] [] []) (p := wB t n p) kw a1 a2 a3 ht rfl hq
        rw [eu, eWW] at hh
        exact hh
    rw [h]
    rw [bd_s (word kw2 _ kq2 kz2 ky2 p (Or.inl rfl))]
    -- the word, as a number
    refine ok_lk2 (fun x2 x3 => x3 = nI (wB t n p) ∧ ((x2 = -1 ∧ pWhat t n p = .error (flt (wB t n p) 0)) ∨ ∃ w, w ≤ 4 ∧ x2 = nI w ∧ pWhat t n p = .ok (wE t n p, w) ∧ uw t n p = (if w = 0 then kw2 else if w = 1 then kw10 else if w = 2 then kw8 else if w = 3 then kw3 else kw9))) (fun K hK => ?_) ?_
    · have hW : ∀ r, pWhat t n p = r → pWhat t n p = r := fun _ h => h
      generalize hPW : pWhat t n p = W at hK
      unfold pWhat at hPW
      refine ok_b (fun y2 => ?_) (fun y2 => ?_)
      · have y2 := of_decide_eq_false y2
        rw [if_neg y2] at hPW
        rw [bd_s (word kw10 _ kq10 kz10 ky10 _ (Or.inr rfl))]
        refine ok_b (fun y10 => ?_) (fun y10 => ?_)
        · have y10 := of_decide_eq_false y10
          rw [bd_s (word kw8 _ kq8 kz8 ky8 _ (Or.inr rfl))]
          refine ok_b (fun y8 => ?_) (fun y8 => ?_)
          · have y8 := of_decide_eq_false y8
            rw [if_neg y8] at hPW
            rw [bd_s (word kw3 _ kq3 kz3 ky3 _ (Or.inr rfl))]
            refine ok_b (fun y3 => ?_) (fun y3 => ?_)
            · have y3 := of_decide_eq_false y3
              rw [if_neg y3] at hPW
              rw [bd_s (word kw9 _ kq9 kz9 ky9 _ (Or.inr rfl))]
              refine ok_b (fun y9 => ?_) (fun y9 => ?_)
              · have y9 := of_decide_eq_false y9
                rw [if_neg y9, if_neg y10] at hPW
                exact hK _ _ ⟨rfl, Or.inl ⟨rfl, hPW.symm⟩⟩
              · have y9 := of_decide_eq_true y9
                rw [if_pos y9] at hPW
                exact hK _ _ ⟨rfl, Or.inr ⟨4, by omega, rfl, hPW.symm, y9⟩⟩
            · have y3 := of_decide_eq_true y3
              rw [if_pos y3] at hPW
              exact hK _ _ ⟨rfl, Or.inr ⟨3, by omega, rfl, hPW.symm, y3⟩⟩
          · have y8 := of_decide_eq_true y8
            rw [if_pos y8] at hPW
            exact hK _ _ ⟨rfl, Or.inr ⟨2, by omega, rfl, hPW.symm, y8⟩⟩
        · have y10 := of_decide_eq_true y10
          rw [if_neg (by rw [y10]; exact kwd8_10.symm), if_neg (by rw [y10]; exact kwd3_10.symm), if_neg (by rw [y10]; exact kwd9_10.symm), if_pos y10] at hPW
          exact hK _ _ ⟨rfl, Or.inr ⟨1, by omega, rfl, hPW.symm, y10⟩⟩
      · have y2 := of_decide_eq_true y2
        rw [if_pos y2] at hPW
        exact hK _ _ ⟨rfl, Or.inr ⟨0, by omega, rfl, hPW.symm, y2⟩⟩
    · rintro x2 _ ⟨rfl, ⟨rfl, hW⟩ | ⟨w, w4, rfl, hW, hu⟩⟩
      · rw [hW, pb_er] at hP
        rw [if_neg (by decide), bd_s (m_fails (S := wd_o S [(12, (-1 : Int32)), (13, (S.1 13)), (14, (S.1 14)), (15, (S.1 15)), (16, (1 : Int32)), (17, nI (wB t n p)), (18, (S.1 18)), (19, (S.1 19))] [] [] [] []) (q := wB t n p) (k := 0) (p1 := (0 : Int32)) rfl h18)]
        dsimp only
        rw [gd_t okz_0, ← hP]
        exact ok_some (Or.inl ⟨rfl, rfl⟩)
      · rw [hW, pb_ok] at hP
        rw [if_pos ((oI_ge0 (by omega)).mpr trivial)]
        refine ok_lk1 (fun x5 => ∃ kw, kwOk kw ∧ x5 = lN (wcd kw) ∧ wcd kw < 2 ^ 62 ∧ uw t n p = kw) (fun K hK => ?_) ?_
        · rw [li_1, li_2, li_3]
          refine ok_ite (fun y => ?_) (fun y => ok_ite (fun y1 => ?_) (fun y1 => ok_ite (fun y2 => ?_) (fun y2 => ok_ite (fun y3 => ?_) (fun y3 => ?_))))
          · rw [oI_z (by omega)] at y
            rw [if_pos y] at hu
            exact hK _ ⟨kw2, kq2, kz2, ky2, hu⟩
          · rw [oI_z (by omega)] at y
            rw [nI_eq (by omega) (by omega)] at y1
            rw [if_neg y, if_pos y1] at hu
            exact hK _ ⟨kw10, kq10, kz10, ky10, hu⟩
          · rw [oI_z (by omega)] at y
            rw [nI_eq (by omega) (by omega)] at y1 y2
            rw [if_neg y, if_neg y1, if_pos y2] at hu
            exact hK _ ⟨kw8, kq8, kz8, ky8, hu⟩
          · rw [oI_z (by omega)] at y
            rw [nI_eq (by omega) (by omega)] at y1 y2 y3
            rw [if_neg y, if_neg y1, if_neg y2, if_pos y3] at hu
            exact hK _ ⟨kw3, kq3, kz3, ky3, hu⟩
          · rw [oI_z (by omega)] at y
            rw [nI_eq (by omega) (by omega)] at y1 y2 y3
            rw [if_neg y, if_neg y1, if_neg y2, if_neg y3] at hu
            exact hK _ ⟨kw9, kq9, kz9, ky9, hu⟩
        · rintro _ ⟨kw, j1, rfl, j3, j4⟩
          rw [bd_s (m_tkT (S := wd_o S [(12, nI w), (13, (S.1 13)), (14, (S.1 14)), (15, (S.1 15)), (16, (1 : Int32)), (17, nI (wB t n p)), (18, (S.1 18)), (19, (S.1 19))] [] [] [] []) kw j1 rfl j3 ht rfl hq (by rw [eu]; exact j4)), eEE, li_1]
          dsimp only
          refine ok_ite (fun y1 => ?_) (fun y1 => ?_)
          · rw [nI_eq (by omega) (by omega)] at y1
            subst y1
            have e1 : pAmo t n (l_N L) 1 (wE t n p) = .ok (wE t n p, 0) := by unfold pAmo; rw [if_neg (by omega), if_neg (by omega)]
            have e2 : pFst t n (l_N L) 1 (wE t n p) = .ok (wE t n p, 0) := by unfold pFst; rw [if_pos rfl]
            have e3 : pSnd t n (l_N L) 1 0 (wE t n p) = .ok (wE t n p, 0) := by unfold pSnd; rw [if_pos rfl]
            rw [e1, pb_ok, e2, pb_ok, e3, pb_ok] at hP
            rw [← hP]
            obtain ⟨⟨m1, m2, m3, m4, m5, m6, m7, m8, m9⟩, mk, mj, mc⟩ := hm
            exact ok_some ⟨rfl, rfl, h18, ⟨m1, m2, m3, m4, rfl, g13, g14, g15, rfl⟩, mk, mj, mc⟩
          · rw [nI_eq (by omega) (by omega)] at y1
            refine ok_lk4 (fun x8 x9 x10 x11 => ∃ m e, x8 = nI m ∧ x9 = nI e ∧ x10 = nI 0 ∧ e ≤ n ∧ p ≤ e ∧ P = pb (pFst t n (l_N L) w e) fun e3 a => pb (pSnd t n (l_N L) w a e3) fun e4 b => .ok (e4, setW L w m a b)) (fun K hK => ?_) ?_
            · refine ok_lkP (w = 2 ∨ w = 3) (fun K2 hK2 => ?_) (fun y => ?_)
              · rw [li_2, li_3]
                refine ok_ite (fun y2 => hK2 (Or.inl ?_)) (fun y2 => ok_ite (fun y3 => hK2 (Or.inr ?_)) (fun y3 => ?_))
                · rw [nI_eq (by omega) (by omega)] at y2; exact y2
                · rw [nI_eq (by omega) (by omega)] at y3; exact y3
                · rw [nI_eq (by omega) (by omega)] at y2 y3
                  unfold pAmo at hP
                  rw [if_neg y2, if_neg y3, pb_ok] at hP
                  exact hK _ _ _ _ ⟨0, wE t n p, g13, rfl, h18, en2, by omega, hP.symm⟩
              · refine ok_lk2 (fun x19 x20 => x20 = nI 1 ∧ ∃ hi, hi ≤ 100 ∧ x19 = nI hi ∧ pAmo t n (l_N L) w (wE t n p) = pNum t n (wE t n p) 1 (hi + 1)) (fun K2 hK2 => ?_) ?_
                · unfold pAmo at hK2
                  rw [li_2]
                  refine ok_ite (fun y2 => ?_) (fun y2 => ?_)
                  · rw [nI_eq (by omega) (by omega)] at y2
                    rw [if_pos y2] at hK2
                    exact hK2 _ _ ⟨rfl, l_N L, by omega, g11, rfl⟩
                  · rw [nI_eq (by omega) (by omega)] at y2
                    rw [if_neg y2, if_pos (by omega)] at hK2
                    exact hK2 _ _ ⟨rfl, 99, by omega, rfl, rfl⟩
                · rintro _ _ ⟨rfl, hi, hi1, rfl, hA⟩
                  refine ok_bd (m_number (S := wd_o S [(12, nI w), (13, (S.1 13)), (14, (S.1 14)), (15, (S.1 15)), (16, nI 1), (17, nI (wE t n p)), (18, (S.1 18)), (19, (S.1 19))] [] [] [] []) ht rfl en2 h18 (lo := 1) rfl (by omega) (le_lit (N := hi) (by omega) rfl)) ?_
                  rintro o ho
                  rw [hA] at hP
                  cases hC : pNum t n (wE t n p) 1 (hi + 1) with
                  | error f =>
                    rw [hC] at ho hP
                    rw [pb_er] at hP
                    have ho1 : o.1 = nI 0 := ho.1
                    rw [ho1, ite_0, ← hP]
                    exact ok_some (Or.inl ⟨rfl, ho.2⟩)
                  | ok yy =>
                    obtain ⟨e2, m⟩ := yy
                    rw [hC] at ho hP
                    rw [pb_ok] at hP
                    have ho : o = (nI 1, nI e2, nI 0, nI m) := ho
                    subst ho
                    have kC := pNum_inv hC
                    have e2n : e2 ≤ n := by rw [kC.1]; exact nE_le en2
                    dsimp only
                    rw [ite_1]
                    exact hK _ _ _ _ ⟨m, e2, rfl, rfl, rfl, e2n, by omega, hP.symm⟩
            · rintro _ _ _ x11 ⟨m, e, rfl, rfl, rfl, e1, e2, hP3⟩
              unfold pFst at hP3
              rw [if_neg y1, li_2] at *
              refine ok_ite (fun y2 => ?_) (fun y2 => ?_)
              · rw [nI_eq (by omega) (by omega)] at y2
                refine ok_bd (m_rplace (S := wd_o S [(12, nI w), (13, nI m), (14, (S.1 14)), (15, (S.1 15)), (16, nI 1), (17, nI e), (18, nI 0), (19, x11)] [] [] [] []) ht rfl e1 rfl g11 (by omega)) ?_
                rintro o ho
                cases hC : pNum t n e 0 (l_N L) with
                | error f =>
                  rw [hC] at ho hP3
                  rw [pb_er] at hP3
                  have ho1 : o.1 = nI 0 := ho.1
                  rw [ho1, ite_0, hP3]
                  exact ok_some (Or.inl ⟨rfl, ho.2⟩)
                | ok yy =>
                  obtain ⟨e3, a⟩ := yy
                  rw [hC] at ho hP3
                  rw [pb_ok] at hP3
                  have ho : o = (nI 1, nI e3, nI 0, nI a) := ho
                  subst ho
                  have e4 : pSnd t n (l_N L) w a e3 = .ok (e3, 0) := by unfold pSnd; rw [if_neg y1, if_pos y2]
                  rw [e4, pb_ok] at hP3
                  dsimp only
                  rw [ite_1, hP3]
                  obtain ⟨⟨m1, m2, m3, m4, m5, m6, m7, m8, m9⟩, mk, mj, mc⟩ := hm
                  exact ok_some ⟨rfl, rfl, rfl, ⟨m1, m2, m3, m4, rfl, rfl, rfl, g15, rfl⟩, mk, mj, mc⟩
              · rw [nI_eq (by omega) (by omega)] at y2
                have hPE : P = pb (pEnds t n e (l_N L)) fun e4 ab => .ok (e4, setW L w m ab.1 ab.2) := by
                  rw [hP3]
                  unfold pEnds pSnd
                  simp only [pb_pb, pb_if, pb_ok, if_neg y1, if_neg y2]
                refine ok_bd (m_rends (S := wd_o S [(12, nI w), (13, nI m), (14, (S.1 14)), (15, (S.1 15)), (16, nI 1), (17, nI e), (18, nI 0), (19, x11)] [] [] [] []) (N := l_N L) ht rfl e1 rfl g11 (by omega)) ?_
                rintro o ho
                cases hC : pEnds t n e (l_N L) with
                | error f =>
                  rw [hC] at ho hPE
                  rw [pb_er] at hPE
                  have ho1 : o.1 = nI 0 := ho.1
                  rw [ho1, gd_t okz_n0, hPE]
                  exact ok_some (Or.inl ⟨rfl, ho.2⟩)
                | ok yy =>
                  obtain ⟨e3, a, b⟩ := yy
                  rw [hC] at ho hPE
                  rw [pb_ok] at hPE
                  have ho : o = (nI 1, nI a, nI b, nI e3, nI 0, nI b) := ho
                  subst ho
                  dsimp only
                  rw [gd_t okz_n1, hPE]
                  obtain ⟨⟨m1, m2, m3, m4, m5, m6, m7, m8, m9⟩, mk, mj, mc⟩ := hm
                  exact ok_some ⟨rfl, rfl, rfl, ⟨m1, m2, m3, m4, rfl, rfl, rfl, rfl, rfl⟩, mk, mj, mc⟩
  · rw [oI_z (by omega)] at z
    rw [if_pos z] at hP
    rw [bd_s (m_fails (S := wd_o S [(12, (S.1 12)), (13, (S.1 13)), (14, (S.1 14)), (15, (S.1 15)), (16, nI d), (17, (S.1 17)), (18, (S.1 18)), (19, (S.1 19))] [] [] [] []) (q := q) (k := 2) (p1 := (2 : Int32)) rfl h18)]
    dsimp only
    rw [gd_t okz_0, ← hP]
    exact ok_some (Or.inl ⟨rfl, rfl⟩)
