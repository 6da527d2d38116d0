/-! the developers' clauses: through; any; all -/
theorem x_what {S : wd_W} {n p f : Nat} {t : Nat → Nat} {β : Type} {R : Except Nat β} {k : Nat → Nat → Except Nat β} (ht : XTa S n t) (h : S.1 1402 = nI p) (hp : p ≤ n) (hf : S.1 1404 = nI f) (hR : ct R f (pb (pWhat t n p) k)) :
    Ok (f_X9_readWhat_q14 S) (fun o => ∃ w g, o = (nI w, nI (wE t n p), nI (wB t n p), nI g) ∧ w ≤ 4 ∧ ct R g (k (wE t n p) w) ∧ (g = 0 → f = 0)) := by
  have h4 := ht.2.1
  have hq := wB_le (t := t) hp
  unfold f_X9_readWhat_q14
  rw [bd_s (x_word (S := wd_o S [(1402, (S.1 1402)), (1403, (S.1 1403)), (1404, (S.1 1404))] [] [] [] []) ht h hp)]
  dsimp only
  rw [hf]
  have u2 := x_uw2 (S := wd_o S [(1402, nI (wE t n p)), (1403, nI (wB t n p)), (1404, nI f)] [] [] [] []) ht hp rfl rfl
  have u8 := x_uw8 (S := wd_o S [(1402, nI (wE t n p)), (1403, nI (wB t n p)), (1404, nI f)] [] [] [] []) ht hp rfl rfl
  have u3 := x_uw3 (S := wd_o S [(1402, nI (wE t n p)), (1403, nI (wB t n p)), (1404, nI f)] [] [] [] []) ht hp rfl rfl
  have u9 := x_uw9 (S := wd_o S [(1402, nI (wE t n p)), (1403, nI (wB t n p)), (1404, nI f)] [] [] [] []) ht hp rfl rfl
  have u10 := x_uw10 (S := wd_o S [(1402, nI (wE t n p)), (1403, nI (wB t n p)), (1404, nI f)] [] [] [] []) ht hp rfl rfl
  unfold pWhat at hR
  rw [bd_s u2]
  refine ok_b (fun c => ?_) (fun c => ?_)
  · rw [if_neg (of_decide_eq_false c)] at hR
    rw [bd_s u8]
    refine ok_b (fun c => ?_) (fun c => ?_)
    · rw [if_neg (of_decide_eq_false c)] at hR
      rw [bd_s u3]
      refine ok_b (fun c => ?_) (fun c => ?_)
      · rw [if_neg (of_decide_eq_false c)] at hR
        rw [bd_s u9]
        refine ok_b (fun c => ?_) (fun c => ?_)
        · rw [if_neg (of_decide_eq_false c)] at hR
          rw [bd_s u10]
          refine ok_b (fun c => ?_) (fun c => ?_)
          · rw [if_neg (of_decide_eq_false c), pb_er] at hR
            rw [bd_s (x_blame (S := wd_o S [(1402, nI (wE t n p)), (1403, nI (wB t n p)), (1404, nI f)] [] [] [] []) (q := wB t n p) (k := 0) (p2 := (0 : Int32)) (f := f) (by omega) (by omega) rfl rfl (by have := hR.1; omega))]
            have := ct_blame (k (wE t n p) 1) hR rfl (by omega) (by omega)
            exact ok_some ⟨1, _, rfl, by omega, this.2, fun z => absurd z this.1⟩
          · rw [if_pos (of_decide_eq_true c), pb_ok] at hR
            exact ok_some ⟨1, f, rfl, by omega, hR, fun z => z⟩
        · rw [if_pos (of_decide_eq_true c), pb_ok] at hR
          exact ok_some ⟨4, f, rfl, by omega, hR, fun z => z⟩
      · rw [if_pos (of_decide_eq_true c), pb_ok] at hR
        exact ok_some ⟨3, f, rfl, by omega, hR, fun z => z⟩
    · rw [if_pos (of_decide_eq_true c), pb_ok] at hR
      exact ok_some ⟨2, f, rfl, by omega, hR, fun z => z⟩
  · rw [if_pos (of_decide_eq_true c), pb_ok] at hR
    exact ok_some ⟨0, f, rfl, by omega, hR, fun z => z⟩
theorem x_readThrough {S : wd_W} {n p q d : Nat} {t : Nat → Nat} {L : Ld} {β : Type} {R : Except Nat β} {k : Nat → Ld → Except Nat β} (ht : XTa S n t) (hp : p ≤ n) (hqn : q ≤ n) (h2 : S.1 1402 = nI p) (h3 : S.1 1403 = nI q) (hf : S.1 1404 = nI 0) (h5 : S.1 1405 = nI d) (hd : d ≤ 1) (hL : lOk L) (hx : xL S 3 L) (hR : ct R 0 (pb (pThr t n L d q p) k)) :
    Ok (f_X9_readThrough_q14 S) (fun o => ∃ e q' g, o.2.2.2.2.1 = nI e ∧ o.2.2.2.2.2.1 = nI q' ∧ o.2.2.2.2.2.2.1 = nI g ∧ o.2.2.2.2.2.2.2 = nI 1 ∧ e ≤ n ∧ p ≤ e ∧ ∃ K, ct R g (k e K) ∧ (g = 0 → xL (wd_o S [(314, o.1), (315, o.2.1), (316, o.2.2.1), (317, o.2.2.2.1)] [] [] [] []) 3 K)) := by
  obtain ⟨c1, c2, c3, c4, c5⟩ := lOk_cnt hL
  have h4 := ht.2.1
  have h300 : S.1 300 = nI (l_N L) := hx.1.1
  unfold f_X9_readThrough_q14
  have hfl : flt q 2 ≠ 0 ∧ flt q 2 < 2 ^ 16 := by unfold flt; omega
  refine ok_lk1 (fun x1 => ∃ f0, x1 = nI f0 ∧ ct R f0 (pb (pWhat t n p) fun e w => pb (pAmo t n (l_N L) w e) fun e2 m => pb (pFst t n (l_N L) w e2) fun e3 a => pb (pSnd t n (l_N L) w a e3) fun e4 b => k e4 (setW L w m a b))) (fun K hK => ?_) ?_
  · have hR := ct_0 hR
    unfold pThr at hR
    rw [h5]
    refine ok_ite (fun c => ?_) (fun c => ?_)
    · rw [oI_z (by omega)] at c
      rw [if_neg (fun z => z c)] at hR
      simp only [pb_pb, pb_ok] at hR
      exact hK _ ⟨0, hf, by omega, Or.inl ⟨rfl, hR⟩⟩
    · rw [oI_z (by omega)] at c
      rw [if_pos c, pb_er] at hR
      rw [h3, bd_s (x_blame (S := wd_o S [(314, (S.1 314)), (315, (S.1 315)), (316, (S.1 316)), (317, (S.1 317)), (1402, (S.1 1402)), (1403, nI q), (1404, (S.1 1404)), (1405, nI d)] [] [] [] []) (q := q) (k := 2) (p2 := (2 : Int32)) (f := 0) (by omega) (by omega) rfl hf (by omega)), if_pos rfl]
      exact hK _ ⟨flt q 2, rfl, hfl.2, Or.inr ⟨hfl.1, hR⟩⟩
  · rintro _ ⟨f0, rfl, hR0⟩
    clear hR
    refine ok_bd (x_what (S := wd_o S [(314, (S.1 314)), (315, (S.1 315)), (316, (S.1 316)), (317, (S.1 317)), (1402, (S.1 1402)), (1403, (S.1 1403)), (1404, nI f0), (1405, (1 : Int32))] [] [] [] []) ht h2 hp rfl hR0) ?_
    rintro _ ⟨w, g, rfl, w4, hR1, _⟩
    have n1 := wE_le (t := t) hp
    have n2 := wE_ge t n p
    have n3 := wB_ge t n p
    dsimp only
    refine ok_lk4 (fun x4 x5 x6 x7 => ∃ m e q' g', x4 = nI m ∧ x5 = nI e ∧ x6 = nI q' ∧ x7 = nI g' ∧ e ≤ n ∧ p ≤ e ∧ ct R g' (pb (pFst t n (l_N L) w e) fun e3 a => pb (pSnd t n (l_N L) w a e3) fun e4 b => k e4 (setW L w m a b))) (fun K hK => ?_) ?_
    · refine ok_lkP (w = 2 ∨ w = 3) (fun K2 hK2 => ?_) (fun z => ?_)
      · rw [li_2, li_3]
        refine ok_ite (fun c => hK2 (Or.inl ?_)) (fun c => ok_ite (fun c2 => hK2 (Or.inr ?_)) (fun c2 => ?_))
        · rw [nI_eq (by omega) (by omega)] at c; exact c
        · rw [nI_eq (by omega) (by omega)] at c2; exact c2
        · rw [nI_eq (by omega) (by omega)] at c c2
          unfold pAmo at hR1
          rw [if_neg c, if_neg c2, pb_ok] at hR1
          exact hK _ _ _ _ ⟨0, wE t n p, wB t n p, g, rfl, rfl, rfl, rfl, n1, by omega, hR1⟩
      · refine ok_lk2 (fun x27 x28 => x28 = nI 1 ∧ ∃ hi, hi ≤ 100 ∧ x27 = nI hi ∧ ct R g (pb (pNum t n (wE t n p) 1 (hi + 1)) fun e2 m => pb (pFst t n (l_N L) w e2) fun e3 a => pb (pSnd t n (l_N L) w a e3) fun e4 b => k e4 (setW L w m a b))) (fun K2 hK2 => ?_) ?_
        · unfold pAmo at hR1
          rw [li_2]
          refine ok_ite (fun c => ?_) (fun c => ?_)
          · rw [nI_eq (by omega) (by omega)] at c
            rw [if_pos c] at hR1
            exact hK2 _ _ ⟨rfl, l_N L, by omega, h300, hR1⟩
          · rw [nI_eq (by omega) (by omega)] at c
            rw [if_neg c, if_pos (by omega)] at hR1
            exact hK2 _ _ ⟨rfl, 99, by omega, rfl, hR1⟩
        · rintro _ _ ⟨rfl, hi, hi1, rfl, hR2⟩
          refine ok_bd (x_number (S := wd_o S [(314, (S.1 314)), (315, (S.1 315)), (316, (S.1 316)), (317, (S.1 317)), (1402, nI (wE t n p)), (1403, nI (wB t n p)), (1404, nI g), (1405, (1 : Int32))] [] [] [] []) ht rfl n1 rfl (lo := 1) rfl (by omega) (le_lit (N := hi) (by omega) rfl) hR2) ?_
          rintro _ ⟨m, g2, rfl, m1, hR3, m3⟩
          have k1 := nE_le (t := t) n1
          have k2 := nE_ge t n (wE t n p)
          have k3 := wB_ge t n (wE t n p)
          exact hK _ _ _ _ ⟨m, _, _, g2, rfl, rfl, rfl, rfl, k1, by omega, hR3⟩
    · rintro _ _ _ _ ⟨m, e2, q2, g2, rfl, rfl, rfl, rfl, e2n, pe2, hR2⟩
      refine ok_lk4 (fun x4 x5 x6 x7 => ∃ a e q' g', x4 = nI a ∧ x5 = nI e ∧ x6 = nI q' ∧ x7 = nI g' ∧ a ≤ 1000 ∧ e ≤ n ∧ p ≤ e ∧ ct R g' (pb (pSnd t n (l_N L) w a e) fun e4 b => k e4 (setW L w m a b))) (fun K hK => ?_) ?_
      · unfold pFst at hR2
        rw [li_1]
        refine ok_ite (fun c => ?_) (fun c => ?_)
        · rw [nI_eq (by omega) (by omega)] at c
          rw [if_pos c, pb_ok] at hR2
          exact hK _ _ _ _ ⟨0, e2, q2, g2, rfl, rfl, rfl, rfl, by omega, e2n, pe2, hR2⟩
        · rw [nI_eq (by omega) (by omega)] at c
          rw [if_neg c] at hR2
          refine ok_bd (x_place0 (S := wd_o S [(314, (S.1 314)), (315, (S.1 315)), (316, (S.1 316)), (317, (S.1 317)), (1402, nI e2), (1403, nI q2), (1404, nI g2), (1405, nI 1)] [] [] [] []) (N := l_N L) ht rfl e2n rfl h300 (by omega) hR2) ?_
          rintro _ ⟨a, g', rfl, a1, hR3, a3⟩
          have k1 := nE_le (t := t) e2n
          have k2 := nE_ge t n e2
          have k3 := wB_ge t n e2
          exact hK _ _ _ _ ⟨a, _, _, g', rfl, rfl, rfl, rfl, a1, k1, by omega, hR3⟩
      · rintro _ _ _ _ ⟨a, e3, q3, g3, rfl, rfl, rfl, rfl, a1, e3n, pe3, hR3⟩
        refine ok_lk4 (fun x4 x5 x6 x7 => ∃ b e q' g', x4 = nI b ∧ x5 = nI e ∧ x6 = nI q' ∧ x7 = nI g' ∧ e ≤ n ∧ p ≤ e ∧ ct R g' (k e (setW L w m a b))) (fun K hK => ?_) ?_
        · refine ok_lkP (w = 1 ∨ w = 2) (fun K2 hK2 => ?_) (fun z => ?_)
          · unfold pSnd at hR3
            rw [li_1, li_2]
            refine ok_ite (fun c => hK2 (Or.inl ?_)) (fun c => ok_ite (fun c2 => hK2 (Or.inr ?_)) (fun c2 => ?_))
            · rw [nI_eq (by omega) (by omega)] at c; exact c
            · rw [nI_eq (by omega) (by omega)] at c2; exact c2
            · rw [nI_eq (by omega) (by omega)] at c c2
              rw [if_neg c, if_neg c2] at hR3
              simp only [pb_pb, pb_if, pb_ok] at hR3
              refine ok_bd (x_place1 (S := wd_o S [(314, (S.1 314)), (315, (S.1 315)), (316, (S.1 316)), (317, (S.1 317)), (1402, nI e3), (1403, nI q3), (1404, nI g3), (1405, nI 1)] [] [] [] []) (N := l_N L) (a := a) ht rfl e3n rfl h300 (by omega) a1 hR3) ?_
              rintro _ ⟨b, g', rfl, b1, hR4, b3⟩
              have k1 := nE_le (t := t) e3n
              have k2 := nE_ge t n e3
              have k3 := wB_ge t n e3
              exact hK _ _ _ _ ⟨b, _, _, g', rfl, rfl, rfl, rfl, k1, by omega, hR4⟩
          · unfold pSnd at hR3
            have hR4 : ct R g3 (k e3 (setW L w m a 0)) := by
              rcases z with z | z
              · rw [if_pos z, pb_ok] at hR3; exact hR3
              · rw [if_neg (by omega), if_pos z, pb_ok] at hR3; exact hR3
            exact hK _ _ _ _ ⟨0, e3, q3, g3, rfl, rfl, rfl, rfl, e3n, pe3, hR4⟩
        · rintro _ _ _ _ ⟨b, e4, q4, g4, rfl, rfl, rfl, rfl, e4n, pe4, hR4⟩
          refine ok_some ⟨e4, q4, g4, rfl, rfl, rfl, rfl, e4n, pe4, _, hR4, fun _ => ?_⟩
          obtain ⟨⟨g0, g1, g2, g3, g4, g5, g6, g7⟩, gl, gk, gc⟩ := hx
          exact ⟨⟨g0, g1, g2, g3, rfl, rfl, rfl, rfl⟩, gl, gk, gc⟩
theorem x_readClause {S : wd_W} {n p d : Nat} {t : Nat → Nat} {L : Ld} {β : Type} {R : Except Nat β} {k : Nat → Ld × Nat → Except Nat β} (ht : XTa S n t) (hp : p ≤ n) (h2 : S.1 1402 = nI p) (hf : S.1 1404 = nI 0) (h5 : S.1 1405 = nI d) (hd : d ≤ 1) (hL : lOk L) (hc : l_c L ≤ 3) (hx : xL S 3 L) (hR : ct R 0 (pb (pClause t n L d p) k)) :
    Ok (f_X9_readClause_q14 S) (fun o => ∃ e q' g d', o.2.2.2.2.2.2.2.1 = nI e ∧ o.2.2.2.2.2.2.2.2.1 = nI q' ∧ o.2.2.2.2.2.2.2.2.2.1 = nI g ∧ o.2.2.2.2.2.2.2.2.2.2.1 = nI d' ∧ d' ≤ 1 ∧ e ≤ n ∧ p ≤ e ∧ ∃ K, ct R g (k e (K, d')) ∧ (g = 0 → xL (wd_o S [(301, o.1), (307, o.2.1), (310, o.2.2.1), (314, o.2.2.2.1), (315, o.2.2.2.2.1), (316, o.2.2.2.2.2.1), (317, o.2.2.2.2.2.2.1)] [] [(4, o.2.2.2.2.2.2.2.2.2.2.2.1), (5, o.2.2.2.2.2.2.2.2.2.2.2.2.1), (6, o.2.2.2.2.2.2.2.2.2.2.2.2.2.1), (7, o.2.2.2.2.2.2.2.2.2.2.2.2.2.2.1), (8, o.2.2.2.2.2.2.2.2.2.2.2.2.2.2.2.1), (9, o.2.2.2.2.2.2.2.2.2.2.2.2.2.2.2.2.1), (10, o.2.2.2.2.2.2.2.2.2.2.2.2.2.2.2.2.2.1), (11, o.2.2.2.2.2.2.2.2.2.2.2.2.2.2.2.2.2.2.1), (12, o.2.2.2.2.2.2.2.2.2.2.2.2.2.2.2.2.2.2.2.1), (13, o.2.2.2.2.2.2.2.2.2.2.2.2.2.2.2.2.2.2.2.2)] [] []) 3 K)) := by
  have h4 := ht.2.1
  have n1 := wE_le (t := t) hp
  have n2 := wE_ge t n p
  have n3 := wB_ge t n p
  have hq := wB_le (t := t) hp
  unfold f_X9_readClause_q14
  rw [bd_s (x_word (S := wd_o S [(301, (S.1 301)), (307, (S.1 307)), (310, (S.1 310)), (314, (S.1 314)), (315, (S.1 315)), (316, (S.1 316)), (317, (S.1 317)), (1402, (S.1 1402)), (1403, (S.1 1403)), (1404, (S.1 1404)), (1405, (S.1 1405))] [] [(4, (S.2.2.1 4)), (5, (S.2.2.1 5)), (6, (S.2.2.1 6)), (7, (S.2.2.1 7)), (8, (S.2.2.1 8)), (9, (S.2.2.1 9)), (10, (S.2.2.1 10)), (11, (S.2.2.1 11)), (12, (S.2.2.1 12)), (13, (S.2.2.1 13))] [] []) ht h2 hp)]
  dsimp only
  generalize hS : wd_o S [(301, (S.1 301)), (307, (S.1 307)), (310, (S.1 310)), (314, (S.1 314)), (315, (S.1 315)), (316, (S.1 316)), (317, (S.1 317)), (1402, nI (wE t n p)), (1403, nI (wB t n p)), (1404, (S.1 1404)), (1405, (S.1 1405))] [] [(4, (S.2.2.1 4)), (5, (S.2.2.1 5)), (6, (S.2.2.1 6)), (7, (S.2.2.1 7)), (8, (S.2.2.1 8)), (9, (S.2.2.1 9)), (10, (S.2.2.1 10)), (11, (S.2.2.1 11)), (12, (S.2.2.1 12)), (13, (S.2.2.1 13))] [] [] = S1
  have ht1 : XTa S1 n t := by rw [← hS]; exact ht
  have e2 : S1.1 1402 = nI (wE t n p) := by rw [← hS]; rfl
  have e3 : S1.1 1403 = nI (wB t n p) := by rw [← hS]; rfl
  have ef : S1.1 1404 = nI 0 := by rw [← hS]; exact hf
  have e5 : S1.1 1405 = nI d := by rw [← hS]; exact h5
  have ex : xL S1 3 L := by rw [← hS]; exact hx
  rw [bd_s (x_uw1 ht1 hp e2 e3), bd_s (x_uw4 ht1 hp e2 e3), bd_s (x_uw5 ht1 hp e2 e3), bd_s (x_uw7 ht1 hp e2 e3)]
  unfold pClause at hR
  refine ok_b (fun c => ?_) (fun c => ?_)
  · rw [if_neg (of_decide_eq_false c)] at hR
    refine ok_b (fun c => ?_) (fun c => ?_)
    · rw [if_neg (of_decide_eq_false c)] at hR
      refine ok_b (fun c => ?_) (fun c => ?_)
      · rw [if_neg (of_decide_eq_false c)] at hR
        refine ok_b (fun c => ?_) (fun c => ?_)
        · rw [if_neg (of_decide_eq_false c), pb_er] at hR
          rw [bd_s (x_blame (S := S1) (q := wB t n p) (k := 0) (p2 := (0 : Int32)) (f := 0) (by omega) (by omega) rfl ef (by omega)), if_pos rfl]
          have := ct_blame (k (wE t n p) (L, d)) hR rfl (by omega) (by omega)
          rw [if_pos rfl] at this
          exact ok_some ⟨wE t n p, wB t n p, _, d, rfl, rfl, rfl, h5, hd, n1, by omega, L, this.2, fun z => absurd z this.1⟩
        · rw [if_pos (of_decide_eq_true c), pb_pb] at hR
          simp only [pb_ok] at hR
          refine ok_bd (x_readThrough ht1 n1 hq e2 e3 ef e5 hd hL ex hR) ?_
          rintro o ⟨e, q', g, r1, r2, r3, r4, r5, r6, K, r7, r8⟩
          exact ok_some ⟨e, q', g, 1, r1, r2, r3, r4, by omega, r5, by omega, K, r7, fun z => by have := r8 z; rw [← hS] at this; exact this⟩
      · rw [if_pos (of_decide_eq_true c), pb_pb] at hR
        simp only [pb_ok] at hR
        refine ok_bd (x_readCause ht1 n1 hq e2 e3 ef hL hc ex hR) ?_
        rintro o ⟨e, q', g, r1, r2, r3, r5, r6, K, r7, r8⟩
        exact ok_some ⟨e, q', g, d, r1, r2, r3, h5, hd, r5, by omega, K, r7, fun z => by have := r8 z; rw [← hS] at this; exact this⟩
    · rw [if_pos (of_decide_eq_true c), pb_pb] at hR
      simp only [pb_ok] at hR
      refine ok_bd (x_readKeeper ht1 n1 hq e2 e3 ef hL ex hR) ?_
      rintro o ⟨e, q', g, r1, r2, r3, r5, r6, K, r7, r8⟩
      exact ok_some ⟨e, q', g, d, r1, r2, r3, h5, hd, r5, by omega, K, r7, fun z => by have := r8 z; rw [← hS] at this; exact this⟩
  · rw [if_pos (of_decide_eq_true c), pb_pb] at hR
    simp only [pb_ok] at hR
    refine ok_bd (x_readLine ht1 n1 hq e2 e3 ef hL ex hR) ?_
    rintro o ⟨e, q', g, r1, r2, r3, r5, r6, K, r7, r8⟩
    exact ok_some ⟨e, q', g, d, r1, r2, r3, h5, hd, r5, by omega, K, r7, fun z => by have := r8 z; rw [← hS] at this; exact this⟩
