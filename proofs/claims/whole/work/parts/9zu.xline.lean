/-! the developers' clauses: line -/
theorem ok_lkP {ρ : Type} {B : Option ρ} {R : Option ρ → Option ρ} {Q : ρ → Prop} (I : Prop) (hR : ∀ K, (I → Ok K Q) → Ok (R K) Q) (hB : I → Ok B Q) : Ok (lk B R) Q := hR B hB
theorem ok_lk4 {ρ α β γ δ : Type} {B : α → β → γ → δ → Option ρ} {R : (α → β → γ → δ → Option ρ) → Option ρ} {Q : ρ → Prop} (I : α → β → γ → δ → Prop) (hR : ∀ K, (∀ a b c d, I a b c d → Ok (K a b c d) Q) → Ok (R K) Q) (hB : ∀ a b c d, I a b c d → Ok (B a b c d) Q) : Ok (lk B R) Q := hR B hB
theorem ok_lk5 {ρ α β γ δ ε : Type} {B : α → β → γ → δ → ε → Option ρ} {R : (α → β → γ → δ → ε → Option ρ) → Option ρ} {Q : ρ → Prop} (I : α → β → γ → δ → ε → Prop) (hR : ∀ K, (∀ a b c d e, I a b c d e → Ok (K a b c d e) Q) → Ok (R K) Q) (hB : ∀ a b c d e, I a b c d e → Ok (B a b c d e) Q) : Ok (lk B R) Q := hR B hB
theorem pb_if {α β : Type} {c : Prop} {inst : Decidable c} {f : Nat} {r : PR α} {K : Nat → α → Except Nat β} : pb (@ite _ c inst (.error f) r) K = @ite _ c inst (.error f) (pb r K) := by
  by_cases h : c
  · rw [if_pos h, if_pos h, pb_er]
  · rw [if_neg h, if_neg h]
theorem x_refuse {S : wd_W} {L : Ld} {q : Nat} {b : Bool} {p1 : Int32} (hM : l_M L ≤ 15) (h1 : S.1 301 = nI (l_n L)) (h7 : S.1 307 = nI (l_k L)) (h10 : S.1 310 = nI (l_c L)) (hq : q ≤ 400) (h3 : S.1 1403 = nI q) (hf : S.1 1404 = nI 0) (hp1 : p1 = nI (b2n b)) :
    f_X9_refuseIf_q14 S p1 = some (nI (if b = true ∨ l_M L = 15 then flt q 3 else 0)) := by
  subst hp1
  apply ok_e
  unfold f_X9_refuseIf_q14
  refine ok_lkP (b = true ∨ l_M L = 15) (fun K hK => ?_) (fun z => ?_)
  · refine ok_b (fun c => ?_) (fun c => hK (Or.inl c))
    have e : f_X2_things_q3 (wd_o S [(1404, (S.1 1404))] [] [] [] []) = some (nI (l_M L)) := by
      unfold f_X2_things_q3
      show some (S.1 301 + S.1 307 + S.1 310) = _
      rw [h1, h7, h10, nI_add, nI_add]
      rfl
    rw [bd_s e, li_15]
    refine ok_ite (fun d => ?_) (fun d => hK (Or.inr ?_))
    · rw [nI_ltI (by omega) (by omega)] at d
      rw [hf, if_neg (by rw [c]; rintro (z | z); cases z; omega)]
      exact ok_some rfl
    · rw [nI_ltI (by omega) (by omega)] at d; omega
  · rw [h3, bd_s (x_blame (S := wd_o S [(1404, (S.1 1404))] [] [] [] []) (q := q) (k := 3) (p2 := (3 : Int32)) (f := 0) (by omega) (by omega) rfl hf (by omega)), if_pos rfl, if_pos z]
    exact ok_some rfl
theorem x_addLine {S : wd_W} {n : Nat} {p1 p2 p3 p4 p5 : Int32} (h : S.1 301 = nI n) (hn : n < 12) : f_X2_addLine_q3 S p1 p2 p3 p4 p5 = some (nI (n + 1), upd (S.2.2.1 4) n p1, upd (S.2.2.1 5) n p2, upd (S.2.2.1 6) n p3, upd (S.2.2.1 7) n p4, upd (S.2.2.1 8) n p5) := by
  unfold f_X2_addLine_q3
  rw [h, li_13, if_neg (by rw [nI_leI (by omega) (by omega)]; omega), gd_in (by omega) (by omega), lz_eq, gd_in (by omega) (by omega), lz_eq, gd_in (by omega) (by omega), lz_eq, gd_in (by omega) (by omega), lz_eq, gd_in (by omega) (by omega), lz_eq, nI_clamp (by omega), nI_1, lz_eq]
/-- the words behind a line's chance -/
theorem x_opts {S : wd_W} {n p q f : Nat} {t : Nat → Nat} {β : Type} {R : Except Nat β} {k : Nat → Nat × Nat → Except Nat β} {Q : o_X9_readLine_q14 → Prop} (ht : XTa S n t) (hp : p ≤ n) (hR : ct R f (pb (pOpt t n 3 p 0 0) k)) (K : Int32 → Int32 → Int32 → Int32 → Int32 → Option o_X9_readLine_q14)
    (hK : ∀ w d e q g, w ≤ 1 → d ≤ 1000 → e ≤ n → p ≤ e → ct R g (k e (w, d)) → (g = 0 → f = 0) → Ok (K (nI w) (nI d) (nI e) (nI q) (nI g)) Q) :
    Ok (it6 (f_X9_readLine_q14_L50 S K) fuel (nI 0) (nI 0) (nI 0) (nI p) (nI q) (nI f)) Q := by
  refine ok_while (W := fun m (s : Nat × Nat × Nat × Nat × Nat × Nat) => it6 (f_X9_readLine_q14_L50 S K) m (nI s.1) (nI s.2.1) (nI s.2.2.1) (nI s.2.2.2.1) (nI s.2.2.2.2.1) (nI s.2.2.2.2.2)) (I := fun s => s.1 ≤ 1 ∧ s.2.1 ≤ 1000 ∧ s.2.2.1 ≤ 3 ∧ s.2.2.2.1 ≤ n ∧ p ≤ s.2.2.2.1 ∧ ct R s.2.2.2.2.2 (pb (pOpt t n (3 - s.2.2.1) s.2.2.2.1 s.1 s.2.1) k) ∧ (s.2.2.2.2.2 = 0 → s.2.2.1 = s.1 + (if s.2.1 = 0 then 0 else 1)) ∧ (s.2.2.2.2.2 = 0 → f = 0)) (μ := fun s => 4 - s.2.2.1) (s := (0, 0, 0, p, q, f)) ⟨Nat.zero_le _, Nat.zero_le _, Nat.zero_le _, hp, Nat.le_refl _, hR, fun _ => rfl, fun z => z⟩ (by show 4 - 0 < _; omega) ?_
  rintro m ⟨w, d, i, e, q, g⟩ ⟨w1, d1, i3, en, pe, hR, hi, hg⟩ ih
  dsimp only at w1 d1 i3 en pe hR hi hg
  show Ok (f_X9_readLine_q14_L50 S K (it6 _ m) (nI w) (nI d) (nI i) (nI e) (nI q) (nI g)) Q
  have ih2 := fun (w' d' e' q' g' : Nat) h => ih (w', d', i + 1, e', q', g') h (by show 4 - (i + 1) < 4 - i; omega)
  dsimp only at ih2
  clear ih
  generalize it6 (f_X9_readLine_q14_L50 S K) m = r at ih2
  have h4 := ht.2.1
  have hq := wB_le (t := t) en
  have hpq := wB_ge t n e
  unfold f_X9_readLine_q14_L50
  rw [li_400, if_neg (show ¬ nI 400 ≤ nI i by rw [nI_leI (by omega) (by omega)]; omega)]
  refine ok_bd (x_goes (S := wd_o S [(301, (S.1 301)), (1402, nI e), (1403, nI q), (1404, nI g)] [] [(4, (S.2.2.1 4)), (5, (S.2.2.1 5)), (6, (S.2.2.1 6)), (7, (S.2.2.1 7)), (8, (S.2.2.1 8))] [] []) ht rfl en rfl hR.1) ?_
  rintro o ⟨o1, o2⟩
  by_cases g0 : g = 0
  · subst g0
    obtain ⟨o3, o4, o5⟩ := o2 rfl
    have hi := hi rfl
    have hf0 : f = 0 := hg rfl
    have i2 : i ≤ 2 := by
      split at hi <;> omega
    rw [show 3 - i = (2 - i) + 1 by omega, pOpt] at hR
    by_cases c : n ≤ wB t n e
    · rw [o3 c]
      rw [if_pos c, pb_ok] at hR
      rw [if_pos (show ((nI 0, nI (wB t n e)) : Int32 × Int32).1 = 0 from rfl)]
      exact hK w d _ q 0 w1 d1 hq (by omega) hR (fun _ => hf0)
    · rw [if_neg c] at hR
      by_cases c2 : t (wB t n e) = 59
      · rw [o4 (by omega) c2]
        rw [if_pos c2, pb_ok] at hR
        rw [if_pos (show ((nI 0, nI (wB t n e)) : Int32 × Int32).1 = 0 from rfl)]
        exact hK w d _ q 0 w1 d1 hq (by omega) hR (fun _ => hf0)
      · rw [o5 (by omega) c2]
        rw [if_neg c2] at hR
        have hR := ct_0 hR
        rw [if_neg (show ¬ ((nI 1, nI (wB t n e)) : Int32 × Int32).1 = 0 from n1_ne)]
        dsimp only
        have eWW : wB t n (wB t n e) = wB t n e := wB_wB t n e
        have eEE : wE t n (wB t n e) = wE t n e := wE_wB t n e
        have eu : uw t n (wB t n e) = uw t n e := uw_wB t n e
        rw [bd_s (x_word (S := wd_o S [(301, (S.1 301)), (1402, nI (wB t n e)), (1403, nI q), (1404, nI 0)] [] [(4, (S.2.2.1 4)), (5, (S.2.2.1 5)), (6, (S.2.2.1 6)), (7, (S.2.2.1 7)), (8, (S.2.2.1 8))] [] []) ht rfl hq), eWW, eEE]
        dsimp only
        have en2 := wE_le (t := t) en
        have hpe := wE_ge t n e
        rw [bd_s (x_uw2 (S := wd_o S [(301, (S.1 301)), (1402, nI (wE t n e)), (1403, nI (wB t n e)), (1404, nI 0)] [] [(4, (S.2.2.1 4)), (5, (S.2.2.1 5)), (6, (S.2.2.1 6)), (7, (S.2.2.1 7)), (8, (S.2.2.1 8))] [] []) ht en rfl rfl)]
        refine ok_lk5 (fun a b c d' e' => ∃ w' d1' e1 q1 g1, a = nI w' ∧ b = nI d1' ∧ c = nI e1 ∧ d' = nI q1 ∧ e' = nI g1 ∧ w' ≤ 1 ∧ d1' ≤ 1000 ∧ e1 ≤ n ∧ p ≤ e1 ∧ ct R g1 (pb (pOpt t n (3 - (i + 1)) e1 w' d1') k) ∧ (g1 = 0 → i + 1 = w' + (if d1' = 0 then 0 else 1))) (fun K1 hK1 => ?_) ?_
        · refine ok_lkP (¬ (uw t n e = kw2 ∧ w = 0)) (fun K2 hK2 => ?_) (fun z => ?_)
          · refine ok_b (fun y => hK2 (fun z => (of_decide_eq_false y) z.1)) (fun y => ?_)
            have y := of_decide_eq_true y
            refine ok_ite (fun v => ?_) (fun v => hK2 (fun z => v (by rw [z.2]; rfl)))
            rw [oI_z (by omega)] at v
            rw [if_pos y, if_pos v] at hR
            rw [li_1]
            refine hK1 _ _ _ _ _ ⟨1, d, wE t n e, wB t n e, 0, rfl, rfl, rfl, rfl, rfl, Nat.le_refl _, d1, en2, by omega, ?_, fun _ => by omega⟩
            rw [show 3 - (i + 1) = 2 - i by omega]
            exact ⟨by omega, Or.inl ⟨rfl, hR⟩⟩
          · rw [bd_s (x_uw3 (S := wd_o S [(301, (S.1 301)), (1402, nI (wE t n e)), (1403, nI (wB t n e)), (1404, nI 0)] [] [(4, (S.2.2.1 4)), (5, (S.2.2.1 5)), (6, (S.2.2.1 6)), (7, (S.2.2.1 7)), (8, (S.2.2.1 8))] [] []) ht en rfl rfl)]
            refine ok_lkP (R = .error (flt (wB t n e) 0)) (fun K2 hK2 => ?_) (fun z2 => ?_)
            · by_cases y2 : uw t n e = kw2
              · rw [if_pos y2, if_neg (fun y => z ⟨y2, y⟩)] at hR
                have y3 : uw t n e ≠ kw3 := by rw [y2]; decide
                rw [decide_eq_false y3]
                exact hK2 hR
              · rw [if_neg y2] at hR
                refine ok_b (fun y => hK2 ?_) (fun y => ?_)
                · rw [if_neg (of_decide_eq_false y)] at hR
                  exact hR
                · rw [if_pos (of_decide_eq_true y)] at hR
                  refine ok_ite (fun v => ?_) (fun v => hK2 ?_)
                  · rw [oI_z (by omega)] at v
                    rw [if_pos v, pb_pb] at hR
                    refine ok_bd (x_number (S := wd_o S [(301, (S.1 301)), (1402, nI (wE t n e)), (1403, nI (wB t n e)), (1404, nI 0)] [] [(4, (S.2.2.1 4)), (5, (S.2.2.1 5)), (6, (S.2.2.1 6)), (7, (S.2.2.1 7)), (8, (S.2.2.1 8))] [] []) ht rfl en2 rfl (lo := 1) rfl (by omega) (le_lit (N := 9) (by omega) rfl) (R := R) (f := 0) ⟨by omega, Or.inl ⟨rfl, hR⟩⟩) ?_
                    rintro _ ⟨v', g', rfl, v1, v2, v3⟩
                    have n1 := nE_le (t := t) en2
                    have n2 := nE_ge t n (wE t n e)
                    have n3 := wB_ge t n (wE t n e)
                    refine hK1 _ _ _ _ _ ⟨w, v', nE t n (wE t n e), wB t n (wE t n e), g', rfl, rfl, rfl, rfl, rfl, w1, v1, n1, by omega, ?_, fun z0 => ?_⟩
                    · rw [show 3 - (i + 1) = 2 - i by omega]
                      exact v2
                    · have := v3 z0
                      rw [if_neg (by omega)]
                      rw [if_pos v] at hi
                      omega
                  · rw [if_neg (fun z0 => v (by rw [z0]; rfl))] at hR
                    exact hR
            · rw [bd_s (x_blame (S := wd_o S [(301, (S.1 301)), (1402, nI (wE t n e)), (1403, nI (wB t n e)), (1404, nI 0)] [] [(4, (S.2.2.1 4)), (5, (S.2.2.1 5)), (6, (S.2.2.1 6)), (7, (S.2.2.1 7)), (8, (S.2.2.1 8))] [] []) (q := wB t n e) (k := 0) (p2 := (0 : Int32)) (f := 0) (by omega) (by omega) rfl rfl (by omega)), if_pos rfl]
              have hfl : flt (wB t n e) 0 ≠ 0 ∧ flt (wB t n e) 0 < 2 ^ 16 := by unfold flt; omega
              exact hK1 _ _ _ _ _ ⟨w, d, wE t n e, wB t n e, flt (wB t n e) 0, rfl, rfl, rfl, rfl, rfl, w1, d1, en2, by omega, ⟨hfl.2, Or.inr ⟨hfl.1, z2⟩⟩, fun z => absurd z hfl.1⟩
        · rintro a b c d' e' ⟨w', d1', e1, q1, g1, rfl, rfl, rfl, rfl, rfl, k1, k2, k3, k4, k5, k6⟩
          rw [nI_1]
          exact ih2 w' d1' e1 q1 g1 ⟨k1, k2, by omega, k3, k4, k5, k6, fun _ => hf0⟩
  · rw [o1 g0, if_pos (show ((nI 0, nI e) : Int32 × Int32).1 = 0 from rfl)]
    exact hK w d e q g w1 d1 en pe (ct_f hR _ g0) hg
