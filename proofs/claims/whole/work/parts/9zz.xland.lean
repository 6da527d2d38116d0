theorem ok_lkBig {ρ : Type} {B : Int32 → Int32 → Int32 → Int32 → Int32 → Int32 → Int32 → Int32 → Int32 → Int32 → Int32 → (Nat → Int32) → (Nat → Int32) → (Nat → Int32) → (Nat → Int32) → (Nat → Int32) → (Nat → Int32) → (Nat → Int32) → (Nat → Int32) → (Nat → Int32) → (Nat → Int32) → Option ρ} {R : (Int32 → Int32 → Int32 → Int32 → Int32 → Int32 → Int32 → Int32 → Int32 → Int32 → Int32 → (Nat → Int32) → (Nat → Int32) → (Nat → Int32) → (Nat → Int32) → (Nat → Int32) → (Nat → Int32) → (Nat → Int32) → (Nat → Int32) → (Nat → Int32) → (Nat → Int32) → Option ρ) → Option ρ} {Q : ρ → Prop} (I : Int32 → Int32 → Int32 → Int32 → Int32 → Int32 → Int32 → Int32 → Int32 → Int32 → Int32 → (Nat → Int32) → (Nat → Int32) → (Nat → Int32) → (Nat → Int32) → (Nat → Int32) → (Nat → Int32) → (Nat → Int32) → (Nat → Int32) → (Nat → Int32) → (Nat → Int32) → Prop) (hR : ∀ K, (∀ x0 x1 x2 x3 x4 x5 x6 x7 x8 x9 x10 a0 a1 a2 a3 a4 a5 a6 a7 a8 a9, I x0 x1 x2 x3 x4 x5 x6 x7 x8 x9 x10 a0 a1 a2 a3 a4 a5 a6 a7 a8 a9 → Ok (K x0 x1 x2 x3 x4 x5 x6 x7 x8 x9 x10 a0 a1 a2 a3 a4 a5 a6 a7 a8 a9) Q) → Ok (R K) Q) (hB : ∀ x0 x1 x2 x3 x4 x5 x6 x7 x8 x9 x10 a0 a1 a2 a3 a4 a5 a6 a7 a8 a9, I x0 x1 x2 x3 x4 x5 x6 x7 x8 x9 x10 a0 a1 a2 a3 a4 a5 a6 a7 a8 a9 → Ok (B x0 x1 x2 x3 x4 x5 x6 x7 x8 x9 x10 a0 a1 a2 a3 a4 a5 a6 a7 a8 a9) Q) : Ok (lk B R) Q := hR B hB
/-! the developers' land -/
theorem x_clauses {S : wd_W} {n e0 q0 g0 : Nat} {t : Nat → Nat} {L0 : Ld} {R : Except Nat Ld} {o2 : o_X9_readPlaces_q14} {Q : o_X9_readLand_q14 → Prop} (ht : XTa S n t) (U0 : wd_W) (he : e0 ≤ n) (hU : U0.1 300 = o2.1) (h3 : U0.1 1403 = nI q0) (hR : ct R g0 (pText t n n e0 L0 0)) (hg : g0 = 0 → ld3 L0 ∧ xL U0 3 L0)
    (K : Int32 → Int32 → Int32 → Int32 → Int32 → Int32 → Int32 → Int32 → Int32 → Int32 → Int32 → (Nat → Int32) → (Nat → Int32) → (Nat → Int32) → (Nat → Int32) → (Nat → Int32) → (Nat → Int32) → (Nat → Int32) → (Nat → Int32) → (Nat → Int32) → (Nat → Int32) → Option o_X9_readLand_q14)
    (hK : ∀ (U : wd_W) (e q g d : Nat) (L : Ld), U.1 300 = o2.1 → ct R g (.ok L) → (g = 0 → ld3 L ∧ xL U 3 L) → Ok (K (U.1 301) (U.1 307) (U.1 310) (U.1 314) (U.1 315) (U.1 316) (U.1 317) (nI e) (nI q) (nI g) (nI d) (U.2.2.1 4) (U.2.2.1 5) (U.2.2.1 6) (U.2.2.1 7) (U.2.2.1 8) (U.2.2.1 9) (U.2.2.1 10) (U.2.2.1 11) (U.2.2.1 12) (U.2.2.1 13)) Q) :
    Ok (it22 (f_X9_readLand_q14_L28 S o2 K) fuel (nI 0) (U0.1 301) (U0.1 307) (U0.1 310) (U0.1 314) (U0.1 315) (U0.1 316) (U0.1 317) (nI e0) (nI q0) (nI g0) (nI 0) (U0.2.2.1 4) (U0.2.2.1 5) (U0.2.2.1 6) (U0.2.2.1 7) (U0.2.2.1 8) (U0.2.2.1 9) (U0.2.2.1 10) (U0.2.2.1 11) (U0.2.2.1 12) (U0.2.2.1 13)) Q := by
  refine ok_while (W := fun m (s : Nat × wd_W × Nat × Nat × Nat × Nat × Ld) => it22 (f_X9_readLand_q14_L28 S o2 K) m (nI s.1) (s.2.1.1 301) (s.2.1.1 307) (s.2.1.1 310) (s.2.1.1 314) (s.2.1.1 315) (s.2.1.1 316) (s.2.1.1 317) (nI s.2.2.1) (nI s.2.2.2.1) (nI s.2.2.2.2.1) (nI s.2.2.2.2.2.1) (s.2.1.2.2.1 4) (s.2.1.2.2.1 5) (s.2.1.2.2.1 6) (s.2.1.2.2.1 7) (s.2.1.2.2.1 8) (s.2.1.2.2.1 9) (s.2.1.2.2.1 10) (s.2.1.2.2.1 11) (s.2.1.2.2.1 12) (s.2.1.2.2.1 13)) (I := fun s => s.1 ≤ n ∧ s.2.2.1 ≤ n ∧ s.2.2.2.2.2.1 ≤ 1 ∧ s.2.1.1 300 = o2.1 ∧ ct R s.2.2.2.2.1 (pText t n (n - s.1) s.2.2.1 s.2.2.2.2.2.2 s.2.2.2.2.2.1) ∧ (s.2.2.2.2.1 = 0 → ld3 s.2.2.2.2.2.2 ∧ xL s.2.1 3 s.2.2.2.2.2.2)) (μ := fun s => n + 1 - s.1) (s := (0, U0, e0, q0, g0, 0, L0)) ⟨Nat.zero_le _, he, Nat.zero_le _, hU, hR, hg⟩ (by have := ht.2.1; show n + 1 - 0 < _; omega) ?_
  rintro m ⟨i, U, e, q, g, d, L⟩ ⟨hi, en, d1, hU, hR, hg⟩ ih
  dsimp only at hi en d1 hU hR hg
  show Ok (f_X9_readLand_q14_L28 S o2 K (it22 _ m) (nI i) (U.1 301) (U.1 307) (U.1 310) (U.1 314) (U.1 315) (U.1 316) (U.1 317) (nI e) (nI q) (nI g) (nI d) (U.2.2.1 4) (U.2.2.1 5) (U.2.2.1 6) (U.2.2.1 7) (U.2.2.1 8) (U.2.2.1 9) (U.2.2.1 10) (U.2.2.1 11) (U.2.2.1 12) (U.2.2.1 13)) Q
  have h4 := ht.2.1
  have ih2 := fun (U' : wd_W) (e' q' g' d' : Nat) (L' : Ld) (hi' : i < n) h => ih (i + 1, U', e', q', g', d', L') h (by show n + 1 - (i + 1) < n + 1 - i; omega)
  dsimp only at ih2
  clear ih
  generalize it22 (f_X9_readLand_q14_L28 S o2 K) m = r at ih2
  unfold f_X9_readLand_q14_L28
  rw [ht.1]
  refine ok_ite (fun c => ?_) (fun c => ?_)
  · rw [nI_leI (by omega) (by omega)] at c
    rw [show n - i = 0 by omega, pText] at hR
    exact hK U e q g d L hU hR hg
  rw [nI_leI (by omega) (by omega)] at c
  have hg16 : g < 2 ^ 16 := hR.1
  refine ok_ite (fun z => ?_) (fun z => ?_)
  · rw [oI_z (by omega)] at z
    subst z
    obtain ⟨hL, hx⟩ := hg rfl
    have hR := ct_0 hR
    rw [show n - i = (n - (i + 1)) + 1 by omega, pText] at hR
    have hq := wB_le (t := t) en
    rw [bd_s (x_more (S := wd_o S [(300, o2.1), (301, U.1 301), (307, U.1 307), (310, U.1 310), (314, U.1 314), (315, U.1 315), (316, U.1 316), (317, U.1 317), (1402, nI e), (1403, nI q), (1404, nI 0), (1405, nI d)] [] [(4, U.2.2.1 4), (5, U.2.2.1 5), (6, U.2.2.1 6), (7, U.2.2.1 7), (8, U.2.2.1 8), (9, U.2.2.1 9), (10, U.2.2.1 10), (11, U.2.2.1 11), (12, U.2.2.1 12), (13, U.2.2.1 13)] [] []) ht rfl en)]
    refine ok_b (fun z => ?_) (fun z => ?_)
    · have z := of_decide_eq_false z
      rw [if_pos (by omega)] at hR
      exact hK U (wB t n e) q 0 d L hU ⟨by omega, Or.inl ⟨rfl, hR⟩⟩ (fun _ => ⟨hL, hx⟩)
    · have z := of_decide_eq_true z
      rw [if_neg (by omega)] at hR
      have hb := ht.2.2 _ z
      dsimp only
      rw [gd_in (by omega) (by omega)]
      refine ok_lkBig (fun x50 x51 x52 x53 x54 x55 x56 x57 x58 x59 x60 a61 a62 a63 a64 a65 a66 a67 a68 a69 a70 => ∃ (U' : wd_W) (e' q' g' d' : Nat) (L' : Ld), (x50 = U'.1 301 ∧ x51 = U'.1 307 ∧ x52 = U'.1 310 ∧ x53 = U'.1 314 ∧ x54 = U'.1 315 ∧ x55 = U'.1 316 ∧ x56 = U'.1 317 ∧ x57 = nI e' ∧ x58 = nI q' ∧ x59 = nI g' ∧ x60 = nI d' ∧ a61 = U'.2.2.1 4 ∧ a62 = U'.2.2.1 5 ∧ a63 = U'.2.2.1 6 ∧ a64 = U'.2.2.1 7 ∧ a65 = U'.2.2.1 8 ∧ a66 = U'.2.2.1 9 ∧ a67 = U'.2.2.1 10 ∧ a68 = U'.2.2.1 11 ∧ a69 = U'.2.2.1 12 ∧ a70 = U'.2.2.1 13) ∧ e' ≤ n ∧ d' ≤ 1 ∧ U'.1 300 = o2.1 ∧ ct R g' (pText t n (n - (i + 1)) e' L' d') ∧ (g' = 0 → ld3 L' ∧ xL U' 3 L')) (fun K2 hK2 => ?_) ?_
      · rw [nI_clamp (by omega), hb.2, li_59]
        refine ok_ite (fun y => ?_) (fun y => ?_)
        · rw [nI_eq (by omega) (by omega)] at y
          rw [if_pos y] at hR
          rw [nI_1, lz_eq]
          have hx1 : xL (wd_o S [(300, o2.1), (301, U.1 301), (307, U.1 307), (310, U.1 310), (314, U.1 314), (315, U.1 315), (316, U.1 316), (317, U.1 317), (1402, nI (wB t n e + 1)), (1403, nI q), (1404, nI 0), (1405, nI d)] [] [(4, U.2.2.1 4), (5, U.2.2.1 5), (6, U.2.2.1 6), (7, U.2.2.1 7), (8, U.2.2.1 8), (9, U.2.2.1 9), (10, U.2.2.1 10), (11, U.2.2.1 11), (12, U.2.2.1 12), (13, U.2.2.1 13)] [] []) 3 L := by
            obtain ⟨⟨k0, k1⟩, k2⟩ := hx
            exact ⟨⟨hU.symm.trans k0, k1⟩, k2⟩
          refine ok_bd (x_readClause (S := wd_o S [(300, o2.1), (301, U.1 301), (307, U.1 307), (310, U.1 310), (314, U.1 314), (315, U.1 315), (316, U.1 316), (317, U.1 317), (1402, nI (wB t n e + 1)), (1403, nI q), (1404, nI 0), (1405, nI d)] [] [(4, U.2.2.1 4), (5, U.2.2.1 5), (6, U.2.2.1 6), (7, U.2.2.1 7), (8, U.2.2.1 8), (9, U.2.2.1 9), (10, U.2.2.1 10), (11, U.2.2.1 11), (12, U.2.2.1 12), (13, U.2.2.1 13)] [] []) (L := L) (d := d) (p := wB t n e + 1) (R := pClause t n L d (wB t n e + 1)) (k := fun e s => .ok (e, s)) ht (by omega) rfl rfl rfl d1 hL.1 hL.2 hx1 ⟨by omega, Or.inl ⟨rfl, (pb_id _).symm⟩⟩) ?_
          rintro o ⟨e', q', g', d', r1, r2, r3, r4, r5, r6, r7, L', r8, r9⟩
          rw [r1, r2, r3, r4]
          refine hK2 _ _ _ _ _ _ _ _ _ _ _ _ _ _ _ _ _ _ _ _ _ ⟨wd_o (wd_o S [(300, o2.1), (301, U.1 301), (307, U.1 307), (310, U.1 310), (314, U.1 314), (315, U.1 315), (316, U.1 316), (317, U.1 317), (1402, nI (wB t n e + 1)), (1403, nI q), (1404, nI 0), (1405, nI d)] [] [(4, U.2.2.1 4), (5, U.2.2.1 5), (6, U.2.2.1 6), (7, U.2.2.1 7), (8, U.2.2.1 8), (9, U.2.2.1 9), (10, U.2.2.1 10), (11, U.2.2.1 11), (12, U.2.2.1 12), (13, U.2.2.1 13)] [] []) [(301, o.1), (307, o.2.1), (310, o.2.2.1), (314, o.2.2.2.1), (315, o.2.2.2.2.1), (316, o.2.2.2.2.2.1), (317, o.2.2.2.2.2.2.1), (1403, nI q')] [] [(4, o.2.2.2.2.2.2.2.2.2.2.2.1), (5, o.2.2.2.2.2.2.2.2.2.2.2.2.1), (6, o.2.2.2.2.2.2.2.2.2.2.2.2.2.1), (7, o.2.2.2.2.2.2.2.2.2.2.2.2.2.2.1), (8, o.2.2.2.2.2.2.2.2.2.2.2.2.2.2.2.1), (9, o.2.2.2.2.2.2.2.2.2.2.2.2.2.2.2.2.1), (10, o.2.2.2.2.2.2.2.2.2.2.2.2.2.2.2.2.2.1), (11, o.2.2.2.2.2.2.2.2.2.2.2.2.2.2.2.2.2.2.1), (12, o.2.2.2.2.2.2.2.2.2.2.2.2.2.2.2.2.2.2.2.1), (13, o.2.2.2.2.2.2.2.2.2.2.2.2.2.2.2.2.2.2.2.2)] [] [], e', q', g', d', L', ⟨rfl, rfl, rfl, rfl, rfl, rfl, rfl, rfl, rfl, rfl, rfl, rfl, rfl, rfl, rfl, rfl, rfl, rfl, rfl, rfl, rfl⟩, r6, r5, rfl, ?_, fun g0 => ?_⟩
          · by_cases g0 : g' = 0
            · subst g0
              have r8 := ct_0 r8
              rw [r8, pb_ok] at hR
              exact ⟨by omega, Or.inl ⟨rfl, hR⟩⟩
            · have w := r8
              rcases w.2 with w | w
              · exact absurd w.1 g0
              · rw [w.2, pb_er] at hR
                exact ⟨r8.1, Or.inr ⟨g0, hR⟩⟩
          · subst g0
            have r8 := ct_0 r8
            exact ⟨(pClause_inv hL r8).1, r9 rfl⟩
        · rw [nI_eq (by omega) (by omega)] at y
          rw [if_neg y] at hR
          rw [bd_s (x_blame (S := wd_o S [(300, o2.1), (301, U.1 301), (307, U.1 307), (310, U.1 310), (314, U.1 314), (315, U.1 315), (316, U.1 316), (317, U.1 317), (1402, nI (wB t n e)), (1403, nI q), (1404, nI 0), (1405, nI d)] [] [(4, U.2.2.1 4), (5, U.2.2.1 5), (6, U.2.2.1 6), (7, U.2.2.1 7), (8, U.2.2.1 8), (9, U.2.2.1 9), (10, U.2.2.1 10), (11, U.2.2.1 11), (12, U.2.2.1 12), (13, U.2.2.1 13)] [] []) (q := wB t n e) (k := 0) (p2 := (0 : Int32)) (f := 0) (by omega) (by omega) rfl rfl (by omega)), if_pos rfl]
          have hfl : flt (wB t n e) 0 ≠ 0 ∧ flt (wB t n e) 0 < 2 ^ 16 := by unfold flt; omega
          exact hK2 _ _ _ _ _ _ _ _ _ _ _ _ _ _ _ _ _ _ _ _ _ ⟨U, wB t n e, q, flt (wB t n e) 0, d, L, ⟨rfl, rfl, rfl, rfl, rfl, rfl, rfl, rfl, rfl, rfl, rfl, rfl, rfl, rfl, rfl, rfl, rfl, rfl, rfl, rfl, rfl⟩, hq, d1, hU, ⟨hfl.2, Or.inr ⟨hfl.1, hR⟩⟩, fun w => absurd w hfl.1⟩
      · rintro _ _ _ _ _ _ _ _ _ _ _ _ _ _ _ _ _ _ _ _ _ ⟨U', e', q', g', d', L', ⟨rfl, rfl, rfl, rfl, rfl, rfl, rfl, rfl, rfl, rfl, rfl, rfl, rfl, rfl, rfl, rfl, rfl, rfl, rfl, rfl, rfl⟩, k1, k2, k3, k4, k5⟩
        rw [nI_1]
        exact ih2 U' e' q' g' d' L' (by omega) ⟨by omega, k1, k2, k3, k4, k5⟩
  · rw [oI_z (by omega)] at z
    exact hK U e q g d L hU (ct_f hR _ z) (fun w => absurd w z)
def pPl (t : Nat → Nat) (n p : Nat) : PR Nat := if uw t n p = kw0 then pNum t n (wE t n p) 2 11 else .error (flt (wB t n p) 0)
theorem pLand_eq (t : Nat → Nat) (n : Nat) : pLand t n = pb (pPl t n 0) fun e N => pText t n n e (L0 N) 0 := by
  unfold pLand pPl
  by_cases c : uw t n 0 = kw0
  · rw [if_pos c, if_pos c]
  · rw [if_neg c, if_neg c, pb_er]
theorem x_readPlaces {S : wd_W} {n : Nat} {t : Nat → Nat} {β : Type} {R : Except Nat β} {k : Nat → Nat → Except Nat β} (ht : XTa S n t) (h : S.1 1402 = nI 0) (hf : S.1 1404 = nI 0) (hR : R = pb (pPl t n 0) k) :
    Ok (f_X9_readPlaces_q14 S) (fun o => ∃ e q g N, o.2.1 = nI e ∧ o.2.2.1 = nI q ∧ o.2.2.2 = nI g ∧ e ≤ n ∧ ct R g (k e N) ∧ (g = 0 → o.1 = nI N ∧ 2 ≤ N ∧ N ≤ 10)) := by
  have h4 := ht.2.1
  have n1 := wE_le (t := t) (Nat.zero_le n)
  have hq := wB_le (t := t) (Nat.zero_le n)
  unfold f_X9_readPlaces_q14
  rw [bd_s (x_word (S := wd_o S [(300, (S.1 300)), (1402, (S.1 1402)), (1403, (S.1 1403)), (1404, (S.1 1404))] [] [] [] []) ht h (Nat.zero_le n))]
  dsimp only
  rw [bd_s (x_uw0 (S := wd_o S [(300, (S.1 300)), (1402, nI (wE t n 0)), (1403, nI (wB t n 0)), (1404, (S.1 1404))] [] [] [] []) ht (Nat.zero_le n) rfl rfl)]
  refine ok_lk1 (fun x => ∃ f, x = nI f ∧ ct R f (pb (pNum t n (wE t n 0) 2 11) k)) (fun K hK => ?_) ?_
  · unfold pPl at hR
    refine ok_b (fun c => ?_) (fun c => ?_)
    · rw [if_neg (of_decide_eq_false c), pb_er] at hR
      rw [bd_s (x_blame (S := wd_o S [(300, (S.1 300)), (1402, nI (wE t n 0)), (1403, nI (wB t n 0)), (1404, (S.1 1404))] [] [] [] []) (q := wB t n 0) (k := 0) (p2 := (0 : Int32)) (f := 0) (by omega) (by omega) rfl hf (by omega)), if_pos rfl]
      have hfl : flt (wB t n 0) 0 ≠ 0 ∧ flt (wB t n 0) 0 < 2 ^ 16 := by unfold flt; omega
      exact hK _ ⟨_, rfl, hfl.2, Or.inr ⟨hfl.1, hR⟩⟩
    · rw [if_pos (of_decide_eq_true c)] at hR
      exact hK _ ⟨0, hf, by omega, Or.inl ⟨rfl, hR⟩⟩
  · rintro _ ⟨f, rfl, hR1⟩
    refine ok_bd (x_number (S := wd_o S [(300, (S.1 300)), (1402, nI (wE t n 0)), (1403, nI (wB t n 0)), (1404, nI f)] [] [] [] []) ht rfl n1 rfl (lo := 2) rfl (by omega) (le_lit (N := 10) (by omega) rfl) hR1) ?_
    rintro _ ⟨v, g, rfl, v1, v2, v3⟩
    have k1 := nE_le (t := t) n1
    have hg : g < 2 ^ 16 := v2.1
    dsimp only
    refine ok_ite (fun z => ?_) (fun z => ?_)
    · rw [oI_z (by omega)] at z
      have := v3 z
      exact ok_some ⟨_, _, g, v, rfl, rfl, rfl, k1, v2, fun _ => ⟨rfl, by omega, by omega⟩⟩
    · rw [oI_z (by omega)] at z
      exact ok_some ⟨_, _, g, v, rfl, rfl, rfl, k1, v2, fun w => absurd w z⟩
theorem x_readLand {S : wd_W} {n : Nat} {t : Nat → Nat} (ht : XTa S n t) : Ok (f_X9_readLand_q14 S) (fun o => ∃ g L, o.1 = nI g ∧ ct (pLand t n) g (.ok L) ∧ (g = 0 → ld3 L ∧ xL (wd_o S [(300, o.2.1), (301, o.2.2.1), (307, o.2.2.2.1), (310, o.2.2.2.2.1), (314, o.2.2.2.2.2.1), (315, o.2.2.2.2.2.2.1), (316, o.2.2.2.2.2.2.2.1), (317, o.2.2.2.2.2.2.2.2.1)] [] [(4, o.2.2.2.2.2.2.2.2.2.2.2.2.2.1), (5, o.2.2.2.2.2.2.2.2.2.2.2.2.2.2.1), (6, o.2.2.2.2.2.2.2.2.2.2.2.2.2.2.2.1), (7, o.2.2.2.2.2.2.2.2.2.2.2.2.2.2.2.2.1), (8, o.2.2.2.2.2.2.2.2.2.2.2.2.2.2.2.2.2.1), (9, o.2.2.2.2.2.2.2.2.2.2.2.2.2.2.2.2.2.2.1), (10, o.2.2.2.2.2.2.2.2.2.2.2.2.2.2.2.2.2.2.2.1), (11, o.2.2.2.2.2.2.2.2.2.2.2.2.2.2.2.2.2.2.2.2.1), (12, o.2.2.2.2.2.2.2.2.2.2.2.2.2.2.2.2.2.2.2.2.2.1), (13, o.2.2.2.2.2.2.2.2.2.2.2.2.2.2.2.2.2.2.2.2.2.2)] [] []) 3 L)) := by
  unfold f_X9_readLand_q14 f_X2_clear_q3 f_X2_countBy_q3
  rw [bd_some, bd_some]
  dsimp only
  refine ok_bd (x_readPlaces (S := wd_o S [(300, (2 : Int32)), (301, (0 : Int32)), (307, (0 : Int32)), (310, (0 : Int32)), (314, (1 : Int32)), (315, (0 : Int32)), (316, (0 : Int32)), (317, (0 : Int32)), (1402, (0 : Int32)), (1403, (S.1 1403)), (1404, (0 : Int32)), (1405, (0 : Int32))] [] [(4, (S.2.2.1 4)), (5, (S.2.2.1 5)), (6, (S.2.2.1 6)), (7, (S.2.2.1 7)), (8, (S.2.2.1 8)), (9, (S.2.2.1 9)), (10, (S.2.2.1 10)), (11, (S.2.2.1 11)), (12, (S.2.2.1 12)), (13, (S.2.2.1 13))] [] []) (n := n) (t := t) ht rfl rfl (pLand_eq t n)) ?_
  rintro ⟨x0, x1, x2, x3⟩ ⟨e, q, g, N, e1, e2, e3, en, hR, hN⟩
  dsimp only at e1 e2 e3 hN
  subst e1; subst e2; subst e3
  refine ok_lkBig (fun x50 x51 x52 x53 x54 x55 x56 x57 x58 x59 x60 a61 a62 a63 a64 a65 a66 a67 a68 a69 a70 => ∃ (U' : wd_W) (g' : Nat) (L' : Ld), (x50 = U'.1 301 ∧ x51 = U'.1 307 ∧ x52 = U'.1 310 ∧ x53 = U'.1 314 ∧ x54 = U'.1 315 ∧ x55 = U'.1 316 ∧ x56 = U'.1 317 ∧ x59 = nI g' ∧ a61 = U'.2.2.1 4 ∧ a62 = U'.2.2.1 5 ∧ a63 = U'.2.2.1 6 ∧ a64 = U'.2.2.1 7 ∧ a65 = U'.2.2.1 8 ∧ a66 = U'.2.2.1 9 ∧ a67 = U'.2.2.1 10 ∧ a68 = U'.2.2.1 11 ∧ a69 = U'.2.2.1 12 ∧ a70 = U'.2.2.1 13) ∧ U'.1 300 = x0 ∧ ct (pLand t n) g' (.ok L') ∧ (g' = 0 → ld3 L' ∧ xL U' 3 L')) (fun K hK => ?_) ?_
  · rw [li_0]
    refine x_clauses (o2 := (x0, nI e, nI q, nI g)) ht (wd_o S [(300, x0), (301, nI 0), (307, nI 0), (310, nI 0), (314, (1 : Int32)), (315, nI 0), (316, nI 0), (317, nI 0), (1403, nI q)] [] [] [] []) en rfl rfl hR (fun g0 => ?_) K (fun U e' q' g' d' L' h1 h2 h3 => hK _ _ _ _ _ _ _ _ _ _ _ _ _ _ _ _ _ _ _ _ _ ⟨U, g', L', ⟨rfl, rfl, rfl, rfl, rfl, rfl, rfl, rfl, rfl, rfl, rfl, rfl, rfl, rfl, rfl, rfl, rfl, rfl⟩, h1, h2, h3⟩)
    obtain ⟨N1, N2, N3⟩ := hN g0
    exact ⟨L0_ok N2 N3, ⟨N1, rfl, rfl, rfl, rfl, rfl, rfl, rfl⟩, fun j hj => absurd hj (Nat.not_lt_zero j), fun j hj => absurd hj (Nat.not_lt_zero j), fun j hj => absurd hj (Nat.not_lt_zero j)⟩
  · rintro _ _ _ _ _ _ _ x57 x58 _ x60 _ _ _ _ _ _ _ _ _ _ ⟨U', g', L', ⟨rfl, rfl, rfl, rfl, rfl, rfl, rfl, rfl, rfl, rfl, rfl, rfl, rfl, rfl, rfl, rfl, rfl, rfl⟩, k3, k4, k5⟩
    refine ok_some ⟨g', L', rfl, k4, fun g0 => ?_⟩
    obtain ⟨k6, ⟨k7, k8⟩, k9⟩ := k5 g0
    exact ⟨k6, ⟨k3.symm.trans k7, k8⟩, k9⟩
