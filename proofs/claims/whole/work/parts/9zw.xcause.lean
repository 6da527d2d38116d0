/-! the developers' clauses: cause, through -/
def pItem1 (t : Nat → Nat) (n : Nat) (L : Ld) (f i p x y : Nat) : PR (Nat × Nat) :=
  if uw t n p = kw1 then pb (pNum t n (wE t n p) 0 (l_n L)) fun e v => pItems t n L f (i + 1) e (x ||| 2 ^ v) y
  else if uw t n p = kw6 then pb (pNum t n (wE t n p) 0 (l_N L)) fun e v => pItems t n L f (i + 1) e x (y ||| 2 ^ v)
  else .error (flt (wB t n p) 0)
theorem pItem1_wB (t : Nat → Nat) (n : Nat) (L : Ld) (f i p x y : Nat) : pItem1 t n L f i (wB t n p) x y = pItem1 t n L f i p x y := by
  unfold pItem1
  rw [uw_wB, wE_wB, wB_wB]
theorem pItems_s (t : Nat → Nat) (n : Nat) (L : Ld) (f i p x y : Nat) : pItems t n L (f + 1) i p x y = if i ≠ 0 ∧ n ≤ wB t n p then .ok (wB t n p, x, y) else if i ≠ 0 ∧ t (wB t n p) = 59 then .ok (wB t n p, x, y) else pItem1 t n L f i p x y := rfl
theorem or_p2 {x v : Nat} {m : Int32} (hm : m = nI x) (hv : v < 31) : m ||| ((1 : Int32) <<< (nI v &&& 31)) = nI (x ||| 2 ^ v) := by
  subst hm
  rw [oI_pow hv, oI_or]
theorem x_items {S : wd_W} {n p q f : Nat} {t : Nat → Nat} {L : Ld} {β : Type} {R : Except Nat β} {k : Nat → Nat × Nat → Except Nat β} {Q : o_X9_readCause_q14 → Prop} (ht : XTa S n t) (hp : p ≤ n) (hL : lOk L) (h300 : S.1 300 = nI (l_N L)) (h301 : S.1 301 = nI (l_n L)) (hR : ct R f (pb (pItems t n L 400 0 p 0 0) k)) (K : Int32 → Int32 → Int32 → Int32 → Int32 → Option o_X9_readCause_q14)
    (hK : ∀ a b e q g x y, e ≤ n → p ≤ e → ct R g (k e (x, y)) → (g = 0 → f = 0 ∧ a = nI x ∧ b = nI y) → Ok (K a b (nI e) (nI q) (nI g)) Q) :
    Ok (it6 (f_X9_readCause_q14_L35 S K) fuel (nI 0) (nI 0) (nI 0) (nI p) (nI q) (nI f)) Q := by
  obtain ⟨c1, c2, c3, c4, c5⟩ := lOk_cnt hL
  refine ok_while (W := fun m (s : Int32 × Int32 × Nat × Nat × Nat × Nat × Nat × Nat) => it6 (f_X9_readCause_q14_L35 S K) m s.1 s.2.1 (nI s.2.2.1) (nI s.2.2.2.1) (nI s.2.2.2.2.1) (nI s.2.2.2.2.2.1)) (I := fun s => s.2.2.1 ≤ 400 ∧ s.2.2.2.1 ≤ n ∧ p ≤ s.2.2.2.1 ∧ ct R s.2.2.2.2.2.1 (pb (pItems t n L (400 - s.2.2.1) s.2.2.1 s.2.2.2.1 s.2.2.2.2.2.2.1 s.2.2.2.2.2.2.2) k) ∧ (s.2.2.2.2.2.1 = 0 → f = 0 ∧ s.1 = nI s.2.2.2.2.2.2.1 ∧ s.2.1 = nI s.2.2.2.2.2.2.2)) (μ := fun s => 401 - s.2.2.1) (s := (nI 0, nI 0, 0, p, q, f, 0, 0)) ⟨Nat.zero_le _, hp, Nat.le_refl _, hR, fun z => ⟨z, rfl, rfl⟩⟩ (by show 401 - 0 < _; omega) ?_
  rintro m ⟨a, b, i, e, q, g, x, y⟩ ⟨i4, en, pe, hR, hg⟩ ih
  dsimp only at i4 en pe hR hg
  show Ok (f_X9_readCause_q14_L35 S K (it6 _ m) a b (nI i) (nI e) (nI q) (nI g)) Q
  have h4 := ht.2.1
  have ih2 := fun (a' b' : Int32) (e' q' g' x' y' : Nat) h => ih (a', b', i + 1, e', q', g', x', y') h (by show 401 - (i + 1) < 401 - i; omega)
  dsimp only at ih2
  clear ih
  generalize it6 (f_X9_readCause_q14_L35 S K) m = r at ih2
  unfold f_X9_readCause_q14_L35
  rw [li_400]
  refine ok_ite (fun c => ?_) (fun c => ?_)
  · rw [nI_leI (by omega) (by omega)] at c
    rw [show 400 - i = 0 by omega, pItems, pb_ok] at hR
    exact hK a b e q g x y en pe hR hg
  · rw [nI_leI (by omega) (by omega)] at c
    rw [show 400 - (i + 1) = 399 - i by omega] at ih2
    rw [show 400 - i = (399 - i) + 1 by omega, pItems_s] at hR
    refine ok_lk1 (fun x20 => ∃ e1, x20 = nI e1 ∧ e1 ≤ n ∧ p ≤ e1 ∧ ct R g (pb (pItem1 t n L (399 - i) i e1 x y) k)) (fun K2 hK2 => ?_) ?_
    · refine ok_ite (fun z => ?_) (fun z => ?_)
      · rw [oI_z (by omega)] at z
        rw [if_neg (fun w => w.1 z), if_neg (fun w => w.1 z)] at hR
        exact hK2 _ ⟨e, rfl, en, pe, hR⟩
      · rw [oI_z (by omega)] at z
        refine ok_bd (x_goes (S := wd_o S [(310, (S.1 310)), (1402, nI e), (1403, nI q), (1404, nI g)] [] [(11, (S.2.2.1 11)), (12, (S.2.2.1 12)), (13, (S.2.2.1 13))] [] []) ht rfl en rfl hR.1) ?_
        rintro o ⟨o1, o2⟩
        have hq := wB_le (t := t) en
        have hpq := wB_ge t n e
        by_cases g0 : g = 0
        · subst g0
          obtain ⟨o3, o4, o5⟩ := o2 rfl
          by_cases d : n ≤ wB t n e
          · rw [o3 d]
            rw [if_pos ⟨z, d⟩, pb_ok] at hR
            rw [if_pos (show ((nI 0, nI (wB t n e)) : Int32 × Int32).1 = 0 from rfl)]
            exact hK a b _ q 0 x y hq (by omega) hR hg
          · rw [if_neg (fun w => d w.2)] at hR
            by_cases d2 : t (wB t n e) = 59
            · rw [o4 (by omega) d2]
              rw [if_pos ⟨z, d2⟩, pb_ok] at hR
              rw [if_pos (show ((nI 0, nI (wB t n e)) : Int32 × Int32).1 = 0 from rfl)]
              exact hK a b _ q 0 x y hq (by omega) hR hg
            · rw [o5 (by omega) d2]
              rw [if_neg (fun w => d2 w.2), ← pItem1_wB] at hR
              rw [if_neg (show ¬ ((nI 1, nI (wB t n e)) : Int32 × Int32).1 = 0 from n1_ne)]
              exact hK2 _ ⟨_, rfl, hq, by omega, hR⟩
        · rw [o1 g0, if_pos (show ((nI 0, nI e) : Int32 × Int32).1 = 0 from rfl)]
          exact hK a b e q g x y en pe (ct_f hR _ g0) hg
    · rintro _ ⟨e1, rfl, en1, pe1, hR1⟩
      clear hR
      have en2 := wE_le (t := t) en1
      have hpe := wE_ge t n e1
      have hpq := wB_ge t n e1
      have hqn := wB_le (t := t) en1
      rw [bd_s (x_word (S := wd_o S [(310, (S.1 310)), (1402, nI e1), (1403, nI q), (1404, nI g)] [] [(11, (S.2.2.1 11)), (12, (S.2.2.1 12)), (13, (S.2.2.1 13))] [] []) ht rfl en1)]
      dsimp only
      rw [bd_s (x_uw1 (S := wd_o S [(310, (S.1 310)), (1402, nI (wE t n e1)), (1403, nI (wB t n e1)), (1404, nI g)] [] [(11, (S.2.2.1 11)), (12, (S.2.2.1 12)), (13, (S.2.2.1 13))] [] []) ht en1 rfl rfl)]
      refine ok_lk5 (fun a' b' c' d' e' => ∃ e3 q3 g3 x3 y3, c' = nI e3 ∧ d' = nI q3 ∧ e' = nI g3 ∧ e3 ≤ n ∧ p ≤ e3 ∧ ct R g3 (pb (pItems t n L (399 - i) (i + 1) e3 x3 y3) k) ∧ (g3 = 0 → f = 0 ∧ a' = nI x3 ∧ b' = nI y3)) (fun K1 hK1 => ?_) ?_
      · unfold pItem1 at hR1
        refine ok_b (fun w => ?_) (fun w => ?_)
        · rw [if_neg (of_decide_eq_false w)] at hR1
          rw [bd_s (x_uw6 (S := wd_o S [(310, (S.1 310)), (1402, nI (wE t n e1)), (1403, nI (wB t n e1)), (1404, nI g)] [] [(11, (S.2.2.1 11)), (12, (S.2.2.1 12)), (13, (S.2.2.1 13))] [] []) ht en1 rfl rfl)]
          refine ok_b (fun w2 => ?_) (fun w2 => ?_)
          · rw [if_neg (of_decide_eq_false w2), pb_er] at hR1
            rw [bd_s (x_blame (S := wd_o S [(310, (S.1 310)), (1402, nI (wE t n e1)), (1403, nI (wB t n e1)), (1404, nI g)] [] [(11, (S.2.2.1 11)), (12, (S.2.2.1 12)), (13, (S.2.2.1 13))] [] []) (q := wB t n e1) (k := 0) (p2 := (0 : Int32)) (f := g) (by omega) (by omega) rfl rfl (by have := hR1.1; omega))]
            have := ct_blame (pb (pItems t n L (399 - i) (i + 1) (wE t n e1) x y) k) hR1 rfl (by omega) (by omega)
            exact hK1 _ _ _ _ _ ⟨wE t n e1, wB t n e1, _, x, y, rfl, rfl, rfl, en2, by omega, this.2, fun z => absurd z this.1⟩
          · rw [if_pos (of_decide_eq_true w2), pb_pb] at hR1
            refine ok_bd (x_place0 (S := wd_o S [(310, (S.1 310)), (1402, nI (wE t n e1)), (1403, nI (wB t n e1)), (1404, nI g)] [] [(11, (S.2.2.1 11)), (12, (S.2.2.1 12)), (13, (S.2.2.1 13))] [] []) (N := l_N L) ht rfl en2 rfl h300 (by omega) hR1) ?_
            rintro _ ⟨v, g', rfl, v1, v2, v3⟩
            have n1 := nE_le (t := t) en2
            have n2 := nE_ge t n (wE t n e1)
            have n3 := wB_ge t n (wE t n e1)
            refine ok_lz (hK1 _ _ _ _ _ ⟨nE t n (wE t n e1), wB t n (wE t n e1), g', x, y ||| 2 ^ v, rfl, rfl, rfl, n1, by omega, v2, fun z0 => ?_⟩)
            have v4 := v3 z0
            have hg2 := hg v4.1
            exact ⟨hg2.1, hg2.2.1, or_p2 hg2.2.2 (by omega)⟩
        · rw [if_pos (of_decide_eq_true w), pb_pb] at hR1
          refine ok_bd (x_number (S := wd_o S [(310, (S.1 310)), (1402, nI (wE t n e1)), (1403, nI (wB t n e1)), (1404, nI g)] [] [(11, (S.2.2.1 11)), (12, (S.2.2.1 12)), (13, (S.2.2.1 13))] [] []) ht rfl en2 rfl (lo := 0) rfl (by omega) (le_sub1 (N := l_n L) (by omega) h301) hR1) ?_
          rintro _ ⟨v, g', rfl, v1, v2, v3⟩
          have n1 := nE_le (t := t) en2
          have n2 := nE_ge t n (wE t n e1)
          have n3 := wB_ge t n (wE t n e1)
          refine ok_lz (hK1 _ _ _ _ _ ⟨nE t n (wE t n e1), wB t n (wE t n e1), g', x ||| 2 ^ v, y, rfl, rfl, rfl, n1, by omega, v2, fun z0 => ?_⟩)
          have v4 := v3 z0
          have hg2 := hg v4.1
          exact ⟨hg2.1, or_p2 hg2.2.1 (by omega), hg2.2.2⟩
      · rintro a' b' _ _ _ ⟨e3, q3, g3, x3, y3, rfl, rfl, rfl, k3, k4, k5, k6⟩
        rw [nI_1]
        exact ih2 a' b' e3 q3 g3 x3 y3 ⟨by omega, k3, k4, k5, k6⟩
theorem x_readCause {S : wd_W} {n p q : Nat} {t : Nat → Nat} {L : Ld} {β : Type} {R : Except Nat β} {k : Nat → Ld → Except Nat β} (ht : XTa S n t) (hp : p ≤ n) (hqn : q ≤ n) (h2 : S.1 1402 = nI p) (h3 : S.1 1403 = nI q) (hf : S.1 1404 = nI 0) (hL : lOk L) (hc : l_c L ≤ 3) (hx : xL S 3 L) (hR : ct R 0 (pb (pCause t n L q p) k)) :
    Ok (f_X9_readCause_q14 S) (fun o => ∃ e q' g, o.2.1 = nI e ∧ o.2.2.1 = nI q' ∧ o.2.2.2.1 = nI g ∧ e ≤ n ∧ p ≤ e ∧ ∃ K, ct R g (k e K) ∧ (g = 0 → xL (wd_o S [(310, o.1)] [] [(11, o.2.2.2.2.1), (12, o.2.2.2.2.2.1), (13, o.2.2.2.2.2.2)] [] []) 3 K)) := by
  obtain ⟨c1, c2, c3, c4, c5⟩ := lOk_cnt hL
  have h4 := ht.2.1
  have h300 : S.1 300 = nI (l_N L) := hx.1.1
  have h301 : S.1 301 = nI (l_n L) := hx.1.2.1
  have h310 : S.1 310 = nI (l_c L) := hx.1.2.2.2.1
  unfold f_X9_readCause_q14
  refine ok_lk1 (fun x => x = nI (b2n (decide (l_c L = 3)))) (fun K hK => ?_) ?_
  · rw [h310, li_3]
    refine ok_ite (fun c => ?_) (fun c => ?_)
    · rw [nI_ltI (by omega) (by omega)] at c
      exact hK _ (by rw [decide_eq_false (by omega)]; rfl)
    · rw [nI_ltI (by omega) (by omega)] at c
      exact hK _ (by rw [decide_eq_true (by omega)]; rfl)
  · rintro _ rfl
    rw [bd_s (x_refuse (S := wd_o S [(310, (S.1 310)), (1402, (S.1 1402)), (1403, (S.1 1403)), (1404, (S.1 1404))] [] [(11, (S.2.2.1 11)), (12, (S.2.2.1 12)), (13, (S.2.2.1 13))] [] []) (L := L) (q := q) c4 h301 hx.1.2.2.1 h310 (by omega) h3 hf rfl)]
    have hR1 : ct R (if decide (l_c L = 3) = true ∨ l_M L = 15 then flt q 3 else 0) (pb (pNum t n p 0 17) fun e c => pb (pItems t n L 400 0 e 0 0) fun e2 s => k e2 (addCs L c s.1 s.2)) := by
      have hR := ct_0 hR
      unfold pCause at hR
      have hfl : flt q 3 ≠ 0 ∧ flt q 3 < 2 ^ 16 := by unfold flt; omega
      by_cases z : l_c L = 3 ∨ l_M L = 15
      · rw [if_pos z, pb_er] at hR
        rw [if_pos (by rw [decide_eq_true_eq]; exact z)]
        exact ⟨hfl.2, Or.inr ⟨hfl.1, hR⟩⟩
      · rw [if_neg z] at hR
        rw [if_neg (by rw [decide_eq_true_eq]; exact z)]
        simp only [pb_pb, pb_ok] at hR
        exact ⟨by omega, Or.inl ⟨rfl, hR⟩⟩
    have hz : (if decide (l_c L = 3) = true ∨ l_M L = 15 then flt q 3 else 0) = 0 → l_c L < 3 := by
      intro z
      by_cases y : decide (l_c L = 3) = true ∨ l_M L = 15
      · rw [if_pos y] at z; unfold flt at z; omega
      · have : ¬ l_c L = 3 := fun w => y (Or.inl (decide_eq_true w))
        omega
    revert hR1 hz
    generalize (if decide (l_c L = 3) = true ∨ l_M L = 15 then flt q 3 else 0) = f0
    intro hR1 hz
    clear hR
    refine ok_bd (x_number (S := wd_o S [(310, (S.1 310)), (1402, (S.1 1402)), (1403, (S.1 1403)), (1404, nI f0)] [] [(11, (S.2.2.1 11)), (12, (S.2.2.1 12)), (13, (S.2.2.1 13))] [] []) ht h2 hp rfl (lo := 0) rfl (by omega) (le_lit (N := 16) (by omega) rfl) hR1) ?_
    rintro _ ⟨c, g, rfl, d1, hR2, d3⟩
    have n1 := nE_le (t := t) hp
    have n2 := nE_ge t n p
    have n3 := wB_ge t n p
    dsimp only
    refine ok_lk5 (fun x5 x6 x7 x8 x9 => ∃ e q' g' x y, x7 = nI e ∧ x8 = nI q' ∧ x9 = nI g' ∧ e ≤ n ∧ p ≤ e ∧ ct R g' (k e (addCs L c x y)) ∧ (g' = 0 → g = 0 ∧ x5 = nI x ∧ x6 = nI y)) (fun K hK => ?_) ?_
    · rw [li_0]
      exact x_items ht n1 hL h300 h301 hR2 K (fun a b e q' g' x y r1 r2 r3 r4 => hK _ _ _ _ _ ⟨e, q', g', x, y, rfl, rfl, rfl, r1, by omega, r3, r4⟩)
    · rintro x5 x6 _ _ _ ⟨e, q', g', x, y, rfl, rfl, rfl, r1, r2, hR3, hg⟩
      have hlt : g' < 2 ^ 16 := hR3.1
      refine ok_ite (fun z => ?_) (fun z => ?_)
      · rw [oI_z (by omega)] at z
        subst z
        obtain ⟨hg1, rfl, rfl⟩ := hg rfl
        rw [bd_s (x_addCause (S := wd_o S [(310, (S.1 310)), (1402, nI e), (1403, nI q'), (1404, nI 0)] [] [(11, (S.2.2.1 11)), (12, (S.2.2.1 12)), (13, (S.2.2.1 13))] [] []) h310 (hz (d3 hg1).1))]
        refine ok_some ⟨e, q', 0, rfl, rfl, rfl, r1, r2, _, hR3, fun _ => ?_⟩
        obtain ⟨⟨g0, g1, g2, g3, g4, g5, g6, g7⟩, gl, gk, gc⟩ := hx
        refine ⟨⟨g0, g1, g2, rfl, g4, g5, g6, g7⟩, gl, gk, fun j hj => ?_⟩
        have hj : j < l_c L + 1 := hj
        show upd (S.2.2.1 11) (l_c L) (nI c) j = nI (upN (L 11) (l_c L) c j) ∧ upd (S.2.2.1 12) (l_c L) (nI x) j = nI (upN (L 12) (l_c L) x j) ∧ upd (S.2.2.1 13) (l_c L) (nI y) j = nI (upN (L 13) (l_c L) y j)
        by_cases ej : j = l_c L
        · subst ej
          rw [pk_us, pk_us, pk_us, upN_s, upN_s, upN_s]
          exact ⟨rfl, rfl, rfl⟩
        · rw [pk_un ej, pk_un ej, pk_un ej, upN_n ej, upN_n ej, upN_n ej]
          exact gc j (by omega)
      · rw [oI_z (by omega)] at z
        exact ok_some ⟨e, q', g', rfl, rfl, rfl, r1, r2, L, ct_f hR3 _ z, fun y => absurd y z⟩
