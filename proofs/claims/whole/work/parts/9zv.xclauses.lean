/-! the developers' clauses -/
theorem lOk_cnt {L : Ld} (h : lOk L) : l_N L ≤ 10 ∧ l_n L ≤ 12 ∧ l_k L ≤ 10 ∧ l_M L ≤ 15 ∧ 2 ≤ l_N L := ⟨h.1.2.1, h.1.2.2.1, h.1.2.2.2.1, h.1.2.2.2.2.2, h.1.1⟩
theorem x_readLine {S : wd_W} {n p q : Nat} {t : Nat → Nat} {L : Ld} {β : Type} {R : Except Nat β} {k : Nat → Ld → Except Nat β} (ht : XTa S n t) (hp : p ≤ n) (hqn : q ≤ n) (h2 : S.1 1402 = nI p) (h3 : S.1 1403 = nI q) (hf : S.1 1404 = nI 0) (hL : lOk L) (hx : xL S 3 L) (hR : ct R 0 (pb (pLine t n L q p) k)) :
    Ok (f_X9_readLine_q14 S) (fun o => ∃ e q' g, o.2.1 = nI e ∧ o.2.2.1 = nI q' ∧ o.2.2.2.1 = nI g ∧ e ≤ n ∧ p ≤ e ∧ ∃ K, ct R g (k e K) ∧ (g = 0 → xL (wd_o S [(301, o.1)] [] [(4, o.2.2.2.2.1), (5, o.2.2.2.2.2.1), (6, o.2.2.2.2.2.2.1), (7, o.2.2.2.2.2.2.2.1), (8, o.2.2.2.2.2.2.2.2)] [] []) 3 K)) := by
  obtain ⟨c1, c2, c3, c4, c5⟩ := lOk_cnt hL
  have h4 := ht.2.1
  have h300 : S.1 300 = nI (l_N L) := hx.1.1
  have h301 : S.1 301 = nI (l_n L) := hx.1.2.1
  unfold f_X9_readLine_q14
  refine ok_lk1 (fun x => x = nI (b2n (decide (l_n L = 12)))) (fun K hK => ?_) ?_
  · rw [h301, li_12]
    refine ok_ite (fun c => ?_) (fun c => ?_)
    · rw [nI_ltI (by omega) (by omega)] at c
      exact hK _ (by rw [decide_eq_false (by omega)]; rfl)
    · rw [nI_ltI (by omega) (by omega)] at c
      exact hK _ (by rw [decide_eq_true (by omega)]; rfl)
  · rintro _ rfl
    rw [bd_s (x_refuse (S := wd_o S [(301, (S.1 301)), (1402, (S.1 1402)), (1403, (S.1 1403)), (1404, (S.1 1404))] [] [(4, (S.2.2.1 4)), (5, (S.2.2.1 5)), (6, (S.2.2.1 6)), (7, (S.2.2.1 7)), (8, (S.2.2.1 8))] [] []) (L := L) (q := q) c4 h301 hx.1.2.2.1 hx.1.2.2.2.1 (by omega) h3 hf rfl)]
    have hR1 : ct R (if decide (l_n L = 12) = true ∨ l_M L = 15 then flt q 3 else 0) (pb (pNum t n p 0 (l_N L)) fun e a => pb (pNum t n e 0 (l_N L)) fun e2 b => if a = b then .error (flt (wB t n e) 1) else pb (pNum t n e2 0 17) fun e3 c => pb (pOpt t n 3 e3 0 0) fun e4 wd => k e4 (addLn L a b c wd.1 (if wd.2 = 0 then 1 else wd.2))) := by
      have hR := ct_0 hR
      unfold pLine at hR
      have hfl : flt q 3 ≠ 0 ∧ flt q 3 < 2 ^ 16 := by unfold flt; omega
      by_cases z : l_n L = 12 ∨ l_M L = 15
      · rw [if_pos z, pb_er] at hR
        rw [if_pos (by rw [decide_eq_true_eq]; exact z)]
        exact ⟨hfl.2, Or.inr ⟨hfl.1, hR⟩⟩
      · rw [if_neg z] at hR
        rw [if_neg (by rw [decide_eq_true_eq]; exact z)]
        simp only [pEnds, pb_pb, pb_if, pb_ok] at hR
        exact ⟨by omega, Or.inl ⟨rfl, hR⟩⟩
    have hz : (if decide (l_n L = 12) = true ∨ l_M L = 15 then flt q 3 else 0) = 0 → l_n L < 12 := by
      intro z
      by_cases y : decide (l_n L = 12) = true ∨ l_M L = 15
      · rw [if_pos y] at z; unfold flt at z; omega
      · have : ¬ l_n L = 12 := fun w => y (Or.inl (decide_eq_true w))
        omega
    revert hR1 hz
    generalize (if decide (l_n L = 12) = true ∨ l_M L = 15 then flt q 3 else 0) = f0
    intro hR1 hz
    clear hR
    refine ok_bd (x_place0 (S := wd_o S [(301, (S.1 301)), (1402, (S.1 1402)), (1403, (S.1 1403)), (1404, nI f0)] [] [(4, (S.2.2.1 4)), (5, (S.2.2.1 5)), (6, (S.2.2.1 6)), (7, (S.2.2.1 7)), (8, (S.2.2.1 8))] [] []) (N := l_N L) ht h2 hp rfl h300 (by omega) hR1) ?_
    rintro _ ⟨a, g, rfl, a1, hR2, a3⟩
    have n1 := nE_le (t := t) hp
    have n2 := nE_ge t n p
    have n3 := wB_ge t n p
    dsimp only
    refine ok_bd (x_place1 (S := wd_o S [(301, (S.1 301)), (1402, nI (nE t n p)), (1403, nI (wB t n p)), (1404, nI g)] [] [(4, (S.2.2.1 4)), (5, (S.2.2.1 5)), (6, (S.2.2.1 6)), (7, (S.2.2.1 7)), (8, (S.2.2.1 8))] [] []) (N := l_N L) (a := a) ht rfl n1 rfl h300 (by omega) a1 hR2) ?_
    rintro _ ⟨b, g2, rfl, b1, hR3, b3⟩
    have m1 := nE_le (t := t) n1
    have m2 := nE_ge t n (nE t n p)
    have m3 := wB_ge t n (nE t n p)
    dsimp only
    refine ok_bd (x_number (S := wd_o S [(301, (S.1 301)), (1402, nI (nE t n (nE t n p))), (1403, nI (wB t n (nE t n p))), (1404, nI g2)] [] [(4, (S.2.2.1 4)), (5, (S.2.2.1 5)), (6, (S.2.2.1 6)), (7, (S.2.2.1 7)), (8, (S.2.2.1 8))] [] []) ht rfl m1 rfl (lo := 0) rfl (by omega) (le_lit (N := 16) (by omega) rfl) hR3) ?_
    rintro _ ⟨c, g3, rfl, d1, hR4, d3⟩
    have k1 := nE_le (t := t) m1
    have k2 := nE_ge t n (nE t n (nE t n p))
    have k3 := wB_ge t n (nE t n (nE t n p))
    dsimp only
    refine ok_lk5 (fun x7 x8 x9 x10 x11 => ∃ w d e q' g', x7 = nI w ∧ x8 = nI d ∧ x9 = nI e ∧ x10 = nI q' ∧ x11 = nI g' ∧ w ≤ 1 ∧ d ≤ 1000 ∧ e ≤ n ∧ p ≤ e ∧ ct R g' (k e (addLn L a b c w (if d = 0 then 1 else d))) ∧ (g' = 0 → g3 = 0)) (fun K hK => ?_) ?_
    · rw [li_0]
      exact x_opts ht k1 hR4 K (fun w d e q' g' r1 r2 r3 r4 r5 r6 => hK _ _ _ _ _ ⟨w, d, e, q', g', rfl, rfl, rfl, rfl, rfl, r1, r2, r3, by omega, r5, r6⟩)
    · rintro _ _ _ _ _ ⟨w, d, e, q', g', rfl, rfl, rfl, rfl, rfl, r1, r2, r3, r4, hR5, hg⟩
      have hlt : g' < 2 ^ 16 := hR5.1
      refine ok_ite (fun z => ?_) (fun z => ?_)
      · rw [oI_z (by omega)] at z
        subst z
        have n12 : l_n L < 12 := hz (a3 (b3 (d3 (hg rfl)).1).1).1
        refine ok_lk5 (fun x13 x14 x15 x16 x17 => x13 = nI (if d = 0 then 1 else d) ∧ x14 = nI w ∧ x15 = nI c ∧ x16 = nI b ∧ x17 = nI a) (fun K hK => ?_) ?_
        · refine ok_ite (fun y => ?_) (fun y => ?_)
          · rw [oI_z (by omega)] at y
            exact hK _ _ _ _ _ ⟨by rw [if_pos y]; rfl, rfl, rfl, rfl, rfl⟩
          · rw [oI_z (by omega)] at y
            exact hK _ _ _ _ _ ⟨by rw [if_neg y], rfl, rfl, rfl, rfl⟩
        · rintro _ _ _ _ _ ⟨rfl, rfl, rfl, rfl, rfl⟩
          rw [bd_s (x_addLine (S := wd_o S [(301, (S.1 301)), (1402, nI e), (1403, nI q'), (1404, nI 0)] [] [(4, (S.2.2.1 4)), (5, (S.2.2.1 5)), (6, (S.2.2.1 6)), (7, (S.2.2.1 7)), (8, (S.2.2.1 8))] [] []) h301 n12)]
          refine ok_some ⟨e, q', 0, rfl, rfl, rfl, r3, r4, _, hR5, fun _ => ?_⟩
          obtain ⟨⟨g0, g1, g2, g3, g4, g5, g6, g7⟩, gl, gk, gc⟩ := hx
          refine ⟨⟨g0, rfl, g2, g3, g4, g5, g6, g7⟩, fun j hj => ?_, gk, gc⟩
          have hj : j < l_n L + 1 := hj
          show upd (S.2.2.1 4) (l_n L) (nI a) j = nI (upN (L 2) (l_n L) a j) ∧ upd (S.2.2.1 5) (l_n L) (nI b) j = nI (upN (L 3) (l_n L) b j) ∧ upd (S.2.2.1 6) (l_n L) (nI c) j = nI (upN (L 4) (l_n L) c j) ∧ upd (S.2.2.1 7) (l_n L) (nI w) j = nI (1 - upN (L 5) (l_n L) (1 - w) j) ∧ upd (S.2.2.1 8) (l_n L) (nI (if d = 0 then 1 else d)) j = nI (upN (L 6) (l_n L) (if d = 0 then 1 else d) j)
          by_cases ej : j = l_n L
          · subst ej
            rw [pk_us, pk_us, pk_us, pk_us, pk_us, upN_s, upN_s, upN_s, upN_s, upN_s, show 1 - (1 - w) = w by omega]
            exact ⟨rfl, rfl, rfl, rfl, rfl⟩
          · rw [pk_un ej, pk_un ej, pk_un ej, pk_un ej, pk_un ej, upN_n ej, upN_n ej, upN_n ej, upN_n ej, upN_n ej]
            exact gl j (by omega)
      · rw [oI_z (by omega)] at z
        refine ok_some ⟨e, q', g', rfl, rfl, rfl, r3, r4, L, ct_f hR5 _ z, fun y => absurd y z⟩
theorem ktB_iff {L : Ld} {a : Nat} : ktB L a = true ↔ kept L a := by
  unfold ktB kept
  constructor
  · intro h
    apply Classical.byContradiction
    intro z
    have : alls (fun j => !(l_P L j == a)) (l_k L) = true := alls_iff.mpr (fun j hj => by
      cases e : (l_P L j == a) with
      | false => rfl
      | true => exact absurd ⟨j, hj, eq_of_beq e⟩ z)
    rw [this] at h
    cases h
  · rintro ⟨j, hj, e⟩
    cases q : alls (fun j => !(l_P L j == a)) (l_k L) with
    | false => rfl
    | true =>
      have := alls_iff.mp q j hj
      rw [e, beq_self_eq_true] at this
      cases this
theorem x_kept {S : wd_W} {L : Ld} {a : Nat} (hk : l_k L ≤ 10) (hP : ∀ j, j < l_k L → l_P L j < 2 ^ 20) (ha : a < 2 ^ 20) (h7 : S.1 307 = nI (l_k L)) (h9 : ∀ j, j < l_k L → S.2.2.1 9 j = nI (l_P L j)) :
    Ok (f_X2_keeperOf_q3 S (nI a)) (fun o => (ktB L a = false → o = -1) ∧ (ktB L a = true → o ≠ -1)) := by
  unfold f_X2_keeperOf_q3
  rw [li_0]
  refine ok_for0 (W := fun m i (_ : Unit) => it1 (f_X2_keeperOf_q3_L2 S (nI a)) m (nI i)) (I := fun i _ => ∀ j, j < i → l_P L j ≠ a) (e := l_k L) (s := ()) (by omega) (fun j hj => absurd hj (Nat.not_lt_zero j)) ?_ ?_
  · intro m _ hI
    show Ok (f_X2_keeperOf_q3_L2 S (nI a) _ (nI (l_k L))) _
    unfold f_X2_keeperOf_q3_L2
    rw [h7, if_pos (nI_le (Nat.le_refl _) (by omega))]
    refine ok_some ⟨fun _ => rfl, fun z => ?_⟩
    obtain ⟨j, hj, e⟩ := ktB_iff.mp z
    exact absurd e (hI j hj)
  · intro m i _ hi hI ih
    show Ok (f_X2_keeperOf_q3_L2 S (nI a) (it1 _ m) (nI i)) _
    generalize it1 (f_X2_keeperOf_q3_L2 S (nI a)) m = r at ih
    have hPi := hP i hi
    unfold f_X2_keeperOf_q3_L2
    rw [h7, if_neg (nI_ge hi (by omega)), gd_in (by omega) (by omega), nI_clamp (by omega), h9 i hi, nI_1]
    refine ok_ite (fun c => ?_) (fun c => ih () (fun j hj => ?_))
    · rw [nI_eq (by omega) (by omega)] at c
      refine ok_some ⟨fun z => ?_, fun _ => fun z => (oI_m1 (by omega)).mp z⟩
      have := ktB_iff.mpr ⟨i, hi, c⟩
      rw [this] at z
      cases z
    · rw [nI_eq (by omega) (by omega)] at c
      by_cases e : j = i
      · subst e; exact c
      · exact hI j (by omega)
theorem x_addKeeper {S : wd_W} {n : Nat} {p1 p2 : Int32} (h : S.1 307 = nI n) (hn : n < 10) : f_X2_addKeeper_q3 S p1 p2 = some (nI (n + 1), upd (S.2.2.1 9) n p1, upd (S.2.2.1 10) n p2) := by
  unfold f_X2_addKeeper_q3
  rw [h, li_10, if_neg (by rw [nI_leI (by omega) (by omega)]; omega), gd_in (by omega) (by omega), lz_eq, gd_in (by omega) (by omega), lz_eq, nI_clamp (by omega), nI_1, lz_eq]
theorem x_addCause {S : wd_W} {n : Nat} {p1 p2 p3 : Int32} (h : S.1 310 = nI n) (hn : n < 3) : f_X2_addCause_q3 S p1 p2 p3 = some (nI (n + 1), upd (S.2.2.1 11) n p1, upd (S.2.2.1 12) n p2, upd (S.2.2.1 13) n p3) := by
  unfold f_X2_addCause_q3
  rw [h, li_3, if_neg (by rw [nI_leI (by omega) (by omega)]; omega), gd_in (by omega) (by omega), lz_eq, gd_in (by omega) (by omega), lz_eq, gd_in (by omega) (by omega), lz_eq, nI_clamp (by omega), nI_1, lz_eq]
theorem php : ∀ (n k : Nat) (f : Nat → Nat), (∀ i, i < k → f i < n) → (∀ i j, i < k → j < k → f i = f j → i = j) → k ≤ n
  | 0, k, f, h1, _ => by
    by_cases e : k = 0
    · omega
    · have := h1 0 (by omega); omega
  | n + 1, 0, f, _, _ => Nat.zero_le _
  | n + 1, k + 1, f, h1, h2 => by
    have h := php n k (fun i => if f i = n then f k else f i) (fun i hi => by
      show (if f i = n then f k else f i) < n
      by_cases e : f i = n
      · rw [if_pos e]
        have a := h1 k (by omega)
        have b : f k ≠ n := fun z => by
          have := h2 i k (by omega) (by omega) (e.trans z.symm)
          omega
        omega
      · rw [if_neg e]
        have a := h1 i (by omega)
        omega) (fun i j hi hj z => by
      have z : (if f i = n then f k else f i) = (if f j = n then f k else f j) := z
      by_cases e : f i = n
      · by_cases e2 : f j = n
        · exact h2 i j (by omega) (by omega) (e.trans e2.symm)
        · rw [if_pos e, if_neg e2] at z
          have := h2 k j (by omega) (by omega) z
          omega
      · by_cases e2 : f j = n
        · rw [if_neg e, if_pos e2] at z
          have := h2 i k (by omega) (by omega) z
          omega
        · rw [if_neg e, if_neg e2] at z
          exact h2 i j (by omega) (by omega) z)
    omega
/-- ten places at most have keepers -/
theorem kept_room {L : Ld} (h : lOk L) {a : Nat} (ha : a < l_N L) (hk : ktB L a = false) : l_k L < 10 := by
  have nk : ∀ j, j < l_k L → l_P L j ≠ a := fun j hj e => by
    rw [ktB_iff.mpr ⟨j, hj, e⟩] at hk
    cases hk
  have g := php (l_N L) (l_k L + 1) (fun i => if i = l_k L then a else l_P L i) (fun i hi => by
    show (if i = l_k L then a else l_P L i) < l_N L
    by_cases e : i = l_k L
    · rw [if_pos e]; exact ha
    · rw [if_neg e]; exact (h.2.2.1 i (by omega)).1) (fun i j hi hj z => by
    have z : (if i = l_k L then a else l_P L i) = (if j = l_k L then a else l_P L j) := z
    by_cases e : i = l_k L
    · by_cases e2 : j = l_k L
      · omega
      · rw [if_pos e, if_neg e2] at z
        exact absurd z.symm (nk j (by omega))
    · by_cases e2 : j = l_k L
      · rw [if_neg e, if_pos e2] at z
        exact absurd z (nk i (by omega))
      · rw [if_neg e, if_neg e2] at z
        exact h.2.2.2.1 i j (by omega) (by omega) z)
  have := h.1.2.1
  omega
theorem x_readKeeper {S : wd_W} {n p q : Nat} {t : Nat → Nat} {L : Ld} {β : Type} {R : Except Nat β} {k : Nat → Ld → Except Nat β} (ht : XTa S n t) (hp : p ≤ n) (hqn : q ≤ n) (h2 : S.1 1402 = nI p) (h3 : S.1 1403 = nI q) (hf : S.1 1404 = nI 0) (hL : lOk L) (hx : xL S 3 L) (hR : ct R 0 (pb (pKeep t n L q p) k)) :
    Ok (f_X9_readKeeper_q14 S) (fun o => ∃ e q' g, o.2.1 = nI e ∧ o.2.2.1 = nI q' ∧ o.2.2.2.1 = nI g ∧ e ≤ n ∧ p ≤ e ∧ ∃ K, ct R g (k e K) ∧ (g = 0 → xL (wd_o S [(307, o.1)] [] [(9, o.2.2.2.2.1), (10, o.2.2.2.2.2)] [] []) 3 K)) := by
  obtain ⟨c1, c2, c3, c4, c5⟩ := lOk_cnt hL
  have h4 := ht.2.1
  have h300 : S.1 300 = nI (l_N L) := hx.1.1
  have h307 : S.1 307 = nI (l_k L) := hx.1.2.2.1
  unfold f_X9_readKeeper_q14
  rw [bd_s (x_refuse (S := wd_o S [(307, (S.1 307)), (1402, (S.1 1402)), (1403, (S.1 1403)), (1404, (S.1 1404))] [] [(9, (S.2.2.1 9)), (10, (S.2.2.1 10))] [] []) (L := L) (q := q) (b := false) (p1 := (0 : Int32)) c4 hx.1.2.1 h307 hx.1.2.2.2.1 (by omega) h3 hf rfl)]
  have hR1 : ct R (if false = true ∨ l_M L = 15 then flt q 3 else 0) (pb (pNum t n p 0 (l_N L)) fun e a => if ktB L a = true then .error (flt (wB t n p) 2) else pb (pNum t n e 0 17) fun e2 c => k e2 (addKp L a c)) := by
    have hR := ct_0 hR
    unfold pKeep at hR
    have hfl : flt q 3 ≠ 0 ∧ flt q 3 < 2 ^ 16 := by unfold flt; omega
    by_cases z : l_M L = 15
    · rw [if_pos z, pb_er] at hR
      rw [if_pos (Or.inr z)]
      exact ⟨hfl.2, Or.inr ⟨hfl.1, hR⟩⟩
    · rw [if_neg z] at hR
      rw [if_neg (by rintro (y | y); cases y; exact z y)]
      simp only [pb_pb, pb_if, pb_ok] at hR
      exact ⟨by omega, Or.inl ⟨rfl, hR⟩⟩
  clear hR
  revert hR1
  generalize (if false = true ∨ l_M L = 15 then flt q 3 else 0) = f0
  intro hR1
  refine ok_bd (x_place0 (S := wd_o S [(307, (S.1 307)), (1402, (S.1 1402)), (1403, (S.1 1403)), (1404, nI f0)] [] [(9, (S.2.2.1 9)), (10, (S.2.2.1 10))] [] []) (N := l_N L) ht h2 hp rfl h300 (by omega) hR1) ?_
  rintro _ ⟨a, g, rfl, a1, hR2, a3⟩
  have n1 := nE_le (t := t) hp
  have n2 := nE_ge t n p
  have n3 := wB_ge t n p
  have hg16 : g < 2 ^ 16 := hR2.1
  dsimp only
  refine ok_bd (x_kept (S := wd_o S [(307, (S.1 307)), (1402, nI (nE t n p)), (1403, nI (wB t n p)), (1404, nI g)] [] [(9, (S.2.2.1 9)), (10, (S.2.2.1 10))] [] []) (L := L) c3 (fun j hj => by have := (hL.2.2.1 j hj).1; omega) (by omega) h307 (fun j hj => (hx.2.2.1 j hj).1)) ?_
  rintro o3 ⟨y1, y2⟩
  refine ok_lk1 (fun x => ∃ g2, x = nI g2 ∧ ct R g2 (pb (pNum t n (nE t n p) 0 17) fun e2 c => k e2 (addKp L a c)) ∧ (g2 = 0 → g = 0 ∧ ktB L a = false)) (fun K hK => ?_) ?_
  · refine ok_ite (fun z => hK _ ⟨g, rfl, ?_, fun z0 => ⟨z0, ?_⟩⟩) (fun z => ?_)
    · by_cases w : ktB L a = true
      · exact absurd z (y2 w)
      · rw [if_neg w] at hR2; exact hR2
    · cases w : ktB L a with
      | false => rfl
      | true => exact absurd z (y2 w)
    · have w : ktB L a = true := by
        cases w : ktB L a with
        | true => rfl
        | false => exact absurd (y1 w) z
      rw [bd_s (x_blame (S := wd_o S [(307, (S.1 307)), (1402, nI (nE t n p)), (1403, nI (wB t n p)), (1404, nI g)] [] [(9, (S.2.2.1 9)), (10, (S.2.2.1 10))] [] []) (q := wB t n p) (k := 2) (p2 := (2 : Int32)) (f := g) (by omega) (by omega) rfl rfl (by omega))]
      by_cases g0 : g = 0
      · rw [if_pos w] at hR2
        have := ct_blame (pb (pNum t n (nE t n p) 0 17) fun e2 c => k e2 (addKp L a c)) hR2 rfl (by omega) (by omega)
        exact hK _ ⟨_, rfl, this.2, fun z => absurd z this.1⟩
      · rw [if_neg g0]
        exact hK _ ⟨g, rfl, ct_f hR2 _ g0, fun z => absurd z g0⟩
  · rintro _ ⟨g2, rfl, hR3, y3⟩
    refine ok_bd (x_number (S := wd_o S [(307, (S.1 307)), (1402, nI (nE t n p)), (1403, nI (wB t n p)), (1404, nI g2)] [] [(9, (S.2.2.1 9)), (10, (S.2.2.1 10))] [] []) ht rfl n1 rfl (lo := 0) rfl (by omega) (le_lit (N := 16) (by omega) rfl) hR3) ?_
    rintro _ ⟨c, g3, rfl, d1, hR4, d3⟩
    have k1 := nE_le (t := t) n1
    have k2 := nE_ge t n (nE t n p)
    have k3 := wB_ge t n (nE t n p)
    have hg3 : g3 < 2 ^ 16 := hR4.1
    dsimp only
    refine ok_ite (fun z => ?_) (fun z => ?_)
    · rw [oI_z (by omega)] at z
      subst z
      have w := y3 (d3 rfl).1
      have ha := (a3 w.1).2.1
      rw [bd_s (x_addKeeper (S := wd_o S [(307, (S.1 307)), (1402, nI (nE t n (nE t n p))), (1403, nI (wB t n (nE t n p))), (1404, nI 0)] [] [(9, (S.2.2.1 9)), (10, (S.2.2.1 10))] [] []) h307 (kept_room hL ha w.2))]
      refine ok_some ⟨_, _, 0, rfl, rfl, rfl, k1, by omega, _, hR4, fun _ => ?_⟩
      obtain ⟨⟨g0, g1, g2, g3, g4, g5, g6, g7⟩, gl, gk, gc⟩ := hx
      refine ⟨⟨g0, g1, rfl, g3, g4, g5, g6, g7⟩, gl, fun j hj => ?_, gc⟩
      have hj : j < l_k L + 1 := hj
      show upd (S.2.2.1 9) (l_k L) (nI a) j = nI (upN (L 8) (l_k L) a j) ∧ upd (S.2.2.1 10) (l_k L) (nI c) j = nI (upN (L 9) (l_k L) c j)
      by_cases ej : j = l_k L
      · subst ej
        rw [pk_us, pk_us, upN_s, upN_s]
        exact ⟨rfl, rfl⟩
      · rw [pk_un ej, pk_un ej, upN_n ej, upN_n ej]
        exact gk j (by omega)
    · rw [oI_z (by omega)] at z
      exact ok_some ⟨_, _, g3, rfl, rfl, rfl, k1, by omega, L, ct_f hR4 _ z, fun y => absurd y z⟩
