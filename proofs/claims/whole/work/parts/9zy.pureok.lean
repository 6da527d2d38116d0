/-! what is read is a land -/
theorem pb_inv {α β : Type} {r : PR α} {k : Nat → α → Except Nat β} {x : β} (h : pb r k = .ok x) : ∃ e v, r = .ok (e, v) ∧ k e v = .ok x := by
  cases r with
  | error f => cases h
  | ok a => exact ⟨a.1, a.2, rfl, h⟩
theorem pb_id {α : Type} (r : PR α) : pb r (fun e s => .ok (e, s)) = r := by
  cases r <;> rfl
theorem pNum_inv {t : Nat → Nat} {n p lo hx e v : Nat} (h : pNum t n p lo hx = .ok (e, v)) : e = nE t n p ∧ v = numV t n p ∧ lo ≤ v ∧ v < hx ∧ v ≤ 99 ∧ p < e := by
  unfold pNum at h
  by_cases c : numF t n p lo hx = 0
  · rw [if_pos c] at h
    have h := Except.ok.inj h
    have h1 := congrArg Prod.fst h
    have h2 := congrArg Prod.snd h
    dsimp only at h1 h2
    obtain ⟨g1, g2, g3, g4, g5⟩ := numF_0 c
    have := wB_ge t n p
    subst h1; subst h2
    exact ⟨rfl, rfl, g1, g2, g5, by omega⟩
  · rw [if_neg c] at h; cases h
theorem pOpt_inv {t : Nat → Nat} {n : Nat} : ∀ (f p w d e w' d' : Nat), pOpt t n f p w d = .ok (e, w', d') → w ≤ 1 → d ≤ 9 → w' ≤ 1 ∧ d' ≤ 9 ∧ p ≤ e
  | 0, p, w, d, e, w', d', h, hw, hd => by
    rw [pOpt] at h
    injection h with h
    injection h with h1 h
    injection h with h2 h3
    subst h1; subst h2; subst h3
    exact ⟨hw, hd, Nat.le_refl _⟩
  | f + 1, p, w, d, e, w', d', h, hw, hd => by
    have q1 := wB_ge t n p
    have q2 := wE_ge t n p
    rw [pOpt] at h
    split at h
    · injection h with h
      injection h with h1 h
      injection h with h2 h3
      subst h1; subst h2; subst h3
      exact ⟨hw, hd, q1⟩
    · split at h
      · injection h with h
        injection h with h1 h
        injection h with h2 h3
        subst h1; subst h2; subst h3
        exact ⟨hw, hd, q1⟩
      · split at h
        · split at h
          · have := pOpt_inv f _ _ _ _ _ _ h (by omega) hd
            exact ⟨this.1, this.2.1, by omega⟩
          · cases h
        · split at h
          · split at h
            · obtain ⟨e1, v, h1, h2⟩ := pb_inv h
              have h3 := pNum_inv h1
              have := pOpt_inv f _ _ _ _ _ _ h2 hw (by omega)
              exact ⟨this.1, this.2.1, by omega⟩
            · cases h
          · cases h
theorem or_p2_lt {x v N : Nat} (hx : x < 2 ^ N) (hv : v < N) : x ||| 2 ^ v < 2 ^ N := or_pow_lt hx hv
theorem pItems_inv {t : Nat → Nat} {n : Nat} {L : Ld} : ∀ (f i p x y e x' y' : Nat), pItems t n L f i p x y = .ok (e, x', y') → x < 2 ^ l_n L → y < 2 ^ l_N L → x' < 2 ^ l_n L ∧ y' < 2 ^ l_N L ∧ p ≤ e
  | 0, i, p, x, y, e, x', y', h, hx, hy => by
    rw [pItems] at h
    injection h with h
    injection h with h1 h
    injection h with h2 h3
    subst h1; subst h2; subst h3
    exact ⟨hx, hy, Nat.le_refl _⟩
  | f + 1, i, p, x, y, e, x', y', h, hx, hy => by
    have q1 := wB_ge t n p
    have q2 := wE_ge t n p
    rw [pItems] at h
    split at h
    · injection h with h
      injection h with h1 h
      injection h with h2 h3
      subst h1; subst h2; subst h3
      exact ⟨hx, hy, q1⟩
    · split at h
      · injection h with h
        injection h with h1 h
        injection h with h2 h3
        subst h1; subst h2; subst h3
        exact ⟨hx, hy, q1⟩
      · split at h
        · obtain ⟨e1, v, h1, h2⟩ := pb_inv h
          have h3 := pNum_inv h1
          have := pItems_inv f _ _ _ _ _ _ _ h2 (or_p2_lt hx (by omega)) hy
          exact ⟨this.1, this.2.1, by omega⟩
        · split at h
          · obtain ⟨e1, v, h1, h2⟩ := pb_inv h
            have h3 := pNum_inv h1
            have := pItems_inv f _ _ _ _ _ _ _ h2 hx (or_p2_lt hy (by omega))
            exact ⟨this.1, this.2.1, by omega⟩
          · cases h
def ld3 (L : Ld) : Prop := lOk L ∧ l_c L ≤ 3
theorem addLn_ok {L : Ld} {a b c w d : Nat} (h : ld3 L) (h12 : l_n L < 12) (h15 : l_M L < 15) (ha : a < l_N L) (hb : b < l_N L) (hab : a ≠ b) (hc : c ≤ 16) (hd : 1 ≤ d ∧ d ≤ 9) : ld3 (addLn L a b c w d) := by
  obtain ⟨⟨⟨g1, g2, g3, g4, g5, g6⟩, gk, gj, gu, gc, gw⟩, g7⟩ := h
  refine ⟨⟨⟨g1, g2, ?_, g4, g5, ?_⟩, fun k hk => ?_, gj, gu, fun c hc => ?_, gw⟩, g7⟩
  · show l_n L + 1 ≤ 12
    omega
  · show l_n L + 1 + l_k L + l_c L ≤ 15
    unfold l_M at h15
    omega
  · have hk : k < l_n L + 1 := hk
    show upN (L 2) (l_n L) a k < l_N L ∧ upN (L 3) (l_n L) b k < l_N L ∧ upN (L 2) (l_n L) a k ≠ upN (L 3) (l_n L) b k ∧ upN (L 4) (l_n L) c k ≤ 16 ∧ upN (L 5) (l_n L) (1 - w) k ≤ 1 ∧ 1 ≤ upN (L 6) (l_n L) d k ∧ upN (L 6) (l_n L) d k ≤ 9
    by_cases e : k = l_n L
    · subst e
      rw [upN_s, upN_s, upN_s, upN_s, upN_s]
      exact ⟨ha, hb, hab, hc, by omega, hd.1, hd.2⟩
    · rw [upN_n e, upN_n e, upN_n e, upN_n e, upN_n e]
      exact gk k (by omega)
  · obtain ⟨r1, r2, r3⟩ := gc c hc
    refine ⟨r1, ?_, r3⟩
    show l_X L c < 2 ^ (l_n L + 1)
    exact Nat.lt_of_lt_of_le r2 (pow_le_k (by omega))
theorem addKp_ok {L : Ld} {a c : Nat} (h : ld3 L) (h15 : l_M L < 15) (ha : a < l_N L) (hk : ktB L a = false) (hc : c ≤ 16) : ld3 (addKp L a c) := by
  have h10 := kept_room h.1 ha hk
  obtain ⟨⟨⟨g1, g2, g3, g4, g5, g6⟩, gk, gj, gu, gc, gw⟩, g7⟩ := h
  have nk : ∀ j, j < l_k L → l_P L j ≠ a := fun j hj e => by
    rw [ktB_iff.mpr ⟨j, hj, e⟩] at hk
    cases hk
  refine ⟨⟨⟨g1, g2, g3, ?_, g5, ?_⟩, gk, fun k hk => ?_, fun i j hi hj z => ?_, gc, gw⟩, g7⟩
  · show l_k L + 1 ≤ 10
    omega
  · show l_n L + (l_k L + 1) + l_c L ≤ 15
    unfold l_M at h15
    omega
  · have hk : k < l_k L + 1 := hk
    show upN (L 8) (l_k L) a k < l_N L ∧ upN (L 9) (l_k L) c k ≤ 16
    by_cases e : k = l_k L
    · subst e
      rw [upN_s, upN_s]
      exact ⟨ha, hc⟩
    · rw [upN_n e, upN_n e]
      exact gj k (by omega)
  · have hi : i < l_k L + 1 := hi
    have hj : j < l_k L + 1 := hj
    have z : upN (L 8) (l_k L) a i = upN (L 8) (l_k L) a j := z
    by_cases e : i = l_k L
    · by_cases e2 : j = l_k L
      · omega
      · rw [e, upN_s, upN_n e2] at z
        exact absurd z.symm (nk j (by omega))
    · by_cases e2 : j = l_k L
      · rw [e2, upN_s, upN_n e] at z
        exact absurd z (nk i (by omega))
      · rw [upN_n e, upN_n e2] at z
        exact gu i j (by omega) (by omega) z
theorem addCs_ok {L : Ld} {c x y : Nat} (h : ld3 L) (h3 : l_c L < 3) (h15 : l_M L < 15) (hc : c ≤ 16) (hx : x < 2 ^ l_n L) (hy : y < 2 ^ l_N L) : ld3 (addCs L c x y) := by
  obtain ⟨⟨⟨g1, g2, g3, g4, g5, g6⟩, gk, gj, gu, gc, gw⟩, g7⟩ := h
  refine ⟨⟨⟨g1, g2, g3, g4, ?_, ?_⟩, gk, gj, gu, fun k hk => ?_, gw⟩, ?_⟩
  · show l_c L + 1 ≤ 15
    omega
  · show l_n L + l_k L + (l_c L + 1) ≤ 15
    unfold l_M at h15
    omega
  · have hk : k < l_c L + 1 := hk
    show upN (L 11) (l_c L) c k ≤ 16 ∧ upN (L 12) (l_c L) x k < 2 ^ l_n L ∧ upN (L 13) (l_c L) y k < 2 ^ l_N L
    by_cases e : k = l_c L
    · subst e
      rw [upN_s, upN_s, upN_s]
      exact ⟨hc, hx, hy⟩
    · rw [upN_n e, upN_n e, upN_n e]
      exact gc k (by omega)
  · show l_c L + 1 ≤ 3
    omega
theorem setW_ok {L : Ld} {w m a b : Nat} (h : ld3 L) (hw : w ≤ 4) (hm : m ≤ 99) (ha : a < l_N L) (hb : b < l_N L) (hab : w = 0 ∨ w = 3 ∨ w = 4 → a ≠ b) (h2 : w = 2 → 1 ≤ m) : ld3 (setW L w m a b) := by
  obtain ⟨⟨g0, gk, gj, gu, gc, gw⟩, g7⟩ := h
  exact ⟨⟨g0, gk, gj, gu, gc, hw, hm, ha, hb, hab, h2⟩, g7⟩
theorem pWhat_inv {t : Nat → Nat} {n p e w : Nat} (h : pWhat t n p = .ok (e, w)) : e = wE t n p ∧ w ≤ 4 ∧ p ≤ e := by
  have q1 := wB_ge t n p
  have q2 := wE_ge t n p
  have fin : ∀ v, v ≤ 4 → (Except.ok (wE t n p, v) : PR Nat) = .ok (e, w) → e = wE t n p ∧ w ≤ 4 ∧ p ≤ e := by
    intro v hv z
    injection z with z
    injection z with z1 z2
    subst z1; subst z2
    exact ⟨rfl, hv, by omega⟩
  unfold pWhat at h
  split at h
  · exact fin _ (by omega) h
  · split at h
    · exact fin _ (by omega) h
    · split at h
      · exact fin _ (by omega) h
      · split at h
        · exact fin _ (by omega) h
        · split at h
          · exact fin _ (by omega) h
          · cases h
theorem ok_inj2 {α : Type} {e e' : Nat} {v v' : α} (h : (Except.ok (e, v) : PR α) = .ok (e', v')) : e = e' ∧ v = v' := by
  injection h with h
  injection h with h1 h2
  exact ⟨h1, h2⟩
theorem pThr_inv {t : Nat → Nat} {n q p d e : Nat} {L K : Ld} (hL : ld3 L) (h : pThr t n L d q p = .ok (e, K)) : ld3 K ∧ p ≤ e := by
  unfold pThr at h
  split at h
  · cases h
  · obtain ⟨e1, w, h1, h⟩ := pb_inv h
    obtain ⟨e2, m, h2, h⟩ := pb_inv h
    obtain ⟨e3, a, h3, h⟩ := pb_inv h
    obtain ⟨e4, b, h4, h⟩ := pb_inv h
    obtain ⟨rfl, rfl⟩ := ok_inj2 h
    obtain ⟨i1, i2, i3⟩ := pWhat_inv h1
    have hN := hL.1.1.1
    have j : m ≤ 99 ∧ e1 ≤ e2 ∧ (w = 2 → 1 ≤ m) := by
      unfold pAmo at h2
      split at h2
      · have := pNum_inv h2; exact ⟨by omega, by omega, fun _ => by omega⟩
      · split at h2
        · have := pNum_inv h2; exact ⟨by omega, by omega, fun _ => by omega⟩
        · obtain ⟨rfl, rfl⟩ := ok_inj2 h2
          exact ⟨by omega, Nat.le_refl _, fun z => by omega⟩
    have ja : a < l_N L ∧ e2 ≤ e3 := by
      unfold pFst at h3
      split at h3
      · obtain ⟨rfl, rfl⟩ := ok_inj2 h3
        exact ⟨by omega, Nat.le_refl _⟩
      · have := pNum_inv h3; exact ⟨by omega, by omega⟩
    have jb : b < l_N L ∧ e3 ≤ e4 ∧ (w = 0 ∨ w = 3 ∨ w = 4 → a ≠ b) := by
      unfold pSnd at h4
      split at h4
      · obtain ⟨rfl, rfl⟩ := ok_inj2 h4
        exact ⟨by omega, Nat.le_refl _, fun z => by omega⟩
      · split at h4
        · obtain ⟨rfl, rfl⟩ := ok_inj2 h4
          exact ⟨by omega, Nat.le_refl _, fun z => by omega⟩
        · obtain ⟨e5, b', h5, h4⟩ := pb_inv h4
          split at h4
          · cases h4
          · rename_i z
            obtain ⟨rfl, rfl⟩ := ok_inj2 h4
            have := pNum_inv h5
            exact ⟨by omega, by omega, fun _ => z⟩
    exact ⟨setW_ok hL i2 j.1 ja.1 jb.1 jb.2.2 j.2.2, by omega⟩
theorem pLine_inv {t : Nat → Nat} {n q p e : Nat} {L K : Ld} (hL : ld3 L) (h : pLine t n L q p = .ok (e, K)) : ld3 K ∧ p ≤ e := by
  have g12 := hL.1.1.2.2.1
  have g15 := hL.1.1.2.2.2.2.2
  unfold pLine at h
  split at h
  · cases h
  · rename_i z
    obtain ⟨e1, ab, h1, h⟩ := pb_inv h
    obtain ⟨e2, c, h2, h⟩ := pb_inv h
    obtain ⟨e3, wd, h3, h⟩ := pb_inv h
    obtain ⟨rfl, rfl⟩ := ok_inj2 h
    unfold pEnds at h1
    obtain ⟨e4, a, h4, h1⟩ := pb_inv h1
    obtain ⟨e5, b, h5, h1⟩ := pb_inv h1
    split at h1
    · cases h1
    · rename_i hab
      obtain ⟨rfl, rfl⟩ := ok_inj2 h1
      have k4 := pNum_inv h4
      have k5 := pNum_inv h5
      have k2 := pNum_inv h2
      obtain ⟨w, d⟩ := wd
      have k3 := pOpt_inv _ _ _ _ _ _ _ h3 (by omega) (by omega)
      refine ⟨addLn_ok hL (by omega) (by omega) (by show a < _; omega) (by show b < _; omega) hab (by omega) ?_, by omega⟩
      show 1 ≤ (if d = 0 then 1 else d) ∧ (if d = 0 then 1 else d) ≤ 9
      split <;> omega
theorem pKeep_inv {t : Nat → Nat} {n q p e : Nat} {L K : Ld} (hL : ld3 L) (h : pKeep t n L q p = .ok (e, K)) : ld3 K ∧ p ≤ e := by
  have g15 := hL.1.1.2.2.2.2.2
  unfold pKeep at h
  split at h
  · cases h
  · rename_i z
    obtain ⟨e1, a, h1, h⟩ := pb_inv h
    split at h
    · cases h
    · rename_i hk
      obtain ⟨e2, c, h2, h⟩ := pb_inv h
      obtain ⟨rfl, rfl⟩ := ok_inj2 h
      have k1 := pNum_inv h1
      have k2 := pNum_inv h2
      refine ⟨addKp_ok hL (by omega) (by omega) ?_ (by omega), by omega⟩
      cases w : ktB L a with
      | false => rfl
      | true => exact absurd w hk
theorem pCause_inv {t : Nat → Nat} {n q p e : Nat} {L K : Ld} (hL : ld3 L) (h : pCause t n L q p = .ok (e, K)) : ld3 K ∧ p ≤ e := by
  have g3 := hL.2
  have g15 := hL.1.1.2.2.2.2.2
  unfold pCause at h
  split at h
  · cases h
  · rename_i z
    obtain ⟨e1, c, h1, h⟩ := pb_inv h
    obtain ⟨e2, s, h2, h⟩ := pb_inv h
    obtain ⟨rfl, rfl⟩ := ok_inj2 h
    have k1 := pNum_inv h1
    obtain ⟨x, y⟩ := s
    have k2 := pItems_inv _ _ _ _ _ _ _ _ h2 (Nat.two_pow_pos _) (Nat.two_pow_pos _)
    exact ⟨addCs_ok hL (by omega) (by omega) (by omega) k2.1 k2.2.1, by omega⟩
theorem pClause_inv {t : Nat → Nat} {n p d e d' : Nat} {L K : Ld} (hL : ld3 L) (h : pClause t n L d p = .ok (e, K, d')) : ld3 K ∧ p ≤ e := by
  have q1 := wB_ge t n p
  have q2 := wE_ge t n p
  unfold pClause at h
  split at h
  · obtain ⟨e1, K1, h1, h⟩ := pb_inv h
    obtain ⟨rfl, hs⟩ := ok_inj2 h
    have h2 := congrArg Prod.fst hs
    dsimp only at h2
    subst h2
    have := pLine_inv hL h1
    exact ⟨this.1, by omega⟩
  · split at h
    · obtain ⟨e1, K1, h1, h⟩ := pb_inv h
      obtain ⟨rfl, hs⟩ := ok_inj2 h
      have h2 := congrArg Prod.fst hs
      dsimp only at h2
      subst h2
      have := pKeep_inv hL h1
      exact ⟨this.1, by omega⟩
    · split at h
      · obtain ⟨e1, K1, h1, h⟩ := pb_inv h
        obtain ⟨rfl, hs⟩ := ok_inj2 h
        have h2 := congrArg Prod.fst hs
        dsimp only at h2
        subst h2
        have := pCause_inv hL h1
        exact ⟨this.1, by omega⟩
      · split at h
        · obtain ⟨e1, K1, h1, h⟩ := pb_inv h
          obtain ⟨rfl, hs⟩ := ok_inj2 h
          have h2 := congrArg Prod.fst hs
          dsimp only at h2
          subst h2
          have := pThr_inv hL h1
          exact ⟨this.1, by omega⟩
        · cases h
theorem L0_ok {N : Nat} (h1 : 2 ≤ N) (h2 : N ≤ 10) : ld3 (L0 N) :=
  ⟨⟨⟨h1, h2, by show 0 ≤ _; omega, by show 0 ≤ _; omega, by show 0 ≤ _; omega, by show 0 + 0 + 0 ≤ _; omega⟩, fun k hk => absurd hk (Nat.not_lt_zero k), fun k hk => absurd hk (Nat.not_lt_zero k), fun i j hi _ _ => absurd hi (Nat.not_lt_zero i), fun k hk => absurd hk (Nat.not_lt_zero k), by show 1 ≤ 4; omega, by show 0 ≤ 99; omega, by show 0 < N; omega, by show 0 < N; omega, fun z => by have z : 1 = 0 ∨ 1 = 3 ∨ 1 = 4 := z; omega, fun z => by have z : 1 = 2 := z; omega⟩, by show 0 ≤ 3; omega⟩
theorem pText_inv {t : Nat → Nat} {n : Nat} : ∀ (f p : Nat) (L : Ld) (d : Nat) (K : Ld), ld3 L → pText t n f p L d = .ok K → ld3 K
  | 0, p, L, d, K, hL, h => by
    rw [pText] at h
    injection h with h
    subst h
    exact hL
  | f + 1, p, L, d, K, hL, h => by
    rw [pText] at h
    split at h
    · injection h with h
      subst h
      exact hL
    · split at h
      · obtain ⟨e1, s, h1, h⟩ := pb_inv h
        obtain ⟨K1, d1⟩ := s
        exact pText_inv f _ _ _ _ (pClause_inv hL h1).1 h
      · cases h
theorem pLand_inv {t : Nat → Nat} {n : Nat} {K : Ld} (h : pLand t n = .ok K) : ld3 K := by
  unfold pLand at h
  split at h
  · obtain ⟨e1, N, h1, h⟩ := pb_inv h
    have := pNum_inv h1
    exact pText_inv _ _ _ _ _ (L0_ok (by omega) (by omega)) h
  · cases h
