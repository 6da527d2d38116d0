/-! the reference's text -/
theorem pNum_le {t : Nat → Nat} {n p lo hx e v : Nat} (hp : p ≤ n) (h : pNum t n p lo hx = .ok (e, v)) : e ≤ n := by
  rw [(pNum_inv h).1]; exact nE_le hp
theorem pOpt_le {t : Nat → Nat} {n : Nat} : ∀ (f p w d e : Nat) (s : Nat × Nat), p ≤ n → pOpt t n f p w d = .ok (e, s) → e ≤ n
  | 0, p, w, d, e, s, hp, h => by
    rw [pOpt] at h
    obtain ⟨rfl, _⟩ := ok_inj2 h
    exact hp
  | f + 1, p, w, d, e, s, hp, h => by
    have q1 := wB_le (t := t) hp
    have q2 := wE_le (t := t) hp
    rw [pOpt] at h
    split at h
    · obtain ⟨rfl, _⟩ := ok_inj2 h
      exact q1
    · split at h
      · obtain ⟨rfl, _⟩ := ok_inj2 h
        exact q1
      · split at h
        · split at h
          · exact pOpt_le f _ _ _ _ _ q2 h
          · cases h
        · split at h
          · split at h
            · obtain ⟨e1, v, h1, h2⟩ := pb_inv h
              exact pOpt_le f _ _ _ _ _ (pNum_le q2 h1) h2
            · cases h
          · cases h
theorem pItems_le {t : Nat → Nat} {n : Nat} {L : Ld} : ∀ (f i p x y e : Nat) (s : Nat × Nat), p ≤ n → pItems t n L f i p x y = .ok (e, s) → e ≤ n
  | 0, i, p, x, y, e, s, hp, h => by
    rw [pItems] at h
    obtain ⟨rfl, _⟩ := ok_inj2 h
    exact hp
  | f + 1, i, p, x, y, e, s, hp, h => by
    have q1 := wB_le (t := t) hp
    have q2 := wE_le (t := t) hp
    rw [pItems] at h
    split at h
    · obtain ⟨rfl, _⟩ := ok_inj2 h
      exact q1
    · split at h
      · obtain ⟨rfl, _⟩ := ok_inj2 h
        exact q1
      · split at h
        · obtain ⟨e1, v, h1, h2⟩ := pb_inv h
          exact pItems_le f _ _ _ _ _ _ (pNum_le q2 h1) h2
        · split at h
          · obtain ⟨e1, v, h1, h2⟩ := pb_inv h
            exact pItems_le f _ _ _ _ _ _ (pNum_le q2 h1) h2
          · cases h
theorem pLine_le {t : Nat → Nat} {n q p e : Nat} {L K : Ld} (hp : p ≤ n) (h : pLine t n L q p = .ok (e, K)) : e ≤ n := by
  unfold pLine pEnds at h
  split at h
  · cases h
  · obtain ⟨e1, ab, h1, h⟩ := pb_inv h
    obtain ⟨e2, c, h2, h⟩ := pb_inv h
    obtain ⟨e3, wd, h3, h⟩ := pb_inv h
    obtain ⟨rfl, rfl⟩ := ok_inj2 h
    obtain ⟨e4, a, h4, h1⟩ := pb_inv h1
    obtain ⟨e5, b, h5, h1⟩ := pb_inv h1
    split at h1
    · cases h1
    · obtain ⟨rfl, _⟩ := ok_inj2 h1
      exact pOpt_le _ _ _ _ _ _ (pNum_le (pNum_le (pNum_le hp h4) h5) h2) h3
theorem pKeep_le {t : Nat → Nat} {n q p e : Nat} {L K : Ld} (hp : p ≤ n) (h : pKeep t n L q p = .ok (e, K)) : e ≤ n := by
  unfold pKeep at h
  split at h
  · cases h
  · obtain ⟨e1, a, h1, h⟩ := pb_inv h
    split at h
    · cases h
    · obtain ⟨e2, c, h2, h⟩ := pb_inv h
      obtain ⟨rfl, _⟩ := ok_inj2 h
      exact pNum_le (pNum_le hp h1) h2
theorem pCause_le {t : Nat → Nat} {n q p e : Nat} {L K : Ld} (hp : p ≤ n) (h : pCause t n L q p = .ok (e, K)) : e ≤ n := by
  unfold pCause at h
  split at h
  · cases h
  · obtain ⟨e1, c, h1, h⟩ := pb_inv h
    obtain ⟨e2, s, h2, h⟩ := pb_inv h
    obtain ⟨rfl, _⟩ := ok_inj2 h
    exact pItems_le _ _ _ _ _ _ _ (pNum_le hp h1) h2
theorem pThr_le {t : Nat → Nat} {n q p d e : Nat} {L K : Ld} (hp : p ≤ n) (h : pThr t n L d q p = .ok (e, K)) : e ≤ n := by
  unfold pThr at h
  split at h
  · cases h
  · obtain ⟨e1, w, h1, h⟩ := pb_inv h
    obtain ⟨e2, m, h2, h⟩ := pb_inv h
    obtain ⟨e3, a, h3, h⟩ := pb_inv h
    obtain ⟨e4, b, h4, h⟩ := pb_inv h
    obtain ⟨rfl, _⟩ := ok_inj2 h
    have l1 : e1 ≤ n := by rw [(pWhat_inv h1).1]; exact wE_le hp
    have l2 : e2 ≤ n := by
      unfold pAmo at h2
      split at h2
      · exact pNum_le l1 h2
      · split at h2
        · exact pNum_le l1 h2
        · obtain ⟨rfl, _⟩ := ok_inj2 h2; exact l1
    have l3 : e3 ≤ n := by
      unfold pFst at h3
      split at h3
      · obtain ⟨rfl, _⟩ := ok_inj2 h3; exact l2
      · exact pNum_le l2 h3
    unfold pSnd at h4
    split at h4
    · obtain ⟨rfl, _⟩ := ok_inj2 h4; exact l3
    · split at h4
      · obtain ⟨rfl, _⟩ := ok_inj2 h4; exact l3
      · obtain ⟨e5, b', h5, h4⟩ := pb_inv h4
        split at h4
        · cases h4
        · obtain ⟨rfl, _⟩ := ok_inj2 h4; exact pNum_le l3 h5
theorem ok_lk17 {ρ : Type} {B : Int32 → Int32 → Int32 → Int32 → Int32 → Int32 → Int32 → Int32 → Int32 → Int32 → Int32 → (Nat → Int32) → (Nat → Int32) → (Nat → Int32) → (Nat → Int32) → (Nat → Int32) → (Nat → Int32) → Option ρ} {R : (Int32 → Int32 → Int32 → Int32 → Int32 → Int32 → Int32 → Int32 → Int32 → Int32 → Int32 → (Nat → Int32) → (Nat → Int32) → (Nat → Int32) → (Nat → Int32) → (Nat → Int32) → (Nat → Int32) → Option ρ) → Option ρ} {Q : ρ → Prop} (I : Int32 → Int32 → Int32 → Int32 → Int32 → Int32 → Int32 → Int32 → Int32 → Int32 → Int32 → (Nat → Int32) → (Nat → Int32) → (Nat → Int32) → (Nat → Int32) → (Nat → Int32) → (Nat → Int32) → Prop) (hR : ∀ K, (∀ x0 x1 x2 x3 x4 x5 x6 x7 x8 x9 x10 x11 x12 x13 x14 x15 x16, I x0 x1 x2 x3 x4 x5 x6 x7 x8 x9 x10 x11 x12 x13 x14 x15 x16 → Ok (K x0 x1 x2 x3 x4 x5 x6 x7 x8 x9 x10 x11 x12 x13 x14 x15 x16) Q) → Ok (R K) Q) (hB : ∀ x0 x1 x2 x3 x4 x5 x6 x7 x8 x9 x10 x11 x12 x13 x14 x15 x16, I x0 x1 x2 x3 x4 x5 x6 x7 x8 x9 x10 x11 x12 x13 x14 x15 x16 → Ok (B x0 x1 x2 x3 x4 x5 x6 x7 x8 x9 x10 x11 x12 x13 x14 x15 x16) Q) : Ok (lk B R) Q := hR B hB
theorem ok_lk18 {ρ : Type} {B : Int32 → Int32 → Int32 → Int32 → Int32 → Int32 → Int32 → Int32 → Int32 → Int32 → Int32 → Int32 → (Nat → Int32) → (Nat → Int32) → (Nat → Int32) → (Nat → Int32) → (Nat → Int32) → (Nat → Int32) → Option ρ} {R : (Int32 → Int32 → Int32 → Int32 → Int32 → Int32 → Int32 → Int32 → Int32 → Int32 → Int32 → Int32 → (Nat → Int32) → (Nat → Int32) → (Nat → Int32) → (Nat → Int32) → (Nat → Int32) → (Nat → Int32) → Option ρ) → Option ρ} {Q : ρ → Prop} (I : Int32 → Int32 → Int32 → Int32 → Int32 → Int32 → Int32 → Int32 → Int32 → Int32 → Int32 → Int32 → (Nat → Int32) → (Nat → Int32) → (Nat → Int32) → (Nat → Int32) → (Nat → Int32) → (Nat → Int32) → Prop) (hR : ∀ K, (∀ x0 x1 x2 x3 x4 x5 x6 x7 x8 x9 x10 x11 x12 x13 x14 x15 x16 x17, I x0 x1 x2 x3 x4 x5 x6 x7 x8 x9 x10 x11 x12 x13 x14 x15 x16 x17 → Ok (K x0 x1 x2 x3 x4 x5 x6 x7 x8 x9 x10 x11 x12 x13 x14 x15 x16 x17) Q) → Ok (R K) Q) (hB : ∀ x0 x1 x2 x3 x4 x5 x6 x7 x8 x9 x10 x11 x12 x13 x14 x15 x16 x17, I x0 x1 x2 x3 x4 x5 x6 x7 x8 x9 x10 x11 x12 x13 x14 x15 x16 x17 → Ok (B x0 x1 x2 x3 x4 x5 x6 x7 x8 x9 x10 x11 x12 x13 x14 x15 x16 x17) Q) : Ok (lk B R) Q := hR B hB
theorem m_see59 {t : Nat → Nat} {n q : Nat} (hb : q < n → t q < 256) : (seeA t n q = (59 : Int32) ↔ q < n ∧ t q = 59) ∧ (seeA t n q = (-1 : Int32) ↔ n ≤ q) := by
  unfold seeA
  by_cases c : n ≤ q
  · rw [if_pos c]
    exact ⟨⟨fun z => absurd z (by decide), fun z => by omega⟩, ⟨fun _ => c, fun _ => rfl⟩⟩
  · rw [if_neg c, li_59]
    have := hb (by omega)
    exact ⟨⟨fun z => ⟨by omega, (nI_eq (by omega) (by omega)).mp z⟩, fun z => by rw [z.2]⟩, ⟨fun z => ((oI_m1 (by omega)).mp z).elim, fun z => absurd z c⟩⟩
/-- what no clause can hold stands here -/
def junk (t : Nat → Nat) (n e : Nat) : Prop := wB t n e < n ∧ t (wB t n e) ≠ 59
def mTr (U : wd_W) (L : Ld) (d : Nat) : Prop := ld3 L ∧ mRd U L d ∧ d ≤ 1 ∧ (d = 0 → l_m L = 0 ∧ l_a L = 0 ∧ l_b L = 0)
theorem pClause_d {t : Nat → Nat} {n p d e d' : Nat} {L K : Ld} (hd : d ≤ 1) (h : pClause t n L d p = .ok (e, K, d')) (h0 : d = 0 → l_m L = 0 ∧ l_a L = 0 ∧ l_b L = 0) : d' ≤ 1 ∧ (d' = 0 → l_m K = 0 ∧ l_a K = 0 ∧ l_b K = 0) := by
  unfold pClause at h
  split at h
  · obtain ⟨e1, K1, h1, h⟩ := pb_inv h
    obtain ⟨rfl, hs⟩ := ok_inj2 h
    have h2 := congrArg Prod.fst hs
    have h3 := congrArg Prod.snd hs
    dsimp only at h2 h3
    subst h2; subst h3
    refine ⟨hd, fun z => ?_⟩
    unfold pLine at h1
    split at h1
    · cases h1
    · obtain ⟨_, _, _, h1⟩ := pb_inv h1
      obtain ⟨_, _, _, h1⟩ := pb_inv h1
      obtain ⟨_, _, _, h1⟩ := pb_inv h1
      obtain ⟨_, rfl⟩ := ok_inj2 h1
      exact h0 z
  · split at h
    · obtain ⟨e1, K1, h1, h⟩ := pb_inv h
      obtain ⟨rfl, hs⟩ := ok_inj2 h
      have h2 := congrArg Prod.fst hs
      have h3 := congrArg Prod.snd hs
      dsimp only at h2 h3
      subst h2; subst h3
      refine ⟨hd, fun z => ?_⟩
      unfold pKeep at h1
      split at h1
      · cases h1
      · obtain ⟨_, _, _, h1⟩ := pb_inv h1
        split at h1
        · cases h1
        · obtain ⟨_, _, _, h1⟩ := pb_inv h1
          obtain ⟨_, rfl⟩ := ok_inj2 h1
          exact h0 z
    · split at h
      · obtain ⟨e1, K1, h1, h⟩ := pb_inv h
        obtain ⟨rfl, hs⟩ := ok_inj2 h
        have h2 := congrArg Prod.fst hs
        have h3 := congrArg Prod.snd hs
        dsimp only at h2 h3
        subst h2; subst h3
        refine ⟨hd, fun z => ?_⟩
        unfold pCause at h1
        split at h1
        · cases h1
        · obtain ⟨_, _, _, h1⟩ := pb_inv h1
          obtain ⟨_, _, _, h1⟩ := pb_inv h1
          obtain ⟨_, rfl⟩ := ok_inj2 h1
          exact h0 z
      · split at h
        · obtain ⟨e1, K1, h1, h⟩ := pb_inv h
          obtain ⟨rfl, hs⟩ := ok_inj2 h
          have h3 := congrArg Prod.snd hs
          dsimp only at h3
          exact ⟨by omega, fun z => by omega⟩
        · cases h
def mKI (t : Nat → Nat) (n : Nat) (o4 : o_X12_number) (R0 : Except Nat Ld) (x5 x6 x7 x8 x9 x10 x11 x12 x13 x14 : Int32) (a16 a17 a18 a19 a20 a21 : Nat → Int32) : Prop := ∃ (U : wd_W) (e d : Nat) (L : Ld), (x5 = U.1 3 ∧ x6 = U.1 6 ∧ x7 = U.1 10 ∧ x8 = U.1 12 ∧ x9 = U.1 13 ∧ x10 = U.1 14 ∧ x11 = U.1 15 ∧ x12 = U.1 16 ∧ a16 = U.2.2.1 2 ∧ a17 = U.2.2.1 3 ∧ a18 = U.2.2.1 4 ∧ a19 = U.2.2.1 5 ∧ a20 = U.2.2.1 6 ∧ a21 = U.2.2.1 7) ∧ U.1 11 = o4.2.2.2 ∧ x13 = nI e ∧ x14 = nI 0 ∧ e ≤ n ∧ ((n ≤ wB t n e ∧ R0 = .ok L ∧ mTr U L d) ∨ (junk t n e ∧ R0 = .error (flt (wB t n e) 0)))
theorem m_clauses {S : wd_W} {n e0 : Nat} {t : Nat → Nat} {L0 : Ld} {R0 : Except Nat Ld} {o4 : o_X12_number} {Q : o_X12_text → Prop} (ht : MTa S n t) (U0 : wd_W) (he : e0 ≤ n) (hU : U0.1 11 = o4.2.2.2) (hR : R0 = pText t n n e0 L0 0) (hg : mTr U0 L0 0) {x19 : Int32}
    (K : Int32 → Int32 → Int32 → Int32 → Int32 → Int32 → Int32 → Int32 → Int32 → Int32 → Int32 → (Nat → Int32) → (Nat → Int32) → (Nat → Int32) → (Nat → Int32) → (Nat → Int32) → (Nat → Int32) → Option o_X12_text)
    (hK : ∀ x5 x6 x7 x8 x9 x10 x11 x12 x13 x14 x15 a16 a17 a18 a19 a20 a21, mKI t n o4 R0 x5 x6 x7 x8 x9 x10 x11 x12 x13 x14 a16 a17 a18 a19 a20 a21 → Ok (K x5 x6 x7 x8 x9 x10 x11 x12 x13 x14 x15 a16 a17 a18 a19 a20 a21) Q)
    (hret : ∀ f x3 x6 x10 x12 x13 x14 x15 x16 x17 x19 a2 a3 a4 a5 a6 a7, R0 = .error f → Ok (some ((0 : Int32), x3, x6, x10, o4.2.2.2, x12, x13, x14, x15, x16, x17, nI f, x19, a2, a3, a4, a5, a6, a7)) Q) :
    Ok (it17 (f_X12_text_L52 S o4 K) fuel (U0.1 3) (U0.1 6) (U0.1 10) (U0.1 12) (U0.1 13) (U0.1 14) (U0.1 15) (U0.1 16) (nI e0) (nI 0) x19 (U0.2.2.1 2) (U0.2.2.1 3) (U0.2.2.1 4) (U0.2.2.1 5) (U0.2.2.1 6) (U0.2.2.1 7)) Q := by
  refine ok_while (W := fun m (s : Nat × wd_W × Nat × Nat × Ld × Int32) => it17 (f_X12_text_L52 S o4 K) m (s.2.1.1 3) (s.2.1.1 6) (s.2.1.1 10) (s.2.1.1 12) (s.2.1.1 13) (s.2.1.1 14) (s.2.1.1 15) (s.2.1.1 16) (nI s.2.2.1) (nI 0) s.2.2.2.2.2 (s.2.1.2.2.1 2) (s.2.1.2.2.1 3) (s.2.1.2.2.1 4) (s.2.1.2.2.1 5) (s.2.1.2.2.1 6) (s.2.1.2.2.1 7)) (I := fun s => s.1 ≤ n ∧ s.1 ≤ s.2.2.1 ∧ s.2.2.1 ≤ n ∧ s.2.1.1 11 = o4.2.2.2 ∧ ((R0 = pText t n (n - s.1) s.2.2.1 s.2.2.2.2.1 s.2.2.2.1 ∧ mTr s.2.1 s.2.2.2.2.1 s.2.2.2.1) ∨ (junk t n s.2.2.1 ∧ R0 = .error (flt (wB t n s.2.2.1) 0)))) (μ := fun s => n + 1 - s.1) (s := (0, U0, e0, 0, L0, x19)) ⟨Nat.zero_le _, Nat.zero_le _, he, hU, Or.inl ⟨hR, hg⟩⟩ (by have := ht.2.1; show n + 1 - 0 < _; omega) ?_
  rintro m ⟨i, U, e, d, L, x⟩ ⟨hi, ie, en, hU, hI⟩ ih
  dsimp only at hi ie en hU hI
  show Ok (f_X12_text_L52 S o4 K (it17 _ m) (U.1 3) (U.1 6) (U.1 10) (U.1 12) (U.1 13) (U.1 14) (U.1 15) (U.1 16) (nI e) (nI 0) x (U.2.2.1 2) (U.2.2.1 3) (U.2.2.1 4) (U.2.2.1 5) (U.2.2.1 6) (U.2.2.1 7)) Q
  have h4 := ht.2.1
  have ih2 := fun (U' : wd_W) (e' d' : Nat) (L' : Ld) (x' : Int32) (hi' : i < n) h => ih (i + 1, U', e', d', L', x') h (by show n + 1 - (i + 1) < n + 1 - i; omega)
  dsimp only at ih2
  clear ih
  generalize it17 (f_X12_text_L52 S o4 K) m = r at ih2
  have hq := wB_le (t := t) en
  have hpq := wB_ge t n e
  have hs := m_see59 (t := t) (n := n) (q := wB t n e) (fun z => (ht.2.2 _ z).1)
  have eWW : wB t n (wB t n e) = wB t n e := wB_wB t n e
  unfold f_X12_text_L52
  rw [bd_s (m_see (S := wd_o S [(3, U.1 3), (6, U.1 6), (10, U.1 10), (11, o4.2.2.2), (12, U.1 12), (13, U.1 13), (14, U.1 14), (15, U.1 15), (16, U.1 16), (17, nI e), (18, nI 0), (19, x)] [] [(2, U.2.2.1 2), (3, U.2.2.1 3), (4, U.2.2.1 4), (5, U.2.2.1 5), (6, U.2.2.1 6), (7, U.2.2.1 7)] [] []) ht rfl en)]
  dsimp only
  refine ok_ite (fun c => ?_) (fun c => ?_)
  · obtain ⟨c1, c2⟩ := hs.1.mp c
    have c3 : i < n := by omega
    rcases hI with ⟨hR, hL, hm, hd, h0⟩ | ⟨hj, _⟩
    rotate_left
    · exact absurd c2 hj.2
    rw [show n - i = (n - (i + 1)) + 1 by omega, pText, if_neg (by omega), if_pos c2] at hR
    generalize hp : wB t n e + 1 = p at hR
    have pn : p ≤ n := by omega
    rw [nI_1, hp, lz_eq]
    have hqn := wB_le (t := t) pn
    have hpe := wE_le (t := t) pn
    have hge := wB_ge t n p
    have hge2 := wE_ge t n p
    have eu : uw t n (wB t n p) = uw t n p := uw_wB t n p
    have eW2 : wB t n (wB t n p) = wB t n p := wB_wB t n p
    have eE2 : wE t n (wB t n p) = wE t n p := wE_wB t n p
    rw [bd_s (m_see (S := wd_o S [(3, U.1 3), (6, U.1 6), (10, U.1 10), (11, o4.2.2.2), (12, U.1 12), (13, U.1 13), (14, U.1 14), (15, U.1 15), (16, U.1 16), (17, nI p), (18, nI 0), (19, x)] [] [(2, U.2.2.1 2), (3, U.2.2.1 3), (4, U.2.2.1 4), (5, U.2.2.1 5), (6, U.2.2.1 6), (7, U.2.2.1 7)] [] []) ht rfl pn)]
    dsimp only
    have hmr : ∀ y, mRd (wd_o S [(3, U.1 3), (6, U.1 6), (10, U.1 10), (11, o4.2.2.2), (12, U.1 12), (13, U.1 13), (14, U.1 14), (15, U.1 15), (16, U.1 16), (17, y), (18, nI 0), (19, x)] [] [(2, U.2.2.1 2), (3, U.2.2.1 3), (4, U.2.2.1 4), (5, U.2.2.1 5), (6, U.2.2.1 6), (7, U.2.2.1 7)] [] []) L d := by
      intro y
      obtain ⟨⟨m1, m2, m3, m4, m5⟩, mk⟩ := hm
      exact ⟨⟨m1, m2, m3, hU.symm.trans m4, m5⟩, mk⟩
    have hbad : ∀ (U' : wd_W) (f : Nat) (r x17 x18 : Int32) (P : PR Ld), P = .error f → (∀ f', P = .error f' → R0 = .error f') → mBad t n (wE t n p) f r x17 x18 → U'.1 11 = o4.2.2.2 → (r = nI 0 ∧ ∃ f, x18 = nI f ∧ R0 = .error f) ∨ (r = nI 1 ∧ x18 = nI 0 ∧ ∃ e', x17 = nI e' ∧ p ≤ e' ∧ e' ≤ n ∧ (junk t n e' ∧ R0 = .error (flt (wB t n e') 0))) := by
      intro U' f r x17 x18 P hP hPR hB _
      rcases hB with ⟨b1, b2⟩ | ⟨b1, b2, e', b3, b4, b5, b6, b7, b8⟩
      · exact Or.inl ⟨b1, f, b2, hPR f hP⟩
      · exact Or.inr ⟨b1, b2, e', b3, by omega, b4, ⟨b6, b7⟩, by rw [hPR f hP, b8]⟩
    refine ok_bd (P := fun o => o = (if uw t n p = kw1 then (nI 1, nI (wE t n p)) else (nI 0, nI (wB t n p)))) ?_ ?_
    · by_cases c1 : uw t n p = kw1
      · rw [if_pos c1, m_tkT (S := wd_o S [(3, U.1 3), (6, U.1 6), (10, U.1 10), (11, o4.2.2.2), (12, U.1 12), (13, U.1 13), (14, U.1 14), (15, U.1 15), (16, U.1 16), (17, nI (wB t n p)), (18, nI 0), (19, x)] [] [(2, U.2.2.1 2), (3, U.2.2.1 3), (4, U.2.2.1 4), (5, U.2.2.1 5), (6, U.2.2.1 6), (7, U.2.2.1 7)] [] []) kw1 kq1 kz1 ky1 ht rfl hqn (by rw [eu]; exact c1), eE2]
        exact ok_some rfl
      · rw [if_neg c1, m_tkF (S := wd_o S [(3, U.1 3), (6, U.1 6), (10, U.1 10), (11, o4.2.2.2), (12, U.1 12), (13, U.1 13), (14, U.1 14), (15, U.1 15), (16, U.1 16), (17, nI (wB t n p)), (18, nI 0), (19, x)] [] [(2, U.2.2.1 2), (3, U.2.2.1 3), (4, U.2.2.1 4), (5, U.2.2.1 5), (6, U.2.2.1 6), (7, U.2.2.1 7)] [] []) kw1 kq1 kz1 ky1 ht rfl hqn (by rw [eu]; exact c1), eW2]
        exact ok_some rfl
    rintro o48 ho48
    refine ok_lk18 (fun x49 x50 x51 x52 x53 x54 x55 x56 x57 x58 x59 x60 a61 a62 a63 a64 a65 a66 => (x49 = nI 0 ∧ ∃ f, x59 = nI f ∧ R0 = .error f) ∨ (x49 = nI 1 ∧ x59 = nI 0 ∧ ∃ (U' : wd_W) (e' d' : Nat) (L' : Ld), (x50 = U'.1 3 ∧ x51 = U'.1 6 ∧ x52 = U'.1 10 ∧ x53 = U'.1 12 ∧ x54 = U'.1 13 ∧ x55 = U'.1 14 ∧ x56 = U'.1 15 ∧ x57 = U'.1 16 ∧ a61 = U'.2.2.1 2 ∧ a62 = U'.2.2.1 3 ∧ a63 = U'.2.2.1 4 ∧ a64 = U'.2.2.1 5 ∧ a65 = U'.2.2.1 6 ∧ a66 = U'.2.2.1 7) ∧ x58 = nI e' ∧ U'.1 11 = o4.2.2.2 ∧ p ≤ e' ∧ e' ≤ n ∧ ((R0 = pText t n (n - (i + 1)) e' L' d' ∧ mTr U' L' d') ∨ (junk t n e' ∧ R0 = .error (flt (wB t n e') 0))))) (fun K2 hK2 => ?_) ?_
    · have hRc : pClause t n L d p = pClause t n L d p := rfl
      conv at hRc => rhs; unfold pClause
      by_cases c1 : uw t n p = kw1
      · rw [if_pos c1] at ho48
        subst ho48
        dsimp only
        rw [ite_1]
        rw [if_pos c1] at hRc
        refine ok_bd (m_rline (S := wd_o S [(3, U.1 3), (6, U.1 6), (10, U.1 10), (11, o4.2.2.2), (12, U.1 12), (13, U.1 13), (14, U.1 14), (15, U.1 15), (16, U.1 16), (17, nI (wE t n p)), (18, nI 0), (19, x)] [] [(2, U.2.2.1 2), (3, U.2.2.1 3), (4, U.2.2.1 4), (5, U.2.2.1 5), (6, U.2.2.1 6), (7, U.2.2.1 7)] [] []) (q := wB t n p) (d := d) ht hpe rfl rfl hL.1 (hmr _)) ?_
        rintro o ho
        cases hP : pLine t n L (wB t n p) (wE t n p) with
        | error f =>
          rw [hP] at ho
          have hB := hbad (wd_o (wd_o S [(3, U.1 3), (6, U.1 6), (10, U.1 10), (11, o4.2.2.2), (12, U.1 12), (13, U.1 13), (14, U.1 14), (15, U.1 15), (16, U.1 16), (17, nI (wE t n p)), (18, nI 0), (19, x)] [] [(2, U.2.2.1 2), (3, U.2.2.1 3), (4, U.2.2.1 4), (5, U.2.2.1 5), (6, U.2.2.1 6), (7, U.2.2.1 7)] [] []) [(3, o.2.1), (14, o.2.2.1), (15, o.2.2.2.1)] [] [(2, o.2.2.2.2.2.2.2)] [] []) f _ _ _ _ hP (fun f' hf' => by rw [hR, hRc, hf']; rfl) ho rfl
          refine hK2 _ _ _ _ _ _ _ _ _ _ _ _ _ _ _ _ _ _ ?_
          rcases hB with hB | ⟨b1, b2, e', b3, b4, b5, b6⟩
          · exact Or.inl hB
          · exact Or.inr ⟨b1, b2, wd_o (wd_o S [(3, U.1 3), (6, U.1 6), (10, U.1 10), (11, o4.2.2.2), (12, U.1 12), (13, U.1 13), (14, U.1 14), (15, U.1 15), (16, U.1 16), (17, nI (wE t n p)), (18, nI 0), (19, x)] [] [(2, U.2.2.1 2), (3, U.2.2.1 3), (4, U.2.2.1 4), (5, U.2.2.1 5), (6, U.2.2.1 6), (7, U.2.2.1 7)] [] []) [(3, o.2.1), (14, o.2.2.1), (15, o.2.2.2.1)] [] [(2, o.2.2.2.2.2.2.2)] [] [], e', 0, L, ⟨rfl, rfl, rfl, rfl, rfl, rfl, rfl, rfl, rfl, rfl, rfl, rfl, rfl, rfl⟩, b3, rfl, b4, b5, Or.inr b6⟩
        | ok y =>
          obtain ⟨e', L'⟩ := y
          rw [hP] at ho
          obtain ⟨o1, o2, o3, o5⟩ := ho
          have hin := pLine_inv hL hP
          rw [hP] at hRc
          have hRc2 : pClause t n L d p = .ok (e', L', d) := hRc
          have hdd := pClause_d hd hRc2 h0
          have en' : e' ≤ n := pLine_le hpe hP
          refine hK2 _ _ _ _ _ _ _ _ _ _ _ _ _ _ _ _ _ _ (Or.inr ⟨o1, o3, wd_o (wd_o S [(3, U.1 3), (6, U.1 6), (10, U.1 10), (11, o4.2.2.2), (12, U.1 12), (13, U.1 13), (14, U.1 14), (15, U.1 15), (16, U.1 16), (17, nI (wE t n p)), (18, nI 0), (19, x)] [] [(2, U.2.2.1 2), (3, U.2.2.1 3), (4, U.2.2.1 4), (5, U.2.2.1 5), (6, U.2.2.1 6), (7, U.2.2.1 7)] [] []) [(3, o.2.1), (14, o.2.2.1), (15, o.2.2.2.1)] [] [(2, o.2.2.2.2.2.2.2)] [] [], e', d, L', ⟨rfl, rfl, rfl, rfl, rfl, rfl, rfl, rfl, rfl, rfl, rfl, rfl, rfl, rfl⟩, o2, rfl, by omega, en', Or.inl ⟨by rw [hR, hRc2]; rfl, hin.1, o5, hdd⟩⟩)
      · rw [if_neg c1] at ho48
        subst ho48
        dsimp only
        rw [ite_0]
        rw [if_neg c1] at hRc
        by_cases c4 : uw t n p = kw4
        · rw [bd_s (m_tkT (S := wd_o S [(3, U.1 3), (6, U.1 6), (10, U.1 10), (11, o4.2.2.2), (12, U.1 12), (13, U.1 13), (14, U.1 14), (15, U.1 15), (16, U.1 16), (17, nI (wB t n p)), (18, nI 0), (19, x)] [] [(2, U.2.2.1 2), (3, U.2.2.1 3), (4, U.2.2.1 4), (5, U.2.2.1 5), (6, U.2.2.1 6), (7, U.2.2.1 7)] [] []) kw4 kq4 kz4 ky4 ht rfl hqn (by rw [eu]; exact c4)), eE2]
          dsimp only
          rw [ite_1]
          rw [if_pos c4] at hRc
          refine ok_bd (m_rkeep (S := wd_o S [(3, U.1 3), (6, U.1 6), (10, U.1 10), (11, o4.2.2.2), (12, U.1 12), (13, U.1 13), (14, U.1 14), (15, U.1 15), (16, U.1 16), (17, nI (wE t n p)), (18, nI 0), (19, x)] [] [(2, U.2.2.1 2), (3, U.2.2.1 3), (4, U.2.2.1 4), (5, U.2.2.1 5), (6, U.2.2.1 6), (7, U.2.2.1 7)] [] []) (q := wB t n p) (d := d) ht hpe rfl rfl hL.1 (hmr _)) ?_
          rintro o ho
          cases hP : pKeep t n L (wB t n p) (wE t n p) with
          | error f =>
            rw [hP] at ho
            have hB := hbad (wd_o (wd_o S [(3, U.1 3), (6, U.1 6), (10, U.1 10), (11, o4.2.2.2), (12, U.1 12), (13, U.1 13), (14, U.1 14), (15, U.1 15), (16, U.1 16), (17, nI (wE t n p)), (18, nI 0), (19, x)] [] [(2, U.2.2.1 2), (3, U.2.2.1 3), (4, U.2.2.1 4), (5, U.2.2.1 5), (6, U.2.2.1 6), (7, U.2.2.1 7)] [] []) [(6, o.2.1)] [] [(3, o.2.2.2.2.2.1), (4, o.2.2.2.2.2.2)] [] []) f _ _ _ _ hP (fun f' hf' => by rw [hR, hRc, hf']; rfl) ho rfl
            refine hK2 _ _ _ _ _ _ _ _ _ _ _ _ _ _ _ _ _ _ ?_
            rcases hB with hB | ⟨b1, b2, e', b3, b4, b5, b6⟩
            · exact Or.inl hB
            · exact Or.inr ⟨b1, b2, wd_o (wd_o S [(3, U.1 3), (6, U.1 6), (10, U.1 10), (11, o4.2.2.2), (12, U.1 12), (13, U.1 13), (14, U.1 14), (15, U.1 15), (16, U.1 16), (17, nI (wE t n p)), (18, nI 0), (19, x)] [] [(2, U.2.2.1 2), (3, U.2.2.1 3), (4, U.2.2.1 4), (5, U.2.2.1 5), (6, U.2.2.1 6), (7, U.2.2.1 7)] [] []) [(6, o.2.1)] [] [(3, o.2.2.2.2.2.1), (4, o.2.2.2.2.2.2)] [] [], e', 0, L, ⟨rfl, rfl, rfl, rfl, rfl, rfl, rfl, rfl, rfl, rfl, rfl, rfl, rfl, rfl⟩, b3, rfl, b4, b5, Or.inr b6⟩
          | ok y =>
            obtain ⟨e', L'⟩ := y
            rw [hP] at ho
            obtain ⟨o1, o2, o3, o5⟩ := ho
            have hin := pKeep_inv hL hP
            rw [hP] at hRc
            have hRc2 : pClause t n L d p = .ok (e', L', d) := hRc
            have hdd := pClause_d hd hRc2 h0
            have en' : e' ≤ n := pKeep_le hpe hP
            refine hK2 _ _ _ _ _ _ _ _ _ _ _ _ _ _ _ _ _ _ (Or.inr ⟨o1, o3, wd_o (wd_o S [(3, U.1 3), (6, U.1 6), (10, U.1 10), (11, o4.2.2.2), (12, U.1 12), (13, U.1 13), (14, U.1 14), (15, U.1 15), (16, U.1 16), (17, nI (wE t n p)), (18, nI 0), (19, x)] [] [(2, U.2.2.1 2), (3, U.2.2.1 3), (4, U.2.2.1 4), (5, U.2.2.1 5), (6, U.2.2.1 6), (7, U.2.2.1 7)] [] []) [(6, o.2.1)] [] [(3, o.2.2.2.2.2.1), (4, o.2.2.2.2.2.2)] [] [], e', d, L', ⟨rfl, rfl, rfl, rfl, rfl, rfl, rfl, rfl, rfl, rfl, rfl, rfl, rfl, rfl⟩, o2, rfl, by omega, en', Or.inl ⟨by rw [hR, hRc2]; rfl, hin.1, o5, hdd⟩⟩)
        · rw [bd_s (m_tkF (S := wd_o S [(3, U.1 3), (6, U.1 6), (10, U.1 10), (11, o4.2.2.2), (12, U.1 12), (13, U.1 13), (14, U.1 14), (15, U.1 15), (16, U.1 16), (17, nI (wB t n p)), (18, nI 0), (19, x)] [] [(2, U.2.2.1 2), (3, U.2.2.1 3), (4, U.2.2.1 4), (5, U.2.2.1 5), (6, U.2.2.1 6), (7, U.2.2.1 7)] [] []) kw4 kq4 kz4 ky4 ht rfl hqn (by rw [eu]; exact c4)), eW2]
          dsimp only
          rw [ite_0]
          rw [if_neg c4] at hRc
          by_cases c5 : uw t n p = kw5
          · rw [bd_s (m_tkT (S := wd_o S [(3, U.1 3), (6, U.1 6), (10, U.1 10), (11, o4.2.2.2), (12, U.1 12), (13, U.1 13), (14, U.1 14), (15, U.1 15), (16, U.1 16), (17, nI (wB t n p)), (18, nI 0), (19, x)] [] [(2, U.2.2.1 2), (3, U.2.2.1 3), (4, U.2.2.1 4), (5, U.2.2.1 5), (6, U.2.2.1 6), (7, U.2.2.1 7)] [] []) kw5 kq5 kz5 ky5 ht rfl hqn (by rw [eu]; exact c5)), eE2]
            dsimp only
            rw [ite_1]
            rw [if_pos c5] at hRc
            refine ok_bd (m_rcause (S := wd_o S [(3, U.1 3), (6, U.1 6), (10, U.1 10), (11, o4.2.2.2), (12, U.1 12), (13, U.1 13), (14, U.1 14), (15, U.1 15), (16, U.1 16), (17, nI (wE t n p)), (18, nI 0), (19, x)] [] [(2, U.2.2.1 2), (3, U.2.2.1 3), (4, U.2.2.1 4), (5, U.2.2.1 5), (6, U.2.2.1 6), (7, U.2.2.1 7)] [] []) (q := wB t n p) (d := d) ht hpe rfl rfl hL.1 hL.2 (hmr _)) ?_
            rintro o ho
            cases hP : pCause t n L (wB t n p) (wE t n p) with
            | error f =>
              rw [hP] at ho
              have hB := hbad (wd_o (wd_o S [(3, U.1 3), (6, U.1 6), (10, U.1 10), (11, o4.2.2.2), (12, U.1 12), (13, U.1 13), (14, U.1 14), (15, U.1 15), (16, U.1 16), (17, nI (wE t n p)), (18, nI 0), (19, x)] [] [(2, U.2.2.1 2), (3, U.2.2.1 3), (4, U.2.2.1 4), (5, U.2.2.1 5), (6, U.2.2.1 6), (7, U.2.2.1 7)] [] []) [(10, o.2.1)] [] [(5, o.2.2.2.2.2.1), (6, o.2.2.2.2.2.2.1), (7, o.2.2.2.2.2.2.2)] [] []) f _ _ _ _ hP (fun f' hf' => by rw [hR, hRc, hf']; rfl) ho rfl
              refine hK2 _ _ _ _ _ _ _ _ _ _ _ _ _ _ _ _ _ _ ?_
              rcases hB with hB | ⟨b1, b2, e', b3, b4, b5, b6⟩
              · exact Or.inl hB
              · exact Or.inr ⟨b1, b2, wd_o (wd_o S [(3, U.1 3), (6, U.1 6), (10, U.1 10), (11, o4.2.2.2), (12, U.1 12), (13, U.1 13), (14, U.1 14), (15, U.1 15), (16, U.1 16), (17, nI (wE t n p)), (18, nI 0), (19, x)] [] [(2, U.2.2.1 2), (3, U.2.2.1 3), (4, U.2.2.1 4), (5, U.2.2.1 5), (6, U.2.2.1 6), (7, U.2.2.1 7)] [] []) [(10, o.2.1)] [] [(5, o.2.2.2.2.2.1), (6, o.2.2.2.2.2.2.1), (7, o.2.2.2.2.2.2.2)] [] [], e', 0, L, ⟨rfl, rfl, rfl, rfl, rfl, rfl, rfl, rfl, rfl, rfl, rfl, rfl, rfl, rfl⟩, b3, rfl, b4, b5, Or.inr b6⟩
            | ok y =>
              obtain ⟨e', L'⟩ := y
              rw [hP] at ho
              obtain ⟨o1, o2, o3, o5⟩ := ho
              have hin := pCause_inv hL hP
              rw [hP] at hRc
              have hRc2 : pClause t n L d p = .ok (e', L', d) := hRc
              have hdd := pClause_d hd hRc2 h0
              have en' : e' ≤ n := pCause_le hpe hP
              refine hK2 _ _ _ _ _ _ _ _ _ _ _ _ _ _ _ _ _ _ (Or.inr ⟨o1, o3, wd_o (wd_o S [(3, U.1 3), (6, U.1 6), (10, U.1 10), (11, o4.2.2.2), (12, U.1 12), (13, U.1 13), (14, U.1 14), (15, U.1 15), (16, U.1 16), (17, nI (wE t n p)), (18, nI 0), (19, x)] [] [(2, U.2.2.1 2), (3, U.2.2.1 3), (4, U.2.2.1 4), (5, U.2.2.1 5), (6, U.2.2.1 6), (7, U.2.2.1 7)] [] []) [(10, o.2.1)] [] [(5, o.2.2.2.2.2.1), (6, o.2.2.2.2.2.2.1), (7, o.2.2.2.2.2.2.2)] [] [], e', d, L', ⟨rfl, rfl, rfl, rfl, rfl, rfl, rfl, rfl, rfl, rfl, rfl, rfl, rfl, rfl⟩, o2, rfl, by omega, en', Or.inl ⟨by rw [hR, hRc2]; rfl, hin.1, o5, hdd⟩⟩)
          · rw [bd_s (m_tkF (S := wd_o S [(3, U.1 3), (6, U.1 6), (10, U.1 10), (11, o4.2.2.2), (12, U.1 12), (13, U.1 13), (14, U.1 14), (15, U.1 15), (16, U.1 16), (17, nI (wB t n p)), (18, nI 0), (19, x)] [] [(2, U.2.2.1 2), (3, U.2.2.1 3), (4, U.2.2.1 4), (5, U.2.2.1 5), (6, U.2.2.1 6), (7, U.2.2.1 7)] [] []) kw5 kq5 kz5 ky5 ht rfl hqn (by rw [eu]; exact c5)), eW2]
            dsimp only
            rw [ite_0]
            rw [if_neg c5] at hRc
            by_cases c7 : uw t n p = kw7
            · rw [bd_s (m_tkT (S := wd_o S [(3, U.1 3), (6, U.1 6), (10, U.1 10), (11, o4.2.2.2), (12, U.1 12), (13, U.1 13), (14, U.1 14), (15, U.1 15), (16, U.1 16), (17, nI (wB t n p)), (18, nI 0), (19, x)] [] [(2, U.2.2.1 2), (3, U.2.2.1 3), (4, U.2.2.1 4), (5, U.2.2.1 5), (6, U.2.2.1 6), (7, U.2.2.1 7)] [] []) kw7 kq7 kz7 ky7 ht rfl hqn (by rw [eu]; exact c7)), eE2]
              dsimp only
              rw [ite_1]
              rw [if_pos c7] at hRc
              refine ok_bd (m_rthr (S := wd_o S [(3, U.1 3), (6, U.1 6), (10, U.1 10), (11, o4.2.2.2), (12, U.1 12), (13, U.1 13), (14, U.1 14), (15, U.1 15), (16, U.1 16), (17, nI (wE t n p)), (18, nI 0), (19, x)] [] [(2, U.2.2.1 2), (3, U.2.2.1 3), (4, U.2.2.1 4), (5, U.2.2.1 5), (6, U.2.2.1 6), (7, U.2.2.1 7)] [] []) (q := wB t n p) (d := d) ht hpe rfl rfl hL.1 hd (hmr _) h0) ?_
              rintro o ho
              cases hP : pThr t n L d (wB t n p) (wE t n p) with
              | error f =>
                rw [hP] at ho
                have hB := hbad (wd_o (wd_o S [(3, U.1 3), (6, U.1 6), (10, U.1 10), (11, o4.2.2.2), (12, U.1 12), (13, U.1 13), (14, U.1 14), (15, U.1 15), (16, U.1 16), (17, nI (wE t n p)), (18, nI 0), (19, x)] [] [(2, U.2.2.1 2), (3, U.2.2.1 3), (4, U.2.2.1 4), (5, U.2.2.1 5), (6, U.2.2.1 6), (7, U.2.2.1 7)] [] []) [(12, o.2.1), (13, o.2.2.1), (14, o.2.2.2.1), (15, o.2.2.2.2.1), (16, o.2.2.2.2.2.1)] [] [] [] []) f _ _ _ _ hP (fun f' hf' => by rw [hR, hRc, hf']; rfl) ho rfl
                refine hK2 _ _ _ _ _ _ _ _ _ _ _ _ _ _ _ _ _ _ ?_
                rcases hB with hB | ⟨b1, b2, e', b3, b4, b5, b6⟩
                · exact Or.inl hB
                · exact Or.inr ⟨b1, b2, wd_o (wd_o S [(3, U.1 3), (6, U.1 6), (10, U.1 10), (11, o4.2.2.2), (12, U.1 12), (13, U.1 13), (14, U.1 14), (15, U.1 15), (16, U.1 16), (17, nI (wE t n p)), (18, nI 0), (19, x)] [] [(2, U.2.2.1 2), (3, U.2.2.1 3), (4, U.2.2.1 4), (5, U.2.2.1 5), (6, U.2.2.1 6), (7, U.2.2.1 7)] [] []) [(12, o.2.1), (13, o.2.2.1), (14, o.2.2.2.1), (15, o.2.2.2.2.1), (16, o.2.2.2.2.2.1)] [] [] [] [], e', 0, L, ⟨rfl, rfl, rfl, rfl, rfl, rfl, rfl, rfl, rfl, rfl, rfl, rfl, rfl, rfl⟩, b3, rfl, b4, b5, Or.inr b6⟩
              | ok y =>
                obtain ⟨e', L'⟩ := y
                rw [hP] at ho
                obtain ⟨o1, o2, o3, o5⟩ := ho
                have hin := pThr_inv hL hP
                rw [hP] at hRc
                have hRc2 : pClause t n L d p = .ok (e', L', 1) := hRc
                have hdd := pClause_d hd hRc2 h0
                have en' : e' ≤ n := pThr_le hpe hP
                refine hK2 _ _ _ _ _ _ _ _ _ _ _ _ _ _ _ _ _ _ (Or.inr ⟨o1, o3, wd_o (wd_o S [(3, U.1 3), (6, U.1 6), (10, U.1 10), (11, o4.2.2.2), (12, U.1 12), (13, U.1 13), (14, U.1 14), (15, U.1 15), (16, U.1 16), (17, nI (wE t n p)), (18, nI 0), (19, x)] [] [(2, U.2.2.1 2), (3, U.2.2.1 3), (4, U.2.2.1 4), (5, U.2.2.1 5), (6, U.2.2.1 6), (7, U.2.2.1 7)] [] []) [(12, o.2.1), (13, o.2.2.1), (14, o.2.2.2.1), (15, o.2.2.2.2.1), (16, o.2.2.2.2.2.1)] [] [] [] [], e', 1, L', ⟨rfl, rfl, rfl, rfl, rfl, rfl, rfl, rfl, rfl, rfl, rfl, rfl, rfl, rfl⟩, o2, rfl, by omega, en', Or.inl ⟨by rw [hR, hRc2]; rfl, hin.1, o5, hdd⟩⟩)
            · rw [bd_s (m_tkF (S := wd_o S [(3, U.1 3), (6, U.1 6), (10, U.1 10), (11, o4.2.2.2), (12, U.1 12), (13, U.1 13), (14, U.1 14), (15, U.1 15), (16, U.1 16), (17, nI (wB t n p)), (18, nI 0), (19, x)] [] [(2, U.2.2.1 2), (3, U.2.2.1 3), (4, U.2.2.1 4), (5, U.2.2.1 5), (6, U.2.2.1 6), (7, U.2.2.1 7)] [] []) kw7 kq7 kz7 ky7 ht rfl hqn (by rw [eu]; exact c7)), eW2]
              dsimp only
              rw [ite_0]
              rw [if_neg c7] at hRc
              rw [bd_s (m_fails (S := wd_o S [(3, U.1 3), (6, U.1 6), (10, U.1 10), (11, o4.2.2.2), (12, U.1 12), (13, U.1 13), (14, U.1 14), (15, U.1 15), (16, U.1 16), (17, nI (wB t n p)), (18, nI 0), (19, x)] [] [(2, U.2.2.1 2), (3, U.2.2.1 3), (4, U.2.2.1 4), (5, U.2.2.1 5), (6, U.2.2.1 6), (7, U.2.2.1 7)] [] []) (q := wB t n p) (k := 0) (p1 := (0 : Int32)) rfl rfl)]
              exact hK2 _ _ _ _ _ _ _ _ _ _ _ _ _ _ _ _ _ _ (Or.inl ⟨rfl, _, rfl, by rw [hR, hRc]; rfl⟩)
    · rintro x49 x50 x51 x52 x53 x54 x55 x56 x57 x58 x59 x60 a61 a62 a63 a64 a65 a66 (⟨rfl, f, rfl, hf⟩ | ⟨rfl, rfl, U', e', d', L', ⟨rfl, rfl, rfl, rfl, rfl, rfl, rfl, rfl, rfl, rfl, rfl, rfl, rfl, rfl⟩, rfl, k2, k3, k4, k5⟩)
      · rw [ite_0]
        exact hret f _ _ _ _ _ _ _ _ _ _ _ _ _ _ _ _ hf
      · rw [ite_1]
        exact ih2 U' e' d' L' _ c3 ⟨by omega, by omega, k4, k2, k5⟩
  · refine hK _ _ _ _ _ _ _ _ _ _ _ _ _ _ _ _ _ ⟨U, wB t n e, d, L, ⟨rfl, rfl, rfl, rfl, rfl, rfl, rfl, rfl, rfl, rfl, rfl, rfl, rfl, rfl⟩, hU, rfl, rfl, hq, ?_⟩
    rcases hI with ⟨hR, hm⟩ | ⟨hj, hR⟩
    · by_cases z : n ≤ wB t n e
      · refine Or.inl ⟨by rw [eWW]; exact z, ?_, hm⟩
        rw [hR]
        cases w : n - i with
        | zero => rw [pText]
        | succ f => rw [pText, if_pos z]
      · have z2 : t (wB t n e) ≠ 59 := fun y => c (hs.1.mpr ⟨by omega, y⟩)
        refine Or.inr ⟨⟨by rw [eWW]; omega, by rw [eWW]; exact z2⟩, ?_⟩
        rw [show n - i = (n - (i + 1)) + 1 by omega, pText, if_neg z, if_neg z2] at hR
        rw [hR, eWW]
    · refine Or.inr ⟨⟨by rw [eWW]; exact hj.1, by rw [eWW]; exact hj.2⟩, ?_⟩
      rw [hR, eWW]
