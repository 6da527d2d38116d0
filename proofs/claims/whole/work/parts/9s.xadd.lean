/-! a new line: the developers' -/
/-- nothing has changed but what a new line is tried with -/
def xK (S S' : wd_W) : Prop := (∀ i, i < 14000 ∨ 15900 ≤ i → S'.1 i = S.1 i) ∧ ∀ c, c < 140 ∨ 159 ≤ c → S'.2.2.1 c = S.2.2.1 c ∧ S'.2.2.2.1 c = S.2.2.2.1 c ∧ S'.2.2.2.2 c = S.2.2.2.2 c
theorem xK_refl (S : wd_W) : xK S S := ⟨fun _ _ => rfl, fun _ _ => ⟨rfl, rfl, rfl⟩⟩
theorem xK_trans {S S' S'' : wd_W} (h : xK S S') (h2 : xK S' S'') : xK S S'' :=
  ⟨fun i hi => (h2.1 i hi).trans (h.1 i hi), fun c hc => ⟨((h2.2 c hc).1).trans (h.2 c hc).1, ((h2.2 c hc).2.1).trans (h.2 c hc).2.1, ((h2.2 c hc).2.2).trans (h.2 c hc).2.2⟩⟩
theorem xK_L {S S' : wd_W} {L : Ld} {c : Nat} (hk : xK S S') (hc : c ≤ 100) (h : xL S c L) : xL S' c L := by
  obtain ⟨⟨h0, h1, h2, h3, h4, h5, h6, h7⟩, k1, k2, k3⟩ := h
  obtain ⟨e1, e2⟩ := hk
  refine ⟨⟨?_, ?_, ?_, ?_, ?_, ?_, ?_, ?_⟩, fun k hk => ?_, fun k hk => ?_, fun k hk => ?_⟩
  · rw [e1 _ (by omega)]; exact h0
  · rw [e1 _ (by omega)]; exact h1
  · rw [e1 _ (by omega)]; exact h2
  · rw [e1 _ (by omega)]; exact h3
  · rw [e1 _ (by omega)]; exact h4
  · rw [e1 _ (by omega)]; exact h5
  · rw [e1 _ (by omega)]; exact h6
  · rw [e1 _ (by omega)]; exact h7
  · rw [(e2 (c + 1) (by omega)).1, (e2 (c + 2) (by omega)).1, (e2 (c + 3) (by omega)).1, (e2 (c + 4) (by omega)).1, (e2 (c + 5) (by omega)).1]; exact k1 k hk
  · rw [(e2 (c + 6) (by omega)).1, (e2 (c + 7) (by omega)).1]; exact k2 k hk
  · rw [(e2 (c + 8) (by omega)).1, (e2 (c + 9) (by omega)).1, (e2 (c + 10) (by omega)).1]; exact k3 k hk
theorem xK_S {S S' : wd_W} {L : Ld} (hk : xK S S') (h : xS S L) : xS S' L := by
  obtain ⟨⟨⟨r0, r1, r2, r3⟩, rk⟩, h2, h3, h4, h5, h6, h7, l7, l9, l8, l10⟩ := h
  obtain ⟨e1, e2⟩ := hk
  have a := fun (i : Nat) (hi : i < 14000) => e1 i (Or.inl hi)
  have b := fun (c : Nat) (hc : c < 140) => e2 c (Or.inl hc)
  refine ⟨⟨⟨?_, ?_, ?_, ?_⟩, fun k hk => ?_⟩, ?_, ?_, ?_, fun t ht => ?_, fun s hs => ?_, fun j hj => ?_, ?_, ?_, ?_, ?_⟩
  · rw [a _ (by omega)]; exact r0
  · rw [a _ (by omega)]; exact r1
  · rw [a _ (by omega)]; exact r2
  · rw [a _ (by omega)]; exact r3
  · rw [(b (111 + 1) (by omega)).1, (b (111 + 2) (by omega)).1, (b (111 + 3) (by omega)).1]; exact rk k hk
  · rw [a _ (by omega)]; exact h2
  · rw [a _ (by omega)]; exact h3
  · rw [a _ (by omega)]; exact h4
  · rw [(b 118 (by omega)).1, (b 119 (by omega)).1]; exact h5 t ht
  · rw [(b 107 (by omega)).2.1, (b 109 (by omega)).1]; exact h6 s hs
  · rw [(b 110 (by omega)).1, (b 108 (by omega)).2.1]; exact h7 j hj
  · rw [(b 107 (by omega)).2.2]; exact l7
  · rw [(b 109 (by omega)).2.2]; exact l9
  · rw [(b 108 (by omega)).2.2]; exact l8
  · rw [(b 110 (by omega)).2.2]; exact l10
theorem xK_N {S S' : wd_W} (hk : xK S S') (h : xN S) : xN S' := by
  obtain ⟨e, f, he, hf, n7, n9, n8, n10⟩ := h
  have b := fun (c : Nat) (hc : c < 140) => hk.2 c (Or.inl hc)
  exact ⟨e, f, he, hf, by rw [(b 107 (by omega)).2.2]; exact n7, by rw [(b 109 (by omega)).2.2]; exact n9, by rw [(b 108 (by omega)).2.2]; exact n8, by rw [(b 110 (by omega)).2.2]; exact n10⟩
/-- the wide land -/
def wiL (L : Ld) (a b : Nat) : Ld := fun f => if f = 1 then (fun _ => l_n L + 1) else laN L a b f
theorem wiL_r {L : Ld} {a b : Nat} (hL : lOk L) (hn : l_n L < 12) (ha : a < l_N L) (hb : b < l_N L) (hab : a ≠ b) : lOr (wiL L a b) := by
  obtain ⟨⟨g1, g2, g3⟩, gk, gw⟩ := lOk_r hL
  refine ⟨⟨g1, g2, by show l_n L + 1 ≤ 13; omega⟩, fun k hk => ?_, gw⟩
  have hk : k < l_n L + 1 := hk
  by_cases e : k = l_n L
  · subst e
    obtain ⟨n1, n2, n3, n4⟩ := laN_new L a b
    show l_A (laN L a b) (l_n L) < l_N L ∧ l_B (laN L a b) (l_n L) < l_N L ∧ l_A (laN L a b) (l_n L) ≠ l_B (laN L a b) (l_n L) ∧ l_O (laN L a b) (l_n L) ≤ 1 ∧ 1 ≤ l_D (laN L a b) (l_n L) ∧ l_D (laN L a b) (l_n L) ≤ 9
    rw [n1, n2, n3, n4]
    exact ⟨ha, hb, hab, by omega, by omega, by omega⟩
  · obtain ⟨e1, e2, e3, e4, e5⟩ := laN_lo (L := L) (a := a) (b := b) (show k < l_n L by omega)
    show l_A (laN L a b) k < l_N L ∧ l_B (laN L a b) k < l_N L ∧ l_A (laN L a b) k ≠ l_B (laN L a b) k ∧ l_O (laN L a b) k ≤ 1 ∧ 1 ≤ l_D (laN L a b) k ∧ l_D (laN L a b) k ≤ 9
    rw [e1, e2, e4, e5]
    exact gk k (by omega)
theorem x_stand {S : wd_W} {L : Ld} {s ps : Nat} (hL : lOk L) (h : xS S L) (hN : xN S) (hs : s < 2 ^ l_M L) : f_X8_stand_q106 S (nI s) (nI ps) = some (nI (b2n (decide (hm L s >>> 12 &&& ps = 0)))) := by
  have hM := lM_15 hL
  have pM := pow_le15 hM
  obtain ⟨e, f, he, hf, n7, n9, n8, n10⟩ := hN
  have pe := pow_le15 he
  have l9 := h.2.2.2.2.2.2.2.2.1
  have hh := hm_lt hL s
  have hsh : hm L s >>> 12 ≤ hm L s := by rw [Nat.shiftRight_eq_div_pow]; exact Nat.div_le_self _ _
  have hand : hm L s >>> 12 &&& ps ≤ hm L s >>> 12 := Nat.and_le_left
  unfold f_X8_stand_q106
  rw [gd_in (by omega) (by omega), nI_clamp (by omega), (h.2.2.2.2.2.1 s hs).2, li_12s, oI_shr (by omega) (by omega), oI_and]
  have k : nI (hm L s >>> 12 &&& ps) = 0 ↔ hm L s >>> 12 &&& ps = 0 := oI_z (by omega)
  by_cases c : hm L s >>> 12 &&& ps = 0
  · rw [if_pos (k.mpr c), decide_eq_true c]; rfl
  · rw [if_neg (fun z => c (k.mp z)), decide_eq_false c]; rfl
theorem hm_st {L : Ld} (hL : lOk L) (s ps : Nat) : hm L s >>> 12 &&& ps = 0 ↔ ∀ p, ps.testBit p = true → stB L s p = true := by
  have e : ∀ p, (hm L s >>> 12).testBit p = !stB L s p := fun p => by rw [Nat.testBit_shiftRight]; exact hm_place hL s p
  constructor
  · intro h p hp
    cases hst : stB L s p with
    | true => rfl
    | false =>
      exfalso
      exact (and_ne0.mpr ⟨p, by rw [e, hst]; rfl, hp⟩) h
  · intro h
    apply Classical.byContradiction
    intro hne
    obtain ⟨p, h1, h2⟩ := and_ne0.mp hne
    rw [e, h p h2] at h1
    cases h1
theorem nw_yes {L : Ld} {a b s : Nat} (hL : lOk L) (h : (stB L s a && stB L s b) = true) : nwB L a b s = true ↔ (hm L s >>> 12 &&& neM L = 0 ∧ carB (laN L a b) (opM L s false ||| 2 ^ l_n L) = true) := by
  rw [nwB_iff, carB_iff]
  unfold thr
  rw [opM_laN, if_pos h, hm_st hL, ← ned_iff hL]
  exact Iff.rfl
theorem x_isThroughWith {S : wd_W} {L : Ld} {a b s : Nat} (hL : lOk L) (h : xS S L) (hN : xN S) (hs : s < 2 ^ l_M L) (h2 : S.1 15302 = nI (neM L)) (hl : 2 ^ l_n L ≤ S.2.2.2.2 141) (hl2 : S.2.2.2.2 141 ≤ 4096) (hr : ∀ j, j < 2 ^ l_n L → S.2.2.1 141 j = nI (b2n (carB (laN L a b) (j ||| 2 ^ l_n L)))) :
    f_X1_isThroughWith_q140 S (nI s) (nI (2 ^ a ||| 2 ^ b)) = some (nI (b2n (nwB L a b s))) := by
  have hst : (hm L s >>> 12 &&& (2 ^ a ||| 2 ^ b) = 0) ↔ (stB L s a && stB L s b) = true := by
    rw [hm_st hL, Bool.and_eq_true]
    constructor
    · intro q
      exact ⟨q a ((or2_bit a b a).mpr (Or.inl rfl)), q b ((or2_bit a b b).mpr (Or.inr rfl))⟩
    · rintro ⟨q1, q2⟩ p hp
      rcases (or2_bit a b p).mp hp with e | e
      · rw [← e]; exact q1
      · rw [← e]; exact q2
  have pM := pow_le15 (lM_15 hL)
  obtain ⟨e, f, he, hf, n7, n9, n8, n10⟩ := hN
  have pe := pow_le15 he
  have hN : xN S := ⟨e, f, he, hf, n7, n9, n8, n10⟩
  apply ok_e
  unfold f_X1_isThroughWith_q140
  rw [bd_s (x_stand (S := wd_o S [] [] [] [] []) hL h hN hs)]
  refine ok_b (fun z => ?_) (fun z => ?_)
  · rw [bd_s (x_isThrough (S := wd_o S [] [] [] [] []) hL h hN hs)]
    have hno : (stB L s a && stB L s b) = false := by
      cases q : (stB L s a && stB L s b) with
      | false => rfl
      | true => have := hst.mpr q; rw [decide_eq_true this] at z; cases z
    rw [nw_no hno]
    refine ok_gd (by cases thB L s <;> rfl) (ok_some rfl)
  · have hyes : (stB L s a && stB L s b) = true := hst.mp (of_decide_eq_true z)
    have hth := nw_yes (a := a) (b := b) hL hyes
    have ho := opM_lt0 L s
    rw [h2, bd_s (x_stand (S := wd_o S [] [] [] [] []) hL h hN hs)]
    refine ok_b (fun y => ?_) (fun y => ?_)
    · have : nwB L a b s = false := by
        cases q : nwB L a b s with
        | false => rfl
        | true => have := (hth.mp q).1; rw [decide_eq_true this] at y; cases y
      rw [this]; exact ok_some rfl
    · have y := of_decide_eq_true y
      rw [bd_s (x_openIn (S := wd_o S [] [] [] [] []) hL h.2.2.1 (h.2.2.2.2.2.1 s hs).2 (show s < S.2.2.2.2 109 by have := h.2.2.2.2.2.2.2.2.1; omega) (show S.2.2.2.2 109 ≤ 32768 by omega)), gd_in (by omega) (by omega), nI_clamp (by omega), hr _ ho]
      refine ok_b (fun w => ?_) (fun w => ?_)
      · have : nwB L a b s = false := by
          cases q : nwB L a b s with
          | false => rfl
          | true => have := (hth.mp q).2; rw [w] at this; cases this
        rw [this]; exact ok_some rfl
      · rw [hth.mpr ⟨y, w⟩]; exact ok_some rfl
theorem x_copyWide (S : wd_W) : f_X2_copyOf_q142_q16 S = some (S.1 1600, S.1 1601, S.1 1607, S.1 1610, S.1 1614, S.1 1615, S.1 1616, S.1 1617, (va_cpy (S.2.2.1 17) (S.2.2.1 143) 0 0 13), (va_cpy (S.2.2.1 18) (S.2.2.1 144) 0 0 13), (va_cpy (S.2.2.1 19) (S.2.2.1 145) 0 0 13), (va_cpy (S.2.2.1 20) (S.2.2.1 146) 0 0 13), (va_cpy (S.2.2.1 21) (S.2.2.1 147) 0 0 13), (va_cpy (S.2.2.1 22) (S.2.2.1 148) 0 0 10), (va_cpy (S.2.2.1 23) (S.2.2.1 149) 0 0 10), (va_cpy (S.2.2.1 24) (S.2.2.1 150) 0 0 3), (va_cpy (S.2.2.1 25) (S.2.2.1 151) 0 0 3), (va_cpy (S.2.2.1 26) (S.2.2.1 152) 0 0 3)) := rfl
theorem x_addWide {S : wd_W} {n : Nat} {p1 p2 p3 p4 p5 : Int32} (h : S.1 14201 = nI n) (hn : n < 13) : f_X2_addLine_q142 S p1 p2 p3 p4 p5 = some (nI (n + 1), upd (S.2.2.1 143) n p1, upd (S.2.2.1 144) n p2, upd (S.2.2.1 145) n p3, upd (S.2.2.1 146) n p4, upd (S.2.2.1 147) n p5) := by
  unfold f_X2_addLine_q142
  rw [h, li_13, if_neg (nI_ge hn (by omega)), gd_in (by omega) (by omega), lz_eq, gd_in (by omega) (by omega), lz_eq, gd_in (by omega) (by omega), lz_eq, gd_in (by omega) (by omega), lz_eq, gd_in (by omega) (by omega), lz_eq, lz_eq, nI_clamp (by omega), nI_1]
theorem neM_wi (L : Ld) (a b : Nat) : neM (wiL L a b) = neM L := rfl
theorem x_wide {S : wd_W} {L : Ld} {a b : Nat} (hL : lOk L) (hc3 : l_c L ≤ 3) (hl : xL S 16 L) (hn : l_n L < 12) {x1 x2 x3 x4 x5 : Nat → Int32} (e1 : x1 = upd (va_cpy (S.2.2.1 17) (S.2.2.1 143) 0 0 13) (l_n L) (nI a)) (e2 : x2 = upd (va_cpy (S.2.2.1 18) (S.2.2.1 144) 0 0 13) (l_n L) (nI b)) (e3 : x3 = upd (va_cpy (S.2.2.1 19) (S.2.2.1 145) 0 0 13) (l_n L) (nI 16)) (e4 : x4 = upd (va_cpy (S.2.2.1 20) (S.2.2.1 146) 0 0 13) (l_n L) (nI 0)) (e5 : x5 = upd (va_cpy (S.2.2.1 21) (S.2.2.1 147) 0 0 13) (l_n L) (nI 1)) :
    xL (wd_o S [(14200, S.1 1600), (14201, nI (l_n L + 1)), (14207, S.1 1607), (14210, S.1 1610), (14214, S.1 1614), (14215, S.1 1615), (14216, S.1 1616), (14217, S.1 1617)] [] [(143, x1), (144, x2), (145, x3), (146, x4), (147, x5), (148, va_cpy (S.2.2.1 22) (S.2.2.1 148) 0 0 10), (149, va_cpy (S.2.2.1 23) (S.2.2.1 149) 0 0 10), (150, va_cpy (S.2.2.1 24) (S.2.2.1 150) 0 0 3), (151, va_cpy (S.2.2.1 25) (S.2.2.1 151) 0 0 3), (152, va_cpy (S.2.2.1 26) (S.2.2.1 152) 0 0 3)] [] []) 142 (wiL L a b) := by
  obtain ⟨⟨l0, l1, l7, l10, l14, l15, l16, l17⟩, lk1, lk2, lk3⟩ := hl
  have g4 := hL.1.2.2.2.1
  refine ⟨⟨l0, rfl, l7, l10, l14, l15, l16, l17⟩, fun k hk => ?_, fun j hj => ?_, fun j hj => ?_⟩
  · have hk : k < l_n L + 1 := hk
    show x1 k = nI (l_A (laN L a b) k) ∧ x2 k = nI (l_B (laN L a b) k) ∧ x3 k = nI (l_C (laN L a b) k) ∧ x4 k = nI (1 - l_O (laN L a b) k) ∧ x5 k = nI (l_D (laN L a b) k)
    by_cases e : k = l_n L
    · subst e
      obtain ⟨n1, n2, n3, n4⟩ := laN_new L a b
      have n5 : l_C (laN L a b) (l_n L) = 16 := upN_s _ _ _
      rw [n1, n2, n3, n4, n5, e1, e2, e3, e4, e5, pk_us, pk_us, pk_us, pk_us, pk_us]
      exact ⟨rfl, rfl, rfl, rfl, rfl⟩
    · obtain ⟨q1, q2, q3, q4, q5⟩ := laN_lo (L := L) (a := a) (b := b) (show k < l_n L by omega)
      obtain ⟨b1, b2, b3, b4, b5⟩ := lk1 k (by omega)
      rw [q1, q2, q3, q4, q5, e1, e2, e3, e4, e5, pk_un e, pk_un e, pk_un e, pk_un e, pk_un e, cpy_in (by omega), cpy_in (by omega), cpy_in (by omega), cpy_in (by omega), cpy_in (by omega)]
      exact ⟨b1, b2, b3, b4, b5⟩
  · have hj : j < l_k L := hj
    obtain ⟨b1, b2⟩ := lk2 j hj
    show va_cpy (S.2.2.1 22) (S.2.2.1 148) 0 0 10 j = _ ∧ va_cpy (S.2.2.1 23) (S.2.2.1 149) 0 0 10 j = _
    rw [cpy_in (by omega), cpy_in (by omega)]
    exact ⟨b1, b2⟩
  · have hj : j < l_c L := hj
    obtain ⟨b1, b2, b3⟩ := lk3 j hj
    show va_cpy (S.2.2.1 24) (S.2.2.1 150) 0 0 3 j = _ ∧ va_cpy (S.2.2.1 25) (S.2.2.1 151) 0 0 3 j = _ ∧ va_cpy (S.2.2.1 26) (S.2.2.1 152) 0 0 3 j = _
    rw [cpy_in (by omega), cpy_in (by omega), cpy_in (by omega)]
    exact ⟨b1, b2, b3⟩
