/-! tests of arguments, as the developers write them -/
theorem tst_le {ρ : Type} {A B : ρ} {p q : Int32} {k : Nat} (hq : q = nI k) (hk : k < 2 ^ 31) : (if p < 0 then A else if p ≤ q then B else A) = if inB 0 k p = true then B else A := by
  subst hq
  unfold inB
  by_cases c1 : p < 0
  · rw [if_pos c1, decide_eq_false (by rw [pI_lt0] at c1; omega), if_neg (by decide)]
  · rw [if_neg c1]
    by_cases c2 : p ≤ nI k
    · rw [if_pos c2, decide_eq_true (by rw [pI_lt0] at c1; rw [pI_leP hk] at c2; omega), if_pos rfl]
    · rw [if_neg c2, decide_eq_false (by rw [pI_leP hk] at c2; omega), if_neg (by decide)]
theorem tst_lt {ρ : Type} {A B : ρ} {p q : Int32} {k : Nat} (hq : q = nI k) (hk : k < 2 ^ 31) : (if p < 0 then A else if p < q then B else A) = if inB 0 ((k : Int) - 1) p = true then B else A := by
  subst hq
  unfold inB
  by_cases c1 : p < 0
  · rw [if_pos c1, decide_eq_false (by rw [pI_lt0] at c1; omega), if_neg (by decide)]
  · rw [if_neg c1]
    by_cases c2 : p < nI k
    · rw [if_pos c2, decide_eq_true (by rw [pI_lt0] at c1; rw [pI_ltP hk] at c2; omega), if_pos rfl]
    · rw [if_neg c2, decide_eq_false (by rw [pI_ltP hk] at c2; omega), if_neg (by decide)]
theorem tst_gt {ρ : Type} {A B : ρ} {p q : Int32} {k : Nat} (hq : q = nI k) (hk : k < 2 ^ 31) : (if p < 0 then A else if q < p then A else B) = if inB 0 k p = true then B else A := by
  subst hq
  unfold inB
  by_cases c1 : p < 0
  · rw [if_pos c1, decide_eq_false (by rw [pI_lt0] at c1; omega), if_neg (by decide)]
  · rw [if_neg c1]
    by_cases c2 : nI k < p
    · rw [if_pos c2, decide_eq_false (by rw [pI_ltN hk] at c2; omega), if_neg (by decide)]
    · rw [if_neg c2, decide_eq_true (by rw [pI_lt0] at c1; rw [pI_ltN hk] at c2; omega), if_pos rfl]
theorem tst_ge {ρ : Type} {A B : ρ} {p q : Int32} {k : Nat} (hq : q = nI k) (hk : k < 2 ^ 31) : (if p < 0 then A else if q ≤ p then A else B) = if inB 0 ((k : Int) - 1) p = true then B else A := by
  subst hq
  unfold inB
  by_cases c1 : p < 0
  · rw [if_pos c1, decide_eq_false (by rw [pI_lt0] at c1; omega), if_neg (by decide)]
  · rw [if_neg c1]
    by_cases c2 : nI k ≤ p
    · rw [if_pos c2, decide_eq_false (by rw [pI_leN hk] at c2; omega), if_neg (by decide)]
    · rw [if_neg c2, decide_eq_true (by rw [pI_lt0] at c1; rw [pI_leN hk] at c2; omega), if_pos rfl]
theorem tst_1 {ρ : Type} {A B : ρ} {p q : Int32} {k : Nat} (hq : q = nI k) (hk : k < 2 ^ 31) : (if p < 1 then A else if p ≤ q then B else A) = if inB 1 k p = true then B else A := by
  subst hq
  rw [li_1]
  unfold inB
  by_cases c1 : p < nI 1
  · rw [if_pos c1, decide_eq_false (by rw [pI_ltP (by omega)] at c1; omega), if_neg (by decide)]
  · rw [if_neg c1]
    by_cases c2 : p ≤ nI k
    · rw [if_pos c2, decide_eq_true (by rw [pI_ltP (by omega)] at c1; rw [pI_leP hk] at c2; omega), if_pos rfl]
    · rw [if_neg c2, decide_eq_false (by rw [pI_leP hk] at c2; omega), if_neg (by decide)]
theorem shr_z {n k : Nat} : n >>> k = 0 ↔ n < 2 ^ k := by
  rw [Nat.shiftRight_eq_div_pow, Nat.div_eq_zero_iff]
  have := Nat.two_pow_pos k
  omega
theorem tst_shr {ρ : Type} {A B : ρ} {p q : Int32} {k : Nat} (hq : q = nI k) (hk : k < 31) : (if p < 0 then A else if p >>> (q &&& 31) = 0 then B else A) = if inB 0 (((2 ^ k : Nat) : Int) - 1) p = true then B else A := by
  subst hq
  unfold inB
  by_cases c1 : p < 0
  · rw [if_pos c1, decide_eq_false (by rw [pI_lt0] at c1; omega), if_neg (by decide)]
  · rw [if_neg c1]
    obtain ⟨n, hn, rfl⟩ := pI_of c1
    have hs : n >>> k < 2 ^ 31 := Nat.lt_of_le_of_lt (Nat.shiftRight_le n k) hn
    rw [oI_shr hn (by omega), nI_toInt hn]
    by_cases c2 : nI (n >>> k) = 0
    · have c3 := shr_z.mp ((oI_z hs).mp c2)
      rw [if_pos c2, decide_eq_true (by omega), if_pos rfl]
    · have c3 : ¬ n < 2 ^ k := fun z => c2 ((oI_z hs).mpr (shr_z.mpr z))
      rw [if_neg c2, decide_eq_false (by omega), if_neg (by decide)]
/-- how a call leaves the developers' object -/
def xE (S : wd_W) (L : Ld) (T : Nt) (S' : wd_W) (nc ns : Nat) : Prop := XI S' L T ∧ xFr S S' ∧ nc ≤ 40 ∧ ns + 2 * lenS S ≤ 2 * lenS S'
theorem xE_refl {S : wd_W} {L : Ld} {T : Nt} (h : XI S L T) : xE S L T S 0 0 := ⟨h, xFr_refl S, by omega, by omega⟩
theorem xKI_E {S S' : wd_W} {L : Ld} {T : Nt} {m : Nat → Bool} {nc ns : Nat} (h : xKI S L T m 11 120675 S' nc ns) : xE S L T S' nc ns := by
  obtain ⟨h1, ⟨k, h2, h3, h4, _⟩, h5, h6, h7, h8⟩ := h
  exact ⟨⟨h1, k, h2, h3, h4⟩, h5, by omega, h8⟩
theorem xKI_P {S S' : wd_W} {L : Ld} {T : Nt} {m : Nat → Bool} {C N nc ns b : Nat} (h : xKI S L T m C N S' nc ns) (hb : b < 9) (hm : m b = true) : xP S' L T b := by
  obtain ⟨h1, ⟨k, h2, h3, h4, h5⟩, _⟩ := h
  exact h4 b hb (h5 b hm)
theorem xE_0 {S S' : wd_W} {L : Ld} {T : Nt} {nc ns : Nat} (h : xE S L T S' nc ns) : xE S L T S' (0 + nc) (0 + ns) := by rw [Nat.zero_add, Nat.zero_add]; exact h
/-- the sets are known -/
theorem x_ks {S : wd_W} {L : Ld} {T : Nt} (h : XI S L T) : Ok (f_X11_knownSets S) (fun o => xE S L T o.1 o.2.1 o.2.2 ∧ (o.2.1 ≤ 11 ∧ o.2.2 ≤ 120675) ∧ xS o.1 L ∧ xN o.1 ∧ xL o.1 16 L) := by
  unfold f_X11_knownSets
  refine ok_bd (x_know (S := wd_o S [] [] [] [] []) (q := 1) h (by omega) (by decide) (fun z => absurd z (by decide))) ?_
  rintro ⟨S', nc, ns⟩ hI
  have e := xKI_E hI
  exact ok_some ⟨xE_0 e, by obtain ⟨_, _, _, h4, h5, _⟩ := hI; dsimp only at h4 h5 ⊢; omega, xKI_P hI (b := 0) (by omega) rfl, e.1.1.2.2.2.2.1, e.1.1.2.1⟩
theorem x_kl0 {S : wd_W} {L : Ld} {T : Nt} (h : XI S L T) : Ok (f_X11_knownLeast_c0 S) (fun o => xE S L T o.1 o.2.1 o.2.2 ∧ (o.2.1 ≤ 11 ∧ o.2.2 ≤ 120675) ∧ xF o.1 123 false L) := by
  unfold f_X11_knownLeast_c0
  refine ok_bd (x_know (S := wd_o S [] [] [] [] []) (q := 2) h (by omega) (by decide) (fun z => absurd z (by decide))) ?_
  rintro ⟨S', nc, ns⟩ hI
  exact ok_some ⟨xE_0 (xKI_E hI), by obtain ⟨_, _, _, h4, h5, _⟩ := hI; dsimp only at h4 h5 ⊢; omega, xKI_P hI (b := 1) (by omega) rfl⟩
theorem x_kl1 {S : wd_W} {L : Ld} {T : Nt} (h : XI S L T) : Ok (f_X11_knownLeast_c1 S) (fun o => xE S L T o.1 o.2.1 o.2.2 ∧ (o.2.1 ≤ 11 ∧ o.2.2 ≤ 120675) ∧ xF o.1 127 true L) := by
  unfold f_X11_knownLeast_c1
  refine ok_bd (x_know (S := wd_o S [] [] [] [] []) (q := 4) h (by omega) (by decide) (fun z => absurd z (by decide))) ?_
  rintro ⟨S', nc, ns⟩ hI
  exact ok_some ⟨xE_0 (xKI_E hI), by obtain ⟨_, _, _, h4, h5, _⟩ := hI; dsimp only at h4 h5 ⊢; omega, xKI_P hI (b := 2) (by omega) rfl⟩
theorem x_km {S : wd_W} {L : Ld} {T : Nt} (h : XI S L T) : Ok (f_X11_knownMail S) (fun o => xE S L T o.1 o.2.1 o.2.2 ∧ (o.2.1 ≤ 11 ∧ o.2.2 ≤ 120675) ∧ xS o.1 L ∧ xN o.1 ∧ xN8 o.1 ∧ xAg o.1 L T) := by
  unfold f_X11_knownMail
  refine ok_bd (x_know (S := wd_o S [] [] [] [] []) (q := 32) h (by omega) (by decide) (fun z => absurd z (by decide))) ?_
  rintro ⟨S', nc, ns⟩ hI
  have e := xKI_E hI
  exact ok_some ⟨xE_0 e, by obtain ⟨_, _, _, h4, h5, _⟩ := hI; dsimp only at h4 h5 ⊢; omega, xKI_P hI (b := 0) (by omega) rfl, e.1.1.2.2.2.2.1, e.1.1.2.2.2.2.2.2.2.2.2, xKI_P hI (b := 5) (by omega) rfl⟩
/-! the answers -/
noncomputable def sosA (L : Ld) (p : Int32) : Int32 := if inB 0 (((2 ^ l_M L : Nat) : Int) - 1) p = true then nI (b2n (thB L p.toNatClampNeg)) else -1
noncomputable def chaA (L : Ld) (p : Int32) : Int64 := if p = 0 then lN (totS L) else if p = 1 then lN (16 ^ l_M L) else -1
noncomputable def surA (L : Ld) (p1 p2 : Int32) : Int64 := if inB 0 ((l_M L : Int) - 1) p1 = true then lN (sur L p1.toNatClampNeg (decide (p2 ≠ 0))) else -1
noncomputable def weiN (L : Ld) (t : Nat) : Int64 := lN (sur L t true) - lN (sur L t false)
noncomputable def matA (L : Ld) (p1 p2 : Int32) : Int64 := if inB 0 ((l_M L : Int) - 1) p1 = true then (if p2 = 0 then weiN L p1.toNatClampNeg else if p2 = 1 then (nI (dcd L p1.toNatClampNeg)).toInt64 else if p2 = 2 then (nI (cha L p1.toNatClampNeg)).toInt64 else -1) else -1
noncomputable def rowA (L : Ld) (p : Int32) : Int32 := if inB 0 (l_n L) p = true then nI (rowN L p.toNatClampNeg) else 0
noncomputable def drwA (L : Ld) (p1 p2 : Int32) : Int32 := if p1 < 0 then -1 else if inB 1 1000 p2 = true then nI (dwF L p1.toInt64 p2.toNatClampNeg).2 else -1
noncomputable def witoA (L : Ld) (p : Int32) : Int64 := if inB 0 ((l_c L : Int) - 1) p = true then lN (sur L (l_n L + l_k L + p.toNatClampNeg) true) else -1
theorem th0 {L : Ld} : fb_sm (fun s => if s &&& 0 = 0 ∧ thB L s = true then wt L s else 0) (2 ^ l_M L) = totS L := by
  unfold totS
  apply fb_sm_cong
  intro s hs
  rw [Nat.and_zero]
  by_cases c : thB L s = true
  · rw [if_pos ⟨rfl, c⟩, if_pos c]
  · rw [if_neg (fun z => c z.2), if_neg c]
theorem x_so {S : wd_W} {L : Ld} {T : Nt} {p1 : Int32} (h : XI S L T) : Ok (f_X11_so S p1) (fun o => o.1 = sosA L p1 ∧ xE S L T o.2.1 o.2.2.1 o.2.2.2) := by
  have hL := h.1.1.1
  have hM := lM_15 hL
  have pM := pow_le15 hM
  unfold f_X11_so sosA
  rw [bd_s (x_things (S := wd_o S [] [] [] [] []) h.1.2.1), tst_shr (q := nI (l_M L)) rfl (by omega)]
  cases hin : inB 0 (((2 ^ l_M L : Nat) : Int) - 1) p1 with
  | false => exact ok_some ⟨rfl, xE_refl h⟩
  | true =>
    obtain ⟨n, hn, rfl, n1, n2⟩ := inB_t (by omega) hin
    rw [if_pos rfl, if_pos rfl]
    refine ok_bd (x_ks (S := wd_o S [] [] [] [] []) h) ?_
    rintro ⟨S', nc, ns⟩ ⟨e, ⟨e1, e2⟩, hs, hN, _⟩
    dsimp only at e e1 e2 hs hN ⊢
    rw [gd_t (okr_in (by omega) (by omega)), bd_s (x_isThrough (S := wd_o S' [] [] [] [] []) (s := n) hL hs hN (by omega)), nI_clamp hn]
    refine ok_b (fun z => ?_) (fun z => ?_)
    · rw [z]; exact ok_some ⟨rfl, xE_0 e⟩
    · rw [z]; exact ok_some ⟨rfl, xE_0 e⟩
theorem x_chance {S : wd_W} {L : Ld} {T : Nt} {p1 : Int32} (h : XI S L T) : Ok (f_X11_chance S p1) (fun o => o.1 = chaA L p1 ∧ xE S L T o.2.1 o.2.2.1 o.2.2.2) := by
  have hL := h.1.1.1
  have hM := lM_15 hL
  unfold f_X11_chance chaA
  refine ok_ite (fun z => ?_) (fun z => ?_)
  · rw [if_pos z]
    refine ok_bd (x_ks (S := wd_o S [] [] [] [] []) h) ?_
    rintro ⟨S', nc, ns⟩ ⟨e, ⟨e1, e2⟩, hs, hN, _⟩
    dsimp only at e e1 e2 hs hN ⊢
    rw [gd_t (okr_in (by omega) (by omega)), li_0, bd_s (x_throughIn (S := wd_o S' [] [] [] [] []) (so := 0) (ho := 0) hL hs hN (by omega)), th0]
    exact ok_some ⟨rfl, xE_0 e⟩
  · rw [if_neg z]
    refine ok_ite (fun z => ?_) (fun z => ?_)
    · rw [if_pos z, bd_s (x_things (S := wd_o S [] [] [] [] []) h.1.2.1), bd_s (x_power (by omega))]
      exact ok_some ⟨rfl, xE_refl h⟩
    · rw [if_neg z]
      exact ok_some ⟨rfl, xE_refl h⟩
theorem x_sure {S : wd_W} {L : Ld} {T : Nt} {p1 p2 : Int32} (h : XI S L T) : Ok (f_X11_sure S p1 p2) (fun o => o.1 = surA L p1 p2 ∧ xE S L T o.2.1 o.2.2.1 o.2.2.2) := by
  have hL := h.1.1.1
  have hM := lM_15 hL
  unfold f_X11_sure surA
  rw [bd_s (x_isThing (S := wd_o S [] [] [] [] []) (p := p1) hL h.1.2.1)]
  refine ok_b (fun z => ?_) (fun z => ?_)
  · rw [z]; exact ok_some ⟨rfl, xE_refl h⟩
  · obtain ⟨n, hn, rfl, n1, n2⟩ := inB_t (by omega) z
    rw [if_pos z]
    refine ok_bd (x_ks (S := wd_o S [] [] [] [] []) h) ?_
    rintro ⟨S', nc, ns⟩ ⟨e, ⟨e1, e2⟩, hs, hN, _⟩
    dsimp only at e e1 e2 hs hN ⊢
    rw [gd_t (okr_in (by omega) (by omega)), bd_s (x_given (S := wd_o S' [] [] [] [] []) (t := n) hL hs hN (by omega)), nI_clamp hn]
    exact ok_some ⟨rfl, xE_0 e⟩
theorem x_weight {S : wd_W} {L : Ld} {t : Nat} (hL : lOk L) (h : xS S L) (hN : xN S) (ht : t < l_M L) : f_X8_weightOf_q106 S (nI t) = some (weiN L t) := by
  unfold f_X8_weightOf_q106
  rw [bd_s (x_given (S := wd_o S [] [] [] [] []) (t := t) (p2 := (1 : Int32)) hL h hN ht), bd_s (x_given (S := wd_o S [] [] [] [] []) (t := t) (p2 := (0 : Int32)) hL h hN ht)]
  rfl
