/-! looks: the reference -/
def mLd (L : Ld) (x : Int32) (a : Nat → Int32) : Prop := x = nI 0 ∨ (x = nI 1 ∧ ∀ s, s < 2 ^ l_M L → a s = nI (b2n (thB L s)))
theorem p3_le {M : Nat} (h : M ≤ 9) : 3 ^ M ≤ 19683 := Nat.pow_le_pow_right (n := 3) (by decide) h
theorem ne0_n {n : Nat} (h : n < 2 ^ 31) (h0 : n ≠ 0) : ne0 (nI n) = true := by
  unfold ne0
  have : ¬ nI n = 0 := fun z => h0 ((oI_z h).mp z)
  simp [this]
theorem dg_c {t c : Nat} (hc : c < 2 ^ 31) (ht : t ≤ 9) : nI c / nI (3 ^ t) - nI c / nI (3 ^ t) / (3 : Int32) * (3 : Int32) = nI (dg t c) := by
  have h1 := p3_pos t
  have h2 := p3_le ht
  have h3 : c / 3 ^ t ≤ c := Nat.div_le_self _ _
  rw [pk_div hc h1 (by omega), li_3, pk_rem (by omega) (by omega) (by omega)]
  rfl
noncomputable def fAt (L : Ld) (s : Nat) : Int32 := if srB L s = true then -1 else (rfF (NL L) s (l_M L)).2
theorem svF_le (L : Ld) (s : Nat) : svF L s ≤ 2 ∧ (svF L s = 2 ↔ srB L s = false) := by
  unfold svF
  cases srB L s with
  | true => rw [if_pos rfl]; cases thB L (hoS (l_M L) s) <;> simp [b2n]
  | false => rw [if_neg (by decide)]; simp
theorem svF_all {L : Ld} {s : Nat} (h : ∀ i, i < l_M L → dg i s ≠ 2) : srB L s = true ∧ svF L s = b2n (thB L (hoS (l_M L) s)) := by
  have hu : unS (l_M L) s = 0 := by
    apply Nat.eq_of_testBit_eq
    intro i
    unfold unS
    rw [mk_bit, Nat.zero_testBit]
    by_cases hi : i < l_M L
    · have := h i hi
      simp [this]
    · simp [hi]
  have hs : srB L s = true := by unfold srB; rw [hu, Nat.or_zero]; simp
  exact ⟨hs, by unfold svF; rw [if_pos hs]⟩
def cJ (P j : Nat) : Int32 := if j < P then nI (P - 1 - j) else -1
theorem cJ_step {P j : Nat} (h : j < P) (hP : P < 100000) : cJ P j + (-1 : Int32) = cJ P (j + 1) := by
  unfold cJ
  rw [if_pos h]
  by_cases e : j + 1 < P
  · rw [if_pos e]
    have h1 : P - 1 - j = (P - 1 - (j + 1)) + 1 := by omega
    rw [h1, ← nI_add]
    have : ∀ x : Int32, x + nI 1 + (-1) = x := fun x => by
      show x + 1 + (-1) = x
      rw [Int32.add_assoc]
      show x + (1 + -1 : Int32) = x
      rw [show (1 + -1 : Int32) = 0 from rfl, Int32.add_zero]
    exact this _
  · rw [if_neg e, show P - 1 - j = 0 by omega]; rfl
def rows3 (L : Ld) (j : Nat) (a9 a10 a11 : Nat → Int32) : Prop := ∀ s, s < j → a9 (3 ^ l_M L - 1 - s) = nI (svF L s) ∧ a10 (3 ^ l_M L - 1 - s) = nI (NL L s) ∧ a11 (3 ^ l_M L - 1 - s) = fAt L s
/-- the best of the things not looked at -/
theorem m_lookMin {S : wd_W} {L : Ld} {a4 a33 a9 a10 a11 : Nat → Int32} {s : Nat} (hL : lOk L) (h32 : S.1 32 = nI (l_M L)) (hM9 : l_M L ≤ 9) (h4 : ∀ t, t ≤ l_M L → a4 t = nI (3 ^ t)) (hs : s < 3 ^ l_M L) (hI : rows3 L s a9 a10 a11)
    (K : (Nat → Int32) → (Nat → Int32) → (Nat → Int32) → Option o_X12_looksAll) (Q : o_X12_looksAll → Prop)
    (hK : ∀ a36 a37, a36 (3 ^ l_M L - 1 - s) = nI (rfF (NL L) s (l_M L)).1 → a37 (3 ^ l_M L - 1 - s) = (rfF (NL L) s (l_M L)).2 → (∀ k, k ≠ 3 ^ l_M L - 1 - s → a36 k = a10 k ∧ a37 k = a11 k) → Ok (K a33 a36 a37) Q) :
    Ok (it3 (f_X12_looksAll_L227 S a4 (nI (3 ^ l_M L - 1 - s)) K a33) fuel (0 : Int32) (upd a10 (3 ^ l_M L - 1 - s) 0) (upd a11 (3 ^ l_M L - 1 - s) (-1))) Q := by
  have hP := p3_le hM9
  have hP0 := p3_pos (l_M L)
  rw [li_0]
  refine ok_for0 (W := fun m i (x : (Nat → Int32) × (Nat → Int32)) => it3 (f_X12_looksAll_L227 S a4 (nI (3 ^ l_M L - 1 - s)) K a33) m (nI i) x.1 x.2) (I := fun i x => x.1 (3 ^ l_M L - 1 - s) = nI (rfF (NL L) s i).1 ∧ x.2 (3 ^ l_M L - 1 - s) = (rfF (NL L) s i).2 ∧ ∀ k, k ≠ 3 ^ l_M L - 1 - s → x.1 k = a10 k ∧ x.2 k = a11 k) (e := l_M L) (s := (upd a10 (3 ^ l_M L - 1 - s) (nI 0), upd a11 (3 ^ l_M L - 1 - s) (-1))) (by omega) ⟨pk_us, pk_us, fun k hk => ⟨pk_un hk, pk_un hk⟩⟩ ?_ ?_
  · rintro m ⟨a36, a37⟩ ⟨i1, i2, i3⟩
    dsimp only at i1 i2 i3
    show Ok (f_X12_looksAll_L227 S a4 (nI (3 ^ l_M L - 1 - s)) K a33 _ (nI (l_M L)) a36 a37) _
    unfold f_X12_looksAll_L227
    rw [h32, if_pos (nI_le (Nat.le_refl _) (by omega))]
    exact hK a36 a37 i1 i2 i3
  · rintro m i ⟨a36, a37⟩ hi ⟨i1, i2, i3⟩ ih
    dsimp only at i1 i2 i3
    show Ok (f_X12_looksAll_L227 S a4 (nI (3 ^ l_M L - 1 - s)) K a33 (it3 _ m) (nI i) a36 a37) _
    generalize it3 (f_X12_looksAll_L227 S a4 (nI (3 ^ l_M L - 1 - s)) K a33) m = r at ih
    have hp3 := p3_pos i
    have hstep : rfF (NL L) s (i + 1) = rfS (NL L) s i (rfF (NL L) s i) := rfl
    unfold f_X12_looksAll_L227
    rw [h32, if_neg (nI_ge hi (by omega)), gd_in (by omega) (by omega), nI_clamp (by omega), h4 i (by omega), gd_t (ne0_n (by have := p3_le (show i ≤ 9 by omega); omega) (by omega)), dg_c (by omega) (by omega), dg_neg hi hs, nI_1]
    have hdl := dg_lt i s
    refine ok_lk (ok_ite (fun z => ?_) (fun z => ?_))
    · have hd : dg i s = 2 := by
        rw [oI_z (by omega)] at z
        omega
      have h1 := dg_le (k := 1) (t := i) (s := s) (by omega)
      have h2 := dg_le (k := 2) (t := i) (s := s) (by omega)
      have c1 : nI (3 ^ l_M L - 1 - s) + nI (3 ^ i) = nI (3 ^ l_M L - 1 - (s - 3 ^ i)) := by rw [nI_add]; congr 1; omega
      have c2 : nI (3 ^ l_M L - 1 - s) + (2 : Int32) * nI (3 ^ i) = nI (3 ^ l_M L - 1 - (s - 2 * 3 ^ i)) := by rw [li_2, pk_mul, nI_add]; congr 1; omega
      have v1 : a36 (3 ^ l_M L - 1 - (s - 3 ^ i)) = nI (NL L (s - 3 ^ i)) := by rw [(i3 _ (by omega)).1]; exact (hI _ (by omega)).2.1
      have v2 : a36 (3 ^ l_M L - 1 - (s - 2 * 3 ^ i)) = nI (NL L (s - 2 * 3 ^ i)) := by rw [(i3 _ (by omega)).1]; exact (hI _ (by omega)).2.1
      have n1 := NL_leM L (s - 3 ^ i)
      have n2 := NL_leM L (s - 2 * 3 ^ i)
      rw [c1, c2, gd_in (by omega) (by omega), gd_in (by omega) (by omega), lz_eq, gd_in (by omega) (by omega), gd_in (by omega) (by omega), lz_eq, nI_clamp (by omega), nI_clamp (by omega), nI_clamp (by omega), v1, v2]
      have hmx : ∀ w, 1 + w = lvV (NL L) i s → Ok (lz (nI 1 + nI w) fun x53 => gd (okx (nI (3 ^ l_M L - 1 - s)) 19683) <| lk (gd (okx (nI (3 ^ l_M L - 1 - s)) 19683) <| lz (upd a36 (3 ^ l_M L - 1 - s) x53) fun a57 => gd (okx (nI (3 ^ l_M L - 1 - s)) 19683) <| lz (upd a37 (3 ^ l_M L - 1 - s) (nI i)) fun a59 => r (nI (i + 1)) a57 a59) fun k328_55 => if (a37 (3 ^ l_M L - 1 - s)) < 0 then k328_55 else gd (okx (nI (3 ^ l_M L - 1 - s)) 19683) <| if x53 < (a36 (3 ^ l_M L - 1 - s)) then k328_55 else r (nI (i + 1)) a36 a37) Q := by
        intro w hw
        have take : rfF (NL L) s (i + 1) = (lvV (NL L) i s, nI i) → Ok (gd (okx (nI (3 ^ l_M L - 1 - s)) 19683) <| lz (upd a36 (3 ^ l_M L - 1 - s) (nI (lvV (NL L) i s))) fun a57 => gd (okx (nI (3 ^ l_M L - 1 - s)) 19683) <| lz (upd a37 (3 ^ l_M L - 1 - s) (nI i)) fun a59 => r (nI (i + 1)) a57 a59) Q := by
          intro e
          rw [gd_in (by omega) (by omega), lz_eq, gd_in (by omega) (by omega), lz_eq]
          refine ih (upd a36 (3 ^ l_M L - 1 - s) (nI (lvV (NL L) i s)), upd a37 (3 ^ l_M L - 1 - s) (nI i)) ⟨?_, ?_, fun k hk => ?_⟩
          · dsimp only; rw [pk_us, e]
          · dsimp only; rw [pk_us, e]
          · dsimp only; rw [pk_un hk, pk_un hk]; exact i3 k hk
        rw [nI_add, hw, lz_eq, gd_in (by omega) (by omega)]
        refine ok_lk ?_
        rw [i1, i2]
        have hb : (rfF (NL L) s i).1 ≤ 100 := by
          rcases rfF_spec (NL L) s i (by omega) with ⟨q, _⟩ | ⟨t, q1, q2, q3, _⟩
          · rw [q]; omega
          · rw [q3]
            have := NL_leM L (s - 3 ^ t)
            have := NL_leM L (s - 2 * 3 ^ t)
            show lvV (NL L) t s ≤ 100
            unfold lvV
            omega
        have hv : lvV (NL L) i s ≤ 100 := by unfold lvV; omega
        refine ok_ite (fun y => ?_) (fun y => ?_)
        · exact take (by rw [hstep]; unfold rfS; rw [if_pos hd, if_pos (Or.inl y)])
        · rw [gd_in (by omega) (by omega)]
          refine ok_ite (fun y2 => ?_) (fun y2 => ?_)
          · rw [nI_ltI (by omega) (by omega)] at y2
            exact take (by rw [hstep]; unfold rfS; rw [if_pos hd, if_pos (Or.inr y2)])
          · rw [nI_ltI (by omega) (by omega)] at y2
            have e : rfF (NL L) s (i + 1) = rfF (NL L) s i := by rw [hstep]; unfold rfS; rw [if_pos hd, if_neg (fun q => by rcases q with q | q; exact y q; exact y2 q)]
            refine ih (a36, a37) ⟨?_, ?_, i3⟩
            · dsimp only; rw [e]; exact i1
            · dsimp only; rw [e]; exact i2
      refine ok_lk (ok_ite (fun y => ?_) (fun y => ?_))
      · rw [nI_leI (by omega) (by omega)] at y
        exact hmx _ (by unfold lvV; omega)
      · rw [nI_leI (by omega) (by omega)] at y
        exact hmx _ (by unfold lvV; omega)
    · have hd : ¬ dg i s = 2 := by
        intro q
        apply z
        rw [q]; rfl
      have e : rfF (NL L) s (i + 1) = rfF (NL L) s i := by rw [hstep]; unfold rfS; rw [if_neg hd]
      refine ih (a36, a37) ⟨?_, ?_, i3⟩
      · dsimp only; rw [e]; exact i1
      · dsimp only; rw [e]; exact i2
/-- what holds, and a thing not looked at -/
theorem m_lookSet {S : wd_W} {L : Ld} {a4 : Nat → Int32} {s : Nat} (h32 : S.1 32 = nI (l_M L)) (hM9 : l_M L ≤ 9) (h4 : ∀ t, t ≤ l_M L → a4 t = nI (3 ^ t)) (hs : s < 3 ^ l_M L)
    (K : Int32 → Int32 → Option o_X12_looksAll) (Q : o_X12_looksAll → Prop)
    (hK : ∀ x, ((x = -1 ∧ ∀ i, i < l_M L → dg i s ≠ 2) ∨ ∃ i, i < l_M L ∧ dg i s = 2 ∧ x = nI i) → Ok (K (nI (hoS (l_M L) s)) x) Q) :
    Ok (it3 (f_X12_looksAll_L66 S a4 (nI (3 ^ l_M L - 1 - s)) K) fuel (0 : Int32) (-1 : Int32) (0 : Int32)) Q := by
  have hP := p3_le hM9
  have hP0 := p3_pos (l_M L)
  rw [li_0]
  refine ok_for0 (W := fun m i (x : Int32 × Int32) => it3 (f_X12_looksAll_L66 S a4 (nI (3 ^ l_M L - 1 - s)) K) m x.1 x.2 (nI i)) (I := fun i x => x.1 = nI (mk (fun t => dg t s == 1) i) ∧ ((x.2 = -1 ∧ ∀ t, t < i → dg t s ≠ 2) ∨ ∃ t, t < i ∧ dg t s = 2 ∧ x.2 = nI t)) (e := l_M L) (s := (nI 0, -1)) (by omega) ⟨rfl, Or.inl ⟨rfl, fun t ht => absurd ht (Nat.not_lt_zero t)⟩⟩ ?_ ?_
  · rintro m ⟨x1, x2⟩ ⟨i1, i2⟩
    dsimp only at i1 i2
    show Ok (f_X12_looksAll_L66 S a4 (nI (3 ^ l_M L - 1 - s)) K _ x1 x2 (nI (l_M L))) _
    unfold f_X12_looksAll_L66
    rw [h32, if_pos (nI_le (Nat.le_refl _) (by omega)), i1]
    exact hK x2 i2
  · rintro m i ⟨x1, x2⟩ hi ⟨i1, i2⟩ ih
    dsimp only at i1 i2
    show Ok (f_X12_looksAll_L66 S a4 (nI (3 ^ l_M L - 1 - s)) K (it3 _ m) x1 x2 (nI i)) _
    generalize it3 (f_X12_looksAll_L66 S a4 (nI (3 ^ l_M L - 1 - s)) K) m = r at ih
    have hp3 := p3_pos i
    have hdl := dg_lt i s
    subst i1
    unfold f_X12_looksAll_L66
    rw [h32, if_neg (nI_ge hi (by omega)), gd_in (by omega) (by omega), nI_clamp (by omega), h4 i (by omega), gd_t (ne0_n (by have := p3_le (show i ≤ 9 by omega); omega) (by omega)), dg_c (by omega) (by omega), dg_neg hi hs, nI_1, lz_eq]
    have go : ∀ w, mk (fun t => dg t s == 1) i ||| w = mk (fun t => dg t s == 1) (i + 1) → Ok (lz (nI (mk (fun t => dg t s == 1) i) ||| nI w) fun x87 => lk (fun x88 => r x87 x88 (nI (i + 1))) fun k116_89 => if nI (2 - dg i s) = 0 then k116_89 (nI i) else k116_89 x2) Q := by
      intro w hw
      rw [oI_or, hw, lz_eq]
      refine ok_lk (ok_ite (fun z => ?_) (fun z => ?_))
      · rw [oI_z (by omega)] at z
        exact ih (_, nI i) ⟨rfl, Or.inr ⟨i, by omega, by omega, rfl⟩⟩
      · have hd : dg i s ≠ 2 := fun q => z (by rw [q]; rfl)
        refine ih (_, x2) ⟨rfl, ?_⟩
        rcases i2 with ⟨q1, q2⟩ | ⟨t, q1, q2, q3⟩
        · refine Or.inl ⟨q1, fun t ht => ?_⟩
          by_cases e : t = i
          · subst e; exact hd
          · exact q2 t (by omega)
        · exact Or.inr ⟨t, by omega, q2, q3⟩
    refine ok_lk (ok_ite (fun z => ?_) (fun z => ?_))
    · rw [li_1, nI_eq (by omega) (by omega)] at z
      have hd : dg i s = 1 := by omega
      rw [oI_pow (by omega)]
      exact go _ (by rw [mk]; simp [hd])
    · have hd : ¬ dg i s = 1 := by
        intro q
        apply z
        rw [q]; rfl
      exact go 0 (by rw [mk]; simp [hd])
theorem m_looksAll {S : wd_W} {L : Ld} (hL : lOk L) (h : mL S L) (hla : mLaid S L) (hM9 : l_M L ≤ 9) :
    Ok (f_X12_looksAll S) (fun o => lai L o.2.2.1 o.2.2.2.2.2.2.1 ∧ o.2.2.2.2.2.2.2.2.1 0 = nI (NL L (3 ^ l_M L - 1)) ∧ o.2.2.2.2.2.2.2.2.2.1 0 = fAt L (3 ^ l_M L - 1)) := by
  have hM := lM_15 hL
  have hP := p3_le hM9
  have hP0 := p3_pos (l_M L)
  have h32 : S.1 32 = nI (l_M L) := h.1.2.2.2.2.1
  unfold f_X12_looksAll
  refine ok_bd (m_lays (S := wd_o S [(38, (S.1 38)), (39, (S.1 39)), (44, (S.1 44))] [] [(17, (S.2.2.1 17)), (18, (S.2.2.1 18)), (19, (S.2.2.1 19)), (20, (S.2.2.1 20)), (42, (S.2.2.1 42)), (43, (S.2.2.1 43)), (44, (S.2.2.1 44)), (45, (S.2.2.1 45))] [] []) hL h hla) ?_
  rintro ⟨u1, u2, u3, u4, u5, u6, u7⟩ ⟨e1, e2⟩
  dsimp only at e1 e2
  rw [li_0, gd_in (by omega) (by omega), lz_eq, nI_clamp (by omega)]
  refine ok_lk ?_
  refine ok_for0 (W := fun m i (a : Nat → Int32) => it2 (f_X12_looksAll_L13 S _) m (nI i) a) (I := fun i a => ∀ t, t ≤ i → a t = nI (3 ^ t)) (e := l_M L) (s := upd (S.2.2.1 45) 0 1) (by omega) (fun t ht => by rw [show t = 0 by omega]; exact pk_us) ?_ ?_
  · intro m a4 h4
    show Ok (f_X12_looksAll_L13 S _ _ (nI (l_M L)) a4) _
    unfold f_X12_looksAll_L13
    rw [h32, if_pos (nI_le (Nat.le_refl _) (by omega))]
    dsimp only
    rw [gd_in (by omega) (by omega), lz_eq, nI_clamp (by omega), h4 _ (Nat.le_refl _), show nI (3 ^ l_M L) - (1 : Int32) = cJ (3 ^ l_M L) 0 from by unfold cJ; rw [if_pos hP0, li_1, oI_sub1 hP0]; rfl]
    refine ok_for0 (W := fun m i (x : (Nat → Int32) × (Nat → Int32) × (Nat → Int32)) => it4 (f_X12_looksAll_L55 S (u1, u2, u3, u4, u5, u6, u7) a4) m (cJ (3 ^ l_M L) i) x.1 x.2.1 x.2.2) (I := fun i x => rows3 L i x.1 x.2.1 x.2.2) (e := 3 ^ l_M L) (s := (S.2.2.1 42, S.2.2.1 43, S.2.2.1 44)) (by omega) (fun s hs => absurd hs (Nat.not_lt_zero s)) ?_ ?_
    · rintro m ⟨a9, a10, a11⟩ hI
      dsimp only at hI
      show Ok (f_X12_looksAll_L55 S (u1, u2, u3, u4, u5, u6, u7) a4 _ (cJ (3 ^ l_M L) (3 ^ l_M L)) a9 a10 a11) _
      unfold f_X12_looksAll_L55
      have : cJ (3 ^ l_M L) (3 ^ l_M L) < 0 := by unfold cJ; rw [if_neg (by omega)]; exact m1_neg
      rw [if_pos this]
      have q := hI (3 ^ l_M L - 1) (by omega)
      rw [show 3 ^ l_M L - 1 - (3 ^ l_M L - 1) = 0 by omega] at q
      exact ok_some ⟨⟨e1, e2⟩, q.2.1, q.2.2⟩
    · rintro m s ⟨a9, a10, a11⟩ hs hI ih
      dsimp only at hI
      show Ok (f_X12_looksAll_L55 S (u1, u2, u3, u4, u5, u6, u7) a4 (it4 _ m) (cJ (3 ^ l_M L) s) a9 a10 a11) _
      generalize it4 (f_X12_looksAll_L55 S (u1, u2, u3, u4, u5, u6, u7) a4) m = r at ih
      have hcs := cJ_step hs (by omega)
      have hcj : cJ (3 ^ l_M L) s = nI (3 ^ l_M L - 1 - s) := by unfold cJ; rw [if_pos hs]
      rw [hcj] at hcs ⊢
      unfold f_X12_looksAll_L55
      rw [if_neg (by rw [oI_neg (by omega)]; exact fun z => z)]
      refine ok_lk ?_
      refine m_lookSet h32 hM9 h4 hs _ _ ?_
      intro x hx
      rw [gd_in (by omega) (by omega), lz_eq, gd_in (by omega) (by omega), lz_eq, nI_clamp (by omega), hcs]
      refine ok_lk ?_
      have fin : ∀ b9 b10 b11 : Nat → Int32, b9 (3 ^ l_M L - 1 - s) = nI (svF L s) → b10 (3 ^ l_M L - 1 - s) = nI (NL L s) → b11 (3 ^ l_M L - 1 - s) = fAt L s → (∀ k, k ≠ 3 ^ l_M L - 1 - s → b9 k = a9 k ∧ b10 k = a10 k ∧ b11 k = a11 k) → Ok (r (cJ (3 ^ l_M L) (s + 1)) b9 b10 b11) (fun o => lai L o.2.2.1 o.2.2.2.2.2.2.1 ∧ o.2.2.2.2.2.2.2.2.1 0 = nI (NL L (3 ^ l_M L - 1)) ∧ o.2.2.2.2.2.2.2.2.2.1 0 = fAt L (3 ^ l_M L - 1)) := by
        intro b9 b10 b11 q1 q2 q3 q4
        refine ih (b9, b10, b11) (fun s' hs' => ?_)
        dsimp only
        by_cases e : s' = s
        · subst e; exact ⟨q1, q2, q3⟩
        · obtain ⟨z1, z2, z3⟩ := q4 (3 ^ l_M L - 1 - s') (by omega)
          rw [z1, z2, z3]
          exact hI s' (by omega)
      rcases hx with ⟨hx, hno⟩ | ⟨t, ht, hd, hx⟩
      · have hng : ¬ 0 ≤ x := by rw [hx]; decide
        rw [if_neg hng]
        obtain ⟨z1, z2⟩ := svF_all hno
        have hh := hoS_lt (l_M L) s
        have p15 := pow_le15 hM
        rw [gd_in (by omega) (by omega), nI_clamp (by omega)]
        have hth := th_ite (e2 _ hh)
        have hN : NL L s = 0 := by rw [NL_eq, if_pos z1]
        have hf : fAt L s = -1 := by unfold fAt; rw [if_pos z1]
        have last : ∀ v, v = nI (svF L s) → Ok (gd (okx (nI (3 ^ l_M L - 1 - s)) 19683) <| lz (upd a9 (nI (3 ^ l_M L - 1 - s)).toNatClampNeg v) fun a74 => r (cJ (3 ^ l_M L) (s + 1)) a74 (upd a10 (3 ^ l_M L - 1 - s) (nI 0)) (upd a11 (3 ^ l_M L - 1 - s) (-1))) (fun o => lai L o.2.2.1 o.2.2.2.2.2.2.1 ∧ o.2.2.2.2.2.2.2.2.1 0 = nI (NL L (3 ^ l_M L - 1)) ∧ o.2.2.2.2.2.2.2.2.2.1 0 = fAt L (3 ^ l_M L - 1)) := by
          intro v hv
          rw [gd_in (by omega) (by omega), lz_eq, nI_clamp (by omega)]
          exact fin _ _ _ (by rw [pk_us, hv]) (by rw [pk_us, hN]) (by rw [pk_us, hf]) (fun k hk => by rw [pk_un hk, pk_un hk, pk_un hk]; exact ⟨rfl, rfl, rfl⟩)
        rw [z2] at last
        refine ok_lk (ok_ite (fun y => ?_) (fun y => ?_))
        · have hb := hth.mp y
          exact last _ (by rw [hb]; rfl)
        · have hb : thB L (hoS (l_M L) s) = true := by
            cases q : thB L (hoS (l_M L) s) with
            | true => rfl
            | false => exact absurd (hth.mpr q) y
          exact last _ (by rw [hb]; rfl)
      · subst hx
        have hp3 := p3_pos t
        have h1 := dg_le (k := 1) (t := t) (s := s) (by omega)
        have h2 := dg_le (k := 2) (t := t) (s := s) (by omega)
        have c1 : nI (3 ^ l_M L - 1 - s) + nI (3 ^ t) = nI (3 ^ l_M L - 1 - (s - 3 ^ t)) := by rw [nI_add]; congr 1; omega
        have c2 : nI (3 ^ l_M L - 1 - s) + (2 : Int32) * nI (3 ^ t) = nI (3 ^ l_M L - 1 - (s - 2 * 3 ^ t)) := by rw [li_2, pk_mul, nI_add]; congr 1; omega
        rw [if_pos ((oI_ge0 (by omega)).mpr trivial), gd_in (by omega) (by omega), nI_clamp (by omega), h4 t (by omega), c1, c2, gd_in (by omega) (by omega), lz_eq, gd_in (by omega) (by omega), gd_in (by omega) (by omega), nI_clamp (by omega), nI_clamp (by omega), (hI (s - 3 ^ t) (by omega)).1, (hI (s - 2 * 3 ^ t) (by omega)).1]
        have sv := svF_step hL ht hd
        have sl1 := (svF_le L (s - 3 ^ t)).1
        have sl2 := (svF_le L (s - 2 * 3 ^ t)).1
        obtain ⟨sl3, sl4⟩ := svF_le L s
        have last : ∀ v, v = nI (svF L s) → Ok (gd (okx (nI (3 ^ l_M L - 1 - s)) 19683) <| lz (upd a9 (nI (3 ^ l_M L - 1 - s)).toNatClampNeg v) fun a33 => gd (okx (nI (3 ^ l_M L - 1 - s)) 19683) <| if (2 : Int32) ≤ (a33 (3 ^ l_M L - 1 - s)) then it3 (f_X12_looksAll_L227 S a4 (nI (3 ^ l_M L - 1 - s)) (fun a20 a21 a22 => r (cJ (3 ^ l_M L) (s + 1)) a20 a21 a22) a33) fuel (nI 0) (upd a10 (3 ^ l_M L - 1 - s) (nI 0)) (upd a11 (3 ^ l_M L - 1 - s) (-1)) else r (cJ (3 ^ l_M L) (s + 1)) a33 (upd a10 (3 ^ l_M L - 1 - s) (nI 0)) (upd a11 (3 ^ l_M L - 1 - s) (-1))) (fun o => lai L o.2.2.1 o.2.2.2.2.2.2.1 ∧ o.2.2.2.2.2.2.2.2.1 0 = nI (NL L (3 ^ l_M L - 1)) ∧ o.2.2.2.2.2.2.2.2.2.1 0 = fAt L (3 ^ l_M L - 1)) := by
          intro v hv
          subst hv
          rw [gd_in (by omega) (by omega), lz_eq, gd_in (by omega) (by omega), nI_clamp (by omega), pk_us, li_2]
          refine ok_ite (fun z => ?_) (fun z => ?_)
          · rw [nI_leI (by omega) (by omega)] at z
            have hsr : srB L s = false := sl4.mp (by omega)
            obtain ⟨t0, _, _, t3, _⟩ := NL_first hL hsr
            refine m_lookMin hL h32 hM9 h4 hs hI _ _ ?_
            intro a36 a37 q1 q2 q3
            rw [t3] at q1 q2
            exact fin _ _ _ pk_us q1 (by rw [q2]; unfold fAt; rw [hsr, if_neg (by decide), t3]) (fun k hk => ⟨pk_un hk, q3 k hk⟩)
          · rw [nI_leI (by omega) (by omega)] at z
            have hsr : srB L s = true := by
              cases q : srB L s with
              | true => rfl
              | false => have := sl4.mpr q; omega
            have hN : NL L s = 0 := by rw [NL_eq, if_pos hsr]
            have hf : fAt L s = -1 := by unfold fAt; rw [if_pos hsr]
            exact fin _ _ _ pk_us (by rw [pk_us, hN]) (by rw [pk_us, hf]) (fun k hk => by rw [pk_un hk, pk_un hk, pk_un hk]; exact ⟨rfl, rfl, rfl⟩)
        refine ok_lk (ok_ite (fun z => ?_) (fun z => ?_))
        · rw [nI_eq (by omega) (by omega)] at z
          exact last _ (by rw [sv, if_pos z])
        · rw [nI_eq (by omega) (by omega)] at z
          exact last _ (by rw [sv, if_neg z]; rfl)
  · intro m i a hi hI ih
    show Ok (f_X12_looksAll_L13 S _ (it2 _ m) (nI i) a) _
    generalize it2 (f_X12_looksAll_L13 S _) m = r at ih
    unfold f_X12_looksAll_L13
    rw [h32, if_neg (nI_ge hi (by omega)), gd_in (by omega) (by omega), lz_eq, nI_1, gd_in (by omega) (by omega), lz_eq, nI_clamp (by omega), nI_clamp (by omega), hI i (Nat.le_refl _), li_3, pk_mul]
    refine ih _ (fun t ht => ?_)
    by_cases e : t = i + 1
    · subst e; rw [pk_us, Nat.pow_succ, Nat.mul_comm]
    · rw [pk_un e]; exact hI t (by omega)
noncomputable def looA (L : Ld) (p1 : Int32) : Int32 := if (inB 0 1 p1 && decide (l_M L ≤ 9)) = true then (if p1 = 0 then nI (NL L (3 ^ l_M L - 1)) else fAt L (3 ^ l_M L - 1)) else -1
theorem m_looks {S : wd_W} {L : Ld} {p1 : Int32} (hL : lOk L) (h : mL S L) (hla : mLaid S L) : Ok (f_X12_looks S p1) (fun o => o.1 = looA L p1 ∧ mLd L o.2.2.2.1 o.2.2.2.2.2.2.2.1) := by
  have hM := lM_15 hL
  have h32 : S.1 32 = nI (l_M L) := h.1.2.2.2.2.1
  unfold f_X12_looks looA
  rw [lN_0, show (1 : Int64) = lN 1 from rfl, bd_s (m_inN (by omega) (by omega))]
  refine ok_b (fun z => ok_some ⟨by rw [show inB 0 1 p1 = false from z]; rfl, hla⟩) (fun z => ?_)
  have z : inB 0 1 p1 = true := z
  rw [h32, li_9, z]
  refine ok_ite (fun w => ?_) (fun w => ?_)
  · rw [nI_leI (by omega) (by omega)] at w
    rw [decide_eq_true w, if_pos (show (true && true) = true from rfl)]
    refine ok_bd (m_looksAll (S := wd_o S [(38, (S.1 38)), (39, (S.1 39)), (44, (S.1 44))] [] [(17, (S.2.2.1 17)), (18, (S.2.2.1 18)), (19, (S.2.2.1 19)), (20, (S.2.2.1 20)), (42, (S.2.2.1 42)), (43, (S.2.2.1 43)), (44, (S.2.2.1 44)), (45, (S.2.2.1 45))] [] []) hL h hla w) ?_
    intro o2 ho
    refine ok_ite (fun y => ?_) (fun y => ?_)
    · rw [if_pos y, li_0, gd_in (by omega) (by omega)]
      exact ok_some ⟨ho.2.1, Or.inr ho.1⟩
    · rw [if_neg y, li_0, gd_in (by omega) (by omega)]
      exact ok_some ⟨ho.2.2, Or.inr ho.1⟩
  · rw [nI_leI (by omega) (by omega)] at w
    rw [decide_eq_false w]
    exact ok_some ⟨rfl, hla⟩
