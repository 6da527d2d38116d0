/-! the developers' ways and cuts -/
theorem b2n_eq {x y : Bool} : nI (b2n x) = nI (b2n y) ↔ x = y := by cases x <;> cases y <;> decide
theorem x_holding_q123 {S : wd_W} {L : Ld} {c : Bool} {s : Nat} (hL : lOk L) (h2 : S.1 10602 = nI (2 ^ l_M L)) (hc : S.1 12303 = nI (b2n c)) (hs : s < 2 ^ l_M L) : f_X3_holding_q123 S (nI s) = some (nI (hol L c s)) := by
  have p0 := Nat.two_pow_pos (l_M L)
  unfold f_X3_holding_q123
  rw [hc, h2, show nI (2 ^ l_M L) - (1 : Int32) = nI (2 ^ l_M L - 1) from by rw [li_1, oI_sub1 p0], oI_xor, xor_all hs]
  unfold hol
  cases c with
  | true => rw [if_neg (show ¬ nI (b2n true) = 0 from n1_ne), if_pos rfl]
  | false => rw [if_pos (by rfl), if_neg (by decide)]
theorem x_isLeast_q123 {S : wd_W} {L : Ld} {c : Bool} {s : Nat} (hL : lOk L) (h : xS S L) (hN : xN S) (hc : S.1 12303 = nI (b2n c)) (hs : s < 2 ^ l_M L) : f_X3_isLeast_q123 S (nI s) = some (nI (b2n (lea L c s))) := by
  have hM := lM_15 hL
  have pM := pow_le15 hM
  have h2 := h.2.1
  have h4 := h.2.2.2.1
  have hh := hol_lt (c := c) hs
  apply ok_e
  unfold f_X3_isLeast_q123
  rw [bd_s (x_holding_q123 (S := wd_o S [] [] [] [] []) hL h2 hc hs), bd_s (x_isThrough (S := wd_o S [] [] [] [] []) hL h hN hh), hc, li_0]
  refine ok_ite (fun z => ?_) (fun z => ?_)
  · rw [b2n_eq] at z
    refine ok_some ?_
    have : lea L c s = false := by unfold lea; rw [z]; simp
    rw [this]; rfl
  · rw [b2n_eq] at z
    have h1 : (thB L (hol L c s) != c) = true := by simpa using z
    refine ok_for0 (W := fun n i (_ : Unit) => it1 (f_X3_isLeast_q123_L25 S (nI s) (nI (hol L c s))) n (nI i)) (I := fun i _ => alls (fun t => !s.testBit t || (thB L (hol1 L c s t) == c)) i = true) (e := l_M L) (s := ()) (by omega) rfl ?_ ?_
    · intro n _ hI
      show Ok (f_X3_isLeast_q123_L25 S _ _ _ (nI (l_M L))) _
      unfold f_X3_isLeast_q123_L25
      rw [h4, if_pos (nI_le (Nat.le_refl _) (by omega))]
      refine ok_some ?_
      have : lea L c s = true := by unfold lea; rw [h1, hI]; rfl
      rw [this]; rfl
    · intro n i _ hi hI ih
      show Ok (f_X3_isLeast_q123_L25 S _ _ (it1 (f_X3_isLeast_q123_L25 S (nI s) (nI (hol L c s))) n) (nI i)) _
      generalize it1 (f_X3_isLeast_q123_L25 S (nI s) (nI (hol L c s))) n = r at ih
      unfold f_X3_isLeast_q123_L25
      have hstep : alls (fun t => !s.testBit t || (thB L (hol1 L c s t) == c)) (i + 1) = (alls (fun t => !s.testBit t || (thB L (hol1 L c s t) == c)) i && (!s.testBit i || (thB L (hol1 L c s i) == c))) := rfl
      rw [h4, if_neg (nI_ge hi (by omega)), nI_1, oI_pow (by omega), oI_xor]
      refine ok_lk (ok_ite (fun y => ?_) (fun y => ?_))
      · rw [oI_bit0 (by omega) (by omega)] at y
        exact ih () (by rw [hstep, hI, y]; rfl)
      · rw [oI_bit0 (by omega) (by omega)] at y
        have hb : s.testBit i = true := by simpa using y
        rw [hol_xor hs hi hb, bd_s (x_isThrough (S := wd_o S [] [] [] [] []) hL h hN (hol1_lt hs hi)), hc]
        refine ok_ite (fun w => ?_) (fun w => ?_)
        · rw [b2n_eq] at w
          exact ih () (by rw [hstep, hI, hb, w]; simp)
        · rw [b2n_eq] at w
          refine ok_some ?_
          have : lea L c s = false := by
            unfold lea
            rw [h1]
            have : alls (fun t => !s.testBit t || (thB L (hol1 L c s t) == c)) (l_M L) = false := alls_f.mpr ⟨i, hi, by simp [hb, w]⟩
            rw [this]; rfl
          rw [this]; rfl
theorem x_valueOf_q123 {S : wd_W} {L : Ld} {c : Bool} {s : Nat} (hL : lOk L) (h4 : S.1 11700 = nI (l_M L)) (ht : ∀ t, t < l_M L → S.2.2.1 118 t = nI (cha L t)) (hc : S.1 12303 = nI (b2n c)) (hs : s < 32768) : f_X3_valueOf_q123 S (nI s) = some (lN (val L c s)) := by
  have hM := lM_15 hL
  apply ok_e
  unfold f_X3_valueOf_q123
  rw [li_0, show (1 : Int64) = lN 1 from rfl]
  refine ok_for0 (W := fun n i (v : Int64) => it2 (f_X3_valueOf_q123_L5 S (nI s)) n v (nI i)) (I := fun i v => v = lN (wtF (fun t => if c = true then 16 - cha L t else cha L t) (fun _ => 16) i s)) (e := l_M L) (by omega) rfl ?_ ?_
  · intro n v hI
    show Ok (f_X3_valueOf_q123_L5 S _ _ v (nI (l_M L))) _
    unfold f_X3_valueOf_q123_L5
    rw [h4, if_pos (nI_le (Nat.le_refl _) (by omega))]
    exact ok_some hI
  · intro n i v hi hI ih
    show Ok (f_X3_valueOf_q123_L5 S _ (it2 (f_X3_valueOf_q123_L5 S (nI s)) n) v (nI i)) _
    generalize it2 (f_X3_valueOf_q123_L5 S (nI s)) n = r at ih
    unfold f_X3_valueOf_q123_L5
    have hca := cha_le hL hi
    have hst : wtF (fun t => if c = true then 16 - cha L t else cha L t) (fun _ => 16) (i + 1) s = wtF (fun t => if c = true then 16 - cha L t else cha L t) (fun _ => 16) i s * (if s.testBit i = true then (if c = true then 16 - cha L i else cha L i) else 16) := rfl
    have go : ∀ ch : Nat, ch = (if c = true then 16 - cha L i else cha L i) → ch ≤ 16 → Ok (lk (fun x6 x7 => lz (x7 * x6) fun x9 => r x9 (nI i + (1 : Int32))) fun k71_8 => if ((nI s >>> (nI i &&& 31)) &&& (1 : Int32)) = 0 then (k71_8 (16 : Int64) v) else (k71_8 (nI ch).toInt64 v)) (fun o => o = lN (val L c s)) := by
      intro ch e1 e2
      refine ok_lk ?_
      rw [nI_1]
      refine ok_ite (fun y => ?_) (fun y => ?_)
      · rw [oI_bit0 (by omega) (by omega)] at y
        refine ok_lz (ih _ ?_)
        rw [hst, y, if_neg (by decide), hI, show (16 : Int64) = lN 16 from rfl, lN_mul]
      · rw [oI_bit0 (by omega) (by omega)] at y
        have hb : s.testBit i = true := by simpa using y
        refine ok_lz (ih _ ?_)
        rw [hst, hb, if_pos rfl, hI, ← e1, nI_l (by omega), lN_mul]
    rw [h4, if_neg (nI_ge hi (by omega)), hc]
    refine ok_lk (ok_ite (fun y => ?_) (fun y => ?_))
    · have hcf : c = false := by
        cases c with
        | false => rfl
        | true => exact absurd y n1_ne
      rw [gd_in (by omega) (by omega), nI_clamp (by omega), ht i hi]
      exact go (cha L i) (by rw [hcf]; simp) hca
    · have hcf : c = true := by
        cases c with
        | true => rfl
        | false => exact absurd rfl y
      rw [gd_in (by omega) (by omega), nI_clamp (by omega), ht i hi, li_16, pk_sub hca]
      exact go (16 - cha L i) (by rw [hcf]; simp) (by omega)
/-- the rows of those told -/
def xTo (L : Ld) (c : Bool) (n : Nat) (l : Nat → Nat) (a : Nat → Int32) (v : Nat → Int64) : Prop := ∀ j, j < n → a j = nI (l j) ∧ v j = lN (val L c (l j))
theorem x_tell_q123 {S : wd_W} {L : Ld} {c : Bool} {s n : Nat} {l : Nat → Nat} (hL : lOk L) (hn : n ≤ 60) (h1 : S.1 12301 = nI n) (ha : xTo L c n l (S.2.2.1 124) (S.2.2.2.1 125)) (hs : s < 32768) :
    Ok (f_X3_tell_q123 S (nI s) (lN (val L c s))) (fun o => o.1 = nI (if posF (val L c) l (val L c s) n < 60 then (min (n + 1) 60, insL l (posF (val L c) l (val L c s) n) s) else (n, l)).1 ∧ xTo L c (if posF (val L c) l (val L c s) n < 60 then (min (n + 1) 60, insL l (posF (val L c) l (val L c s) n) s) else (n, l)).1 (if posF (val L c) l (val L c s) n < 60 then (min (n + 1) 60, insL l (posF (val L c) l (val L c s) n) s) else (n, l)).2 o.2.1 o.2.2) := by
  have hpos : ∀ (K : Int32 → Option o_X3_tell_q123) (k : Nat), k ≤ n → ∀ m, k < m → it1 (f_X3_tell_q123_L6 S (lN (val L c s)) K) m (nI k) = K (nI (posF (val L c) l (val L c s) k)) := by
    intro K k
    induction k with
    | zero =>
      intro _ m hm
      obtain ⟨m, rfl⟩ : ∃ m', m = m' + 1 := ⟨m - 1, by omega⟩
      show f_X3_tell_q123_L6 S _ K _ (nI 0) = _
      unfold f_X3_tell_q123_L6
      rw [if_pos (by decide)]; rfl
    | succ k ihk =>
      intro hk m hm
      obtain ⟨m, rfl⟩ : ∃ m', m = m' + 1 := ⟨m - 1, by omega⟩
      show f_X3_tell_q123_L6 S _ K (it1 (f_X3_tell_q123_L6 S (lN (val L c s)) K) m) (nI (k + 1)) = _
      have ih2 := ihk (by omega) m (by omega)
      generalize it1 (f_X3_tell_q123_L6 S (lN (val L c s)) K) m = r at ih2
      unfold f_X3_tell_q123_L6
      have hv := val_le hL c s
      have hv2 := val_le hL c (l k)
      rw [if_neg (nI_nle (by omega) (by omega)), nI_pred, gd_in (by omega) (by omega), nI_clamp (by omega), (ha k (by omega)).2, pk_m1]
      unfold posF
      by_cases q : val L c (l k) < val L c s
      · rw [if_pos q, if_neg (by rw [lN_leL (by omega) (by omega)]; omega)]
        exact ih2
      · rw [if_neg q, if_pos (by rw [lN_leL (by omega) (by omega)]; omega)]
  have hp := posF_le (val L c) l (val L c s) n
  unfold f_X3_tell_q123
  refine ok_lz (ok_lk ?_)
  rw [h1, hpos _ n (Nat.le_refl _) fuel (by unfold fuel; omega)]
  generalize posF (val L c) l (val L c s) n = k at hp
  have e4 : (if (60 : Int32) < nI n + (1 : Int32) then (60 : Int32) else nI n + (1 : Int32)) = nI (min (n + 1) 60) := by
    by_cases z : 60 < n + 1
    · rw [if_pos (by rw [li_60, nI_1]; exact nI_lt z (by omega)), show min (n + 1) 60 = 60 by omega]; rfl
    · rw [if_neg (by rw [li_60, nI_1]; exact nI_nlt (by omega) (by omega)), show min (n + 1) 60 = n + 1 by omega, nI_1]
  rw [e4]
  refine ok_ite (fun q => ?_) (fun q => ?_)
  · rw [li_60, nI_ltI (by omega) (by omega)] at q
    rw [if_pos q]
    dsimp only
    have hn' : min (n + 1) 60 ≤ 60 := by omega
    have hn2 : min (n + 1) 60 ≤ n + 1 := by omega
    have hk2 : k + 1 ≤ min (n + 1) 60 := by omega
    generalize min (n + 1) 60 = n' at hn' hn2 hk2
    refine ok_lz (ok_lz (ok_lk ?_))
    rw [li_1, oI_sub1 (by omega)]
    generalize hA0 : S.2.2.1 124 = A0 at ha
    generalize hV0 : S.2.2.2.1 125 = V0 at ha
    refine ok_while (W := fun m (x : Nat × (Nat → Int32) × (Nat → Int64)) => it3 (f_X3_tell_q123_L62 (nI k) _) m (nI x.1) x.2.1 x.2.2) (I := fun x => k ≤ x.1 ∧ x.1 < n' ∧ (∀ j, j < n' → x.2.1 j = if j ≤ x.1 then A0 j else A0 (j - 1)) ∧ ∀ j, j < n' → x.2.2 j = if j ≤ x.1 then V0 j else V0 (j - 1)) (μ := fun x => x.1) (s := (n' - 1, A0, V0)) ⟨by dsimp only; omega, by dsimp only; omega, fun j hj => by dsimp only; rw [if_pos (by omega)], fun j hj => by dsimp only; rw [if_pos (by omega)]⟩ (by dsimp only; omega) ?_
    rintro m ⟨i, a, v⟩ ⟨i1, i2, i3, i4⟩ ih
    dsimp only at i1 i2 i3 i4 ih
    show Ok (f_X3_tell_q123_L62 (nI k) _ (it3 (f_X3_tell_q123_L62 (nI k) _) m) (nI i) a v) _
    generalize it3 (f_X3_tell_q123_L62 (nI k) _) m = r at ih
    unfold f_X3_tell_q123_L62
    refine ok_ite (fun z => ?_) (fun z => ?_)
    · rw [nI_leI (by omega) (by omega)] at z
      have hik : i = k := by omega
      subst hik
      dsimp only
      rw [gd_in (by omega) (by omega), lz_eq, gd_in (by omega) (by omega), lz_eq, nI_clamp (by omega)]
      refine ok_some ⟨rfl, fun j hj => ?_⟩
      unfold insL
      dsimp only
      by_cases e1 : j < i
      · rw [if_pos e1, pk_un (by omega), pk_uLn (by omega), i3 j hj, i4 j hj, if_pos (by omega), if_pos (by omega)]
        exact ha j (by omega)
      · by_cases e2 : j = i
        · subst e2; rw [if_neg e1, if_pos rfl, pk_us, pk_uLs]; exact ⟨rfl, rfl⟩
        · rw [if_neg e1, if_neg e2, pk_un e2, pk_uLn e2, i3 j hj, i4 j hj, if_neg (by omega), if_neg (by omega)]
          exact ha (j - 1) (by omega)
    · rw [nI_leI (by omega) (by omega)] at z
      have hi0 : 0 < i := by omega
      have e1 : nI i - (1 : Int32) = nI (i - 1) := oI_sub1 hi0
      have e2 : nI i + (-(nI 1)) = nI (i - 1) := by
        have := pk_m1 (i - 1)
        rw [show i - 1 + 1 = i by omega] at this
        exact this
      have e2' : nI i + (-1 : Int32) = nI (i - 1) := e2
      rw [e1, gd_in (by omega) (by omega), lz_eq, gd_in (by omega) (by omega), lz_eq, gd_in (by omega) (by omega), lz_eq, gd_in (by omega) (by omega), lz_eq, nI_clamp (by omega), nI_clamp (by omega)]
      have go := ih (i - 1, upd a i (a (i - 1)), vp_updL v i (v (i - 1))) ⟨by dsimp only; omega, by dsimp only; omega, fun j hj => ?_, fun j hj => ?_⟩ (by dsimp only; omega)
      · rw [e2']; exact go
      · dsimp only
        by_cases e : j = i
        · subst e; rw [pk_us, i3 _ (by omega), if_pos (by omega), if_neg (by omega)]
        · rw [pk_un e, i3 j hj]
          by_cases q2 : j ≤ i
          · rw [if_pos q2, if_pos (by omega)]
          · rw [if_neg q2, if_neg (by omega)]
      · dsimp only
        by_cases e : j = i
        · subst e; rw [pk_uLs, i4 _ (by omega), if_pos (by omega), if_neg (by omega)]
        · rw [pk_uLn e, i4 j hj]
          by_cases q2 : j ≤ i
          · rw [if_pos q2, if_pos (by omega)]
          · rw [if_neg q2, if_neg (by omega)]
  · rw [li_60, nI_ltI (by omega) (by omega)] at q
    rw [if_neg q]
    exact ok_some ⟨rfl, ha⟩
