/-! the same for cuts -/
theorem x_holding_q127 {S : wd_W} {L : Ld} {c : Bool} {s : Nat} (hL : lOk L) (h2 : S.1 10602 = nI (2 ^ l_M L)) (hc : S.1 12703 = nI (b2n c)) (hs : s < 2 ^ l_M L) : f_X3_holding_q127 S (nI s) = some (nI (hol L c s)) := by
  have p0 := Nat.two_pow_pos (l_M L)
  unfold f_X3_holding_q127
  rw [hc, h2, show nI (2 ^ l_M L) - (1 : Int32) = nI (2 ^ l_M L - 1) from by rw [li_1, oI_sub1 p0], oI_xor, xor_all hs]
  unfold hol
  cases c with
  | true => rw [if_neg (show ¬ nI (b2n true) = 0 from n1_ne), if_pos rfl]
  | false => rw [if_pos (by rfl), if_neg (by decide)]
theorem x_isLeast_q127 {S : wd_W} {L : Ld} {c : Bool} {s : Nat} (hL : lOk L) (h : xS S L) (hN : xN S) (hc : S.1 12703 = nI (b2n c)) (hs : s < 2 ^ l_M L) : f_X3_isLeast_q127 S (nI s) = some (nI (b2n (lea L c s))) := by
  have hM := lM_15 hL
  have pM := pow_le15 hM
  have h2 := h.2.1
  have h4 := h.2.2.2.1
  have hh := hol_lt (c := c) hs
  apply ok_e
  unfold f_X3_isLeast_q127
  rw [bd_s (x_holding_q127 (S := wd_o S [] [] [] [] []) hL h2 hc hs), bd_s (x_isThrough (S := wd_o S [] [] [] [] []) hL h hN hh), hc, li_0]
  refine ok_ite (fun z => ?_) (fun z => ?_)
  · rw [b2n_eq] at z
    refine ok_some ?_
    have : lea L c s = false := by unfold lea; rw [z]; simp
    rw [this]; rfl
  · rw [b2n_eq] at z
    have h1 : (thB L (hol L c s) != c) = true := by simpa using z
    refine ok_for0 (W := fun n i (_ : Unit) => it1 (f_X3_isLeast_q127_L25 S (nI s) (nI (hol L c s))) n (nI i)) (I := fun i _ => alls (fun t => !s.testBit t || (thB L (hol1 L c s t) == c)) i = true) (e := l_M L) (s := ()) (by omega) rfl ?_ ?_
    · intro n _ hI
      show Ok (f_X3_isLeast_q127_L25 S _ _ _ (nI (l_M L))) _
      unfold f_X3_isLeast_q127_L25
      rw [h4, if_pos (nI_le (Nat.le_refl _) (by omega))]
      refine ok_some ?_
      have : lea L c s = true := by unfold lea; rw [h1, hI]; rfl
      rw [this]; rfl
    · intro n i _ hi hI ih
      show Ok (f_X3_isLeast_q127_L25 S _ _ (it1 (f_X3_isLeast_q127_L25 S (nI s) (nI (hol L c s))) n) (nI i)) _
      generalize it1 (f_X3_isLeast_q127_L25 S (nI s) (nI (hol L c s))) n = r at ih
      unfold f_X3_isLeast_q127_L25
      have hstep : alls (fun t => !s.testBit t || (thB L (hol1 L c s t) == c)) (i + 1) = (alls (fun t => !s.testBit t || (thB L (hol1 L c s t) == c)) i && (!s.testBit i || (thB L (hol1 L c s i) == c))) := rfl
      rw [h4, if_neg (nI_ge hi (by omega)), nI_1, oI_pow (by omega), oI_xor]
      refine ok_lk (ok_ite (fun y => ?_) (fun y => ?_))
      · rw [oI_bit0 (by omega) (by omega)] at y
        exact ih () (by rw [hstep, hI, y]; rfl)
      · rw [oI_bit0 (by omega) (by omega)] at y
        have hb : s.testBit i = true := by simpa using y
        rw [hol_xor hs hi hb, bd_s (x_isThrough (S := wd_o S [] [] [] [] []) hL h hN (hol1_lt hs hi)), hc]
        refine ok_ite (fun w => ?_) (fun w => ?_)
        · rw [b2n_eq] at w
          exact ih () (by rw [hstep, hI, hb, w]; simp)
        · rw [b2n_eq] at w
          refine ok_some ?_
          have : lea L c s = false := by
            unfold lea
            rw [h1]
            have : alls (fun t => !s.testBit t || (thB L (hol1 L c s t) == c)) (l_M L) = false := alls_f.mpr ⟨i, hi, by simp [hb, w]⟩
            rw [this]; rfl
          rw [this]; rfl
theorem x_valueOf_q127 {S : wd_W} {L : Ld} {c : Bool} {s : Nat} (hL : lOk L) (h4 : S.1 11700 = nI (l_M L)) (ht : ∀ t, t < l_M L → S.2.2.1 118 t = nI (cha L t)) (hc : S.1 12703 = nI (b2n c)) (hs : s < 32768) : f_X3_valueOf_q127 S (nI s) = some (lN (val L c s)) := by
  have hM := lM_15 hL
  apply ok_e
  unfold f_X3_valueOf_q127
  rw [li_0, show (1 : Int64) = lN 1 from rfl]
  refine ok_for0 (W := fun n i (v : Int64) => it2 (f_X3_valueOf_q127_L5 S (nI s)) n v (nI i)) (I := fun i v => v = lN (wtF (fun t => if c = true then 16 - cha L t else cha L t) (fun _ => 16) i s)) (e := l_M L) (by omega) rfl ?_ ?_
  · intro n v hI
    show Ok (f_X3_valueOf_q127_L5 S _ _ v (nI (l_M L))) _
    unfold f_X3_valueOf_q127_L5
    rw [h4, if_pos (nI_le (Nat.le_refl _) (by omega))]
    exact ok_some hI
  · intro n i v hi hI ih
    show Ok (f_X3_valueOf_q127_L5 S _ (it2 (f_X3_valueOf_q127_L5 S (nI s)) n) v (nI i)) _
    generalize it2 (f_X3_valueOf_q127_L5 S (nI s)) n = r at ih
    unfold f_X3_valueOf_q127_L5
    have hca := cha_le hL hi
    have hst : wtF (fun t => if c = true then 16 - cha L t else cha L t) (fun _ => 16) (i + 1) s = wtF (fun t => if c = true then 16 - cha L t else cha L t) (fun _ => 16) i s * (if s.testBit i = true then (if c = true then 16 - cha L i else cha L i) else 16) := rfl
    have go : ∀ ch : Nat, ch = (if c = true then 16 - cha L i else cha L i) → ch ≤ 16 → Ok (lk (fun x6 x7 => lz (x7 * x6) fun x9 => r x9 (nI i + (1 : Int32))) fun k71_8 => if ((nI s >>> (nI i &&& 31)) &&& (1 : Int32)) = 0 then (k71_8 (16 : Int64) v) else (k71_8 (nI ch).toInt64 v)) (fun o => o = lN (val L c s)) := by
      intro ch e1 e2
      refine ok_lk ?_
      rw [nI_1]
      refine ok_ite (fun y => ?_) (fun y => ?_)
      · rw [oI_bit0 (by omega) (by omega)] at y
        refine ok_lz (ih _ ?_)
        rw [hst, y, if_neg (by decide), hI, show (16 : Int64) = lN 16 from rfl, lN_mul]
      · rw [oI_bit0 (by omega) (by omega)] at y
        have hb : s.testBit i = true := by simpa using y
        refine ok_lz (ih _ ?_)
        rw [hst, hb, if_pos rfl, hI, ← e1, nI_l (by omega), lN_mul]
    rw [h4, if_neg (nI_ge hi (by omega)), hc]
    refine ok_lk (ok_ite (fun y => ?_) (fun y => ?_))
    · have hcf : c = false := by
        cases c with
        | false => rfl
        | true => exact absurd y n1_ne
      rw [gd_in (by omega) (by omega), nI_clamp (by omega), ht i hi]
      exact go (cha L i) (by rw [hcf]; simp) hca
    · have hcf : c = true := by
        cases c with
        | true => rfl
        | false => exact absurd rfl y
      rw [gd_in (by omega) (by omega), nI_clamp (by omega), ht i hi, li_16, pk_sub hca]
      exact go (16 - cha L i) (by rw [hcf]; simp) (by omega)
theorem x_tell_q127 {S : wd_W} {L : Ld} {c : Bool} {s n : Nat} {l : Nat → Nat} (hL : lOk L) (hn : n ≤ 60) (h1 : S.1 12701 = nI n) (ha : xTo L c n l (S.2.2.1 128) (S.2.2.2.1 129)) (hs : s < 32768) :
    Ok (f_X3_tell_q127 S (nI s) (lN (val L c s))) (fun o => o.1 = nI (if posF (val L c) l (val L c s) n < 60 then (min (n + 1) 60, insL l (posF (val L c) l (val L c s) n) s) else (n, l)).1 ∧ xTo L c (if posF (val L c) l (val L c s) n < 60 then (min (n + 1) 60, insL l (posF (val L c) l (val L c s) n) s) else (n, l)).1 (if posF (val L c) l (val L c s) n < 60 then (min (n + 1) 60, insL l (posF (val L c) l (val L c s) n) s) else (n, l)).2 o.2.1 o.2.2) := by
  have hpos : ∀ (K : Int32 → Option o_X3_tell_q127) (k : Nat), k ≤ n → ∀ m, k < m → it1 (f_X3_tell_q127_L6 S (lN (val L c s)) K) m (nI k) = K (nI (posF (val L c) l (val L c s) k)) := by
    intro K k
    induction k with
    | zero =>
      intro _ m hm
      obtain ⟨m, rfl⟩ : ∃ m', m = m' + 1 := ⟨m - 1, by omega⟩
      show f_X3_tell_q127_L6 S _ K _ (nI 0) = _
      unfold f_X3_tell_q127_L6
      rw [if_pos (by decide)]; rfl
    | succ k ihk =>
      intro hk m hm
      obtain ⟨m, rfl⟩ : ∃ m', m = m' + 1 := ⟨m - 1, by omega⟩
      show f_X3_tell_q127_L6 S _ K (it1 (f_X3_tell_q127_L6 S (lN (val L c s)) K) m) (nI (k + 1)) = _
      have ih2 := ihk (by omega) m (by omega)
      generalize it1 (f_X3_tell_q127_L6 S (lN (val L c s)) K) m = r at ih2
      unfold f_X3_tell_q127_L6
      have hv := val_le hL c s
      have hv2 := val_le hL c (l k)
      rw [if_neg (nI_nle (by omega) (by omega)), nI_pred, gd_in (by omega) (by omega), nI_clamp (by omega), (ha k (by omega)).2, pk_m1]
      unfold posF
      by_cases q : val L c (l k) < val L c s
      · rw [if_pos q, if_neg (by rw [lN_leL (by omega) (by omega)]; omega)]
        exact ih2
      · rw [if_neg q, if_pos (by rw [lN_leL (by omega) (by omega)]; omega)]
  have hp := posF_le (val L c) l (val L c s) n
  unfold f_X3_tell_q127
  refine ok_lz (ok_lk ?_)
  rw [h1, hpos _ n (Nat.le_refl _) fuel (by unfold fuel; omega)]
  generalize posF (val L c) l (val L c s) n = k at hp
  have e4 : (if (60 : Int32) < nI n + (1 : Int32) then (60 : Int32) else nI n + (1 : Int32)) = nI (min (n + 1) 60) := by
    by_cases z : 60 < n + 1
    · rw [if_pos (by rw [li_60, nI_1]; exact nI_lt z (by omega)), show min (n + 1) 60 = 60 by omega]; rfl
    · rw [if_neg (by rw [li_60, nI_1]; exact nI_nlt (by omega) (by omega)), show min (n + 1) 60 = n + 1 by omega, nI_1]
  rw [e4]
  refine ok_ite (fun q => ?_) (fun q => ?_)
  · rw [li_60, nI_ltI (by omega) (by omega)] at q
    rw [if_pos q]
    dsimp only
    have hn' : min (n + 1) 60 ≤ 60 := by omega
    have hn2 : min (n + 1) 60 ≤ n + 1 := by omega
    have hk2 : k + 1 ≤ min (n + 1) 60 := by omega
    generalize min (n + 1) 60 = n' at hn' hn2 hk2
    refine ok_lz (ok_lz (ok_lk ?_))
    rw [li_1, oI_sub1 (by omega)]
    generalize hA0 : S.2.2.1 128 = A0 at ha
    generalize hV0 : S.2.2.2.1 129 = V0 at ha
    refine ok_while (W := fun m (x : Nat × (Nat → Int32) × (Nat → Int64)) => it3 (f_X3_tell_q127_L62 (nI k) _) m (nI x.1) x.2.1 x.2.2) (I := fun x => k ≤ x.1 ∧ x.1 < n' ∧ (∀ j, j < n' → x.2.1 j = if j ≤ x.1 then A0 j else A0 (j - 1)) ∧ ∀ j, j < n' → x.2.2 j = if j ≤ x.1 then V0 j else V0 (j - 1)) (μ := fun x => x.1) (s := (n' - 1, A0, V0)) ⟨by dsimp only; omega, by dsimp only; omega, fun j hj => by dsimp only; rw [if_pos (by omega)], fun j hj => by dsimp only; rw [if_pos (by omega)]⟩ (by dsimp only; omega) ?_
    rintro m ⟨i, a, v⟩ ⟨i1, i2, i3, i4⟩ ih
    dsimp only at i1 i2 i3 i4 ih
    show Ok (f_X3_tell_q127_L62 (nI k) _ (it3 (f_X3_tell_q127_L62 (nI k) _) m) (nI i) a v) _
    generalize it3 (f_X3_tell_q127_L62 (nI k) _) m = r at ih
    unfold f_X3_tell_q127_L62
    refine ok_ite (fun z => ?_) (fun z => ?_)
    · rw [nI_leI (by omega) (by omega)] at z
      have hik : i = k := by omega
      subst hik
      dsimp only
      rw [gd_in (by omega) (by omega), lz_eq, gd_in (by omega) (by omega), lz_eq, nI_clamp (by omega)]
      refine ok_some ⟨rfl, fun j hj => ?_⟩
      unfold insL
      dsimp only
      by_cases e1 : j < i
      · rw [if_pos e1, pk_un (by omega), pk_uLn (by omega), i3 j hj, i4 j hj, if_pos (by omega), if_pos (by omega)]
        exact ha j (by omega)
      · by_cases e2 : j = i
        · subst e2; rw [if_neg e1, if_pos rfl, pk_us, pk_uLs]; exact ⟨rfl, rfl⟩
        · rw [if_neg e1, if_neg e2, pk_un e2, pk_uLn e2, i3 j hj, i4 j hj, if_neg (by omega), if_neg (by omega)]
          exact ha (j - 1) (by omega)
    · rw [nI_leI (by omega) (by omega)] at z
      have hi0 : 0 < i := by omega
      have e1 : nI i - (1 : Int32) = nI (i - 1) := oI_sub1 hi0
      have e2 : nI i + (-(nI 1)) = nI (i - 1) := by
        have := pk_m1 (i - 1)
        rw [show i - 1 + 1 = i by omega] at this
        exact this
      have e2' : nI i + (-1 : Int32) = nI (i - 1) := e2
      rw [e1, gd_in (by omega) (by omega), lz_eq, gd_in (by omega) (by omega), lz_eq, gd_in (by omega) (by omega), lz_eq, gd_in (by omega) (by omega), lz_eq, nI_clamp (by omega), nI_clamp (by omega)]
      have go := ih (i - 1, upd a i (a (i - 1)), vp_updL v i (v (i - 1))) ⟨by dsimp only; omega, by dsimp only; omega, fun j hj => ?_, fun j hj => ?_⟩ (by dsimp only; omega)
      · rw [e2']; exact go
      · dsimp only
        by_cases e : j = i
        · subst e; rw [pk_us, i3 _ (by omega), if_pos (by omega), if_neg (by omega)]
        · rw [pk_un e, i3 j hj]
          by_cases q2 : j ≤ i
          · rw [if_pos q2, if_pos (by omega)]
          · rw [if_neg q2, if_neg (by omega)]
      · dsimp only
        by_cases e : j = i
        · subst e; rw [pk_uLs, i4 _ (by omega), if_pos (by omega), if_neg (by omega)]
        · rw [pk_uLn e, i4 j hj]
          by_cases q2 : j ≤ i
          · rw [if_pos q2, if_pos (by omega)]
          · rw [if_neg q2, if_neg (by omega)]
  · rw [li_60, nI_ltI (by omega) (by omega)] at q
    rw [if_neg q]
    exact ok_some ⟨rfl, ha⟩
theorem x_firstIn_q127 {S : wd_W} {h n : Nat} {l : Nat → Nat} (hn : n ≤ 60) (h1 : S.1 12701 = nI n) (ha : ∀ j, j < n → S.2.2.1 128 j = nI (l j) ∧ l j < 32768) : f_X3_firstIn_q127 S (nI h) = some (nI (fstI l h n n)) := by
  have key : ∀ k, k ≤ n → ∀ m, k < m → it1 (f_X3_firstIn_q127_L2 S (nI h) (some (S.1 12701))) m (nI (n - k)) = some (nI (fstI l h n k)) := by
    intro k
    induction k with
    | zero =>
      intro _ m hm
      obtain ⟨m, rfl⟩ : ∃ m', m = m' + 1 := ⟨m - 1, by omega⟩
      show f_X3_firstIn_q127_L2 S _ _ _ (nI n) = _
      unfold f_X3_firstIn_q127_L2
      rw [h1, if_pos (nI_le (Nat.le_refl _) (by omega))]; rfl
    | succ k ihk =>
      intro hk m hm
      obtain ⟨m, rfl⟩ : ∃ m', m = m' + 1 := ⟨m - 1, by omega⟩
      show f_X3_firstIn_q127_L2 S _ _ (it1 (f_X3_firstIn_q127_L2 S (nI h) (some (S.1 12701))) m) (nI (n - (k + 1))) = _
      have ih2 := ihk (by omega) m (by omega)
      generalize it1 (f_X3_firstIn_q127_L2 S (nI h) (some (S.1 12701))) m = r at ih2
      unfold f_X3_firstIn_q127_L2
      obtain ⟨d1, d2⟩ := ha (n - (k + 1)) (by omega)
      have hnd : ndn (l (n - (k + 1))) h < 32768 := ndn_lt (n := 15) d2
      rw [h1, if_neg (nI_ge (by omega) (by omega)), gd_in (by omega) (by omega), nI_clamp (by omega), d1, oI_ndn, nI_1, show n - (k + 1) + 1 = n - k by omega]
      unfold fstI
      by_cases e : ndn (l (n - (k + 1))) h = 0
      · rw [if_pos e, if_pos (by rw [e]; rfl)]
      · rw [if_neg e, if_neg (by rw [oI_z (by omega)]; exact e)]
        exact ih2
  unfold f_X3_firstIn_q127
  rw [lk_eq]
  have := key n (Nat.le_refl n) fuel (by unfold fuel; omega)
  rw [Nat.sub_self] at this
  exact this
theorem x_fill_q130 {S : wd_W} : f_J7_fill_d0a16_q130 S 0 = some (fil (fun _ => 0) (S.2.2.2.1 130) 60) := by
  unfold f_J7_fill_d0a16_q130
  refine Eq.trans ?_ (eq_for0 (W := fun m i => it2 (f_J7_fill_d0a16_q130_L6 0) m (nI i) (fil (fun _ => 0) (S.2.2.2.1 130) i)) (e := 60) (by omega) ?_ ?_)
  · show it2 _ fuel (nI 0) _ = it2 _ fuel (nI 0) (fil _ _ 0)
    rw [fil_0]
  · intro m
    show f_J7_fill_d0a16_q130_L6 0 _ (nI 60) _ = _
    unfold f_J7_fill_d0a16_q130_L6
    rw [if_pos (by decide)]
  · intro m i hi
    show f_J7_fill_d0a16_q130_L6 0 (it2 (f_J7_fill_d0a16_q130_L6 0) m) (nI i) _ = it2 (f_J7_fill_d0a16_q130_L6 0) m (nI (i + 1)) _
    generalize it2 (f_J7_fill_d0a16_q130_L6 0) m = r
    unfold f_J7_fill_d0a16_q130_L6
    rw [li_60, if_neg (nI_ge hi (by omega)), ← fil_updL, gd_in (by omega) (by omega), lz_eq, nI_clamp (by omega), nI_1]
theorem x_share_q127 {S : wd_W} {L : Ld} {c : Bool} (hL : lOk L) (h : xS S L) (hN : xN S) (hc : S.1 12703 = nI (b2n c)) (h1 : S.1 12701 = nI (lsF L c (2 ^ l_M L)).2.1) (ha : ∀ j, j < (lsF L c (2 ^ l_M L)).2.1 → S.2.2.1 128 j = nI ((lsF L c (2 ^ l_M L)).2.2 j)) :
    Ok (f_X3_shareOut_q127 S) (fun o => ∀ k, k < (lsF L c (2 ^ l_M L)).2.1 → o k = lN (shaF L c k (2 ^ l_M L))) := by
  have hM := lM_15 hL
  have pM := pow_le15 hM
  have h2 := h.2.1
  obtain ⟨e, f, he, hf, n7, n9, n8, n10⟩ := hN
  have pe := pow_le15 he
  have l7 := h.2.2.2.2.2.2.2.1
  have htold := (lsF_told L c (2 ^ l_M L)).1
  have hset := lsF_set L c (2 ^ l_M L)
  have hsh : ∀ k n, shaF L c k n = fb_sm (fun s => if fstI (lsF L c (2 ^ l_M L)).2.2 (hol L c s) (lsF L c (2 ^ l_M L)).2.1 (lsF L c (2 ^ l_M L)).2.1 = k then wt L s else 0) n := fun _ _ => rfl
  generalize lsF L c (2 ^ l_M L) = X at h1 ha htold hset hsh
  unfold f_X3_shareOut_q127
  rw [bd_s (x_fill_q130 (S := wd_o S [] [] [] [(130, (S.2.2.2.1 130))] [])), li_0]
  refine ok_for0 (W := fun n i (a : Nat → Int64) => it2 (f_X3_shareOut_q127_L10 S) n (nI i) a) (I := fun i a => ∀ k, k < X.2.1 → a k = lN (shaF L c k i)) (e := 2 ^ l_M L) (by omega) (fun k hk => by
    show fil (fun _ => (0 : Int64)) _ 60 k = _
    rw [fil_in (by omega), hsh]; rfl) ?_ ?_
  · intro n a hI
    show Ok (f_X3_shareOut_q127_L10 S _ (nI (2 ^ l_M L)) a) _
    unfold f_X3_shareOut_q127_L10
    rw [h2, if_pos (nI_le (Nat.le_refl _) (by omega))]
    exact ok_some hI
  · intro n i a hi hI ih
    show Ok (f_X3_shareOut_q127_L10 S (it2 (f_X3_shareOut_q127_L10 S) n) (nI i) a) _
    generalize it2 (f_X3_shareOut_q127_L10 S) n = r at ih
    unfold f_X3_shareOut_q127_L10
    have hstep : ∀ k, shaF L c k (i + 1) = shaF L c k i + (if fstI X.2.2 (hol L c i) X.2.1 X.2.1 = k then wt L i else 0) := fun k => by rw [hsh, hsh, fb_sm_succ]
    rw [h2, if_neg (nI_ge hi (by omega)), bd_s (x_holding_q127 (S := wd_o S [] [] [] [(130, a)] []) hL h2 hc hi), bd_s (x_firstIn_q127 (S := wd_o S [] [] [] [(130, a)] []) (n := X.2.1) (l := X.2.2) htold h1 (fun j hj => ⟨ha j hj, by have := hset j hj; omega⟩)), nI_1, h1]
    have hfl := fstI_le X.2.2 (hol L c i) X.2.1 X.2.1 (Nat.le_refl _)
    generalize fstI X.2.2 (hol L c i) X.2.1 X.2.1 = fi at hstep hfl
    refine ok_lk (ok_ite (fun z => ?_) (fun z => ?_))
    · rw [nI_leI (by omega) (by omega)] at z
      refine ih _ (fun k hk => ?_)
      rw [hstep, if_neg (by omega), Nat.add_zero]; exact hI k hk
    · rw [nI_leI (by omega) (by omega)] at z
      rw [gd_in (by omega) (by omega), gd_in (by omega) (by omega), lz_eq, gd_in (by omega) (by omega), lz_eq, nI_clamp (by omega), nI_clamp (by omega), (h.2.2.2.2.2.1 i hi).1, hI fi (by omega), lN_add]
      refine ih _ (fun k hk => ?_)
      rw [hstep]
      by_cases e2 : k = fi
      · subst e2; rw [pk_uLs, if_pos rfl]
      · rw [pk_uLn e2, if_neg (Ne.symm e2), Nat.add_zero]; exact hI k hk
theorem x_find_q127 {S : wd_W} {L : Ld} {c : Bool} (hL : lOk L) (h : xS S L) (hN : xN S) (hc : S.1 12703 = nI (b2n c)) :
    Ok (f_X3_find_q127 S) (fun o => o.1 = nI (lsF L c (2 ^ l_M L)).1 ∧ o.2.1 = nI (lsF L c (2 ^ l_M L)).2.1 ∧ xTo L c (lsF L c (2 ^ l_M L)).2.1 (lsF L c (2 ^ l_M L)).2.2 o.2.2.1 o.2.2.2.1 ∧ ∀ k, k < (lsF L c (2 ^ l_M L)).2.1 → o.2.2.2.2 k = lN (shaF L c k (2 ^ l_M L))) := by
  have hM := lM_15 hL
  have pM := pow_le15 hM
  have h2 := h.2.1
  unfold f_X3_find_q127
  refine ok_lk ?_
  rw [li_0]
  refine ok_for0 (W := fun n i (x : Nat × Nat × (Nat → Int32) × (Nat → Int64)) => it5 (f_X3_find_q127_L12 S _) n (nI i) (nI x.1) (nI x.2.1) x.2.2.1 x.2.2.2) (I := fun i x => x.1 = (lsF L c i).1 ∧ x.2.1 = (lsF L c i).2.1 ∧ xTo L c (lsF L c i).2.1 (lsF L c i).2.2 x.2.2.1 x.2.2.2) (e := 2 ^ l_M L) (s := (0, 0, S.2.2.1 128, S.2.2.2.1 129)) (by omega) ⟨rfl, rfl, fun j hj => by cases hj⟩ ?_ ?_
  · rintro n ⟨x1, x2, a3, a4⟩ ⟨i1, i2, i3⟩
    dsimp only at i1 i2 i3
    subst i1; subst i2
    show Ok (f_X3_find_q127_L12 S _ _ (nI (2 ^ l_M L)) (nI (lsF L c (2 ^ l_M L)).1) (nI (lsF L c (2 ^ l_M L)).2.1) a3 a4) _
    unfold f_X3_find_q127_L12
    rw [h2, if_pos (nI_le (Nat.le_refl _) (by omega))]
    refine ok_bd (x_share_q127 (S := wd_o S [(12700, nI (lsF L c (2 ^ l_M L)).1), (12701, nI (lsF L c (2 ^ l_M L)).2.1)] [] [(128, a3)] [(129, a4), (130, (S.2.2.2.1 130))] []) (c := c) hL h hN hc rfl (fun j hj => (i3 j hj).1)) ?_
    intro o6 h6
    exact ok_some ⟨rfl, rfl, i3, h6⟩
  · rintro n i ⟨x1, x2, a3, a4⟩ hi ⟨i1, i2, i3⟩ ih
    dsimp only at i1 i2 i3
    subst i1; subst i2
    show Ok (f_X3_find_q127_L12 S _ (it5 (f_X3_find_q127_L12 S _) n) (nI i) (nI (lsF L c i).1) (nI (lsF L c i).2.1) a3 a4) _
    generalize it5 (f_X3_find_q127_L12 S _) n = r at ih
    unfold f_X3_find_q127_L12
    obtain ⟨t1, t2, t3⟩ := lsF_told L c i
    have hstep : lsF L c (i + 1) = lsS L c i (lsF L c i) := rfl
    rw [h2, if_neg (nI_ge hi (by omega)), bd_s (x_isLeast_q127 (S := wd_o S [(12700, nI (lsF L c i).1), (12701, nI (lsF L c i).2.1)] [] [(128, a3)] [(129, a4), (130, (S.2.2.2.1 130))] []) (c := c) hL h hN hc hi), nI_1]
    refine ok_lk (ok_b (fun z => ?_) (fun z => ?_))
    · have : lsF L c (i + 1) = lsF L c i := by rw [hstep]; unfold lsS; rw [z, if_neg (by decide)]
      exact ih ((lsF L c i).1, (lsF L c i).2.1, a3, a4) ⟨by rw [this], by rw [this], by rw [this]; exact i3⟩
    · have hs : lsF L c (i + 1) = ((lsF L c i).1 + 1, if posF (val L c) (lsF L c i).2.2 (val L c i) (lsF L c i).2.1 < 60 then (min ((lsF L c i).2.1 + 1) 60, insL (lsF L c i).2.2 (posF (val L c) (lsF L c i).2.2 (val L c i) (lsF L c i).2.1) i) else ((lsF L c i).2.1, (lsF L c i).2.2)) := by rw [hstep]; unfold lsS; rw [z, if_pos rfl]
      rw [lz_eq, nI_1, bd_s (x_valueOf_q127 (S := wd_o S [(12700, nI ((lsF L c i).1 + 1)), (12701, nI (lsF L c i).2.1)] [] [(128, a3)] [(129, a4), (130, (S.2.2.2.1 130))] []) (c := c) hL h.2.2.2.1 (fun t ht => (h.2.2.2.2.1 t ht).1) hc (by omega))]
      refine ok_bd (x_tell_q127 (S := wd_o S [(12700, nI ((lsF L c i).1 + 1)), (12701, nI (lsF L c i).2.1)] [] [(128, a3)] [(129, a4), (130, (S.2.2.2.1 130))] []) (c := c) (n := (lsF L c i).2.1) (l := (lsF L c i).2.2) hL t1 rfl i3 (by omega)) ?_
      rintro ⟨o1, o2, o3⟩ ⟨w1, w2⟩
      dsimp only at w1 w2
      subst w1
      dsimp only
      refine ih ((lsF L c i).1 + 1, _, o2, o3) ⟨by rw [hs], ?_, ?_⟩
      · dsimp only; rw [hs]
      · dsimp only; rw [hs]; exact w2
theorem x_some_q127 {S : wd_W} {L : Ld} {c : Bool} {m : Nat} (hm : m ≤ 60) (h1 : S.1 12701 = nI (lsF L c (2 ^ l_M L)).2.1) (ha : ∀ k, k < (lsF L c (2 ^ l_M L)).2.1 → S.2.2.2.1 130 k = lN (shaF L c k (2 ^ l_M L))) : f_X3_someOfFirst_q127 S (nI m) = some (lN (endF L c m)) := by
  have htold := (lsF_told L c (2 ^ l_M L)).1
  apply ok_e
  unfold f_X3_someOfFirst_q127
  rw [li_0, lN_0]
  have hend : endF L c (min m (lsF L c (2 ^ l_M L)).2.1) = endF L c m := by
    unfold endF
    apply fb_sm_cong
    intro s _
    generalize fstI (lsF L c (2 ^ l_M L)).2.2 (hol L c s) (lsF L c (2 ^ l_M L)).2.1 (lsF L c (2 ^ l_M L)).2.1 = fi
    by_cases q : fi < m ∧ fi < (lsF L c (2 ^ l_M L)).2.1
    · rw [if_pos q, if_pos ⟨by omega, q.2⟩]
    · rw [if_neg q, if_neg (fun z => q ⟨by omega, z.2⟩)]
  have hsum := sha_end L c (min m (lsF L c (2 ^ l_M L)).2.1) (by omega)
  rw [hend] at hsum
  rw [← hsum]
  generalize (lsF L c (2 ^ l_M L)).2.1 = n at h1 ha htold
  refine ok_for0 (W := fun k i (v : Int64) => it2 (f_X3_someOfFirst_q127_L5 S (nI m)) k v (nI i)) (I := fun i v => v = lN (fb_sm (fun k => shaF L c k (2 ^ l_M L)) i)) (e := min m n) (by omega) rfl ?_ ?_
  · intro k v hI
    show Ok (f_X3_someOfFirst_q127_L5 S _ _ v (nI (min m n))) _
    unfold f_X3_someOfFirst_q127_L5
    by_cases q : m ≤ n
    · rw [if_pos (nI_le (by omega) (by omega))]
      exact ok_some hI
    · rw [if_neg (nI_ge (by omega) (by omega)), h1, if_pos (nI_le (by omega) (by omega))]
      exact ok_some hI
  · intro k i v hi hI ih
    show Ok (f_X3_someOfFirst_q127_L5 S _ (it2 (f_X3_someOfFirst_q127_L5 S (nI m)) k) v (nI i)) _
    generalize it2 (f_X3_someOfFirst_q127_L5 S (nI m)) k = r at ih
    unfold f_X3_someOfFirst_q127_L5
    rw [if_neg (nI_ge (by omega) (by omega)), h1, if_neg (nI_ge (by omega) (by omega)), gd_in (by omega) (by omega), lz_eq, nI_clamp (by omega), ha i (by omega), hI, lN_add, nI_1]
    exact ih _ (by rw [fb_sm_succ])
