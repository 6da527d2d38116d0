/-! the reference's ways and cuts: told -/
/-- the told of one side: base and side -/
def mTo (c : Bool) (n : Nat) (l : Nat → Nat) (a : Nat → Int32) : Prop := ∀ j, j < n → a (60 * b2n c + j) = nI (l j)
theorem b2n_le (c : Bool) : b2n c ≤ 1 := by cases c <;> decide
/-- one set more: what the reference does with its rows -/
theorem m_lists {S : wd_W} {L : Ld} {c : Bool} (hL : lOk L) (h : mL S L) (hla : mLaid S L) :
    Ok (f_X12_lists S (nI (b2n c))) (fun o => lai L o.2.2.1 o.2.2.2.2.2.2.1 ∧ o.2.2.2.2.2.2.2.2.2 (b2n c) = nI (lsF L c (2 ^ l_M L)).1 ∧ o.2.2.2.2.2.2.2.2.1 (b2n c) = nI (lsF L c (2 ^ l_M L)).2.1 ∧ mTo c (lsF L c (2 ^ l_M L)).2.1 (lsF L c (2 ^ l_M L)).2.2 o.2.2.2.2.2.2.2.1) := by
  have hM := lM_15 hL
  have pM := pow_le15 hM
  have h32 : S.1 32 = nI (l_M L) := h.1.2.2.2.2.1
  have hch := h.2.2.2
  have hsd := b2n_le c
  unfold f_X12_lists
  refine ok_bd (m_lays (S := wd_o S [(38, (S.1 38)), (39, (S.1 39)), (44, (S.1 44))] [] [(17, (S.2.2.1 17)), (18, (S.2.2.1 18)), (19, (S.2.2.1 19)), (20, (S.2.2.1 20)), (24, (S.2.2.1 24)), (25, (S.2.2.1 25)), (26, (S.2.2.1 26))] [] []) hL h hla) ?_
  rintro ⟨u1, u2, u3, u4, u5, u6, u7⟩ ⟨e1, e2⟩
  dsimp only at e1 e2
  have main : ∀ x2 : Int32, x2 = nI (b2n c) → Ok (lz ((60 : Int32) * x2) fun x4 => gd (okx x2 2) <| lz (upd (S.2.2.1 26) x2.toNatClampNeg (0 : Int32)) fun a6 => gd (okx x2 2) <| lz (upd (S.2.2.1 25) x2.toNatClampNeg (0 : Int32)) fun a8 => it4 (f_X12_lists_L36 S (nI (b2n c)) (u1, u2, u3, u4, u5, u6, u7) x2 x4) fuel (0 : Int32) (S.2.2.1 24) a8 a6)
      (fun o => lai L o.2.2.1 o.2.2.2.2.2.2.1 ∧ o.2.2.2.2.2.2.2.2.2 (b2n c) = nI (lsF L c (2 ^ l_M L)).1 ∧ o.2.2.2.2.2.2.2.2.1 (b2n c) = nI (lsF L c (2 ^ l_M L)).2.1 ∧ mTo c (lsF L c (2 ^ l_M L)).2.1 (lsF L c (2 ^ l_M L)).2.2 o.2.2.2.2.2.2.2.1) := by
    intro x2 ex2
    subst ex2
    rw [li_60, pk_mul, lz_eq, gd_in (by omega) (by omega), lz_eq, gd_in (by omega) (by omega), lz_eq, nI_clamp (by omega), li_0]
    refine ok_for0 (W := fun n i (x : (Nat → Int32) × (Nat → Int32) × (Nat → Int32)) => it4 (f_X12_lists_L36 S (nI (b2n c)) (u1, u2, u3, u4, u5, u6, u7) (nI (b2n c)) (nI (60 * b2n c))) n (nI i) x.1 x.2.1 x.2.2)
      (I := fun i x => x.2.2 (b2n c) = nI (lsF L c i).1 ∧ x.2.1 (b2n c) = nI (lsF L c i).2.1 ∧ mTo c (lsF L c i).2.1 (lsF L c i).2.2 x.1) (e := 2 ^ l_M L) (s := (S.2.2.1 24, upd (S.2.2.1 25) (b2n c) (nI 0), upd (S.2.2.1 26) (b2n c) (nI 0))) (by omega) ⟨pk_us, pk_us, fun j hj => by cases hj⟩ ?_ ?_
    · rintro n ⟨a10, a11, a12⟩ hI
      show Ok (f_X12_lists_L36 S _ _ _ _ _ (nI (2 ^ l_M L)) a10 a11 a12) _
      unfold f_X12_lists_L36
      rw [bd_s (m_sets (S := wd_o S [(38, u1), (39, u2), (44, u3)] [] [(17, u4), (18, u5), (19, u6), (20, u7), (24, a10), (25, a11), (26, a12)] [] []) h32 hM), if_pos (nI_le (Nat.le_refl _) (by omega))]
      exact ok_some ⟨⟨e1, e2⟩, hI⟩
    · rintro n i ⟨a10, a11, a12⟩ hi ⟨i1, i2, i3⟩ ih
      dsimp only at i1 i2 i3
      show Ok (f_X12_lists_L36 S _ _ _ _ (it4 (f_X12_lists_L36 S (nI (b2n c)) (u1, u2, u3, u4, u5, u6, u7) (nI (b2n c)) (nI (60 * b2n c))) n) (nI i) a10 a11 a12) _
      generalize it4 (f_X12_lists_L36 S (nI (b2n c)) (u1, u2, u3, u4, u5, u6, u7) (nI (b2n c)) (nI (60 * b2n c))) n = r at ih
      unfold f_X12_lists_L36
      obtain ⟨t1, t2, t3⟩ := lsF_told L c i
      have hset := lsF_set L c i
      have hstep : lsF L c (i + 1) = lsS L c i (lsF L c i) := rfl
      rw [bd_s (m_sets (S := wd_o S [(38, u1), (39, u2), (44, u3)] [] [(17, u4), (18, u5), (19, u6), (20, u7), (24, a10), (25, a11), (26, a12)] [] []) h32 hM), if_neg (nI_ge hi (by omega)), nI_1]
      refine ok_lk ?_
      have no : lea L c i = false → Ok (r (nI (i + 1)) a10 a11 a12) (fun o => lai L o.2.2.1 o.2.2.2.2.2.2.1 ∧ o.2.2.2.2.2.2.2.2.2 (b2n c) = nI (lsF L c (2 ^ l_M L)).1 ∧ o.2.2.2.2.2.2.2.2.1 (b2n c) = nI (lsF L c (2 ^ l_M L)).2.1 ∧ mTo c (lsF L c (2 ^ l_M L)).2.1 (lsF L c (2 ^ l_M L)).2.2 o.2.2.2.2.2.2.2.1) := by
        intro z
        have : lsF L c (i + 1) = lsF L c i := by rw [hstep]; unfold lsS; rw [z, if_neg (by decide)]
        exact ih (a10, a11, a12) ⟨by rw [this]; exact i1, by rw [this]; exact i2, by rw [this]; exact i3⟩
      refine ok_lk ?_
      -- a set is told
      have yes : lea L c i = true → Ok (gd (okx (nI (b2n c)) 2) <|
lz ((a12 (nI (b2n c)).toNatClampNeg) + (1 : Int32)) fun x21 =>
gd (okx (nI (b2n c)) 2) <|
lz (upd a12 (nI (b2n c)).toNatClampNeg x21) fun a23 =>
bd (f_X12_chanceOf (wd_o S [(38, u1), (39, u2), (44, u3)] [] [(17, u4), (18, u5), (19, u6), (20, u7), (24, a10), (25, a11), (26, a23)] [] []) (nI i) (nI (b2n c))) fun o24 =>
gd (okx (nI (b2n c)) 2) <|
lz (a11 (nI (b2n c)).toNatClampNeg) fun x26 =>
lk (fun x27 =>
if x27 = (60 : Int32) then (
r (nI (i + 1)) a10 a11 a23) else (
gd (okx (nI (b2n c)) 2) <|
lk (fun a30 =>
gd (okx (nI (b2n c)) 2) <|
lz ((a30 (nI (b2n c)).toNatClampNeg) - (1 : Int32)) fun x33 =>
lk (fun a34 =>
gd (okx (nI (60 * b2n c) + x27) 120) <|
lz (upd a34 (nI (60 * b2n c) + x27).toNatClampNeg (nI i)) fun a37 =>
r (nI (i + 1)) a37 a30 a23) fun k207_35 =>
it2 (f_X12_lists_L174 (nI (60 * b2n c)) x27 k207_35) fuel x33 a10) fun k164_31 =>
if (60 : Int32) ≤ (a11 (nI (b2n c)).toNatClampNeg) then (
k164_31 a11) else (
gd (okx (nI (b2n c)) 2) <|
lz ((a11 (nI (b2n c)).toNatClampNeg) + (1 : Int32)) fun x48 =>
gd (okx (nI (b2n c)) 2) <|
lz (upd a11 (nI (b2n c)).toNatClampNeg x48) fun a50 =>
k164_31 a50))) fun k133_28 =>
it1 (f_X12_lists_L100 S (nI (b2n c)) (u1, u2, u3, u4, u5, u6, u7) (nI (60 * b2n c)) a10 a11 a23 o24 k133_28) fuel x26) (fun o => lai L o.2.2.1 o.2.2.2.2.2.2.1 ∧ o.2.2.2.2.2.2.2.2.2 (b2n c) = nI (lsF L c (2 ^ l_M L)).1 ∧ o.2.2.2.2.2.2.2.2.1 (b2n c) = nI (lsF L c (2 ^ l_M L)).2.1 ∧ mTo c (lsF L c (2 ^ l_M L)).2.1 (lsF L c (2 ^ l_M L)).2.2 o.2.2.2.2.2.2.2.1) := by
        intro z
        have hs : lsF L c (i + 1) = ((lsF L c i).1 + 1, if posF (val L c) (lsF L c i).2.2 (val L c i) (lsF L c i).2.1 < 60 then (min ((lsF L c i).2.1 + 1) 60, insL (lsF L c i).2.2 (posF (val L c) (lsF L c i).2.2 (val L c i) (lsF L c i).2.1) i) else ((lsF L c i).2.1, (lsF L c i).2.2)) := by rw [hstep]; unfold lsS; rw [z, if_pos rfl]
        generalize lsF L c i = X at i1 i2 i3 t1 t2 t3 hset hs
        obtain ⟨tot, n0, l⟩ := X
        dsimp only at i1 i2 i3 t1 t2 t3 hset hs
        rw [gd_in (by omega) (by omega), lz_eq, gd_in (by omega) (by omega), lz_eq, nI_clamp (by omega), i1, nI_1]
        generalize ha23 : upd a12 (b2n c) (nI (tot + 1)) = a23
        have h23 : a23 (b2n c) = nI (tot + 1) := by rw [← ha23, pk_us]
        rw [bd_s (m_chanceOf (S := wd_o S [(38, u1), (39, u2), (44, u3)] [] [(17, u4), (18, u5), (19, u6), (20, u7), (24, a10), (25, a11), (26, a23)] [] []) hL h32 hch (by omega)), gd_in (by omega) (by omega), lz_eq, i2, li_60]
        -- the place
        have hpos : ∀ (K : Int32 → Option o_X12_lists) (k : Nat), k ≤ n0 → ∀ m, k < m → it1 (f_X12_lists_L100 S (nI (b2n c)) (u1, u2, u3, u4, u5, u6, u7) (nI (60 * b2n c)) a10 a11 a23 (lN (val L c i)) K) m (nI k) = K (nI (posF (val L c) l (val L c i) k)) := by
          intro K k
          induction k with
          | zero =>
            intro _ m hm
            obtain ⟨m, rfl⟩ : ∃ m', m = m' + 1 := ⟨m - 1, by omega⟩
            show f_X12_lists_L100 S _ _ _ a10 a11 a23 _ K _ (nI 0) = _
            unfold f_X12_lists_L100
            rw [if_pos (by decide)]; rfl
          | succ k ihk =>
            intro hk m hm
            obtain ⟨m, rfl⟩ : ∃ m', m = m' + 1 := ⟨m - 1, by omega⟩
            show f_X12_lists_L100 S _ _ _ a10 a11 a23 _ K (it1 (f_X12_lists_L100 S (nI (b2n c)) (u1, u2, u3, u4, u5, u6, u7) (nI (60 * b2n c)) a10 a11 a23 (lN (val L c i)) K) m) (nI (k + 1)) = _
            have ih2 := ihk (by omega) m (by omega)
            generalize it1 (f_X12_lists_L100 S (nI (b2n c)) (u1, u2, u3, u4, u5, u6, u7) (nI (60 * b2n c)) a10 a11 a23 (lN (val L c i)) K) m = r2 at ih2
            unfold f_X12_lists_L100
            have hv := val_le hL c i
            have hv2 := val_le hL c (l k)
            have hl := hset k (by omega)
            have ei : nI (60 * b2n c) + nI (k + 1) - (1 : Int32) = nI (60 * b2n c + k) := by
              rw [nI_add, show 60 * b2n c + (k + 1) = (60 * b2n c + k) + 1 by omega, nI_pred]
            rw [if_neg (nI_nle (by omega) (by omega)), ei, gd_in (by omega) (by omega), nI_clamp (by omega), i3 k (by omega), bd_s (m_chanceOf (S := wd_o S [(38, u1), (39, u2), (44, u3)] [] [(17, u4), (18, u5), (19, u6), (20, u7), (24, a10), (25, a11), (26, a23)] [] []) hL h32 hch (by omega)), pk_m1]
            unfold posF
            by_cases q : val L c (l k) < val L c i
            · rw [if_pos q, if_neg (by rw [lN_leL (by omega) (by omega)]; omega)]
              exact ih2
            · rw [if_neg q, if_pos (by rw [lN_leL (by omega) (by omega)]; omega)]
        have hp := posF_le (val L c) l (val L c i) n0
        refine ok_lk ?_
        rw [hpos _ n0 (Nat.le_refl _) fuel (by unfold fuel; omega)]
        generalize posF (val L c) l (val L c i) n0 = k at hp hs
        refine ok_ite (fun q => ?_) (fun q => ?_)
        · rw [nI_eq (by omega) (by omega)] at q
          rw [if_neg (by omega)] at hs
          exact ih (a10, a11, a23) ⟨by rw [hs]; exact h23, by rw [hs]; exact i2, by rw [hs]; exact i3⟩
        · rw [nI_eq (by omega) (by omega)] at q
          rw [if_pos (by omega)] at hs
          rw [gd_in (by omega) (by omega)]
          refine ok_lk ?_
          have hn' : min (n0 + 1) 60 ≤ 60 := by omega
          have hn2 : min (n0 + 1) 60 ≤ n0 + 1 := by omega
          have hk2 : k + 1 ≤ min (n0 + 1) 60 := by omega
          have fin : ∀ a30 : Nat → Int32, a30 (b2n c) = nI (min (n0 + 1) 60) → Ok (gd (okx (nI (b2n c)) 2) <| lz ((a30 (b2n c)) - (1 : Int32)) fun x33 => lk (fun a34 => gd (okx (nI (60 * b2n c) + nI k) 120) <| lz (upd a34 (nI (60 * b2n c) + nI k).toNatClampNeg (nI i)) fun a37 => r (nI (i + 1)) a37 a30 a23) fun k207_35 => it2 (f_X12_lists_L174 (nI (60 * b2n c)) (nI k) k207_35) fuel x33 a10) (fun o => lai L o.2.2.1 o.2.2.2.2.2.2.1 ∧ o.2.2.2.2.2.2.2.2.2 (b2n c) = nI (lsF L c (2 ^ l_M L)).1 ∧ o.2.2.2.2.2.2.2.2.1 (b2n c) = nI (lsF L c (2 ^ l_M L)).2.1 ∧ mTo c (lsF L c (2 ^ l_M L)).2.1 (lsF L c (2 ^ l_M L)).2.2 o.2.2.2.2.2.2.2.1) := by
            intro a30 h30
            generalize min (n0 + 1) 60 = n' at hn' hn2 hk2 hs h30
            rw [gd_in (by omega) (by omega), lz_eq, h30, show nI n' - (1 : Int32) = nI (n' - 1) from by rw [li_1, oI_sub1 (by omega)]]
            refine ok_lk ?_
            refine ok_while (W := fun m (x : Nat × (Nat → Int32)) => it2 (f_X12_lists_L174 (nI (60 * b2n c)) (nI k) _) m (nI x.1) x.2) (I := fun x => k ≤ x.1 ∧ x.1 < n' ∧ ∀ j, j < n' → x.2 (60 * b2n c + j) = if j ≤ x.1 then a10 (60 * b2n c + j) else a10 (60 * b2n c + (j - 1))) (μ := fun x => x.1) (s := (n' - 1, a10)) ⟨by dsimp only; omega, by dsimp only; omega, fun j hj => by dsimp only; rw [if_pos (by omega)]⟩ (by dsimp only; omega) ?_
            rintro m ⟨j0, a⟩ ⟨j1, j2, j3⟩ ih3
            dsimp only at j1 j2 j3 ih3
            show Ok (f_X12_lists_L174 (nI (60 * b2n c)) (nI k) _ (it2 (f_X12_lists_L174 (nI (60 * b2n c)) (nI k) _) m) (nI j0) a) _
            generalize it2 (f_X12_lists_L174 (nI (60 * b2n c)) (nI k) _) m = r3 at ih3
            unfold f_X12_lists_L174
            refine ok_ite (fun w => ?_) (fun w => ?_)
            · rw [nI_leI (by omega) (by omega)] at w
              have hjk : j0 = k := by omega
              subst hjk
              dsimp only
              rw [nI_add, gd_in (by omega) (by omega), lz_eq, nI_clamp (by omega)]
              refine ih (upd a (60 * b2n c + j0) (nI i), a30, a23) ⟨by rw [hs]; exact h23, by rw [hs]; exact h30, ?_⟩
              rw [hs]
              intro j hj
              dsimp only at hj ⊢
              unfold insL
              by_cases e1 : j < j0
              · rw [if_pos e1, pk_un (by omega), j3 j hj, if_pos (by omega)]
                exact i3 j (by omega)
              · by_cases e2 : j = j0
                · subst e2; rw [if_neg e1, if_pos rfl, pk_us]
                · rw [if_neg e1, if_neg e2, pk_un (by omega), j3 j hj, if_neg (by omega)]
                  exact i3 (j - 1) (by omega)
            · rw [nI_leI (by omega) (by omega)] at w
              have hj0 : 0 < j0 := by omega
              have ei : nI (60 * b2n c) + nI j0 - (1 : Int32) = nI (60 * b2n c + (j0 - 1)) := by
                rw [nI_add, show 60 * b2n c + j0 = (60 * b2n c + (j0 - 1)) + 1 by omega, nI_pred]
              have em : nI j0 + (-1 : Int32) = nI (j0 - 1) := by
                have := pk_m1 (j0 - 1)
                rw [show j0 - 1 + 1 = j0 by omega] at this
                exact this
              rw [ei, em, nI_add, gd_in (by omega) (by omega), lz_eq, gd_in (by omega) (by omega), lz_eq, nI_clamp (by omega), nI_clamp (by omega)]
              refine ih3 (j0 - 1, upd a (60 * b2n c + j0) (a (60 * b2n c + (j0 - 1)))) ⟨by dsimp only; omega, by dsimp only; omega, fun j hj => ?_⟩ (by dsimp only; omega)
              dsimp only
              by_cases e : j = j0
              · subst e; rw [pk_us, j3 _ (by omega), if_pos (by omega), if_neg (by omega)]
              · rw [pk_un (by omega), j3 j hj]
                by_cases q2 : j ≤ j0
                · rw [if_pos q2, if_pos (by omega)]
                · rw [if_neg q2, if_neg (by omega)]
          refine ok_ite (fun w => ?_) (fun w => ?_)
          · rw [nI_leI (by omega) (by omega)] at w
            exact fin a11 (by rw [i2, show min (n0 + 1) 60 = n0 by omega])
          · rw [nI_leI (by omega) (by omega)] at w
            rw [gd_in (by omega) (by omega), lz_eq, gd_in (by omega) (by omega), lz_eq, nI_1]
            exact fin (upd a11 (b2n c) (nI (n0 + 1))) (by rw [pk_us, show min (n0 + 1) 60 = n0 + 1 by omega])
      refine ok_b (fun hc => ?_) (fun hc => ?_)
      · subst hc
        rw [bd_s (m_isWay (S := wd_o S [(38, u1), (39, u2), (44, u3)] [] [(17, u4), (18, u5), (19, u6), (20, u7), (24, a10), (25, a11), (26, a12)] [] []) hL h32 e2 hi)]
        exact ok_b no yes
      · subst hc
        rw [bd_s (m_isCut (S := wd_o S [(38, u1), (39, u2), (44, u3)] [] [(17, u4), (18, u5), (19, u6), (20, u7), (24, a10), (25, a11), (26, a12)] [] []) hL h32 e2 hi)]
        exact ok_b no yes
  refine ok_lk (ok_b (fun hc => ?_) (fun hc => ?_))
  · exact main 0 (by rw [hc]; rfl)
  · exact main 1 (by rw [hc]; rfl)
