/-! a new line: the developers try all pairs -/
def kin {α : Type} (lo hi : Nat) (L : List (Nat × α)) : Bool := L.all (fun p => Nat.ble lo p.1 && Nat.blt p.1 hi)
theorem lk_out {α : Type} {lo hi i : Nat} (hi2 : i < lo ∨ hi ≤ i) : ∀ L : List (Nat × α), kin lo hi L = true → wd_lk L i = none
  | [], _ => rfl
  | e :: t, h => by
    unfold kin at h
    rw [List.all_cons, Bool.and_eq_true, Bool.and_eq_true] at h
    obtain ⟨⟨h1, h2⟩, h3⟩ := h
    have h1 := Nat.le_of_ble_eq_true h1
    have h2 : e.1 < hi := Nat.le_of_ble_eq_true h2
    have hne : Nat.beq i e.1 = false := by
      cases q : Nat.beq i e.1 with
      | false => rfl
      | true => have := Nat.eq_of_beq_eq_true q; omega
    rw [wd_lk, hne]
    exact lk_out hi2 t h3
theorem ov_out {α : Type} {lo hi i : Nat} {f : Nat → α} {L : List (Nat × α)} (h : kin lo hi L = true) (hi2 : i < lo ∨ hi ≤ i) : wd_ov f L i = f i := by
  unfold wd_ov
  rw [lk_out hi2 L h]
theorem xK_o {S : wd_W} {L1 : List (Nat × Int32)} {L2 : List (Nat × Int64)} {L3 : List (Nat × (Nat → Int32))} {L4 : List (Nat × (Nat → Int64))} {L5 : List (Nat × Nat)} (h1 : kin 14000 15900 L1 = true) (h3 : kin 140 159 L3 = true) (h4 : kin 140 159 L4 = true) (h5 : kin 140 159 L5 = true) : xK S (wd_o S L1 L2 L3 L4 L5) :=
  ⟨fun i hi => ov_out h1 hi, fun c hc => ⟨ov_out h3 hc, ov_out h4 hc, ov_out h5 hc⟩⟩
theorem xR_q153 {S : wd_W} {L : Ld} {v0 v1 v2 v3 : Int32} {r1 r2 r3 : Nat → Int32} (h0 : v0 = nI (l_n L)) (h1 : v1 = nI (2 ^ l_N L - 1)) (h2 : v2 = nI (neM L)) (h3 : v3 = nI (l_N L)) (hk : ∀ k, k < l_n L → r1 k = nI (tM L k) ∧ r2 k = nI (ouM L k) ∧ r3 k = nI (inM L k)) :
    xR (wd_o S [(15300, v0), (15301, v1), (15302, v2), (15303, v3)] [] [(154, r1), (155, r2), (156, r3)] [] []) 153 L := ⟨⟨h0, h1, h2, h3⟩, hk⟩
theorem x_chanceWith {S : wd_W} {L : Ld} {a b : Nat} (hL : lOk L) (hc3 : l_c L ≤ 3) (hl : xL S 16 L) (h : xS S L) (hN : xN S) (hn : l_n L < 12) (ha : a < l_N L) (hb : b < l_N L) (hab : a ≠ b) (hq : 2 ^ l_n L ≤ S.2.2.2.2 141) (hq2 : S.2.2.2.2 141 ≤ 4096) :
    Ok (f_X1_chanceWith_q140 S (nI a) (nI b)) (fun o => o.1 = lN (nwS L a b) ∧ xK S o.2 ∧ o.2.2.2.2.2 141 = S.2.2.2.2 141 ∧ o.2.1 14000 = S.1 14000 ∧ o.2.1 14001 = S.1 14001 ∧ o.2.2.1 14002 = S.2.1 14002) := by
  have hW := wiL_r hL hn ha hb hab
  have g2 := hL.1.2.1
  have g3 := hL.1.2.2.1
  have p3 : 2 ^ l_n L ≤ 4096 := pow_le_k (n := 12) g3
  have p0 := Nat.two_pow_pos (l_n L)
  have pM := pow_le15 (lM_15 hL)
  have l1 : S.1 1601 = nI (l_n L) := hl.1.2.1
  unfold f_X1_chanceWith_q140
  have e1 : f_X2_copyOf_q142_q16 (wd_o S [(14200, (S.1 14200)), (14201, (S.1 14201)), (14207, (S.1 14207)), (14210, (S.1 14210)), (14214, (S.1 14214)), (14215, (S.1 14215)), (14216, (S.1 14216)), (14217, (S.1 14217))] [] [(143, (S.2.2.1 143)), (144, (S.2.2.1 144)), (145, (S.2.2.1 145)), (146, (S.2.2.1 146)), (147, (S.2.2.1 147)), (148, (S.2.2.1 148)), (149, (S.2.2.1 149)), (150, (S.2.2.1 150)), (151, (S.2.2.1 151)), (152, (S.2.2.1 152))] [] []) = some (S.1 1600, S.1 1601, S.1 1607, S.1 1610, S.1 1614, S.1 1615, S.1 1616, S.1 1617, va_cpy (S.2.2.1 17) (S.2.2.1 143) 0 0 13, va_cpy (S.2.2.1 18) (S.2.2.1 144) 0 0 13, va_cpy (S.2.2.1 19) (S.2.2.1 145) 0 0 13, va_cpy (S.2.2.1 20) (S.2.2.1 146) 0 0 13, va_cpy (S.2.2.1 21) (S.2.2.1 147) 0 0 13, va_cpy (S.2.2.1 22) (S.2.2.1 148) 0 0 10, va_cpy (S.2.2.1 23) (S.2.2.1 149) 0 0 10, va_cpy (S.2.2.1 24) (S.2.2.1 150) 0 0 3, va_cpy (S.2.2.1 25) (S.2.2.1 151) 0 0 3, va_cpy (S.2.2.1 26) (S.2.2.1 152) 0 0 3) := rfl
  rw [bd_s e1]
  dsimp only
  rw [bd_s (x_addWide (S := wd_o S [(14200, S.1 1600), (14201, S.1 1601), (14207, S.1 1607), (14210, S.1 1610), (14214, S.1 1614), (14215, S.1 1615), (14216, S.1 1616), (14217, S.1 1617)] [] [(143, va_cpy (S.2.2.1 17) (S.2.2.1 143) 0 0 13), (144, va_cpy (S.2.2.1 18) (S.2.2.1 144) 0 0 13), (145, va_cpy (S.2.2.1 19) (S.2.2.1 145) 0 0 13), (146, va_cpy (S.2.2.1 20) (S.2.2.1 146) 0 0 13), (147, va_cpy (S.2.2.1 21) (S.2.2.1 147) 0 0 13), (148, va_cpy (S.2.2.1 22) (S.2.2.1 148) 0 0 10), (149, va_cpy (S.2.2.1 23) (S.2.2.1 149) 0 0 10), (150, va_cpy (S.2.2.1 24) (S.2.2.1 150) 0 0 3), (151, va_cpy (S.2.2.1 25) (S.2.2.1 151) 0 0 3), (152, va_cpy (S.2.2.1 26) (S.2.2.1 152) 0 0 3)] [] []) (n := l_n L) l1 (by omega))]
  refine ok_lz ?_
  have hx := x_wide (S := S) (a := a) (b := b) hL hc3 hl hn rfl rfl rfl rfl rfl
  have hk4 := xK_o (S := S) (L1 := [(14200, S.1 1600), (14201, nI (l_n L + 1)), (14207, S.1 1607), (14210, S.1 1610), (14214, S.1 1614), (14215, S.1 1615), (14216, S.1 1616), (14217, S.1 1617)]) (L2 := []) (L3 := [(143, upd (va_cpy (S.2.2.1 17) (S.2.2.1 143) 0 0 13) (l_n L) (nI a)), (144, upd (va_cpy (S.2.2.1 18) (S.2.2.1 144) 0 0 13) (l_n L) (nI b)), (145, upd (va_cpy (S.2.2.1 19) (S.2.2.1 145) 0 0 13) (l_n L) (nI 16)), (146, upd (va_cpy (S.2.2.1 20) (S.2.2.1 146) 0 0 13) (l_n L) (nI 0)), (147, upd (va_cpy (S.2.2.1 21) (S.2.2.1 147) 0 0 13) (l_n L) (nI 1)), (148, va_cpy (S.2.2.1 22) (S.2.2.1 148) 0 0 10), (149, va_cpy (S.2.2.1 23) (S.2.2.1 149) 0 0 10), (150, va_cpy (S.2.2.1 24) (S.2.2.1 150) 0 0 3), (151, va_cpy (S.2.2.1 25) (S.2.2.1 151) 0 0 3), (152, va_cpy (S.2.2.1 26) (S.2.2.1 152) 0 0 3)]) (L4 := []) (L5 := []) rfl rfl rfl rfl
  have hfix : ∀ S4 : wd_W, xL S4 142 (wiL L a b) → xK S S4 → S4.2.2.2.2 141 = S.2.2.2.2 141 → S4.1 14000 = S.1 14000 → S4.1 14001 = S.1 14001 → S4.2.1 14002 = S.2.1 14002 →
      Ok (bd (f_X7_follow_q153 (wd_o S4 [(15300, (S4.1 15300)), (15301, (S4.1 15301)), (15302, (S4.1 15302)), (15303, (S4.1 15303))] [] [(154, (S4.2.2.1 154)), (155, (S4.2.2.1 155)), (156, (S4.2.2.1 156))] [] [])) fun o3 =>
        lk (fun S5 => it2 (f_X1_chanceWith_q140_L88 (nI a) (nI b) S5) fuel (0 : Int64) (0 : Int32)) fun k83_6 =>
        it2 (f_X1_chanceWith_q140_L33 k83_6) fuel (0 : Int32) (wd_o S4 [(15300, o3.1), (15301, o3.2.1), (15302, o3.2.2.1), (15303, o3.2.2.2.1)] [] [(154, o3.2.2.2.2.1), (155, o3.2.2.2.2.2.1), (156, o3.2.2.2.2.2.2)] [] []))
      (fun o => o.1 = lN (nwS L a b) ∧ xK S o.2 ∧ o.2.2.2.2.2 141 = S.2.2.2.2 141 ∧ o.2.1 14000 = S.1 14000 ∧ o.2.1 14001 = S.1 14001 ∧ o.2.2.1 14002 = S.2.1 14002) := by
    intro S4 h4 k4 q4 b0 b1 b2
    rw [bd_s (x_follow_q153 (S := wd_o S4 [(15300, (S4.1 15300)), (15301, (S4.1 15301)), (15302, (S4.1 15302)), (15303, (S4.1 15303))] [] [(154, (S4.2.2.1 154)), (155, (S4.2.2.1 155)), (156, (S4.2.2.1 156))] [] []) hW h4)]
    refine ok_lk ?_
    rw [li_0, lN_0]
    have wn : l_n (wiL L a b) = l_n L + 1 := rfl
    refine ok_for0 (W := fun m i (S' : wd_W) => it2 (f_X1_chanceWith_q140_L33 _) m (nI i) S') (I := fun i S' => xL S' 142 (wiL L a b) ∧ xR S' 153 (wiL L a b) ∧ xK S S' ∧ (S'.2.2.2.2 141 = S.2.2.2.2 141 ∧ S'.1 14000 = S.1 14000 ∧ S'.1 14001 = S.1 14001 ∧ S'.2.1 14002 = S.2.1 14002) ∧ ∀ j, j < i → S'.2.2.1 141 j = nI (b2n (carB (laN L a b) (j ||| 2 ^ l_n L)))) (e := 2 ^ l_n L) (by omega) ?_ ?_ ?_
    · refine ⟨h4, ?_, xK_trans k4 (xK_o rfl rfl rfl rfl), ⟨q4, b0, b1, b2⟩, fun j hj => absurd hj (Nat.not_lt_zero j)⟩
      exact xR_q153 rfl rfl rfl rfl (fun k hk => ⟨fil_in (f := fun k => nI (tM (wiL L a b) k)) hk, fil_in (f := fun k => nI (ouM (wiL L a b) k)) hk, fil_in (f := fun k => nI (inM (wiL L a b) k)) hk⟩)
    · rintro m S' ⟨i1, i2, i3, ⟨i4, i5, i6, i7⟩, i8⟩
      have hS' := xK_S i3 h
      have hN' := xK_N i3 hN
      show Ok (f_X1_chanceWith_q140_L33 _ _ (nI (2 ^ l_n L)) S') _
      unfold f_X1_chanceWith_q140_L33
      rw [hS'.2.2.1, if_pos (nI_lt (by omega) (by omega))]
      refine ok_for0 (W := fun m s (v : Int64) => it2 (f_X1_chanceWith_q140_L88 (nI a) (nI b) S') m v (nI s)) (I := fun s v => v = lN (fb_sm (fun s => if nwB L a b s = true then wt L s else 0) s)) (e := 2 ^ l_M L) (by omega) rfl ?_ ?_
      · intro m v hI
        show Ok (f_X1_chanceWith_q140_L88 (nI a) (nI b) S' _ v (nI (2 ^ l_M L))) _
        unfold f_X1_chanceWith_q140_L88
        rw [hS'.2.1, if_pos (nI_le (Nat.le_refl _) (by omega))]
        exact ok_some ⟨hI, i3, i4, i5, i6, i7⟩
      · intro m s v hs hI ih
        show Ok (f_X1_chanceWith_q140_L88 (nI a) (nI b) S' (it2 _ m) v (nI s)) _
        generalize it2 (f_X1_chanceWith_q140_L88 (nI a) (nI b) S') m = r at ih
        have l7 := hS'.2.2.2.2.2.2.2.1
        obtain ⟨e, f, he, hf, n7, n9, n8, n10⟩ := hN'
        have pe := pow_le15 he
        have i2' : S'.1 15302 = nI (neM L) := i2.1.2.2.1
        unfold f_X1_chanceWith_q140_L88
        rw [hS'.2.1, if_neg (nI_ge hs (by omega)), oI_pow (by omega), oI_pow (by omega), oI_or, bd_s (x_isThroughWith (S := wd_o S' [] [] [] [] []) (a := a) (b := b) hL hS' ⟨e, f, he, hf, n7, n9, n8, n10⟩ hs i2' (by show 2 ^ l_n L ≤ S'.2.2.2.2 141; omega) (by show S'.2.2.2.2 141 ≤ 4096; omega) i8), nI_1]
        refine ok_lk (ok_b (fun z => ih _ ?_) (fun z => ?_))
        · rw [fb_sm_succ, z, hI]; rfl
        · rw [gd_in (by omega) (by omega), lz_eq, nI_clamp (by omega), (hS'.2.2.2.2.2.1 s hs).1, hI, lN_add]
          refine ih _ ?_
          rw [fb_sm_succ, z]; rfl
    · rintro m i S' hi ⟨i1, i2, i3, ⟨i4, i5, i6, i7⟩, i8⟩ ih
      have hS' := xK_S i3 h
      show Ok (f_X1_chanceWith_q140_L33 _ (it2 _ m) (nI i) S') _
      generalize it2 (f_X1_chanceWith_q140_L33 _) m = r at ih
      have hl' : S'.1 1601 = nI (l_n L) := (xK_L i3 (by omega) hl).1.2.1
      have hop : i ||| 2 ^ l_n L < 2 ^ (l_n L + 1) := or_pow_lt (Nat.lt_of_lt_of_le hi (pow_le_k (by omega))) (by omega)
      unfold f_X1_chanceWith_q140_L33
      rw [hS'.2.2.1, if_neg (nI_nlt (by omega) (by omega)), hl', oI_pow (by omega), oI_or]
      refine ok_bd (x_carries_q153 (S := wd_o S' [] [] [(157, (S'.2.2.1 157))] [] []) (L := wiL L a b) hW i1 i2 hop) ?_
      rintro ⟨o1, o2⟩ ⟨x, ex, hxx⟩
      dsimp only at ex ⊢
      subst ex
      have hxc : x = carB (laN L a b) (i ||| 2 ^ l_n L) := b_of_iff hxx (carB_iff (laN L a b) (i ||| 2 ^ l_n L))
      have fin : ∀ y : Bool, y = x → Ok (lz (wd_o S' [] [] [(157, o2)] [] []) fun S25 => lz ((nI (b2n y)).toInt8.toInt32) fun x26 => gd (okx (nI i) (S25.2.2.2.2 141)) <| lz (upd (S25.2.2.1 141) (nI i).toNatClampNeg (vp_nar .byte x26)) fun a28 => r (nI i + (1 : Int32)) (wd_o S25 [] [] [(141, a28)] [] []))
          (fun o => o.1 = lN (nwS L a b) ∧ xK S o.2 ∧ o.2.2.2.2.2 141 = S.2.2.2.2 141 ∧ o.2.1 14000 = S.1 14000 ∧ o.2.1 14001 = S.1 14001 ∧ o.2.2.1 14002 = S.2.1 14002) := by
        intro y hy
        have e1 : vp_nar .byte (nI (b2n y)).toInt8.toInt32 = nI (b2n y) := by cases y <;> rfl
        refine ok_lz (ok_lz ?_)
        have hlen : (wd_o S' [] [] [(157, o2)] [] []).2.2.2.2 141 = S.2.2.2.2 141 := i4
        rw [hlen, gd_in (by omega) (by omega), nI_clamp (by omega), nI_1, e1]
        refine ok_lz (ih _ ⟨i1, i2, xK_trans i3 (xK_trans (xK_o rfl rfl rfl rfl) (xK_o rfl rfl rfl rfl)), ⟨i4, i5, i6, i7⟩, fun j hj => ?_⟩)
        show upd (S'.2.2.1 141) i (nI (b2n y)) j = _
        by_cases e : j = i
        · subst e; rw [pk_us, hy, hxc]
        · rw [pk_un e]; exact i8 j (by omega)
      refine ok_lk (ok_b (fun z => ?_) (fun z => ?_))
      · exact fin false z.symm
      · exact fin true z.symm
  exact hfix _ hx hk4 rfl rfl rfl rfl
/-- what is known of a new line -/
def xNw (S : wd_W) (L : Ld) : Prop := S.2.1 14002 = lN ((brF (nwS L) (l_N L) (l_N L)).1 - 1) ∧ S.1 14000 = nI (brF (nwS L) (l_N L) (l_N L)).2.1 ∧ S.1 14001 = nI (brF (nwS L) (l_N L) (l_N L)).2.2
def xN6 (S : wd_W) : Prop := ∃ e, e ≤ 12 ∧ S.2.2.2.2 141 = 2 ^ e
theorem x_tryAll {S : wd_W} {L : Ld} (hL : lOk L) (hc3 : l_c L ≤ 3) (hl : xL S 16 L) (h : xS S L) (hN : xN S) (hN6 : xN6 S) (hn : l_n L < 12) :
    Ok (f_X1_tryAll_q140 S) (fun o => xK S o.1 ∧ xNw o.1 L ∧ xN6 o.1 ∧ o.2.1 ≤ 1 ∧ o.2.2 ≤ 4096 ∧ o.2.2 + 2 * S.2.2.2.2 141 ≤ 2 * o.1.2.2.2.2 141) := by
  have g1 := hL.1.1
  have g2 := hL.1.2.1
  have g3 := hL.1.2.2.1
  have p3 : 2 ^ l_n L ≤ 4096 := pow_le_k (n := 12) g3
  have p0 := Nat.two_pow_pos (l_n L)
  have hM := lM_15 hL
  have pw := pow16_le hM
  obtain ⟨e6, he6, n141⟩ := hN6
  have p6 : 2 ^ e6 ≤ 4096 := pow_le_k (n := 12) he6
  have hVb := fun a b => nwS_le hL a b
  unfold f_X1_tryAll_q140
  refine ok_lk ?_
  have main : ∀ (S1 : wd_W) (n2 n3 e : Nat), xK S S1 → e ≤ 12 → S1.2.2.2.2 141 = 2 ^ e → 2 ^ l_n L ≤ 2 ^ e → n2 ≤ 1 → n3 ≤ 4096 → n3 + 2 * S.2.2.2.2 141 ≤ 2 * 2 ^ e →
      Ok (it2 (f_X1_tryAll_q140_L39 n2 n3) fuel (0 : Int32) (wd_o S1 [] [(14002, (-1 : Int64))] [] [] [])) (fun o => xK S o.1 ∧ xNw o.1 L ∧ xN6 o.1 ∧ o.2.1 ≤ 1 ∧ o.2.2 ≤ 4096 ∧ o.2.2 + 2 * S.2.2.2.2 141 ≤ 2 * o.1.2.2.2.2 141) := by
    intro S1 n2 n3 e hk1 he hlen hne q2 q3 q5
    have pe : 2 ^ e ≤ 4096 := pow_le_k (n := 12) he
    rw [li_0]
    refine ok_for0 (W := fun m a (S' : wd_W) => it2 (f_X1_tryAll_q140_L39 n2 n3) m (nI a) S') (I := fun a S' => xK S S' ∧ S'.2.2.2.2 141 = 2 ^ e ∧ S'.2.1 14002 = enc (brF (nwS L) (l_N L) a).1 ∧ ((brF (nwS L) (l_N L) a).1 ≠ 0 → S'.1 14000 = nI (brF (nwS L) (l_N L) a).2.1 ∧ S'.1 14001 = nI (brF (nwS L) (l_N L) a).2.2)) (e := l_N L) (by omega) ⟨xK_trans hk1 (xK_o rfl rfl rfl rfl), hlen, rfl, fun z => absurd rfl z⟩ ?_ ?_
    · rintro m S' ⟨i1, i2, i3, i4⟩
      show Ok (f_X1_tryAll_q140_L39 n2 n3 _ (nI (l_N L)) S') _
      have h0 : S'.1 1600 = nI (l_N L) := (xK_L i1 (by omega) hl).1.1
      unfold f_X1_tryAll_q140_L39
      rw [h0, if_pos (nI_le (Nat.le_refl _) (by omega))]
      have hpos := brF_pos (V := nwS L) (N := l_N L) g1 (l_N L) (by omega)
      obtain ⟨z1, z2⟩ := i4 hpos
      refine ok_some ⟨i1, ⟨?_, z1, z2⟩, ⟨e, he, i2⟩, q2, q3, by dsimp only; rw [i2]; exact q5⟩
      show S'.2.1 14002 = _
      rw [i3]
      unfold enc
      rw [if_neg hpos]
    · rintro m a S' ha ⟨i1, i2, i3, i4⟩ ih
      show Ok (f_X1_tryAll_q140_L39 n2 n3 (it2 _ m) (nI a) S') _
      generalize it2 (f_X1_tryAll_q140_L39 n2 n3) m = r at ih
      have h0 : S'.1 1600 = nI (l_N L) := (xK_L i1 (by omega) hl).1.1
      unfold f_X1_tryAll_q140_L39
      rw [h0, if_neg (nI_ge ha (by omega)), nI_1, lz_eq]
      refine ok_lk ?_
      show Ok (it2 (f_X1_tryAll_q140_L54 n2 n3 (nI a) _) fuel (nI (a + 1 + 0)) S') _
      refine ok_for0 (W := fun m d (S' : wd_W) => it2 (f_X1_tryAll_q140_L54 n2 n3 (nI a) _) m (nI (a + 1 + d)) S') (I := fun d S' => xK S S' ∧ S'.2.2.2.2 141 = 2 ^ e ∧ S'.2.1 14002 = enc (brI (nwS L) a (brF (nwS L) (l_N L) a) d).1 ∧ ((brI (nwS L) a (brF (nwS L) (l_N L) a) d).1 ≠ 0 → S'.1 14000 = nI (brI (nwS L) a (brF (nwS L) (l_N L) a) d).2.1 ∧ S'.1 14001 = nI (brI (nwS L) a (brF (nwS L) (l_N L) a) d).2.2)) (e := l_N L - (a + 1)) (by omega) ⟨i1, i2, i3, i4⟩ ?_ ?_
      · rintro m S' ⟨j1, j2, j3, j4⟩
        show Ok (f_X1_tryAll_q140_L54 n2 n3 (nI a) _ _ (nI (a + 1 + (l_N L - (a + 1)))) S') _
        have h0 : S'.1 1600 = nI (l_N L) := (xK_L j1 (by omega) hl).1.1
        unfold f_X1_tryAll_q140_L54
        rw [h0, if_pos (nI_le (by omega) (by omega))]
        exact ih S' ⟨j1, j2, j3, j4⟩
      · rintro m d S' hd ⟨j1, j2, j3, j4⟩ ih2
        show Ok (f_X1_tryAll_q140_L54 n2 n3 (nI a) _ (it2 _ m) (nI (a + 1 + d)) S') _
        generalize it2 (f_X1_tryAll_q140_L54 n2 n3 (nI a) _) m = r2 at ih2
        have hl' := xK_L j1 (show 16 ≤ 100 by omega) hl
        have h0 : S'.1 1600 = nI (l_N L) := hl'.1.1
        have hble := brI_le hVb (brF_le hVb (l_N L) a) (a := a) d
        have hv1 := hVb a (a + 1 + d)
        have hstep : brI (nwS L) a (brF (nwS L) (l_N L) a) (d + 1) = brS (nwS L) a (a + 1 + d) (brI (nwS L) a (brF (nwS L) (l_N L) a) d) := rfl
        unfold f_X1_tryAll_q140_L54
        rw [h0, if_neg (nI_ge (show a + 1 + d < l_N L by omega) (by omega)), gd_t (okr_in (by omega) (by omega)), nI_1]
        refine ok_bd (x_chanceWith (S := wd_o S' [] [] [] [] []) (a := a) (b := a + 1 + d) hL hc3 hl' (xK_S j1 h) (xK_N j1 hN) hn (by omega) (by omega) (by omega) (by show 2 ^ l_n L ≤ S'.2.2.2.2 141; omega) (by show S'.2.2.2.2 141 ≤ 4096; omega)) ?_
        rintro ⟨v, S2⟩ ⟨w1, w2, w3, w4, w5, w6⟩
        dsimp only at w1 w2 w3 w4 w5 w6 ⊢
        subst w1
        have w2 : xK S' S2 := w2
        have w3 : S2.2.2.2.2 141 = 2 ^ e := w3.trans j2
        have w6 : S2.2.1 14002 = enc (brI (nwS L) a (brF (nwS L) (l_N L) a) d).1 := w6.trans j3
        have hlt : enc (brI (nwS L) a (brF (nwS L) (l_N L) a) d).1 < lN (nwS L a (a + 1 + d)) ↔ (brI (nwS L) a (brF (nwS L) (l_N L) a) d).1 ≤ nwS L a (a + 1 + d) := enc_lt (by omega) (by omega)
        refine ok_lk ?_
        rw [w6]
        refine ok_ite (fun z => ?_) (fun z => ?_)
        · have z : ¬ (brI (nwS L) a (brF (nwS L) (l_N L) a) d).1 ≤ nwS L a (a + 1 + d) := fun q => (Int64.not_lt.mpr z) (hlt.mpr q)
          have e2 : brI (nwS L) a (brF (nwS L) (l_N L) a) (d + 1) = brI (nwS L) a (brF (nwS L) (l_N L) a) d := by rw [hstep]; unfold brS; rw [if_neg z]
          refine ih2 S2 ⟨xK_trans j1 w2, w3, by rw [e2]; exact w6, fun q => ?_⟩
          rw [e2] at q ⊢
          obtain ⟨z1, z2⟩ := j4 q
          exact ⟨w4.trans z1, w5.trans z2⟩
        · have z : (brI (nwS L) a (brF (nwS L) (l_N L) a) d).1 ≤ nwS L a (a + 1 + d) := hlt.mp (Int64.not_le.mp z)
          have e2 : brI (nwS L) a (brF (nwS L) (l_N L) a) (d + 1) = (nwS L a (a + 1 + d) + 1, a, a + 1 + d) := by rw [hstep]; unfold brS; rw [if_pos z]
          refine ok_lz (ok_lz (ih2 _ ⟨xK_trans (xK_trans j1 w2) (xK_trans (xK_o rfl rfl rfl rfl) (xK_trans (xK_o rfl rfl rfl rfl) (xK_o rfl rfl rfl rfl))), w3, ?_, fun _ => ?_⟩))
          · rw [e2]
            show lN (nwS L a (a + 1 + d)) = enc (nwS L a (a + 1 + d) + 1)
            unfold enc
            rw [if_neg (Nat.succ_ne_zero _), Nat.add_sub_cancel]
          · rw [e2]
            exact ⟨rfl, rfl⟩
  have hx : Int32.ofNat (S.2.2.2.2 141) = nI (S.2.2.2.2 141) := rfl
  rw [h.2.2.1, hx]
  refine ok_ite (fun c => ?_) (fun c => ?_)
  · rw [nI_ltI (by omega) (by omega)] at c
    exact main S 0 0 e6 (xK_refl S) he6 n141 (by omega) (by omega) (by omega) (by omega)
  · rw [nI_ltI (by omega) (by omega)] at c
    have x5 : nI (2 ^ l_n L - 1) + (1 : Int32) = nI (2 ^ l_n L) := by rw [nI_1, show 2 ^ l_n L - 1 + 1 = 2 ^ l_n L by omega]
    rw [lz_eq, x5, gd_t (okg_in (by omega) (by omega) (by omega)), nI_clamp (by omega)]
    have hlt : e6 < l_n L := by
      apply Classical.byContradiction
      intro hh
      have := pow_le_k (show l_n L ≤ e6 by omega)
      omega
    have := pow_le_k (show e6 + 1 ≤ l_n L by omega)
    have := pow_dbl e6
    exact main (wd_o S [] [] [(141, (fun _ => 0))] [] [(141, 2 ^ l_n L)]) (0 + 1) (0 + 2 ^ l_n L) (l_n L) (xK_o rfl rfl rfl rfl) g3 rfl (Nat.le_refl _) (by omega) (by omega) (by omega)
/-- and so both answer alike -/
theorem add_same {L : Ld} (hL : lOk L) {c : Nat} (hc : c ≤ 16) :
    (brF (nwV L c) (l_N L) (l_N L)).1 - 1 = c * ((brF (nwS L) (l_N L) (l_N L)).1 - 1) + (16 - c) * totS L ∧ (c ≠ 0 → (brF (nwV L c) (l_N L) (l_N L)).2 = (brF (nwS L) (l_N L) (l_N L)).2) ∧ (c = 0 → (brF (nwV L c) (l_N L) (l_N L)).2 = (0, 1)) := by
  have g1 := hL.1.1
  have hpos := brF_pos (V := nwS L) (N := l_N L) g1 (l_N L) (by omega)
  by_cases c0 : c = 0
  · subst c0
    have e : nwV L 0 = fun _ _ => 16 * totS L := by
      funext a b
      unfold nwV
      rw [Nat.zero_mul, Nat.zero_add]
    rw [e, brF_C g1 (l_N L) (by omega)]
    refine ⟨?_, fun z => absurd rfl z, fun _ => rfl⟩
    show 16 * totS L + 1 - 1 = 0 * _ + (16 - 0) * totS L
    rw [Nat.zero_mul, Nat.zero_add, Nat.add_sub_cancel]
  · have e : nwV L c = fun a b => (fun v => c * v + (16 - c) * totS L) (nwS L a b) := rfl
    have hf : ∀ u v : Nat, u < v → (fun v => c * v + (16 - c) * totS L) u < (fun v => c * v + (16 - c) * totS L) v := by
      intro u v huv
      have : c * u < c * v := Nat.mul_lt_mul_of_pos_left huv (by omega)
      dsimp only
      omega
    have := brF_R (V := nwS L) hf (l_N L) (l_N L)
    rw [← e] at this
    rcases this with ⟨z1, _⟩ | ⟨v, z1, z2, z3⟩
    · exact absurd z1 hpos
    · refine ⟨?_, fun _ => z3, fun q => absurd q c0⟩
      rw [z1, z2, Nat.add_sub_cancel, Nat.add_sub_cancel]
