/-! a new line: the reference tries all pairs -/
theorem pow16_10 {n : Nat} (h : n ≤ 10) : 16 ^ n ≤ 1099511627776 := Nat.pow_le_pow_right (n := 16) (by decide) h
theorem m_tries {S : wd_W} {L : Ld} {a b c : Nat} {x : Nat × Nat × Nat} (hL : lOk L) (h : mL S L) (hM10 : l_M L ≤ 10) (hn : l_n L < 12) (ht : ∀ s, s < 2 ^ l_M L → S.2.2.1 20 s = nI (b2n (thB L s))) (hw : ∀ s, s < 2 ^ l_M L → S.2.2.2.1 21 s = lN (wt L s)) (ha : a < l_N L) (hb : b < l_N L) (hab : a ≠ b) (hc : c ≤ 16)
    (hx : mBe (S.2.2.2.1 30) x) (hxb : x.1 ≤ 16 * 16 ^ l_M L + 1) :
    Ok (f_X12_tries S (nI a) (nI b) (nI c)) (fun o => (∀ k, k < l_n L → o.2.2.1 k = S.2.2.1 8 k ∧ o.2.2.2.1 k = S.2.2.1 9 k ∧ o.2.2.2.2.1 k = S.2.2.1 11 k ∧ o.2.2.2.2.2.1 k = S.2.2.1 12 k) ∧ mBe o.2.2.2.2.2.2.2.2.2 (brS (nwV L c) a b x)) := by
  have hM := lM_15 hL
  have pM := pow_le15 hM
  have pw := pow16_10 hM10
  have g2 := hL.1.2.1
  have h32 : S.1 32 = nI (l_M L) := h.1.2.2.2.2.1
  have h21 : S.1 21 = nI (l_n L) := h.1.2.1
  have hN1 := nwS_le hL a b
  have hT1 := totS_le hL
  have hVb : nwV L c a b ≤ 16 * 16 ^ l_M L := by
    unfold nwV
    have e1 : c * nwS L a b ≤ c * 16 ^ l_M L := Nat.mul_le_mul_left _ hN1
    have e2 : (16 - c) * totS L ≤ (16 - c) * 16 ^ l_M L := Nat.mul_le_mul_left _ hT1
    have e3 : c * 16 ^ l_M L + (16 - c) * 16 ^ l_M L = 16 * 16 ^ l_M L := by rw [← Nat.add_mul]; congr 1; omega
    omega
  unfold f_X12_tries
  rw [h21, gd_in (by omega) (by omega), lz_eq, gd_in (by omega) (by omega), lz_eq, gd_in (by omega) (by omega), lz_eq, gd_in (by omega) (by omega), lz_eq, nI_clamp (by omega)]
  have hnar : vp_nar .boolean (1 : Int32) = nI 1 := rfl
  rw [hnar, li_1]
  have hrows : ∀ k, k < l_n L → upd (S.2.2.1 8) (l_n L) (nI a) k = S.2.2.1 8 k ∧ upd (S.2.2.1 9) (l_n L) (nI b) k = S.2.2.1 9 k ∧ upd (S.2.2.1 11) (l_n L) (nI 1) k = S.2.2.1 11 k ∧ upd (S.2.2.1 12) (l_n L) (nI 1) k = S.2.2.1 12 k := fun k hk => ⟨pk_un (by omega), pk_un (by omega), pk_un (by omega), pk_un (by omega)⟩
  have hm : ∀ (x28 x29 : Int32) (a30 a31 a32 : Nat → Int32), mL (wd_o S [(38, x28), (39, x29)] [] [(8, upd (S.2.2.1 8) (l_n L) (nI a)), (9, upd (S.2.2.1 9) (l_n L) (nI b)), (11, upd (S.2.2.1 11) (l_n L) (nI 1)), (12, upd (S.2.2.1 12) (l_n L) (nI 1)), (17, a30), (18, a31), (19, a32)] [(30, (S.2.2.2.1 30))] []) (laN L a b) := by
    intro x28 x29 a30 a31 a32
    apply laN_mL
    obtain ⟨h0, hk, hp, htt⟩ := h
    refine ⟨h0, fun k hk' => ?_, hp, htt⟩
    obtain ⟨r1, r2, r3, r4⟩ := hrows k hk'
    obtain ⟨b1, b2, b3, b4, b5, b6⟩ := hk k hk'
    exact ⟨r1.trans b1, r2.trans b2, b3, r3.trans b4, r4.trans b5, b6⟩
  have hnew : ∀ (x28 x29 : Int32) (a30 a31 a32 : Nat → Int32), mNew (wd_o S [(38, x28), (39, x29)] [] [(8, upd (S.2.2.1 8) (l_n L) (nI a)), (9, upd (S.2.2.1 9) (l_n L) (nI b)), (11, upd (S.2.2.1 11) (l_n L) (nI 1)), (12, upd (S.2.2.1 12) (l_n L) (nI 1)), (17, a30), (18, a31), (19, a32)] [(30, (S.2.2.2.1 30))] []) (laN L a b) true := by
    intro x28 x29 a30 a31 a32 _
    obtain ⟨n1, n2, n3, n4⟩ := laN_new L a b
    have n1 : l_A (laN L a b) (l_n (laN L a b)) = a := n1
    have n2 : l_B (laN L a b) (l_n (laN L a b)) = b := n2
    have n3 : l_O (laN L a b) (l_n (laN L a b)) = 1 := n3
    have n4 : l_D (laN L a b) (l_n (laN L a b)) = 1 := n4
    rw [n1, n2, n3, n4]
    exact ⟨hn, pk_us, pk_us, pk_us, pk_us, ha, hb, hab, by omega, by omega, by omega⟩
  refine ok_lk ?_
  have fin : ∀ (v : Int64) (x28 x29 : Int32) (a30 a31 a32 : Nat → Int32), v = lN (nwV L c a b) → Ok (gd (okx (0 : Int32) 3) <| if ((S.2.2.2.1 30) (0 : Int32).toNatClampNeg) < v then (gd (okx (0 : Int32) 3) <| lz (vp_updL (S.2.2.2.1 30) (0 : Int32).toNatClampNeg v) fun a18 => lz ((nI a).toInt64) fun x19 => gd (okx (1 : Int32) 3) <| lz (vp_updL a18 (1 : Int32).toNatClampNeg x19) fun a21 => lz ((nI b).toInt64) fun x22 => gd (okx (2 : Int32) 3) <| lz (vp_updL a21 (2 : Int32).toNatClampNeg x22) fun a24 => (some (x28, x29, upd (S.2.2.1 8) (l_n L) (nI a), upd (S.2.2.1 9) (l_n L) (nI b), upd (S.2.2.1 11) (l_n L) (nI 1), upd (S.2.2.1 12) (l_n L) (nI 1), a30, a31, a32, a24) : Option o_X12_tries)) else (some (x28, x29, upd (S.2.2.1 8) (l_n L) (nI a), upd (S.2.2.1 9) (l_n L) (nI b), upd (S.2.2.1 11) (l_n L) (nI 1), upd (S.2.2.1 12) (l_n L) (nI 1), a30, a31, a32, (S.2.2.2.1 30))))
      (fun o => (∀ k, k < l_n L → o.2.2.1 k = S.2.2.1 8 k ∧ o.2.2.2.1 k = S.2.2.1 9 k ∧ o.2.2.2.2.1 k = S.2.2.1 11 k ∧ o.2.2.2.2.2.1 k = S.2.2.1 12 k) ∧ mBe o.2.2.2.2.2.2.2.2.2 (brS (nwV L c) a b x)) := by
    intro v x28 x29 a30 a31 a32 hv
    subst hv
    obtain ⟨b0, b1⟩ := hx
    rw [li_0, li_1, li_2, gd_in (by omega) (by omega), nI_clamp (by omega), b0]
    have hlt : enc x.1 < lN (nwV L c a b) ↔ x.1 ≤ nwV L c a b := enc_lt (by omega) (by omega)
    refine ok_ite (fun z => ?_) (fun z => ?_)
    · have z := hlt.mp z
      rw [gd_in (by omega) (by omega), lz_eq, lz_eq, gd_in (by omega) (by omega), lz_eq, lz_eq, gd_in (by omega) (by omega), lz_eq, nI_clamp (by omega), nI_clamp (by omega), nI_l (by omega), nI_l (by omega)]
      refine ok_some ⟨hrows, ?_⟩
      unfold brS
      rw [if_pos z]
      refine ⟨?_, fun _ => ⟨?_, ?_⟩⟩
      · show vp_updL (vp_updL (vp_updL (S.2.2.2.1 30) 0 (lN (nwV L c a b))) 1 (lN a)) 2 (lN b) 0 = _
        rw [pk_uLn (by decide), pk_uLn (by decide), pk_uLs]
        unfold enc
        rw [if_neg (by omega), Nat.add_sub_cancel]
      · show vp_updL (vp_updL (vp_updL (S.2.2.2.1 30) 0 (lN (nwV L c a b))) 1 (lN a)) 2 (lN b) 1 = _
        rw [pk_uLn (by decide), pk_uLs]
      · show vp_updL (vp_updL (vp_updL (S.2.2.2.1 30) 0 (lN (nwV L c a b))) 1 (lN a)) 2 (lN b) 2 = _
        rw [pk_uLs]
    · refine ok_some ⟨hrows, ?_⟩
      unfold brS
      rw [if_neg (fun q => z (hlt.mpr q))]
      exact ⟨b0, b1⟩
  rw [lN_0, li_0]
  rw [li_0] at fin
  refine ok_for0 (W := fun m i (y : Int64 × Int32 × Int32 × (Nat → Int32) × (Nat → Int32) × (Nat → Int32)) => it7 (f_X12_tries_L46 S (nI c) _ _ _ _ _) m y.1 (nI i) y.2.1 y.2.2.1 y.2.2.2.1 y.2.2.2.2.1 y.2.2.2.2.2) (I := fun i y => y.1 = lN (fb_sm (fun s => if thB L s = true then 16 * wt L s else if nwB L a b s = true then c * wt L s else 0) i)) (e := 2 ^ l_M L) (s := (lN 0, S.1 38, S.1 39, S.2.2.1 17, S.2.2.1 18, S.2.2.1 19)) (by omega) rfl ?_ ?_
  · rintro m ⟨v, x28, x29, a30, a31, a32⟩ hI
    dsimp only at hI
    rw [nwV_sum hL hc ha hb hab hn] at hI
    show Ok (f_X12_tries_L46 S (nI c) _ _ _ _ _ _ v (nI (2 ^ l_M L)) x28 x29 a30 a31 a32) _
    unfold f_X12_tries_L46
    rw [bd_s (m_sets (S := wd_o S [(38, x28), (39, x29)] [] [(8, upd (S.2.2.1 8) (l_n L) (nI a)), (9, upd (S.2.2.1 9) (l_n L) (nI b)), (11, upd (S.2.2.1 11) (l_n L) (nI 1)), (12, upd (S.2.2.1 12) (l_n L) (nI 1)), (17, a30), (18, a31), (19, a32)] [(30, (S.2.2.2.1 30))] []) h32 hM), if_pos (nI_le (Nat.le_refl _) (by omega))]
    exact fin v x28 x29 a30 a31 a32 hI
  · rintro m i ⟨v, x28, x29, a30, a31, a32⟩ hi hI ih
    dsimp only at hI
    show Ok (f_X12_tries_L46 S (nI c) _ _ _ _ _ (it7 _ m) v (nI i) x28 x29 a30 a31 a32) _
    generalize it7 (f_X12_tries_L46 S (nI c) _ _ _ _ _) m = r at ih
    have hth := th_ite (ht i hi)
    unfold f_X12_tries_L46
    rw [bd_s (m_sets (S := wd_o S [(38, x28), (39, x29)] [] [(8, upd (S.2.2.1 8) (l_n L) (nI a)), (9, upd (S.2.2.1 9) (l_n L) (nI b)), (11, upd (S.2.2.1 11) (l_n L) (nI 1)), (12, upd (S.2.2.1 12) (l_n L) (nI 1)), (17, a30), (18, a31), (19, a32)] [(30, (S.2.2.2.1 30))] []) h32 hM), if_neg (nI_ge hi (by omega)), gd_in (by omega) (by omega), nI_clamp (by omega), hw i hi, nI_1]
    refine ok_lk (ok_ite (fun z => ?_) (fun z => ?_))
    · have z := hth.mp z
      rw [li_1]
      refine ok_bd (m_isThrough (S := wd_o S [(38, x28), (39, x29)] [] [(8, upd (S.2.2.1 8) (l_n L) (nI a)), (9, upd (S.2.2.1 9) (l_n L) (nI b)), (11, upd (S.2.2.1 11) (l_n L) (nI 1)), (12, upd (S.2.2.1 12) (l_n L) (nI 1)), (17, a30), (18, a31), (19, a32)] [(30, (S.2.2.2.1 30))] []) (L := laN L a b) (s := i) (mo := true) (laN_ok hL a b) (hm _ _ _ _ _) (hnew _ _ _ _ _) (by omega)) ?_
      rintro ⟨o1, z38, z39, z17, z18, z19⟩ ⟨q, eq, hq⟩
      dsimp only at eq ⊢
      subst eq
      have hqt : q = nwB L a b i := b_of_iff hq (nwB_iff L a b i)
      refine ok_b (fun hb2 => ?_) (fun hb2 => ?_)
      · refine ih (v, z38, z39, z17, z18, z19) ?_
        dsimp only
        rw [fb_sm_succ, z, ← hqt, hb2, hI]
        rfl
      · rw [gd_in (by omega) (by omega), nI_l (by omega), lN_mul]
        refine ok_lz (ih (v + lN (c * wt L i), z38, z39, z17, z18, z19) ?_)
        dsimp only
        rw [fb_sm_succ, z, ← hqt, hb2, hI, lN_add]
        rfl
    · have z : thB L i = true := by
        cases q : thB L i with
        | true => rfl
        | false => exact absurd (hth.mpr q) z
      rw [gd_in (by omega) (by omega), show (16 : Int64) = lN 16 from rfl, lN_mul]
      refine ok_lz (ih (v + lN (16 * wt L i), x28, x29, a30, a31, a32) ?_)
      dsimp only
      rw [fb_sm_succ, z, hI, lN_add]
      rfl
