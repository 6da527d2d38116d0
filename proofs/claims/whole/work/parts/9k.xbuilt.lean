/-! built: the developers' -/
theorem okc_in {n a b : Nat} (h1 : n ≤ a) (h2 : n ≤ b) (hn : n < 2 ^ 31) : okc (nI n) a b = true := by
  unfold okc
  rw [nI_toInt hn, nI_clamp hn]
  simp only [Bool.and_eq_true, decide_eq_true_eq]
  exact ⟨⟨by omega, Nat.ble_eq_true_of_le h1⟩, Nat.ble_eq_true_of_le h2⟩
theorem cpy_in {α : Type} {f g : Nat → α} {n k : Nat} (h : k < n) : va_cpy f g 0 0 n k = f k := by
  unfold va_cpy
  rw [if_pos (by omega)]
  congr 1; omega
theorem cpy_out {α : Type} {f g : Nat → α} {n k : Nat} (h : n ≤ k) : va_cpy f g 0 0 n k = g k := by
  unfold va_cpy
  rw [if_neg (by omega)]
theorem x_fill_g134 {S : wd_W} {N : Nat} (hN : S.2.2.2.2 134 = N) (hb : N ≤ 4096) : f_J7_fill_d0a16_g134 S 0 = some (fil (fun _ => 0) (S.2.2.2.1 134) N) := by
  have hx : Int32.ofNat N = nI N := rfl
  unfold f_J7_fill_d0a16_g134
  rw [lz_eq, hN, hx]
  refine Eq.trans ?_ (eq_for0 (W := fun m i => it2 (f_J7_fill_d0a16_g134_L6 S 0 (nI N)) m (nI i) (fil (fun _ => 0) (S.2.2.2.1 134) i)) (e := N) (by omega) ?_ ?_)
  · show it2 _ fuel (nI 0) _ = it2 _ fuel (nI 0) (fil _ _ 0)
    rw [fil_0]
  · intro m
    show f_J7_fill_d0a16_g134_L6 S 0 (nI N) _ (nI N) _ = _
    unfold f_J7_fill_d0a16_g134_L6
    rw [if_pos (nI_le (Nat.le_refl _) (by omega))]
  · intro m i hi
    show f_J7_fill_d0a16_g134_L6 S 0 (nI N) (it2 _ m) (nI i) _ = it2 (f_J7_fill_d0a16_g134_L6 S 0 (nI N)) m (nI (i + 1)) _
    generalize it2 (f_J7_fill_d0a16_g134_L6 S 0 (nI N)) m = r
    unfold f_J7_fill_d0a16_g134_L6
    rw [if_neg (nI_ge hi (by omega)), hN, ← fil_updL, gd_in (by omega) (by omega), lz_eq, nI_clamp (by omega), nI_1]
noncomputable def BqT (L : Ld) (k u : Nat) : Nat := b2n (thB L (k + u * 2 ^ l_n L)) * pdF (cha L) (fun t => 16 - cha L t) (l_n L) (u * 2 ^ l_n L) (l_M L - l_n L)
theorem x_fillBare {S : wd_W} {L : Ld} (hL : lOk L) (h : xS S L) (hN : xN S) (h5 : S.1 13105 = nI (l_n L)) (hl : 2 ^ l_n L ≤ S.2.2.2.2 134) (hl2 : S.2.2.2.2 134 ≤ 4096) :
    Ok (f_X0_fillBare_q131 S (nI (2 ^ l_n L))) (fun o => ∀ k, k < 2 ^ l_n L → o k = lN (Bq L k)) := by
  have hM := lM_15 hL
  have pM := pow_le15 hM
  have g3 := hL.1.2.2.1
  have p0 := Nat.two_pow_pos (l_n L)
  have hnM : l_n L ≤ l_M L := by unfold l_M; omega
  have h2 := h.2.1
  have h4 := h.2.2.2.1
  have hsz : 2 ^ (l_M L - l_n L) * 2 ^ l_n L = 2 ^ l_M L := by rw [← Nat.pow_add]; congr 1; omega
  unfold f_X0_fillBare_q131
  rw [bd_s (x_fill_g134 (S := wd_o S [] [] [] [(134, (S.2.2.2.1 134))] []) rfl hl2), li_0, show nI 0 = nI (0 * 2 ^ l_n L) by rw [Nat.zero_mul]]
  refine ok_for0 (W := fun m u (a : Nat → Int64) => it2 (f_X0_fillBare_q131_L10 S (nI (2 ^ l_n L))) m (nI (u * 2 ^ l_n L)) a) (I := fun u a => ∀ k, k < 2 ^ l_n L → a k = lN (fb_sm (BqT L k) u)) (e := 2 ^ (l_M L - l_n L)) (s := fil (fun _ => 0) (S.2.2.2.1 134) (S.2.2.2.2 134)) (by have := pow_le15 (t := l_M L - l_n L) (by omega); omega) (fun k hk => by rw [fil_in (by omega)]; rfl) ?_ ?_
  · intro m a hI
    show Ok (f_X0_fillBare_q131_L10 S (nI (2 ^ l_n L)) _ (nI (2 ^ (l_M L - l_n L) * 2 ^ l_n L)) a) _
    unfold f_X0_fillBare_q131_L10
    rw [h2, hsz, if_pos (nI_le (Nat.le_refl _) (by omega))]
    exact ok_some hI
  · intro m u a hu hI ih
    show Ok (f_X0_fillBare_q131_L10 S (nI (2 ^ l_n L)) (it2 _ m) (nI (u * 2 ^ l_n L)) a) _
    generalize it2 (f_X0_fillBare_q131_L10 S (nI (2 ^ l_n L))) m = r at ih
    have hu1 : (u + 1) * 2 ^ l_n L ≤ 2 ^ l_M L := by rw [← hsz]; exact Nat.mul_le_mul_right _ (by omega)
    have hu2 : (u + 1) * 2 ^ l_n L = u * 2 ^ l_n L + 2 ^ l_n L := by rw [Nat.add_mul, Nat.one_mul]
    unfold f_X0_fillBare_q131_L10
    rw [h2, if_neg (nI_ge (by omega) (by omega)), h5, bd_s (x_product_q117 (S := wd_o S [] [] [] [(134, a)] []) (M := l_M L) (a := l_n L) (h := cha L) h4 hM hnM (fun t ht => ⟨(h.2.2.2.2.1 t ht).1, cha_le hL ht⟩) (by omega))]
    refine ok_lk ?_
    rw [li_0]
    refine ok_for0 (W := fun m j (b : Nat → Int64) => it2 (f_X0_fillBare_q131_L40 S (nI (2 ^ l_n L)) (nI (u * 2 ^ l_n L)) _ _) m (nI j) b) (I := fun j b => ∀ k, k < 2 ^ l_n L → b k = lN (fb_sm (BqT L k) (if k < j then u + 1 else u))) (e := 2 ^ l_n L) (s := a) (by omega) (fun k hk => by rw [if_neg (by omega)]; exact hI k hk) ?_ ?_
    · intro m b hJ
      show Ok (f_X0_fillBare_q131_L40 S (nI (2 ^ l_n L)) (nI (u * 2 ^ l_n L)) _ _ _ (nI (2 ^ l_n L)) b) _
      unfold f_X0_fillBare_q131_L40
      rw [if_pos (nI_le (Nat.le_refl _) (by omega))]
      refine ok_lz ?_
      rw [nI_add, ← hu2]
      refine ih b (fun k hk => ?_)
      rw [hJ k hk, if_pos hk]
    · intro m j b hj hJ ih2
      show Ok (f_X0_fillBare_q131_L40 S (nI (2 ^ l_n L)) (nI (u * 2 ^ l_n L)) _ _ (it2 _ m) (nI j) b) _
      generalize it2 (f_X0_fillBare_q131_L40 S (nI (2 ^ l_n L)) (nI (u * 2 ^ l_n L)) _ _) m = r2 at ih2
      have hor : u * 2 ^ l_n L ||| j = j + u * 2 ^ l_n L := by
        have := Nat.two_pow_add_eq_or_of_lt hj u
        rw [Nat.mul_comm, ← this, Nat.add_comm]
      unfold f_X0_fillBare_q131_L40
      rw [if_neg (nI_ge hj (by omega)), oI_or, hor, bd_s (x_isThrough (S := wd_o S [] [] [] [(134, b)] []) (s := j + u * 2 ^ l_n L) hL h hN (by omega)), nI_1]
      refine ok_lk (ok_b (fun hb => ?_) (fun hb => ?_))
      · refine ih2 b (fun k hk => ?_)
        rw [hJ k hk]
        by_cases e : k = j
        · subst e
          rw [if_neg (by omega), if_pos (by omega), fb_sm_succ]
          have : BqT L k u = 0 := by unfold BqT; rw [hb]; exact Nat.zero_mul _
          rw [this, Nat.add_zero]
        · by_cases e2 : k < j
          · rw [if_pos e2, if_pos (by omega)]
          · rw [if_neg e2, if_neg (by omega)]
      · rw [gd_in (by omega) (by omega), nI_clamp (by omega), hJ j hj, if_neg (by omega), lN_add, lz_eq, gd_in (by omega) (by omega), lz_eq]
        refine ih2 (vp_updL b j (lN (fb_sm (BqT L j) u + pdF (cha L) (fun t => 16 - cha L t) (l_n L) (u * 2 ^ l_n L) (l_M L - l_n L)))) (fun k hk => ?_)
        by_cases e : k = j
        · subst e
          rw [pk_uLs, if_pos (by omega), fb_sm_succ]
          have : BqT L k u = pdF (cha L) (fun t => 16 - cha L t) (l_n L) (u * 2 ^ l_n L) (l_M L - l_n L) := by unfold BqT; rw [hb]; exact Nat.one_mul _
          rw [this]
        · rw [pk_uLn e, hJ k hk]
          by_cases e2 : k < j
          · rw [if_pos e2, if_pos (by omega)]
          · rw [if_neg e2, if_neg (by omega)]
theorem ndn_pow_lt {k n i : Nat} (h : k < 2 ^ n) : ndn k (2 ^ i) < 2 ^ n := ndn_lt h
theorem ndn_le {k i : Nat} : ndn k (2 ^ i) ≤ k := sub_le (fun j hj => by rw [ndn_bit, Bool.and_eq_true] at hj; exact hj.1)
theorem ndn_off {k i : Nat} (h : k.testBit i = false) : ndn k (2 ^ i) = k := by
  apply Nat.eq_of_testBit_eq
  intro j
  rw [ndn_bit, Nat.testBit_two_pow]
  by_cases e : i = j
  · subst e; simp [h]
  · simp [e]
theorem ndn_on {k i : Nat} (h : k.testBit i = true) : ndn k (2 ^ i) ||| 2 ^ i = k := by
  apply Nat.eq_of_testBit_eq
  intro j
  rw [or_pow_bit, ndn_bit, Nat.testBit_two_pow]
  by_cases e : i = j
  · subst e; simp [h]
  · simp [e]
theorem x_buildOrNot {S : wd_W} {n i c : Nat} {T : Nat → Nat} (hn : n ≤ 12) (hi : i < n) (hc : c ≤ 16) (hl : 2 ^ n ≤ S.2.2.2.2 132) (hl2 : S.2.2.2.2 132 ≤ 4096) (hT : ∀ k, k < 2 ^ n → S.2.2.2.1 132 k = lN (T k)) :
    Ok (f_X0_buildOrNot_q131 S (nI (2 ^ n)) (nI (2 ^ i)) (nI c)) (fun o => ∀ k, k < 2 ^ n → o k = lN (if k.testBit i = true then c * T k + (16 - c) * T (ndn k (2 ^ i)) else 16 * T k)) := by
  have pn : 2 ^ n ≤ 4096 := pow_le_k (n := 12) hn
  unfold f_X0_buildOrNot_q131
  rw [li_0]
  refine ok_for0 (W := fun m j (a : Nat → Int64) => it2 (f_X0_buildOrNot_q131_L3 S (nI (2 ^ n)) (nI (2 ^ i)) (nI c)) m (nI j) a) (I := fun j a => ∀ k, k < 2 ^ n → a k = lN (if ndn k (2 ^ i) < j then (if k.testBit i = true then c * T k + (16 - c) * T (ndn k (2 ^ i)) else 16 * T k) else T k)) (e := 2 ^ n) (s := S.2.2.2.1 132) (by omega) (fun k hk => by rw [if_neg (by omega)]; exact hT k hk) ?_ ?_
  · intro m a hI
    show Ok (f_X0_buildOrNot_q131_L3 S (nI (2 ^ n)) (nI (2 ^ i)) (nI c) _ (nI (2 ^ n)) a) _
    unfold f_X0_buildOrNot_q131_L3
    rw [if_pos (nI_le (Nat.le_refl _) (by omega))]
    refine ok_some (fun k hk => ?_)
    rw [hI k hk, if_pos (ndn_lt hk)]
  · intro m j a hj hI ih
    show Ok (f_X0_buildOrNot_q131_L3 S (nI (2 ^ n)) (nI (2 ^ i)) (nI c) (it2 _ m) (nI j) a) _
    generalize it2 (f_X0_buildOrNot_q131_L3 S (nI (2 ^ n)) (nI (2 ^ i)) (nI c)) m = r at ih
    have hand : j &&& 2 ^ i ≤ j := Nat.and_le_left
    unfold f_X0_buildOrNot_q131_L3
    rw [if_neg (nI_ge hj (by omega)), oI_and, oI_or, nI_1]
    refine ok_lk (ok_ite (fun z => ?_) (fun z => ?_))
    · rw [oI_z (by omega), and_pow0] at z
      have hor : j ||| 2 ^ i < 2 ^ n := or_pow_lt hj hi
      have hnd : ndn (j ||| 2 ^ i) (2 ^ i) = j := ndn_back z
      have hbo : (j ||| 2 ^ i).testBit i = true := by rw [or_pow_bit]; simp
      have hne : j ≠ j ||| 2 ^ i := fun q => by rw [← q, z] at hbo; cases hbo
      have v1 := hI (j ||| 2 ^ i) hor
      have v2 := hI j hj
      rw [hnd, if_neg (by omega)] at v1
      rw [ndn_off z, if_neg (by omega)] at v2
      rw [gd_in (by omega) (by omega), gd_in (by omega) (by omega), nI_clamp (by omega), nI_clamp (by omega), v1, v2, li_16, pk_sub hc, nI_l (by omega), nI_l (by omega), lN_mul, lN_mul, lN_add, lz_eq, gd_in (by omega) (by omega), lz_eq, gd_in (by omega) (by omega), pk_uLn hne, v2, show (16 : Int64) = lN 16 from rfl, lN_mul, lz_eq, gd_in (by omega) (by omega), lz_eq]
      refine ih (vp_updL (vp_updL a (j ||| 2 ^ i) (lN (c * T (j ||| 2 ^ i) + (16 - c) * T j))) j (lN (T j * 16))) (fun k hk => ?_)
      by_cases e : k = j
      · subst e
        rw [pk_uLs, ndn_off z, if_pos (by omega), z, if_neg (by decide), Nat.mul_comm]
      · rw [pk_uLn e]
        by_cases e2 : k = j ||| 2 ^ i
        · subst e2
          rw [pk_uLs, hnd, if_pos (by omega), if_pos hbo]
        · rw [pk_uLn e2, hI k hk]
          have hpj : ndn k (2 ^ i) ≠ j := by
            intro q
            cases hb : k.testBit i with
            | true => apply e2; rw [← ndn_on hb, q]
            | false => apply e; rw [← ndn_off hb, q]
          by_cases c1 : ndn k (2 ^ i) < j
          · rw [if_pos c1, if_pos (show ndn k (2 ^ i) < j + 1 by omega)]
          · rw [if_neg c1, if_neg (show ¬ ndn k (2 ^ i) < j + 1 by omega)]
    · rw [oI_z (by omega), and_pow0] at z
      have z : j.testBit i = true := by simpa using z
      refine ih a (fun k hk => ?_)
      rw [hI k hk]
      have hpj : ndn k (2 ^ i) ≠ j := by
        intro q
        have : (ndn k (2 ^ i)).testBit i = false := by rw [ndn_bit, Nat.testBit_two_pow]; simp
        rw [q, z] at this; cases this
      by_cases c1 : ndn k (2 ^ i) < j
      · rw [if_pos c1, if_pos (show ndn k (2 ^ i) < j + 1 by omega)]
      · rw [if_neg c1, if_neg (show ¬ ndn k (2 ^ i) < j + 1 by omega)]
def xN4 (S : wd_W) : Prop := ∃ e, e ≤ 12 ∧ S.2.2.2.2 132 = 2 ^ e ∧ S.2.2.2.2 134 = 2 ^ e ∧ S.2.2.2.2 135 = 2 ^ e ∧ S.2.2.2.2 136 = 2 ^ e
/-- what is worked out of what is built -/
def xBu (S : wd_W) (L : Ld) : Prop := S.1 13105 = nI (l_n L) ∧ 2 ^ l_n L ≤ S.2.2.2.2 132 ∧ ∀ k, k < 2 ^ l_n L → S.2.2.2.1 132 k = lN (bltN L k) ∧ S.2.2.2.1 134 k = lN (Bq L k)
theorem x_builtOut {S : wd_W} {L : Ld} (hL : lOk L) (hl : xL S 16 L) (h : xS S L) (hN : xN S) (hN4 : xN4 S) :
    Ok (f_X0_workOut_q131 S) (fun o => o.1 = nI (l_n L) ∧ (∃ e, e ≤ 12 ∧ o.2.2.2.2.2.1 = 2 ^ e ∧ o.2.2.2.2.2.2.1 = 2 ^ e ∧ o.2.2.2.2.2.2.2.1 = 2 ^ e ∧ o.2.2.2.2.2.2.2.2.1 = 2 ^ e ∧ 2 ^ l_n L ≤ 2 ^ e ∧
        o.2.2.2.2.2.2.2.2.2.2 + 2 * (4 * S.2.2.2.2 132) ≤ 2 * (4 * 2 ^ e)) ∧ (∀ k, k < 2 ^ l_n L → o.2.1 k = lN (bltN L k) ∧ o.2.2.1 k = lN (Bq L k)) ∧ o.2.2.2.2.2.2.2.2.2.1 ≤ 4 ∧ o.2.2.2.2.2.2.2.2.2.2 ≤ 16384) := by
  have g3 := hL.1.2.2.1
  have p3 : 2 ^ l_n L ≤ 4096 := pow_le_k (n := 12) g3
  have p0 := Nat.two_pow_pos (l_n L)
  have hl0 := hl
  obtain ⟨⟨l0, l1, _⟩, lk1, _⟩ := hl
  have l1 : S.1 1601 = nI (l_n L) := l1
  obtain ⟨e4, he4, n132, n134, n135, n136⟩ := hN4
  have p4 : 2 ^ e4 ≤ 4096 := pow_le_k (n := 12) he4
  unfold f_X0_workOut_q131
  rw [l1, lz_eq, oI_pow (by omega), lz_eq, n132, n135, n136]
  refine ok_lk ?_
  have main : ∀ (a3 a4 a5 a6 : Nat → Int64) (e n11 n12 : Nat), e ≤ 12 → 2 ^ l_n L ≤ 2 ^ e → n11 ≤ 4 → n12 ≤ 16384 → n12 + 2 * (4 * 2 ^ e4) ≤ 2 * (4 * 2 ^ e) →
      Ok (gd (okr n11 n12 0 0 4 20000) <| bd (f_X0_fillBare_q131 (wd_o S [(13105, nI (l_n L))] [] [] [(132, a3), (134, a4), (135, a5), (136, a6)] [(132, 2 ^ e), (134, 2 ^ e), (135, 2 ^ e), (136, 2 ^ e)]) (nI (2 ^ l_n L))) fun o14 =>
        gd (okc (nI (2 ^ l_n L)) (2 ^ e) (2 ^ e)) <| lz (va_cpy o14 a3 (0 : Int32).toNatClampNeg (0 : Int32).toNatClampNeg (2 ^ l_n L)) fun a17 =>
        it2 (f_X0_workOut_q131_L76 S (nI (l_n L)) (nI (2 ^ l_n L)) a5 a6 (2 ^ e) (2 ^ e) (2 ^ e) (2 ^ e) n11 n12 o14) fuel (0 : Int32) a17)
      (fun o => o.1 = nI (l_n L) ∧ (∃ e, e ≤ 12 ∧ o.2.2.2.2.2.1 = 2 ^ e ∧ o.2.2.2.2.2.2.1 = 2 ^ e ∧ o.2.2.2.2.2.2.2.1 = 2 ^ e ∧ o.2.2.2.2.2.2.2.2.1 = 2 ^ e ∧ 2 ^ l_n L ≤ 2 ^ e ∧
        o.2.2.2.2.2.2.2.2.2.2 + 2 * (4 * 2 ^ e4) ≤ 2 * (4 * 2 ^ e)) ∧ (∀ k, k < 2 ^ l_n L → o.2.1 k = lN (bltN L k) ∧ o.2.2.1 k = lN (Bq L k)) ∧ o.2.2.2.2.2.2.2.2.2.1 ≤ 4 ∧ o.2.2.2.2.2.2.2.2.2.2 ≤ 16384) := by
    intro a3 a4 a5 a6 e n11 n12 he hne q3 q4 q5
    have pe : 2 ^ e ≤ 4096 := pow_le_k (n := 12) he
    rw [gd_t (okr_in (by omega) (by omega))]
    refine ok_bd (x_fillBare (S := wd_o S [(13105, nI (l_n L))] [] [] [(132, a3), (134, a4), (135, a5), (136, a6)] [(132, 2 ^ e), (134, 2 ^ e), (135, 2 ^ e), (136, 2 ^ e)]) hL h hN rfl hne pe) ?_
    intro o14 ho
    rw [gd_t (okc_in hne hne (by omega)), lz_eq, li_0, nI_clamp (by omega)]
    refine ok_for0 (W := fun m i (a : Nat → Int64) => it2 (f_X0_workOut_q131_L76 S (nI (l_n L)) (nI (2 ^ l_n L)) a5 a6 (2 ^ e) (2 ^ e) (2 ^ e) (2 ^ e) n11 n12 o14) m (nI i) a) (I := fun i a => ∀ k, k < 2 ^ l_n L → a k = lN (btT L i k)) (e := l_n L) (s := va_cpy o14 a3 0 0 (2 ^ l_n L)) (by omega) (fun k hk => by rw [cpy_in hk]; exact ho k hk) ?_ ?_
    · intro m a hI
      show Ok (f_X0_workOut_q131_L76 S (nI (l_n L)) (nI (2 ^ l_n L)) a5 a6 (2 ^ e) (2 ^ e) (2 ^ e) (2 ^ e) n11 n12 o14 _ (nI (l_n L)) a) _
      unfold f_X0_workOut_q131_L76
      rw [if_pos (nI_le (Nat.le_refl _) (by omega))]
      refine ok_some ⟨rfl, ⟨e, he, rfl, rfl, rfl, rfl, hne, q5⟩, fun k hk => ⟨?_, ho k hk⟩, q3, q4⟩
      show a k = _
      rw [hI k hk, btT_all hk]
    · intro m i a hi hI ih
      show Ok (f_X0_workOut_q131_L76 S (nI (l_n L)) (nI (2 ^ l_n L)) a5 a6 (2 ^ e) (2 ^ e) (2 ^ e) (2 ^ e) n11 n12 o14 (it2 _ m) (nI i) a) _
      generalize it2 (f_X0_workOut_q131_L76 S (nI (l_n L)) (nI (2 ^ l_n L)) a5 a6 (2 ^ e) (2 ^ e) (2 ^ e) (2 ^ e) n11 n12 o14) m = r at ih
      have r19 : S.2.2.1 19 i = nI (l_C L i) := (lk1 i hi).2.2.1
      have hcl := (hL.2.1 i hi).2.2.2.1
      have hch : cha L i = l_C L i := by unfold cha; rw [if_pos hi]
      unfold f_X0_workOut_q131_L76
      rw [if_neg (nI_ge hi (by omega)), gd_in (by omega) (by omega), gd_t (okr_in (by omega) (by omega)), nI_clamp (by omega), r19, oI_pow (by omega), nI_1]
      refine ok_bd (x_buildOrNot (S := wd_o S [(13105, nI (l_n L))] [] [] [(132, a), (134, o14), (135, a5), (136, a6)] [(132, 2 ^ e), (134, 2 ^ e), (135, 2 ^ e), (136, 2 ^ e)]) (n := l_n L) (i := i) (c := l_C L i) (T := btT L i) g3 hi hcl hne pe hI) ?_
      intro o ho2
      refine ih o (fun k hk => ?_)
      rw [ho2 k hk, btT, hch]
  have hx : Int32.ofNat (S.2.2.2.2 134) = nI (S.2.2.2.2 134) := rfl
  rw [hx, n134]
  refine ok_ite (fun c => ?_) (fun c => ?_)
  · rw [nI_leI (by omega) (by omega)] at c
    rw [nI_clamp (by omega)]
    exact main _ _ _ _ e4 0 0 he4 c (by omega) (by omega) (by omega)
  · rw [nI_leI (by omega) (by omega)] at c
    rw [gd_t (okg_in (by omega) (by omega) (by omega)), nI_clamp (by omega), gd_t (okg_in (by omega) (by omega) (by omega)), gd_t (okg_in (by omega) (by omega) (by omega)), gd_t (okg_in (by omega) (by omega) (by omega))]
    have hlt : e4 < l_n L := by
      apply Classical.byContradiction
      intro hh
      have := pow_le_k (show l_n L ≤ e4 by omega)
      omega
    have := pow_le_k (show e4 + 1 ≤ l_n L by omega)
    have := pow_dbl e4
    have z1 : 0 + 1 + 1 + 1 + 1 ≤ 4 := by omega
    have z2 : 0 + 2 ^ l_n L + 2 ^ l_n L + 2 ^ l_n L + 2 ^ l_n L ≤ 16384 := by omega
    have z3 : 0 + 2 ^ l_n L + 2 ^ l_n L + 2 ^ l_n L + 2 ^ l_n L + 2 * (4 * 2 ^ e4) ≤ 2 * (4 * 2 ^ l_n L) := by omega
    have hm := main (fun _ => 0) (fun _ => 0) (fun _ => 0) (fun _ => 0) (l_n L) (0 + 1 + 1 + 1 + 1) (0 + 2 ^ l_n L + 2 ^ l_n L + 2 ^ l_n L + 2 ^ l_n L) g3 (Nat.le_refl _) z1 z2 z3
    exact hm
theorem x_lengthOf {S : wd_W} {L : Ld} {k : Nat} (hL : lOk L) (hl : xL S 16 L) (h5 : S.1 13105 = nI (l_n L)) (hk : k < 32768) : f_X0_lengthOf_q131 S (nI k) = some (nI (lenF L k)) := by
  have g3 := hL.1.2.2.1
  obtain ⟨_, lk1, _⟩ := hl
  apply ok_e
  unfold f_X0_lengthOf_q131 lenF
  rw [li_0]
  refine ok_for0 (W := fun m i (v : Nat) => it2 (f_X0_lengthOf_q131_L4 S (nI k)) m (nI v) (nI i)) (I := fun i v => v = fb_sm (fun i => if k.testBit i = true then l_D L i else 0) i) (e := l_n L) (s := 0) (by omega) rfl ?_ ?_
  · intro m v hI
    show Ok (f_X0_lengthOf_q131_L4 S (nI k) _ (nI v) (nI (l_n L))) _
    unfold f_X0_lengthOf_q131_L4
    rw [h5, if_pos (nI_le (Nat.le_refl _) (by omega)), hI]
    exact ok_some rfl
  · intro m i v hi hI ih
    show Ok (f_X0_lengthOf_q131_L4 S (nI k) (it2 _ m) (nI v) (nI i)) _
    generalize it2 (f_X0_lengthOf_q131_L4 S (nI k)) m = r at ih
    have r21 : S.2.2.1 21 i = nI (l_D L i) := (lk1 i hi).2.2.2.2
    unfold f_X0_lengthOf_q131_L4
    rw [h5, if_neg (nI_ge hi (by omega)), gd_in (by omega) (by omega), nI_clamp (by omega), r21, oI_bit (by omega) (by omega), nI_1]
    refine ok_lz ?_
    by_cases z : k.testBit i = true
    · rw [if_pos z, li_1, pk_mul, nI_add]
      exact ih _ (by rw [fb_sm_succ, if_pos z, hI, Nat.one_mul])
    · rw [if_neg z, li_0, pk_mul, nI_add]
      exact ih _ (by rw [fb_sm_succ, if_neg z, hI, Nat.zero_mul])
theorem x_shortest {S : wd_W} {L : Ld} {n : Nat} (hL : lOk L) (hl : xL S 16 L) (hb : xBu S L) (hN4 : xN4 S) (hn : n ≤ 16) : f_X0_shortest_q131 S (nI n) = some (plF L n (2 ^ l_n L)).1 := by
  have g3 := hL.1.2.2.1
  have p3 : 2 ^ l_n L ≤ 4096 := pow_le_k (n := 12) g3
  have hM := lM_15 hL
  have pw := pow16_le hM
  obtain ⟨e4, he4, n132, _⟩ := hN4
  have p4 : 2 ^ e4 ≤ 4096 := pow_le_k (n := 12) he4
  obtain ⟨b5, bl, bk⟩ := hb
  apply ok_e
  unfold f_X0_shortest_q131
  rw [li_0, lN_0]
  refine ok_for0 (W := fun m i (x : Int32 × Nat × Nat) => it4 (f_X0_shortest_q131_L11 S (nI n)) m x.1 (nI x.2.1) (lN x.2.2) (nI i)) (I := fun i x => x = plF L n i) (e := 2 ^ l_n L) (s := (-2, 0, 0)) (by omega) rfl ?_ ?_
  · rintro m ⟨x1, x2, x3⟩ hI
    show Ok (f_X0_shortest_q131_L11 S (nI n) _ x1 (nI x2) (lN x3) (nI (2 ^ l_n L))) _
    unfold f_X0_shortest_q131_L11
    rw [b5, oI_pow (by omega), if_pos (nI_le (Nat.le_refl _) (by omega))]
    exact ok_some (congrArg Prod.fst hI)
  · rintro m i ⟨x1, x2, x3⟩ hi hI ih
    show Ok (f_X0_shortest_q131_L11 S (nI n) (it4 _ m) x1 (nI x2) (lN x3) (nI i)) _
    generalize it4 (f_X0_shortest_q131_L11 S (nI n)) m = r at ih
    have hle := plF_le hL n i
    rw [← hI] at hle
    dsimp only at hle
    have hll := lenF_le hL i
    have hbl := bltN_le hL i
    have hstep : plF L n (i + 1) = if atL (l_M L) (bltN L i) n = true ∧ (x1 < 0 ∨ lenF L i < x2 ∨ (lenF L i = x2 ∧ x3 < bltN L i)) then (nI i, lenF L i, bltN L i) else (x1, x2, x3) := by
      show plS L n i (plF L n i) = _
      rw [← hI]
      rfl
    unfold f_X0_shortest_q131_L11
    rw [b5, oI_pow (by omega), if_neg (nI_ge hi (by omega)), bd_s (x_lengthOf (S := wd_o S [] [] [] [] []) hL hl b5 (show i < 32768 by omega)), nI_1, nI_clamp (by omega), (bk i hi).1]
    have work : ∀ better : Bool, (better = true ↔ (x1 < 0 ∨ lenF L i < x2 ∨ (lenF L i = x2 ∧ x3 < bltN L i))) → Ok (lk (fun x9 x10 x11 => r x9 x10 x11 (nI (i + 1))) fun k107_12 => if nI (b2n better) = 0 then k107_12 x1 (nI x2) (lN x3) else gd (okx (nI i) (S.2.2.2.2 132)) <| bd (f_X2_things_q16 (wd_o S [] [] [] [] [])) fun o14 => bd (f_X8_isSixteenths (lN (bltN L i)) (nI n) o14) fun o15 => if o15 = 0 then k107_12 x1 (nI x2) (lN x3) else gd (okx (nI i) (S.2.2.2.2 132)) <| lz (lN (bltN L i)) fun x17 => k107_12 (nI i) (nI (lenF L i)) x17) (fun o => o = (plF L n (2 ^ l_n L)).1) := by
      intro better hbt
      refine ok_lk (ok_b (fun z => ?_) (fun z => ?_))
      · refine ih (x1, x2, x3) ?_
        rw [hstep, if_neg (fun q => by rw [← hbt, z] at q; cases q.2)]
      · rw [gd_in (by omega) (by omega), bd_s (x_things (S := wd_o S [] [] [] [] []) hl), bd_s (x_isSixteenths hM hbl hn)]
        refine ok_b (fun y => ?_) (fun y => ?_)
        · refine ih (x1, x2, x3) ?_
          rw [hstep, if_neg (fun q => by rw [y] at q; cases q.1)]
        · rw [gd_in (by omega) (by omega)]
          refine ok_lz (ih (nI i, lenF L i, bltN L i) ?_)
          rw [hstep, if_pos ⟨y, hbt.mp z⟩]
    refine ok_lk (ok_lk ?_)
    refine ok_ite (fun y => work true ⟨fun _ => Or.inl y, fun _ => rfl⟩) (fun y => ?_)
    refine ok_ite (fun y2 => ?_) (fun y2 => ?_)
    · rw [nI_ltI (by omega) (by omega)] at y2
      exact work true ⟨fun _ => Or.inr (Or.inl y2), fun _ => rfl⟩
    · rw [nI_ltI (by omega) (by omega)] at y2
      refine ok_lk ?_
      refine ok_ite (fun y3 => ?_) (fun y3 => ?_)
      · rw [nI_eq (by omega) (by omega)] at y3
        rw [gd_in (by omega) (by omega)]
        refine ok_ite (fun y4 => ?_) (fun y4 => ?_)
        · rw [lN_leL (by omega) (by omega)] at y4
          exact work false ⟨fun q => (by cases q), fun q => (by rcases q with q | q | q; exact absurd q y; omega; omega)⟩
        · rw [lN_leL (by omega) (by omega)] at y4
          exact work true ⟨fun _ => Or.inr (Or.inr ⟨y3, by omega⟩), fun _ => rfl⟩
      · rw [nI_eq (by omega) (by omega)] at y3
        exact work false ⟨fun q => (by cases q), fun q => (by rcases q with q | q | q; exact absurd q y; omega; omega)⟩
