/-! the developers' sets: room, weights, what falls -/
theorem wtF_hi {h f : Nat → Nat} {t j : Nat} (hj : j < 2 ^ t) : wtF h f (t + 1) (j + 2 ^ t) = wtF h f t j * h t := by
  rw [wtF, wtF_lo t (Nat.le_refl t), bit_hi hj, if_pos rfl]
theorem wtF_low {h f : Nat → Nat} {t j : Nat} (hj : j < 2 ^ t) : wtF h f (t + 1) j = wtF h f t j * f t := by
  rw [wtF, tb_lt hj (Nat.le_refl t), if_neg (by decide)]
theorem hmF_hi {H : Nat → Nat} {t j : Nat} (hj : j < 2 ^ t) : hmF H (t + 1) (j + 2 ^ t) = hmF H t j := by
  rw [hmF, hmF_lo t (Nat.le_refl t), bit_hi hj, if_pos rfl, or_0]
theorem hmF_low {H : Nat → Nat} {t j : Nat} (hj : j < 2 ^ t) : hmF H (t + 1) j = hmF H t j ||| H t := by
  rw [hmF, tb_lt hj (Nat.le_refl t), if_neg (by decide)]
theorem pow_le15 {t : Nat} (h : t ≤ 15) : 2 ^ t ≤ 32768 := pow_le_k (n := 15) h
theorem pow_dbl (t : Nat) : 2 ^ t + 2 ^ t = 2 ^ (t + 1) := by rw [Nat.pow_succ]; omega
theorem x_spread {S : wd_W} {M : Nat} {h H : Nat → Nat} (hM : M ≤ 15) (h0 : S.1 11700 = nI M) (hh : ∀ t, t < M → S.2.2.1 118 t = nI (h t) ∧ S.2.2.1 119 t = nI (H t) ∧ h t ≤ 16) (l7 : 2 ^ M ≤ S.2.2.2.2 107) (l9 : 2 ^ M ≤ S.2.2.2.2 109) (b7 : S.2.2.2.2 107 ≤ 32768) (b9 : S.2.2.2.2 109 ≤ 32768) :
    f_X8_spread_q106 S = some (fil (fun s => nI (hmF H M s)) (S.2.2.1 109) (2 ^ M), fil (fun s => lN (wtF h (fun t => 16 - h t) M s)) (S.2.2.2.1 107) (2 ^ M)) := by
  generalize hn7 : S.2.2.2.2 107 = n7 at l7 b7
  generalize hn9 : S.2.2.2.2 109 = n9 at l9 b9
  generalize hg : S.2.2.1 109 = g
  generalize hgl : S.2.2.2.1 107 = gl
  have hin : ∀ (t : Nat), t < M → ∀ (K : (Nat → Int32) → (Nat → Int64) → Option o_X8_spread_q106),
      it3 (f_X8_spread_q106_L44 S (nI t) (nI (2 ^ t)) (nI (h t)) K) fuel 0 (fil (fun s => nI (hmF H t s)) g (2 ^ t)) (fil (fun s => lN (wtF h (fun t => 16 - h t) t s)) gl (2 ^ t)) = K (fil (fun s => nI (hmF H (t + 1) s)) g (2 ^ (t + 1))) (fil (fun s => lN (wtF h (fun t => 16 - h t) (t + 1) s)) gl (2 ^ (t + 1))) := by
    intro t ht K
    obtain ⟨d1, d2, d3⟩ := hh t ht
    have p1 : 2 ^ (t + 1) ≤ 2 ^ M := pow_le_k ht
    have p2 := pow_dbl t
    have p3 := pow_le15 (t := t + 1) (by omega)
    have p4 := pow_le15 hM
    rw [← dbl_0 (fun s => nI (hmF H t s)) (fun s => nI (hmF H (t + 1) s)) g (2 ^ t), ← dbl_0 (fun s => lN (wtF h (fun t => 16 - h t) t s)) (fun s => lN (wtF h (fun t => 16 - h t) (t + 1) s)) gl (2 ^ t)]
    refine eq_for0 (W := fun n j => it3 (f_X8_spread_q106_L44 S (nI t) (nI (2 ^ t)) (nI (h t)) K) n (nI j) (dbl (fun s => nI (hmF H t s)) (fun s => nI (hmF H (t + 1) s)) g (2 ^ t) j) (dbl (fun s => lN (wtF h (fun t => 16 - h t) t s)) (fun s => lN (wtF h (fun t => 16 - h t) (t + 1) s)) gl (2 ^ t) j)) (e := 2 ^ t) (by omega) ?_ ?_
    · intro n
      show f_X8_spread_q106_L44 S _ _ _ K _ (nI (2 ^ t)) _ _ = _
      unfold f_X8_spread_q106_L44
      rw [if_pos (nI_le (Nat.le_refl _) (by omega)), dbl_end, dbl_end, p2]
    · intro n j hj
      show f_X8_spread_q106_L44 S _ _ _ K (it3 _ n) (nI j) _ _ = _
      unfold f_X8_spread_q106_L44
      rw [if_neg (nI_ge hj (by omega)), hn7, hn9]
      have hne : j ≠ j + 2 ^ t := by have := Nat.two_pow_pos t; omega
      have e1 : (dbl (fun s => lN (wtF h (fun t => 16 - h t) t s)) (fun s => lN (wtF h (fun t => 16 - h t) (t + 1) s)) gl (2 ^ t) j) j * (nI (h t)).toInt64 = lN (wtF h (fun t => 16 - h t) (t + 1) (j + 2 ^ t)) := by
        rw [dbl_lo hj, nI_l (by omega), lN_mul, wtF_hi hj]
      have e2 : (dbl (fun s => lN (wtF h (fun t => 16 - h t) t s)) (fun s => lN (wtF h (fun t => 16 - h t) (t + 1) s)) gl (2 ^ t) j) j * ((16 : Int32) - nI (h t)).toInt64 = lN (wtF h (fun t => 16 - h t) (t + 1) j) := by
        rw [dbl_lo hj, li_16, pk_sub d3, nI_l (by omega), lN_mul, wtF_low hj]
      have e3 : (dbl (fun s => nI (hmF H t s)) (fun s => nI (hmF H (t + 1) s)) g (2 ^ t) j) j = nI (hmF H (t + 1) (j + 2 ^ t)) := by
        rw [dbl_lo hj, hmF_hi hj]
      have e4 : (dbl (fun s => nI (hmF H t s)) (fun s => nI (hmF H (t + 1) s)) g (2 ^ t) j) j ||| nI (H t) = nI (hmF H (t + 1) j) := by
        rw [dbl_lo hj, oI_or, hmF_low hj]
      simp (disch := omega) only [lz, gd_in, nI_clamp, nI_add, nI_1, d2]
      rw [e1, e3, pk_un hne, pk_uLn hne, e2, e4, dbl_upd _ _ _ hj, dbl_updL _ _ _ hj]
  have h1 := Nat.two_pow_pos M
  unfold f_X8_spread_q106
  rw [hn7, hn9, li_0, gd_in (by omega) (by omega), lz_eq, gd_in (by omega) (by omega), lz_eq, nI_clamp (by omega), hg, hgl]
  refine Eq.trans (b := it3 (f_X8_spread_q106_L16 S) fuel (nI 0) (fil (fun s => nI (hmF H 0 s)) g (2 ^ 0)) (fil (fun s => lN (wtF h (fun t => 16 - h t) 0 s)) gl (2 ^ 0))) ?_ ?_
  · have e1 : upd g 0 (nI 0) = fil (fun s => nI (hmF H 0 s)) g (2 ^ 0) := by
      rw [← fil_0 (fun s => nI (hmF H 0 s)) g]
      exact fil_upd (fun s => nI (hmF H 0 s)) g 0
    have e2 : vp_updL gl 0 (1 : Int64) = fil (fun s => lN (wtF h (fun t => 16 - h t) 0 s)) gl (2 ^ 0) := by
      rw [← fil_0 (fun s => lN (wtF h (fun t => 16 - h t) 0 s)) gl]
      exact fil_updL (fun s => lN (wtF h (fun t => 16 - h t) 0 s)) gl 0
    rw [e1, e2]
  · refine eq_for0 (W := fun n i => it3 (f_X8_spread_q106_L16 S) n (nI i) (fil (fun s => nI (hmF H i s)) g (2 ^ i)) (fil (fun s => lN (wtF h (fun t => 16 - h t) i s)) gl (2 ^ i))) (e := M) (by omega) ?_ ?_
    · intro n
      show f_X8_spread_q106_L16 S _ (nI M) _ _ = _
      unfold f_X8_spread_q106_L16
      rw [h0, if_pos (nI_le (Nat.le_refl _) (by omega))]
    · intro n i hi
      show f_X8_spread_q106_L16 S (it3 (f_X8_spread_q106_L16 S) n) (nI i) _ _ = it3 (f_X8_spread_q106_L16 S) n (nI (i + 1)) _ _
      generalize it3 (f_X8_spread_q106_L16 S) n = r
      unfold f_X8_spread_q106_L16
      obtain ⟨d1, d2, d3⟩ := hh i hi
      rw [h0, if_neg (nI_ge hi (by omega)), oI_pow (by omega), lz_eq, gd_in (by omega) (by omega), lz_eq, nI_clamp (by omega), d1, lk_eq, hin i hi, nI_1]
/-- how long the rows of the sets are -/
def xN (S : wd_W) : Prop := ∃ e f, e ≤ 15 ∧ f ≤ 12 ∧ S.2.2.2.2 107 = 2 ^ e ∧ S.2.2.2.2 109 = 2 ^ e ∧ S.2.2.2.2 108 = 2 ^ f ∧ S.2.2.2.2 110 = 2 ^ f
theorem okg_t {n c s : Nat} (h : n ≤ 1000000) (hc : c + 1 ≤ 4) (hs : s + n ≤ 80000) : okg (nI n) c s 4 80000 = true := by
  unfold okg
  rw [nI_toInt (by omega), nI_clamp (by omega)]
  simp only [Bool.and_eq_true, decide_eq_true_eq]
  refine ⟨⟨⟨by omega, by omega⟩, ?_⟩, ?_⟩
  · exact Nat.ble_eq_true_of_le hc
  · exact Nat.ble_eq_true_of_le hs
theorem x_makeRoom {S : wd_W} {M nl : Nat} (hM : M ≤ 15) (hn : nl ≤ 12) (h : xN S) :
    Ok (f_X8_makeRoom_q106 S (nI (2 ^ M)) (nI (2 ^ nl))) (fun o => ∃ e f, e ≤ 15 ∧ f ≤ 12 ∧ M ≤ e ∧ nl ≤ f ∧ o.2.2.2.2.1 = 2 ^ e ∧ o.2.2.2.2.2.2.1 = 2 ^ e ∧ o.2.2.2.2.2.1 = 2 ^ f ∧ o.2.2.2.2.2.2.2.1 = 2 ^ f ∧
      o.2.2.2.2.2.2.2.2.1 ≤ 4 ∧ o.2.2.2.2.2.2.2.2.2 + 2 * (S.2.2.2.2 107 + S.2.2.2.2 109 + S.2.2.2.2 108 + S.2.2.2.2 110) ≤ 2 * (2 ^ e + 2 ^ e + 2 ^ f + 2 ^ f) ∧ o.2.2.2.2.2.2.2.2.2 ≤ 80000) := by
  obtain ⟨e, f, he, hf, n7, n9, n8, n10⟩ := h
  have p1 := pow_le15 hM
  have p2 := pow_le15 he
  have p3 : 2 ^ nl ≤ 4096 := pow_le_k (n := 12) hn
  have p4 : 2 ^ f ≤ 4096 := pow_le_k (n := 12) hf
  unfold f_X8_makeRoom_q106
  rw [n7, n9, n8, n10]
  refine ok_lk ?_
  have c1 : ∀ {a b : Nat}, 2 ^ a ≤ 2 ^ b → a ≤ b := fun {a b} h => (Nat.pow_le_pow_iff_right (by decide)).mp h
  have c2 : ∀ {a b : Nat}, b < a → 2 * 2 ^ b ≤ 2 ^ a := fun {a b} h => by
    have := pow_le_k (k := b + 1) (n := a) h
    rw [Nat.pow_succ] at this; omega
  have second : ∀ (a1 : Nat → Int32) (a2 : Nat → Int64) (e' n5 n6 : Nat), e' ≤ 15 → M ≤ e' → n5 ≤ 2 → n6 ≤ 65536 → n6 + 2 * (2 ^ e + 2 ^ e) ≤ 2 * (2 ^ e' + 2 ^ e') →
      Ok (if nI (2 ^ nl) ≤ (Int32.ofNat (2 ^ f)) then (some (a1, (S.2.2.1 110), a2, (S.2.2.2.1 108), 2 ^ e', 2 ^ f, 2 ^ e', 2 ^ f, n5, n6)) else (gd (okg (nI (2 ^ nl)) n5 n6 4 80000) <| gd (okg (nI (2 ^ nl)) (n5 + 1) (n6 + (nI (2 ^ nl)).toNatClampNeg) 4 80000) <| some (a1, (fun _ => 0), a2, (fun _ => 0), 2 ^ e', (nI (2 ^ nl)).toNatClampNeg, 2 ^ e', (nI (2 ^ nl)).toNatClampNeg, n5 + 1 + 1, n6 + (nI (2 ^ nl)).toNatClampNeg + (nI (2 ^ nl)).toNatClampNeg)))
      (fun (o : o_X8_makeRoom_q106) => ∃ e' f', e' ≤ 15 ∧ f' ≤ 12 ∧ M ≤ e' ∧ nl ≤ f' ∧ o.2.2.2.2.1 = 2 ^ e' ∧ o.2.2.2.2.2.2.1 = 2 ^ e' ∧ o.2.2.2.2.2.1 = 2 ^ f' ∧ o.2.2.2.2.2.2.2.1 = 2 ^ f' ∧
      o.2.2.2.2.2.2.2.2.1 ≤ 4 ∧ o.2.2.2.2.2.2.2.2.2 + 2 * (2 ^ e + 2 ^ e + 2 ^ f + 2 ^ f) ≤ 2 * (2 ^ e' + 2 ^ e' + 2 ^ f' + 2 ^ f') ∧ o.2.2.2.2.2.2.2.2.2 ≤ 80000) := by
    intro a1 a2 e' n5 n6 he' hMe h5 h6 hs
    have p5 := pow_le15 he'
    refine ok_ite (fun h => ?_) (fun h => ?_)
    · have h : nI (2 ^ nl) ≤ nI (2 ^ f) := h
      rw [nI_leI (by omega) (by omega)] at h
      exact ok_some ⟨e', f, he', hf, hMe, c1 h, rfl, rfl, rfl, rfl, by dsimp only; omega, by dsimp only; omega, by dsimp only; omega⟩
    · have h : ¬ nI (2 ^ nl) ≤ nI (2 ^ f) := h
      rw [nI_leI (by omega) (by omega)] at h
      have hlt : f < nl := by
        rcases Nat.lt_or_ge f nl with q | q
        · exact q
        · exact absurd (pow_le_k q) h
      have := c2 hlt
      rw [nI_clamp (by omega), gd_t (okg_t (by omega) (by omega) (by omega)), gd_t (okg_t (by omega) (by omega) (by omega))]
      exact ok_some ⟨e', nl, he', hn, hMe, Nat.le_refl _, rfl, rfl, rfl, rfl, by dsimp only; omega, by dsimp only; omega, by dsimp only; omega⟩
  refine ok_ite (fun h => ?_) (fun h => ?_)
  · have h : nI (2 ^ M) ≤ nI (2 ^ e) := h
    rw [nI_leI (by omega) (by omega)] at h
    exact second _ _ e 0 0 he (c1 h) (by omega) (by omega) (by omega)
  · have h : ¬ nI (2 ^ M) ≤ nI (2 ^ e) := h
    rw [nI_leI (by omega) (by omega)] at h
    have hlt : e < M := by
      rcases Nat.lt_or_ge e M with q | q
      · exact q
      · exact absurd (pow_le_k q) h
    have := c2 hlt
    have hc : (nI (2 ^ M)).toNatClampNeg = 2 ^ M := nI_clamp (by omega)
    rw [hc, gd_t (okg_t (by omega) (by omega) (by omega)), gd_t (okg_t (by omega) (by omega) (by omega))]
    exact second _ _ M (0 + 1 + 1) (0 + 2 ^ M + 2 ^ M) hM (Nat.le_refl _) (by omega) (by omega) (by omega)
