/-! joined: the developers' way, whole -/
theorem x_fill_q116 {S : wd_W} {v : Nat} : f_J7_fill_53178_q116 S (nI v) = some (awN (fun _ => v) (S.2.2.1 116) 10) := by
  unfold f_J7_fill_53178_q116
  refine Eq.trans ?_ (eq_for0 (W := fun n i => it2 (f_J7_fill_53178_q116_L5 (nI v)) n (nI i) (awN (fun _ => v) (S.2.2.1 116) i)) (e := 10) (by omega) ?_ ?_)
  · show it2 _ fuel (nI 0) _ = it2 _ fuel (nI 0) (fil _ _ 0)
    rw [fil_0]
  · intro n
    show f_J7_fill_53178_q116_L5 (nI v) _ (nI 10) _ = _
    unfold f_J7_fill_53178_q116_L5
    rw [if_pos (by decide)]
  · intro n i hi
    show f_J7_fill_53178_q116_L5 (nI v) (it2 _ n) (nI i) _ = _
    unfold f_J7_fill_53178_q116_L5
    rw [li_10, if_neg (nI_ge hi (by omega))]
    unfold awN
    rw [← fil_upd]
    simp (disch := omega) only [lz, nI_1, gd_in, nI_clamp]
theorem jL_add {A B : Nat → Nat} {n N p : Nat} (hA : A n < N) (hB : B n < N) (hne : A n ≠ B n) : mk (jL A B (n + 1) p) N = mk (jL A B n p) N ||| (if p = A n then 2 ^ B n else if p = B n then 2 ^ A n else 0) := by
  apply msk_ext (mk_lt _ _) (Nat.or_lt_two_pow (mk_lt _ _) (by
    split
    · exact Nat.pow_lt_pow_right (by decide) hB
    · split
      · exact Nat.pow_lt_pow_right (by decide) hA
      · exact Nat.two_pow_pos N))
  intro v hv
  rw [Nat.testBit_or, mk_bit, mk_bit]
  have hd : decide (v < N) = true := by simp [hv]
  rw [hd, Bool.true_and, Bool.true_and]
  show (jL A B n p v || (!(p == v) && ((A n == p && B n == v) || (A n == v && B n == p)))) = _
  congr 1
  by_cases e1 : p = A n
  · rw [if_pos e1, Nat.testBit_two_pow]
    subst e1
    have b1 : (B n == A n) = false := by simp [Ne.symm hne]
    rw [b1]
    by_cases e2 : B n = v
    · subst e2
      have b2 : (A n == B n) = false := by simp [hne]
      rw [b2]; simp
    · have b3 : (B n == v) = false := by simp [e2]
      rw [b3]; simp [e2]
  · rw [if_neg e1]
    have b1 : (A n == p) = false := by simp; exact fun z => e1 z.symm
    rw [b1]
    by_cases e2 : p = B n
    · rw [if_pos e2, Nat.testBit_two_pow]
      subst e2
      by_cases e3 : A n = v
      · subst e3
        have b2 : (B n == A n) = false := by simp [Ne.symm hne]
        rw [b2]; simp
      · have b3 : (A n == v) = false := by simp [e3]
        rw [b3]; simp [e3]
    · rw [if_neg e2, Nat.zero_testBit]
      have b2 : (B n == p) = false := by simp; exact fun z => e2 z.symm
      rw [b2]; simp
theorem x_joined {S : wd_W} {L : Ld} {a b : Nat} (hL : lOr L) (hl : xL S 16 L) (h : xR S 111 L) (ha : a < l_N L) (hb : b < l_N L) :
    Ok (f_X7_joinedFor_q111 S (nI a) (nI b)) (fun o => ∃ k y, jG (l_N L) y ∧ jS a b (l_N L) k (jL (l_A L) (l_B L) (l_n L)) y ∧ jN a b (l_N L) y ∧ o.1 = nI (jT y (l_N L) / 2)) := by
  obtain ⟨⟨g1, g2, g3⟩, gk, w1, w2, w3, w4⟩ := hL
  simp only [xL, Nat.reduceMul, Nat.reduceAdd] at hl
  obtain ⟨_, hlk, _, _⟩ := hl
  simp only [xR, Nat.reduceMul, Nat.reduceAdd] at h
  obtain ⟨⟨h0, h1, h2, h3⟩, hk⟩ := h
  have hAB : ∀ k, k < l_n L → l_A L k < l_N L ∧ l_B L k < l_N L := fun k hk' => ⟨(gk k hk').1, (gk k hk').2.1⟩
  have hgood := jL_good hAB
  have hT := jT_le (l_n L) hAB
  unfold f_X7_joinedFor_q111
  rw [li_0, bd_s x_fill_q116]
  refine ok_lk ?_
  -- the neighbours
  refine ok_for0 (W := fun n i (m : Nat → Int32) => it2 (f_X7_joinedFor_q111_L10 S _) n (nI i) m) (I := fun i m => jW (l_N L) (jL (l_A L) (l_B L) i) m) (e := l_n L) (by omega) (fun p hp => by
    rw [awN_at (by omega)]
    have : mk (jL (l_A L) (l_B L) 0 p) (l_N L) = 0 := by
      apply Nat.eq_of_testBit_eq
      intro i
      rw [mk_bit, Nat.zero_testBit]; simp [jL]
    rw [this]) ?_ ?_
  · intro n m hI
    show Ok (f_X7_joinedFor_q111_L10 S _ _ (nI (l_n L)) m) _
    unfold f_X7_joinedFor_q111_L10
    rw [h0, if_pos (nI_le (Nat.le_refl _) (by omega))]
    refine ok_lk ?_
    -- the rounds
    refine ok_for0 (W := fun n i (m : Nat → Int32) => it2 (f_X7_joinedFor_q111_L82 S (nI a) (nI b) _) n (nI i) m) (I := fun i m => jW (l_N L) (repA (jR a b (l_N L)) (jL (l_A L) (l_B L) (l_n L)) i) m ∧ jG (l_N L) (repA (jR a b (l_N L)) (jL (l_A L) (l_B L) (l_n L)) i)) (e := l_n L + 1) (by omega) ⟨hI, hgood⟩ ?_ ?_
    · rintro n m ⟨hI, hG⟩
      show Ok (f_X7_joinedFor_q111_L82 S _ _ _ _ (nI (l_n L + 1)) m) _
      unfold f_X7_joinedFor_q111_L82
      rw [h0, if_pos (nI_lt (by omega) (by omega))]
      refine ok_lk ?_
      obtain ⟨y1, y2, k, y3⟩ := jRounds (a := a) (b := b) hgood hT
      generalize repA (jR a b (l_N L)) (jL (l_A L) (l_B L) (l_n L)) (l_n L + 1) = y at hI hG y1 y2 y3
      have hTy : jT y (l_N L) ≤ l_N L * 10 := fb_sm_bound (fun p _ => Nat.le_trans (fb_ct_le _ _) g2)
      have hN10 : l_N L * 10 ≤ 100 := by omega
      refine ok_for0 (W := fun n i (v : Nat) => it2 (f_X7_joinedFor_q111_L137 S m _) n (nI v) (nI i)) (I := fun i v => v = fb_sm (fun p => jD y p (l_N L)) i) (e := l_N L) (s := 0) (by omega) rfl ?_ ?_
      · intro n v hv
        show Ok (f_X7_joinedFor_q111_L137 S m _ _ (nI v) (nI (l_N L))) _
        unfold f_X7_joinedFor_q111_L137
        rw [h3, if_pos (nI_le (Nat.le_refl _) (by omega))]
        have hv2 : v = jT y (l_N L) := hv
        refine ok_some ⟨k, y, y1, y3, y2, ?_⟩
        show nI v / (2 : Int32) = _
        rw [li_2, pk_div (by omega) (by omega) (by omega), hv2]
      · intro n i v hi hv ih
        show Ok (f_X7_joinedFor_q111_L137 S m _ (it2 (f_X7_joinedFor_q111_L137 S m _) n) (nI v) (nI i)) _
        generalize it2 (f_X7_joinedFor_q111_L137 S m _) n = r at ih
        unfold f_X7_joinedFor_q111_L137
        have hm := lt_1024 (mk_lt (y i) (l_N L)) g2
        rw [h3, if_neg (nI_ge hi (by omega)), gd_in (by omega) (by omega), nI_clamp (by omega), hI i hi, bd_s (x_bitCount (by omega)), cnt_mk (y i) (by omega), lz_eq, nI_add, nI_1]
        exact ih _ (by rw [hv, fb_sm_succ]; rfl)
    · rintro n i m hi ⟨hI, hG⟩ ih
      show Ok (f_X7_joinedFor_q111_L82 S _ _ _ (it2 (f_X7_joinedFor_q111_L82 S (nI a) (nI b) _) n) (nI i) m) _
      generalize it2 (f_X7_joinedFor_q111_L82 S (nI a) (nI b) _) n = r at ih
      unfold f_X7_joinedFor_q111_L82
      rw [h0, if_neg (nI_nlt (by omega) (by omega))]
      refine ok_lk ?_
      have hrep : repA (jR a b (l_N L)) (jL (l_A L) (l_B L) (l_n L)) (i + 1) = itf (jP a b (l_N L)) (repA (jR a b (l_N L)) (jL (l_A L) (l_B L) (l_n L)) i) (l_N L) := rfl
      generalize repA (jR a b (l_N L)) (jL (l_A L) (l_B L) (l_n L)) i = z at hI hG hrep
      refine ok_for0 (W := fun n j (m : Nat → Int32) => it2 (f_X7_joinedFor_q111_L93 S (nI a) (nI b) _) n (nI j) m) (I := fun j m => jW (l_N L) (itf (jP a b (l_N L)) z j) m ∧ jG (l_N L) (itf (jP a b (l_N L)) z j)) (e := l_N L) (by omega) ⟨hI, hG⟩ ?_ ?_
      · rintro n m ⟨hI, hG⟩
        show Ok (f_X7_joinedFor_q111_L93 S _ _ _ _ (nI (l_N L)) m) _
        unfold f_X7_joinedFor_q111_L93
        rw [h3, if_pos (nI_le (Nat.le_refl _) (by omega)), nI_1]
        exact ih m ⟨by rw [hrep]; exact hI, by rw [hrep]; exact hG⟩
      · rintro n j m hj ⟨hI, hG⟩ ih2
        show Ok (f_X7_joinedFor_q111_L93 S _ _ _ (it2 (f_X7_joinedFor_q111_L93 S (nI a) (nI b) _) n) (nI j) m) _
        generalize it2 (f_X7_joinedFor_q111_L93 S (nI a) (nI b) _) n = r2 at ih2
        unfold f_X7_joinedFor_q111_L93
        have hst : itf (jP a b (l_N L)) z (j + 1) = jP a b (l_N L) j (itf (jP a b (l_N L)) z j) := rfl
        have hgs := jP_good (a := a) (b := b) (p := j) hG
        generalize itf (jP a b (l_N L)) z j = zz at hI hG hst hgs
        rw [h3, if_neg (nI_ge hj (by omega)), nI_1]
        refine ok_lk (ok_ite (fun c => ?_) (fun c => ok_ite (fun d => ?_) (fun d => ?_)))
        · rw [nI_eq (by omega) (by omega)] at c
          have : jP a b (l_N L) j zz = zz := by unfold jP; rw [if_pos (Or.inl c)]
          exact ih2 m ⟨by rw [hst, this]; exact hI, by rw [hst, this]; exact hG⟩
        · rw [nI_eq (by omega) (by omega)] at d
          have : jP a b (l_N L) j zz = zz := by unfold jP; rw [if_pos (Or.inr d)]
          exact ih2 m ⟨by rw [hst, this]; exact hI, by rw [hst, this]; exact hG⟩
        · rw [nI_eq (by omega) (by omega)] at c d
          refine ok_bd (x_joinAt (S := wd_o S [] [] [(116, m)] [] []) (x := zz) g2 h3 hG hj hI) ?_
          intro o ho
          have : jP a b (l_N L) j zz = if jD zz j (l_N L) ≤ 2 then jE j zz else zz := by
            unfold jP
            rw [if_neg (fun e => by rcases e with e | e; exact c e; exact d e)]
          exact ih2 o ⟨by rw [hst, this]; exact ho, by rw [hst]; exact hgs⟩
  · intro n i m hi hI ih
    show Ok (f_X7_joinedFor_q111_L10 S _ (it2 (f_X7_joinedFor_q111_L10 S _) n) (nI i) m) _
    generalize it2 (f_X7_joinedFor_q111_L10 S _) n = r at ih
    unfold f_X7_joinedFor_q111_L10
    obtain ⟨k1, k2, k3, k4, k5⟩ := hlk i hi
    obtain ⟨a1, a2, a3, a4, a5, a6⟩ := gk i hi
    rw [h0, if_neg (nI_ge hi (by omega)), gd_in (by omega) (by omega), nI_clamp (by omega), k1, k2, gd_in (by omega) (by omega), gd_in (by omega) (by omega), nI_clamp (by omega), nI_clamp (by omega), hI _ a1, oI_pow (by omega), oI_or, lz_eq, gd_in (by omega) (by omega), lz_eq, gd_in (by omega) (by omega), gd_in (by omega) (by omega), gd_in (by omega) (by omega), pk_un (Ne.symm a3), hI _ a2, oI_pow (by omega), oI_or, lz_eq, gd_in (by omega) (by omega), lz_eq, nI_1]
    refine ih _ (fun p hp => ?_)
    rw [jL_add a1 a2 a3]
    by_cases e1 : p = l_B L i
    · subst e1
      rw [pk_us, if_neg (Ne.symm a3), if_pos rfl]
    · rw [pk_un e1]
      by_cases e2 : p = l_A L i
      · subst e2; rw [pk_us, if_pos rfl]
      · rw [pk_un e2, if_neg e2, if_neg e1, or_0]; exact hI p hp
