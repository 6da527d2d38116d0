/-! alone: the developers' -/
theorem x_put_q120 {S : wd_W} {L : Ld} {c ch ls ps : Nat} (hL : lOr L) (hn : l_n L ≤ 12) (h : xR S 111 L) (hc : S.1 12000 = nI c) (hc15 : c < 15) (hls : ls < 2 ^ 12) (hps : ps < 2 ^ 10) :
    f_X10_put_q120 S (nI ch) (nI ls) (nI ps) = some (nI (c + 1), upd (S.2.2.1 121) c (nI ch), upd (S.2.2.1 122) c (nI (hmk L ls ps))) := by
  have hL0 := hL
  obtain ⟨⟨g1, g2, g3⟩, gk, w1, w2, w3, w4⟩ := hL
  simp only [xR, Nat.reduceMul, Nat.reduceAdd] at h
  obtain ⟨⟨h0, h1, h2, h3⟩, hk⟩ := h
  have hloop : ∀ (K : Int32 → Option o_X10_put_q120), it2 (f_X10_put_q120_L6 S (nI ps) K) fuel (nI ls) 0 = K (nI (ls ||| mk (fun i => tM L i &&& ps != 0) (l_n L))) := by
    intro K
    refine Eq.trans ?_ (eq_for0 (W := fun n i => it2 (f_X10_put_q120_L6 S (nI ps) K) n (nI (ls ||| mk (fun i => tM L i &&& ps != 0) i)) (nI i)) (e := l_n L) (by omega) ?_ ?_)
    · show it2 _ fuel (nI ls) (nI 0) = it2 _ fuel (nI (ls ||| 0)) (nI 0)
      rw [or_0]
    · intro n
      show f_X10_put_q120_L6 S (nI ps) _ _ _ (nI (l_n L)) = _
      unfold f_X10_put_q120_L6
      rw [h0, if_pos (nI_le (Nat.le_refl _) (by omega))]
    · intro n i hi
      show f_X10_put_q120_L6 S (nI ps) _ (it2 _ n) _ (nI i) = it2 _ n (nI (ls ||| mk (fun i => tM L i &&& ps != 0) (i + 1))) (nI (i + 1))
      generalize it2 (f_X10_put_q120_L6 S (nI ps) K) n = r
      obtain ⟨k1, k2, k3⟩ := hk i hi
      have htl := lt_1024 (tM_lt hL0 hi).1 g2
      have hand : tM L i &&& ps ≤ tM L i := Nat.and_le_left
      unfold f_X10_put_q120_L6
      rw [h0, if_neg (nI_ge hi (by omega)), mk, ← Nat.or_assoc]
      simp (disch := omega) only [nI_1, gd_in, nI_clamp, k1, oI_and, oI_z, oI_pow, oI_or]
      by_cases c0 : tM L i &&& ps = 0
      · simp [lk, c0]
      · simp [lk, lz, c0]
  unfold f_X10_put_q120
  rw [lk_eq, hloop]
  rw [hc, li_15, if_neg (nI_ge hc15 (by omega))]
  have e12 : nI ps <<< ((12 : Int32) &&& 31) = nI (ps * 2 ^ 12) := by
    rw [li_12s, oI_shl (by omega) (by omega)]
  rw [e12]
  simp (disch := omega) only [lz, gd_in, nI_clamp, nI_1, oI_or]
  rfl
theorem x_put_full {S : wd_W} {L : Ld} {c ch ls ps : Nat} (hL : lOr L) (hn : l_n L ≤ 12) (h : xR S 111 L) (hc : S.1 12000 = nI c) (hc15 : ¬ c < 15) (hc99 : c < 1000) (hls : ls < 2 ^ 12) (hps : ps < 2 ^ 10) :
    f_X10_put_q120 S (nI ch) (nI ls) (nI ps) = some (nI c, S.2.2.1 121, S.2.2.1 122) := by
  have hL0 := hL
  obtain ⟨⟨g1, g2, g3⟩, gk, w1, w2, w3, w4⟩ := hL
  simp only [xR, Nat.reduceMul, Nat.reduceAdd] at h
  obtain ⟨⟨h0, h1, h2, h3⟩, hk⟩ := h
  have hloop : ∀ (K : Int32 → Option o_X10_put_q120), it2 (f_X10_put_q120_L6 S (nI ps) K) fuel (nI ls) 0 = K (nI (ls ||| mk (fun i => tM L i &&& ps != 0) (l_n L))) := by
    intro K
    refine Eq.trans ?_ (eq_for0 (W := fun n i => it2 (f_X10_put_q120_L6 S (nI ps) K) n (nI (ls ||| mk (fun i => tM L i &&& ps != 0) i)) (nI i)) (e := l_n L) (by omega) ?_ ?_)
    · show it2 _ fuel (nI ls) (nI 0) = it2 _ fuel (nI (ls ||| 0)) (nI 0)
      rw [or_0]
    · intro n
      show f_X10_put_q120_L6 S (nI ps) _ _ _ (nI (l_n L)) = _
      unfold f_X10_put_q120_L6
      rw [h0, if_pos (nI_le (Nat.le_refl _) (by omega))]
    · intro n i hi
      show f_X10_put_q120_L6 S (nI ps) _ (it2 _ n) _ (nI i) = it2 _ n (nI (ls ||| mk (fun i => tM L i &&& ps != 0) (i + 1))) (nI (i + 1))
      generalize it2 (f_X10_put_q120_L6 S (nI ps) K) n = r
      obtain ⟨k1, k2, k3⟩ := hk i hi
      have htl := lt_1024 (tM_lt hL0 hi).1 g2
      have hand : tM L i &&& ps ≤ tM L i := Nat.and_le_left
      unfold f_X10_put_q120_L6
      rw [h0, if_neg (nI_ge hi (by omega)), mk, ← Nat.or_assoc]
      simp (disch := omega) only [nI_1, gd_in, nI_clamp, k1, oI_and, oI_z, oI_pow, oI_or]
      by_cases c0 : tM L i &&& ps = 0
      · simp [lk, c0]
      · simp [lk, lz, c0]
  unfold f_X10_put_q120
  rw [lk_eq, hloop]
  rw [hc, li_15, if_pos (nI_le (by omega) (by omega))]

theorem itf_stop {α : Type} {st : Nat → α → α} {a : α} {n : Nat} (h : ∀ i x, n ≤ i → st i x = x) : ∀ m, n ≤ m → itf st a m = itf st a n
  | 0, hm => by have : n = 0 := by omega
                subst this; rfl
  | m + 1, hm => by
    by_cases e : n = m + 1
    · subst e; rfl
    · show st m (itf st a m) = _
      rw [h m _ (by omega), itf_stop h m (by omega)]
theorem apX_12 {L : Ld} (hL : lOk L) {c : Nat} (hc : c < l_c L) (x : Ap) : apX L c x 12 = apX L c x (l_n L) :=
  itf_stop (fun i y hi => by rw [tb_lt (hL.2.2.2.2.1 c hc).2.1 hi]; rfl) 12 hL.1.2.2.1
theorem apY_10 {L : Ld} (hL : lOk L) {c : Nat} (hc : c < l_c L) (x : Ap) : apY L c x 10 = apY L c x (l_N L) :=
  itf_stop (fun i y hi => by rw [tb_lt (hL.2.2.2.2.1 c hc).2.2 hi]; rfl) 10 hL.1.2.1
def xAp (L : Ld) (x : Ap) (v : Int32) (a b : Nat → Int32) : Prop :=
  v = nI (min 15 (l_n L + l_k L + x.1)) ∧ (l_n L + l_k L + x.1 ≤ 15 →
   (∀ t, t < l_n L + l_k L → a t = nI (cha L t) ∧ b t = nI (hT L t)) ∧ ∀ c, c < x.1 → a (l_n L + l_k L + c) = nI (x.2.1 c) ∧ b (l_n L + l_k L + c) = nI (hmk L (x.2.2.1 c) (x.2.2.2 c)))
theorem xAp_put {S : wd_W} {L : Ld} {x : Ap} {v : Int32} {a b : Nat → Int32} {ch ls ps : Nat} (hL : lOk L) (h : xR S 111 L) (hA : xAp L x v a b) (hx : x.1 < 100) (hls : ls < 2 ^ 12) (hps : ps < 2 ^ 10) :
    Ok (f_X10_put_q120 (wd_o S [(12000, v)] [] [(121, a), (122, b)] [] []) (nI ch) (nI ls) (nI ps)) (fun o => xAp L (apI ch ls ps true x) o.1 o.2.1 o.2.2) := by
  have hR := lOk_r hL
  have g3 := hL.1.2.2.1
  have g4 := hL.1.2.2.2.1
  obtain ⟨e1, e2⟩ := hA
  by_cases c : l_n L + l_k L + x.1 < 15
  · have em : min 15 (l_n L + l_k L + x.1) = l_n L + l_k L + x.1 := by omega
    rw [em] at e1
    refine ok_of (x_put_q120 (S := wd_o S [(12000, v)] [] [(121, a), (122, b)] [] []) (c := l_n L + l_k L + x.1) hR g3 h e1 c hls hps) ⟨?_, fun hb => ?_⟩
    · show nI (l_n L + l_k L + x.1 + 1) = nI (min 15 (l_n L + l_k L + (x.1 + 1)))
      congr 1; omega
    · obtain ⟨q1, q2⟩ := e2 (by omega)
      refine ⟨fun t ht => ?_, fun j hj => ?_⟩
      · show upd a _ _ t = _ ∧ upd b _ _ t = _
        rw [pk_un (by omega), pk_un (by omega)]
        exact q1 t ht
      · have hj : j < x.1 + 1 := hj
        show upd a _ _ (l_n L + l_k L + j) = nI (upN x.2.1 x.1 ch j) ∧ upd b _ _ (l_n L + l_k L + j) = nI (hmk L (upN x.2.2.1 x.1 ls j) (upN x.2.2.2 x.1 ps j))
        by_cases e : j = x.1
        · subst e; rw [pk_us, pk_us, upN_s, upN_s, upN_s]; exact ⟨rfl, rfl⟩
        · rw [pk_un (by omega), pk_un (by omega), upN_n e, upN_n e, upN_n e]; exact q2 j (by omega)
  · have em : min 15 (l_n L + l_k L + x.1) = 15 := by omega
    rw [em] at e1
    refine ok_of (x_put_full (S := wd_o S [(12000, v)] [] [(121, a), (122, b)] [] []) (c := 15) hR g3 h e1 (by omega) (by omega) hls hps) ⟨?_, fun hb => ?_⟩
    · show nI 15 = nI (min 15 (l_n L + l_k L + (x.1 + 1)))
      congr 1; omega
    · exfalso
      have hb : l_n L + l_k L + (x.1 + 1) ≤ 15 := hb
      omega
theorem x_putApart {S : wd_W} {L : Ld} {x : Ap} {v : Int32} {a b : Nat → Int32} {c : Nat} (hL : lOk L) (h : xR S 111 L) (hA : xAp L x v a b) (hc : c < l_c L) (hx : x.1 ≤ 24 * c) (hc3 : c < 3) :
    Ok (f_X10_putApart_q120 (wd_o S [(12000, v)] [] [(121, a), (122, b)] [] []) (nI (l_R L c)) (nI (l_X L c)) (nI (l_Y L c))) (fun o => xAp L (apC L c x) o.1 o.2.1 o.2.2) := by
  have g2 := hL.1.2.1
  have g3 := hL.1.2.2.1
  obtain ⟨_, c2, c3⟩ := hL.2.2.2.2.1 c hc
  have cX : l_X L c < 4096 := Nat.lt_of_lt_of_le c2 (pow_le_k (n := 12) g3)
  have cY : l_Y L c < 1024 := Nat.lt_of_lt_of_le c3 (pow_le_k (n := 10) g2)
  unfold f_X10_putApart_q120
  refine ok_lk ?_
  rw [li_0]
  refine ok_for0 (W := fun m i (s : Int32 × (Nat → Int32) × (Nat → Int32)) => it4 (f_X10_putApart_q120_L3 _ (nI (l_R L c)) (nI (l_X L c)) _) m (nI i) s.1 s.2.1 s.2.2) (I := fun i s => xAp L (apX L c x i) s.1 s.2.1 s.2.2) (e := 12) (s := (v, a, b)) (by omega) hA ?_ ?_
  · rintro m ⟨v1, a1, b1⟩ hI
    dsimp only at hI
    show Ok (f_X10_putApart_q120_L3 _ (nI (l_R L c)) (nI (l_X L c)) _ _ (nI 12) v1 a1 b1) _
    unfold f_X10_putApart_q120_L3
    rw [li_12, if_pos (nI_le (Nat.le_refl _) (by omega))]
    refine ok_for0 (W := fun m i (s : Int32 × (Nat → Int32) × (Nat → Int32)) => it4 (f_X10_putApart_q120_L38 _ (nI (l_R L c)) (nI (l_Y L c))) m (nI i) s.1 s.2.1 s.2.2) (I := fun i s => xAp L (apY L c (apX L c x 12) i) s.1 s.2.1 s.2.2) (e := 10) (s := (v1, a1, b1)) (by omega) hI ?_ ?_
    · rintro m ⟨v2, a2, b2⟩ hI2
      dsimp only at hI2
      show Ok (f_X10_putApart_q120_L38 _ (nI (l_R L c)) (nI (l_Y L c)) _ (nI 10) v2 a2 b2) _
      unfold f_X10_putApart_q120_L38
      rw [li_10, if_pos (nI_le (Nat.le_refl _) (by omega))]
      refine ok_some ?_
      show xAp L (apY L c (apX L c x (l_n L)) (l_N L)) v2 a2 b2
      rw [← apX_12 hL hc, ← apY_10 hL hc]
      exact hI2
    · rintro m i ⟨v2, a2, b2⟩ hi hI2 ih
      dsimp only at hI2
      show Ok (f_X10_putApart_q120_L38 _ (nI (l_R L c)) (nI (l_Y L c)) (it4 _ m) (nI i) v2 a2 b2) _
      generalize it4 (f_X10_putApart_q120_L38 _ (nI (l_R L c)) (nI (l_Y L c))) m = r at ih
      have hb := (ap_bnd (c := c) (m := 12) hL hx (by omega) (by omega)).2 i (by omega)
      unfold f_X10_putApart_q120_L38
      rw [li_10, if_neg (nI_ge hi (by omega)), nI_1]
      refine ok_lk (ok_ite (fun z => ?_) (fun z => ?_))
      · rw [oI_bit0 (by omega) (by omega)] at z
        refine ih (v2, a2, b2) ?_
        have hstep : apY L c (apX L c x 12) (i + 1) = apY L c (apX L c x 12) i := by show apI _ _ _ _ (apY L c (apX L c x 12) i) = _; rw [z]; rfl
        rw [hstep]; exact hI2
      · rw [oI_bit0 (by omega) (by omega)] at z
        have z : (l_Y L c).testBit i = true := by simpa using z
        rw [oI_pow (by omega), li_0]
        refine ok_bd (xAp_put (ch := l_R L c) (ls := 0) (ps := 2 ^ i) hL h hI2 (by omega) (by omega) (Nat.pow_lt_pow_right (by decide) hi)) ?_
        intro o ho
        refine ih (o.1, o.2.1, o.2.2) ?_
        have hstep : apY L c (apX L c x 12) (i + 1) = apI (l_R L c) 0 (2 ^ i) true (apY L c (apX L c x 12) i) := by show apI _ _ _ _ (apY L c (apX L c x 12) i) = _; rw [z]
        rw [hstep]; exact ho
  · rintro m i ⟨v1, a1, b1⟩ hi hI ih
    dsimp only at hI
    show Ok (f_X10_putApart_q120_L3 _ (nI (l_R L c)) (nI (l_X L c)) _ (it4 _ m) (nI i) v1 a1 b1) _
    generalize it4 (f_X10_putApart_q120_L3 _ (nI (l_R L c)) (nI (l_X L c)) _) m = r at ih
    have hb := (ap_bnd (c := c) (m := i) hL hx (by omega) (by omega)).1
    unfold f_X10_putApart_q120_L3
    rw [li_12, if_neg (nI_ge hi (by omega)), nI_1]
    refine ok_lk (ok_ite (fun z => ?_) (fun z => ?_))
    · rw [oI_bit0 (by omega) (by omega)] at z
      refine ih (v1, a1, b1) ?_
      have hstep : apX L c x (i + 1) = apX L c x i := by show apI _ _ _ _ (apX L c x i) = _; rw [z]; rfl
      rw [hstep]; exact hI
    · rw [oI_bit0 (by omega) (by omega)] at z
      have z : (l_X L c).testBit i = true := by simpa using z
      rw [oI_pow (by omega), li_0]
      refine ok_bd (xAp_put (ch := l_R L c) (ls := 2 ^ i) (ps := 0) hL h hI (by omega) (Nat.pow_lt_pow_right (by decide) hi) (by omega)) ?_
      intro o ho
      refine ih (o.1, o.2.1, o.2.2) ?_
      have hstep : apX L c x (i + 1) = apI (l_R L c) (2 ^ i) 0 true (apX L c x i) := by show apI _ _ _ _ (apX L c x i) = _; rw [z]
      rw [hstep]; exact ho
theorem x_take_q120 {S : wd_W} {L : Ld} (hL : lOk L) (hc3 : l_c L ≤ 3) (hl : xL S 16 L) (h : xR S 111 L) :
    Ok (f_X10_take_q120 S 1) (fun o => xAp L (apF L (l_c L)) o.1 o.2.1 o.2.2) := by
  have hL0 := hL
  have hR := lOk_r hL
  have hxR := h
  obtain ⟨⟨g1, g2, g3, g4, g5, g6⟩, gk, gj, gu, gc, gw⟩ := hL
  have hM : l_n L + l_k L + l_c L ≤ 15 := g6
  simp only [xL, Nat.reduceMul, Nat.reduceAdd] at hl
  obtain ⟨⟨l0, l1, l7, l10, l14, l15, l16, l17⟩, lk1, lk2, lk3⟩ := hl
  unfold f_X10_take_q120
  have base : ∀ (x : Nat) (a b : Nat → Int32) (ch ls ps : Nat), x < 15 → ls < 2 ^ 12 → ps < 2 ^ 10 → ch = cha L x → hmk L ls ps = hT L x → (∀ t, t < x → a t = nI (cha L t) ∧ b t = nI (hT L t)) → f_X10_put_q120 (wd_o S [(12000, nI x)] [] [(121, a), (122, b)] [] []) (nI ch) (nI ls) (nI ps) = some (nI (x + 1), upd a x (nI ch), upd b x (nI (hT L x))) ∧ ∀ t, t < x + 1 → upd a x (nI ch) t = nI (cha L t) ∧ upd b x (nI (hT L x)) t = nI (hT L t) := by
    intro x a b ch ls ps hx hls hps hch hhm hab
    constructor
    · rw [x_put_q120 (S := wd_o S [(12000, nI x)] [] [(121, a), (122, b)] [] []) (c := x) hR g3 hxR rfl hx hls hps, hhm]
      rfl
    · intro t ht
      by_cases e : t = x
      · subst e; rw [pk_us, pk_us, hch]; exact ⟨rfl, rfl⟩
      · rw [pk_un e, pk_un e]; exact hab t (by omega)
  refine ok_lk ?_
  rw [li_0]
  refine ok_for0 (W := fun n i (s : (Nat → Int32) × (Nat → Int32)) => it4 (f_X10_take_q120_L7 S _) n (nI i) (nI i) s.1 s.2) (I := fun i s => ∀ t, t < i → s.1 t = nI (cha L t) ∧ s.2 t = nI (hT L t)) (e := l_n L) (s := (S.2.2.1 121, S.2.2.1 122)) (by omega) (fun t ht => by omega) ?_ ?_
  · intro n s hI
    show Ok (f_X10_take_q120_L7 S _ _ (nI (l_n L)) (nI (l_n L)) s.1 s.2) _
    unfold f_X10_take_q120_L7
    rw [l1, if_pos (nI_le (Nat.le_refl _) (by omega))]
    refine ok_lk ?_
    refine ok_for0 (W := fun n i (s : (Nat → Int32) × (Nat → Int32)) => it4 (f_X10_take_q120_L43 S _) n (nI i) (nI (l_n L + i)) s.1 s.2) (I := fun i s => ∀ t, t < l_n L + i → s.1 t = nI (cha L t) ∧ s.2 t = nI (hT L t)) (e := l_k L) (s := s) (by omega) hI ?_ ?_
    · intro n s hI
      show Ok (f_X10_take_q120_L43 S _ _ (nI (l_k L)) (nI (l_n L + l_k L)) s.1 s.2) _
      unfold f_X10_take_q120_L43
      rw [l7, if_pos (nI_le (Nat.le_refl _) (by omega))]
      refine ok_for0 (W := fun n i (s : Int32 × (Nat → Int32) × (Nat → Int32)) => it4 (f_X10_take_q120_L87 S 1) n (nI i) s.1 s.2.1 s.2.2) (I := fun i s => xAp L (apF L i) s.1 s.2.1 s.2.2) (e := l_c L) (s := (nI (l_n L + l_k L), s.1, s.2)) (by omega) ⟨by show nI (l_n L + l_k L) = nI (min 15 (l_n L + l_k L + 0)); congr 1; omega, fun _ => ⟨hI, fun c hc => absurd hc (Nat.not_lt_zero c)⟩⟩ ?_ ?_
      · rintro n ⟨v2, a2, b2⟩ hI2
        show Ok (f_X10_take_q120_L87 S _ _ (nI (l_c L)) v2 a2 b2) _
        unfold f_X10_take_q120_L87
        rw [l10, if_pos (nI_le (Nat.le_refl _) (by omega))]
        exact ok_some hI2
      · rintro n i ⟨v2, a2, b2⟩ hi hI2 ih
        show Ok (f_X10_take_q120_L87 S _ (it4 _ n) (nI i) v2 a2 b2) _
        generalize it4 (f_X10_take_q120_L87 S _) n = r at ih
        dsimp only at hI2
        obtain ⟨d1, d2, d3⟩ := lk3 i hi
        have hb := apF_le hL0 (show i ≤ l_c L by omega)
        unfold f_X10_take_q120_L87
        rw [l10, if_neg (nI_ge hi (by omega))]
        refine ok_lk (ok_ite (fun z => absurd z (by decide)) (fun _ => ?_))
        rw [gd_in (by omega) (by omega), gd_in (by omega) (by omega), gd_in (by omega) (by omega), nI_clamp (by omega), d1, d2, d3, nI_1]
        refine ok_bd (x_putApart hL0 hxR hI2 hi (by omega) (by omega)) ?_
        intro o ho
        exact ih (o.1, o.2.1, o.2.2) ho
    · intro n i s hi hI ih
      show Ok (f_X10_take_q120_L43 S _ (it4 _ n) (nI i) (nI (l_n L + i)) s.1 s.2) _
      generalize it4 (f_X10_take_q120_L43 S _) n = r at ih
      obtain ⟨c1, c2⟩ := gj i hi
      obtain ⟨d1, d2⟩ := lk2 i hi
      unfold f_X10_take_q120_L43
      rw [l7, if_neg (nI_ge hi (by omega)), gd_in (by omega) (by omega), gd_in (by omega) (by omega), nI_clamp (by omega), d1, d2, oI_pow (by omega)]
      obtain ⟨e1, e2⟩ := base (l_n L + i) s.1 s.2 (l_Q L i) 0 (2 ^ l_P L i) (by omega) (by omega) (Nat.pow_lt_pow_right (by decide) (by omega)) (by unfold cha; rw [if_neg (by omega), if_pos (by omega), show l_n L + i - l_n L = i by omega]) (hT_1 hi).symm hI
      rw [li_0, bd_s e1, nI_1]
      exact ih (_, _) e2
  · intro n i s hi hI ih
    show Ok (f_X10_take_q120_L7 S _ (it4 _ n) (nI i) (nI i) s.1 s.2) _
    generalize it4 (f_X10_take_q120_L7 S _) n = r at ih
    obtain ⟨d1, d2, d3, d4, d5⟩ := lk1 i hi
    unfold f_X10_take_q120_L7
    rw [l1, if_neg (nI_ge hi (by omega)), gd_in (by omega) (by omega), nI_clamp (by omega), d3, oI_pow (by omega)]
    obtain ⟨e1, e2⟩ := base i s.1 s.2 (l_C L i) (2 ^ i) 0 (by omega) (Nat.pow_lt_pow_right (by decide) (by omega)) (by omega) (by unfold cha; rw [if_pos hi]) (hT_0 hi).symm hI
    rw [li_0, bd_s e1, nI_1]
    exact ih (_, _) e2
theorem x_harmIn {S : wd_W} {M s : Nat} {H : Nat → Nat} (h0 : S.1 12000 = nI M) (hM : M ≤ 15) (hH : ∀ t, t < M → S.2.2.1 122 t = nI (H t)) (hs : s < 32768) : f_X10_harmIn_q120 S (nI s) = some (nI (hmF H M s)) := by
  unfold f_X10_harmIn_q120
  rw [li_0]
  refine Eq.trans ?_ (eq_for0 (W := fun m i => it2 (f_X10_harmIn_q120_L4 S (nI s)) m (nI (hmF H i s)) (nI i)) (e := M) (by omega) ?_ ?_)
  · rfl
  · intro m
    show f_X10_harmIn_q120_L4 S (nI s) _ _ (nI M) = _
    unfold f_X10_harmIn_q120_L4
    rw [h0, if_pos (nI_le (Nat.le_refl _) (by omega))]
  · intro m i hi
    show f_X10_harmIn_q120_L4 S (nI s) (it2 _ m) (nI (hmF H i s)) (nI i) = it2 (f_X10_harmIn_q120_L4 S (nI s)) m (nI (hmF H i s ||| (if s.testBit i = true then 0 else H i))) (nI (i + 1))
    generalize it2 (f_X10_harmIn_q120_L4 S (nI s)) m = r
    unfold f_X10_harmIn_q120_L4
    rw [h0, if_neg (nI_ge hi (by omega)), nI_1, lk_eq]
    by_cases hb : s.testBit i = true
    · rw [if_neg (fun z => by rw [oI_bit0 (by omega) (by omega), hb] at z; cases z), if_pos hb, Nat.or_zero]
    · have hb : s.testBit i = false := by simpa using hb
      rw [if_pos ((oI_bit0 (by omega) (by omega)).mpr hb), gd_in (by omega) (by omega), nI_clamp (by omega), hH i hi, oI_or, lz_eq, hb, if_neg (show ¬ (false = true) by decide)]
/-- a product from a thing on -/
def pdF (h f : Nat → Nat) (a s : Nat) : Nat → Nat
  | 0 => 1
  | n + 1 => pdF h f a s n * (if s.testBit (a + n) = true then h (a + n) else f (a + n))
theorem pdF_0 (h f : Nat → Nat) (s : Nat) : ∀ n, pdF h f 0 s n = wtF h f n s
  | 0 => rfl
  | n + 1 => by rw [pdF, wtF, pdF_0 h f s n, Nat.zero_add]
theorem x_product_q120 {S : wd_W} {M s a : Nat} {h : Nat → Nat} (h0 : S.1 12000 = nI M) (hM : M ≤ 15) (ha : a ≤ M) (hh : ∀ t, t < M → S.2.2.1 121 t = nI (h t) ∧ h t ≤ 16) (hs : s < 32768) : f_X10_product_q120 S (nI s) (nI a) = some (lN (pdF h (fun t => 16 - h t) a s (M - a))) := by
  unfold f_X10_product_q120
  rw [show (1 : Int64) = lN 1 from rfl]
  refine Eq.trans ?_ (eq_for0 (W := fun m i => it2 (f_X10_product_q120_L5 S (nI s)) m (lN (pdF h (fun t => 16 - h t) a s i)) (nI (a + i))) (e := M - a) (by omega) ?_ ?_)
  · rfl
  · intro m
    show f_X10_product_q120_L5 S (nI s) _ _ (nI (a + (M - a))) = _
    unfold f_X10_product_q120_L5
    rw [h0, if_pos (nI_le (by omega) (by omega))]
  · intro m i hi
    show f_X10_product_q120_L5 S (nI s) (it2 _ m) (lN (pdF h (fun t => 16 - h t) a s i)) (nI (a + i)) = it2 (f_X10_product_q120_L5 S (nI s)) m (lN (pdF h (fun t => 16 - h t) a s i * (if s.testBit (a + i) = true then h (a + i) else 16 - h (a + i)))) (nI (a + i + 1))
    generalize it2 (f_X10_product_q120_L5 S (nI s)) m = r
    obtain ⟨d1, d2⟩ := hh (a + i) (by omega)
    unfold f_X10_product_q120_L5
    rw [h0, if_neg (nI_ge (by omega) (by omega)), nI_1, lk_eq]
    by_cases hb : s.testBit (a + i) = true
    · rw [if_neg (fun z => by rw [oI_bit0 (by omega) (by omega), hb] at z; cases z), if_pos hb, gd_in (by omega) (by omega), nI_clamp (by omega), d1, nI_l (by omega)]
      dsimp only
      rw [lz_eq, lN_mul]
    · have hb : s.testBit (a + i) = false := by simpa using hb
      rw [if_pos ((oI_bit0 (by omega) (by omega)).mpr hb), gd_in (by omega) (by omega), nI_clamp (by omega), d1, li_16, pk_sub d2, nI_l (by omega)]
      dsimp only
      rw [lz_eq, lN_mul, hb, if_neg (show ¬ (false = true) by decide)]
theorem x_product_q117 {S : wd_W} {M s a : Nat} {h : Nat → Nat} (h0 : S.1 11700 = nI M) (hM : M ≤ 15) (ha : a ≤ M) (hh : ∀ t, t < M → S.2.2.1 118 t = nI (h t) ∧ h t ≤ 16) (hs : s < 32768) : f_X10_product_q117 S (nI s) (nI a) = some (lN (pdF h (fun t => 16 - h t) a s (M - a))) := by
  unfold f_X10_product_q117
  rw [show (1 : Int64) = lN 1 from rfl]
  refine Eq.trans ?_ (eq_for0 (W := fun m i => it2 (f_X10_product_q117_L5 S (nI s)) m (lN (pdF h (fun t => 16 - h t) a s i)) (nI (a + i))) (e := M - a) (by omega) ?_ ?_)
  · rfl
  · intro m
    show f_X10_product_q117_L5 S (nI s) _ _ (nI (a + (M - a))) = _
    unfold f_X10_product_q117_L5
    rw [h0, if_pos (nI_le (by omega) (by omega))]
  · intro m i hi
    show f_X10_product_q117_L5 S (nI s) (it2 _ m) (lN (pdF h (fun t => 16 - h t) a s i)) (nI (a + i)) = it2 (f_X10_product_q117_L5 S (nI s)) m (lN (pdF h (fun t => 16 - h t) a s i * (if s.testBit (a + i) = true then h (a + i) else 16 - h (a + i)))) (nI (a + i + 1))
    generalize it2 (f_X10_product_q117_L5 S (nI s)) m = r
    obtain ⟨d1, d2⟩ := hh (a + i) (by omega)
    unfold f_X10_product_q117_L5
    rw [h0, if_neg (nI_ge (by omega) (by omega)), nI_1, lk_eq]
    by_cases hb : s.testBit (a + i) = true
    · rw [if_neg (fun z => by rw [oI_bit0 (by omega) (by omega), hb] at z; cases z), if_pos hb, gd_in (by omega) (by omega), nI_clamp (by omega), d1, nI_l (by omega)]
      dsimp only
      rw [lz_eq, lN_mul]
    · have hb : s.testBit (a + i) = false := by simpa using hb
      rw [if_pos ((oI_bit0 (by omega) (by omega)).mpr hb), gd_in (by omega) (by omega), nI_clamp (by omega), d1, li_16, pk_sub d2, nI_l (by omega)]
      dsimp only
      rw [lz_eq, lN_mul, hb, if_neg (show ¬ (false = true) by decide)]
theorem x_after {S : wd_W} {L : Ld} {H : Nat} (hL : lOk L) (h : xS S L) (hN : xN S) (hH : H < 2 ^ 22) : f_X8_isThroughAfter_q106 S (nI H) = some (nI (b2n (decide (H >>> 12 &&& neM L = 0) && carB L (ndn (2 ^ l_n L - 1) H)))) := by
  obtain ⟨⟨⟨h0, h1, h2, h3⟩, hk⟩, k2, k3, k4, kt, ks, kj, l7, l9, l8, l10⟩ := h
  obtain ⟨e, f, he, hf, n7, n9, n8, n10⟩ := hN
  have pf : 2 ^ f ≤ 4096 := pow_le_k (n := 12) hf
  have p0 := Nat.two_pow_pos (l_n L)
  have hnd : ndn (2 ^ l_n L - 1) H < 2 ^ l_n L := ndn_lt (by omega)
  obtain ⟨j1, j2⟩ := kj _ hnd
  unfold f_X8_isThroughAfter_q106
  have q2 : S.1 11102 = nI (neM L) := h2
  have e12 : nI H >>> ((12 : Int32) &&& 31) = nI (H >>> 12) := by
    rw [li_12s, oI_shr (by omega) (by omega)]
  have hsh : H >>> 12 ≤ H := by rw [Nat.shiftRight_eq_div_pow]; exact Nat.div_le_self _ _
  have hand : H >>> 12 &&& neM L ≤ H >>> 12 := Nat.and_le_left
  rw [q2, k3, e12, oI_and, oI_ndn, gd_in (by omega) (by omega), nI_clamp (by omega), j1]
  simp (disch := omega) only [oI_z]
  by_cases c1 : H >>> 12 &&& neM L = 0
  · rw [if_pos c1, decide_eq_true c1]
    cases carB L (ndn (2 ^ l_n L - 1) H) <;> rfl
  · rw [if_neg c1, decide_eq_false c1]; rfl
theorem apL_thr {L : Ld} (hL : lOk L) (hq : l_n L + l_k L + apq L ≤ 15) (s : Nat) : (decide (hmF (hT (apL L)) (l_n L + l_k L + apq L) s >>> 12 &&& neM L = 0) && carB L (ndn (2 ^ l_n L - 1) (hmF (hT (apL L)) (l_n L + l_k L + apq L) s))) = thB (apL L) s := by
  have h := hm_thr (apL_ok hL hq) s
  have e1 : neM (apL L) = neM L := rfl
  have e2 : ∀ op, carB (apL L) op = carB L op := fun op => rfl
  rw [e1, e2] at h
  rw [Bool.eq_iff_iff, h, Bool.and_eq_true, decide_eq_true_eq]
  exact Iff.rfl
theorem x_throughApart {S : wd_W} {L : Ld} (hL : lOk L) (hc3 : l_c L ≤ 3) (hl : xL S 16 L) (h : xS S L) (hN : xN S) (hq : l_n L + l_k L + apq L ≤ 15) :
    Ok (f_X8_throughApart_q106 S) (fun o => o.1 = lN (aloN L)) := by
  have hL' := apL_ok hL hq
  have pq := pow_le15 hq
  unfold f_X8_throughApart_q106
  refine ok_bd (x_take_q120 (S := wd_o S [(12000, (S.1 12000))] [] [(121, (S.2.2.1 121)), (122, (S.2.2.1 122))] [] []) hL hc3 hl h.1) ?_
  rintro ⟨v, a, b⟩ ⟨e1, e2⟩
  dsimp only at e1 e2
  have e1 : v = nI (l_n L + l_k L + apq L) := by
    rw [e1]; congr 1
    show min 15 (l_n L + l_k L + apq L) = _
    omega
  subst e1
  obtain ⟨q1, q2⟩ := e2 hq
  have hrow : ∀ t, t < l_n L + l_k L + apq L → a t = nI (cha (apL L) t) ∧ b t = nI (hT (apL L) t) := by
    intro t ht
    by_cases c : t < l_n L + l_k L
    · obtain ⟨z1, z2⟩ := q1 t c
      rw [z1, z2]
      unfold cha hT
      by_cases d : t < l_n L
      · rw [if_pos d, if_pos d]; exact ⟨congrArg nI (if_pos d).symm, congrArg nI (if_pos d).symm⟩
      · rw [if_neg d, if_neg d, if_pos c, if_pos c]
        constructor
        · congr 1
          show _ = if t < l_n L then _ else if t < l_n L + l_k L then _ else _
          rw [if_neg d, if_pos c]; rfl
        · congr 1
          show _ = if t < l_n L then _ else if t < l_n L + l_k L then _ else _
          rw [if_neg d, if_pos c]; rfl
    · obtain ⟨j, rfl⟩ : ∃ j, t = l_n L + l_k L + j := ⟨t - (l_n L + l_k L), by omega⟩
      obtain ⟨z1, z2⟩ := q2 j (by show j < apq L; omega)
      rw [z1, z2]
      constructor
      · congr 1
        show _ = if l_n L + l_k L + j < l_n L then _ else if l_n L + l_k L + j < l_n L + l_k L then _ else (apF L (l_c L)).2.1 (l_n L + l_k L + j - l_n L - l_k L)
        rw [if_neg (by omega), if_neg (by omega), show l_n L + l_k L + j - l_n L - l_k L = j by omega]
      · congr 1
        exact (hT_2 (apL L) j).symm
  rw [li_0, lN_0]
  refine ok_for0 (W := fun m i (x : Int64) => it2 (f_X8_throughApart_q106_L12 S (nI (l_n L + l_k L + apq L), a, b)) m x (nI i)) (I := fun i x => x = lN (fb_sm (fun s => if thB (apL L) s = true then wt (apL L) s else 0) i)) (e := 2 ^ (l_n L + l_k L + apq L)) (by omega) rfl ?_ ?_
  · intro m x hI
    show Ok (f_X8_throughApart_q106_L12 S (nI (l_n L + l_k L + apq L), a, b) _ x (nI (2 ^ (l_n L + l_k L + apq L)))) _
    unfold f_X8_throughApart_q106_L12
    rw [oI_pow (by omega), if_pos (nI_le (Nat.le_refl _) (by omega))]
    exact ok_some hI
  · intro m i x hi hI ih
    show Ok (f_X8_throughApart_q106_L12 S (nI (l_n L + l_k L + apq L), a, b) (it2 _ m) x (nI i)) _
    generalize it2 (f_X8_throughApart_q106_L12 S (nI (l_n L + l_k L + apq L), a, b)) m = r at ih
    have hlt : hmF (hT (apL L)) (l_n L + l_k L + apq L) i < 2 ^ 22 := hmF_lt (fun t ht => hT_lt hL' ht) i
    unfold f_X8_throughApart_q106_L12
    rw [oI_pow (by omega), if_neg (nI_ge hi (by omega)), bd_s (x_harmIn (S := wd_o S [(12000, nI (l_n L + l_k L + apq L))] [] [(121, a), (122, b)] [] []) (M := l_n L + l_k L + apq L) (H := hT (apL L)) rfl hq (fun t ht => (hrow t ht).2) (by omega)), bd_s (x_after (S := wd_o S [(12000, nI (l_n L + l_k L + apq L))] [] [(121, a), (122, b)] [] []) hL h hN hlt), apL_thr hL hq, nI_1]
    refine ok_lk (ok_b (fun hb => ih _ ?_) (fun hb => ?_))
    · rw [fb_sm_succ, hb, hI]; rfl
    · rw [li_0, bd_s (x_product_q120 (S := wd_o S [(12000, nI (l_n L + l_k L + apq L))] [] [(121, a), (122, b)] [] []) (M := l_n L + l_k L + apq L) (a := 0) (h := cha (apL L)) rfl hq (Nat.zero_le _) (fun t ht => ⟨(hrow t ht).1, cha_le hL' ht⟩) (by omega)), lz_eq, Nat.sub_zero, pdF_0, hI, lN_add]
      refine ih _ ?_
      rw [fb_sm_succ, hb]; rfl
theorem x_thingsApart {S : wd_W} {L : Ld} (hL : lOk L) (hc3 : l_c L ≤ 3) (hl : xL S 16 L) : f_X2_thingsApart_q16 S = some (nI (l_n L + l_k L + apq L)) := by
  have g2 := hL.1.2.1
  have g3 := hL.1.2.2.1
  obtain ⟨⟨l0, l1, l7, l10, _⟩, _, _, lk3⟩ := hl
  have l1 : S.1 1601 = nI (l_n L) := l1
  have l7 : S.1 1607 = nI (l_k L) := l7
  have l10 : S.1 1610 = nI (l_c L) := l10
  unfold f_X2_thingsApart_q16
  rw [l1, l7, nI_add, lz_eq, li_0]
  have e : l_n L + l_k L + apq L = l_n L + l_k L + fb_sm (fun c => cnt (l_X L c) 12 + cnt (l_Y L c) 12) (l_c L) := by unfold apq; rw [apF_1 hL _ (Nat.le_refl _)]
  rw [e]
  refine Eq.trans ?_ (eq_for0 (W := fun m i => it2 (f_X2_thingsApart_q16_L12 S) m (nI (l_n L + l_k L + fb_sm (fun c => cnt (l_X L c) 12 + cnt (l_Y L c) 12) i)) (nI i)) (e := l_c L) (by omega) ?_ ?_)
  · rfl
  · intro m
    show f_X2_thingsApart_q16_L12 S _ _ (nI (l_c L)) = _
    unfold f_X2_thingsApart_q16_L12
    rw [l10, if_pos (nI_le (Nat.le_refl _) (by omega))]
  · intro m i hi
    show f_X2_thingsApart_q16_L12 S (it2 _ m) _ (nI i) = it2 (f_X2_thingsApart_q16_L12 S) m _ (nI (i + 1))
    generalize it2 (f_X2_thingsApart_q16_L12 S) m = r
    obtain ⟨_, c2, c3⟩ := hL.2.2.2.2.1 i hi
    have cX : l_X L i < 4096 := Nat.lt_of_lt_of_le c2 (pow_le_k (n := 12) g3)
    have cY : l_Y L i < 1024 := Nat.lt_of_lt_of_le c3 (pow_le_k (n := 10) g2)
    obtain ⟨d1, d2, d3⟩ := lk3 i hi
    have d2 : S.2.2.1 25 i = nI (l_X L i) := d2
    have d3 : S.2.2.1 26 i = nI (l_Y L i) := d3
    unfold f_X2_thingsApart_q16_L12
    rw [l10, if_neg (nI_ge hi (by omega)), gd_in (by omega) (by omega), nI_clamp (by omega), d2, bd_s (x_bitCount (by omega)), gd_in (by omega) (by omega), d3, bd_s (x_bitCount (by omega)), lz_eq, nI_add, nI_add, nI_1, fb_sm_succ, Nat.add_assoc (l_n L + l_k L)]
