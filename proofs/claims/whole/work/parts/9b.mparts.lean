/-! the reference: parted, and whole again -/
theorem ap_bnd {L : Ld} (hL : lOk L) {c m : Nat} {x : Ap} (hx : x.1 ≤ 24 * c) (hc : c < 15) (hm : m ≤ 12) : (apX L c x m).1 ≤ 24 * c + 12 ∧ ∀ n, n ≤ 12 → (apY L c (apX L c x m) n).1 ≤ 24 * c + 24 := by
  have h1 := cnt_le (l_X L c) m
  constructor
  · rw [apX_1]; omega
  · intro n hn
    have h2 := cnt_le (l_Y L c) n
    rw [apY_1, apX_1]; omega
theorem m_partsX {S : wd_W} {L : Ld} {a1 a5 a8 a18 : Nat → Int32} {c : Nat} {x : Ap} {v : Int32} {a13 a16 : Nat → Int32} {Q : o_X12_parts → Prop} (hL : lOk L) (h21 : S.1 21 = nI (l_n L)) (hc : c < l_c L)
    (h5 : ∀ k, k < l_n L → a5 k = nI (lcm L k)) (h1 : ∀ t, t < l_M L → a1 t = nI (cha L t)) (hx : x.1 ≤ 24 * c) (K : Int32 → (Nat → Int32) → (Nat → Int32) → Option o_X12_parts) (h : mAp L x v a13 a18 a16)
    (hK : ∀ v' a13' a16', mAp L (apX L c x (l_n L)) v' a13' a18 a16' → Ok (K v' a13' a16') Q) :
    Ok (it4 (f_X12_parts_L135 S a1 a5 a8 a18 (nI (l_n L + l_k L + c)) K) fuel 0 v a13 a16) Q := by
  have g3 := hL.1.2.2.1
  have hM : l_n L + l_k L + l_c L ≤ 15 := lM_15 hL
  have hch : cha L (l_n L + l_k L + c) = l_R L c := by unfold cha; rw [if_neg (by omega), if_neg (by omega), show l_n L + l_k L + c - l_n L - l_k L = c by omega]
  rw [li_0]
  refine ok_for0 (W := fun m i (s : Int32 × (Nat → Int32) × (Nat → Int32)) => it4 (f_X12_parts_L135 S a1 a5 a8 a18 (nI (l_n L + l_k L + c)) K) m (nI i) s.1 s.2.1 s.2.2) (I := fun i s => mAp L (apX L c x i) s.1 s.2.1 a18 s.2.2) (e := l_n L) (s := (v, a13, a16)) (by omega) h ?_ ?_
  · rintro m ⟨v', a13', a16'⟩ hI
    show Ok (f_X12_parts_L135 S a1 a5 a8 a18 (nI (l_n L + l_k L + c)) K _ (nI (l_n L)) v' a13' a16') _
    unfold f_X12_parts_L135
    rw [h21, if_pos (nI_le (Nat.le_refl _) (by omega))]
    exact hK v' a13' a16' hI
  · rintro m i ⟨v', a13', a16'⟩ hi hI ih
    show Ok (f_X12_parts_L135 S a1 a5 a8 a18 (nI (l_n L + l_k L + c)) K (it4 _ m) (nI i) v' a13' a16') _
    generalize it4 (f_X12_parts_L135 S a1 a5 a8 a18 (nI (l_n L + l_k L + c)) K) m = r at ih
    dsimp only at hI
    have hlt := lcm_lt hL i
    have hb := (ap_bnd hL hx (show c < 15 by omega) (show i ≤ 12 by omega)).1
    unfold f_X12_parts_L135
    rw [h21, if_neg (nI_ge hi (by omega)), gd_in (by omega) (by omega), nI_clamp (by omega), h5 i hi, nI_1]
    refine ok_lk (ok_ite (fun z => ?_) (fun z => ?_))
    · rw [oI_bit1 (by omega) (by omega), lcm_bit hc] at z
      have e72 : v' = nI (l_n L + l_k L + (apX L c x i).1) := hI.1
      rw [gd_in (by omega) (by omega), bd_s (m_own (S := wd_o S [(72, v')] [] [(13, a13'), (14, a18), (16, a16'), (39, a5), (40, a8), (41, a1)] [] []) (b := l_n L + l_k L + (apX L c x i).1) (t := l_n L + l_k L + c) e72 (by omega) (by omega))]
      have hs := mAp_line (k := i) (ch := l_R L c) hI
      refine ok_lz ?_
      rw [gd_in (by omega) (by omega)]
      refine ok_lz ?_
      have hstep : apX L c x (i + 1) = apI (l_R L c) (2 ^ i) 0 true (apX L c x i) := by show apI _ _ _ _ (apX L c x i) = _; rw [z]
      have e41 : (wd_o S [(72, v')] [] [(13, a13'), (14, a18), (16, a16'), (39, a5), (40, a8), (41, a1)] [] []).2.2.1 41 (l_n L + l_k L + c) = nI (l_R L c) := by
        show a1 (l_n L + l_k L + c) = _
        rw [h1 _ (show l_n L + l_k L + c < l_n L + l_k L + l_c L by omega), hch]
      dsimp only
      rw [e41]
      refine ih (nI (l_n L + l_k L + (apX L c x i).1 + 1), upd a13' i (a13' i ||| (if l_n L + l_k L + (apX L c x i).1 < 15 then nI (2 ^ (l_n L + l_k L + (apX L c x i).1)) else 0)), if l_n L + l_k L + (apX L c x i).1 < 15 then upd a16' (l_n L + l_k L + (apX L c x i).1) (nI (l_R L c)) else a16') ?_
      rw [hstep]
      exact hs
    · rw [oI_bit1 (by omega) (by omega), lcm_bit hc] at z
      refine ih (v', a13', a16') ?_
      have z : (l_X L c).testBit i = false := by simpa using z
      have hstep : apX L c x (i + 1) = apX L c x i := by show apI _ _ _ _ (apX L c x i) = _; rw [z]; rfl
      rw [hstep]
      exact hI
theorem m_partsY {S : wd_W} {L : Ld} {a1 a5 a8 a23 : Nat → Int32} {c : Nat} {x : Ap} {v : Int32} {a14 a16 g : Nat → Int32} {Q : o_X12_parts → Prop} (hL : lOk L) (h20 : S.1 20 = nI (l_N L)) (hc : c < l_c L)
    (h8 : ∀ p, p < l_N L → a8 p = nI (pcm L p)) (h1 : ∀ t, t < l_M L → a1 t = nI (cha L t)) (hx : x.1 ≤ 24 * c + 12) (K : Int32 → (Nat → Int32) → (Nat → Int32) → Option o_X12_parts) (h : mAp L x v a23 a14 a16) (hg : ∀ p, l_N L ≤ p → a14 p = g p)
    (hK : ∀ v' a14' a16', mAp L (apY L c x (l_N L)) v' a23 a14' a16' → (∀ p, l_N L ≤ p → a14' p = g p) → Ok (K v' a14' a16') Q) :
    Ok (it4 (f_X12_parts_L179 S a1 a5 a8 (nI (l_n L + l_k L + c)) a23 K) fuel 0 v a14 a16) Q := by
  have g2 := hL.1.2.1
  have hM : l_n L + l_k L + l_c L ≤ 15 := lM_15 hL
  have hch : cha L (l_n L + l_k L + c) = l_R L c := by unfold cha; rw [if_neg (by omega), if_neg (by omega), show l_n L + l_k L + c - l_n L - l_k L = c by omega]
  rw [li_0]
  refine ok_for0 (W := fun m i (s : Int32 × (Nat → Int32) × (Nat → Int32)) => it4 (f_X12_parts_L179 S a1 a5 a8 (nI (l_n L + l_k L + c)) a23 K) m (nI i) s.1 s.2.1 s.2.2) (I := fun i s => mAp L (apY L c x i) s.1 a23 s.2.1 s.2.2 ∧ ∀ p, l_N L ≤ p → s.2.1 p = g p) (e := l_N L) (s := (v, a14, a16)) (by omega) ⟨h, hg⟩ ?_ ?_
  · rintro m ⟨v', a14', a16'⟩ hI
    show Ok (f_X12_parts_L179 S a1 a5 a8 (nI (l_n L + l_k L + c)) a23 K _ (nI (l_N L)) v' a14' a16') _
    unfold f_X12_parts_L179
    rw [h20, if_pos (nI_le (Nat.le_refl _) (by omega))]
    exact hK v' a14' a16' hI.1 hI.2
  · rintro m i ⟨v', a14', a16'⟩ hi hI ih
    show Ok (f_X12_parts_L179 S a1 a5 a8 (nI (l_n L + l_k L + c)) a23 K (it4 _ m) (nI i) v' a14' a16') _
    generalize it4 (f_X12_parts_L179 S a1 a5 a8 (nI (l_n L + l_k L + c)) a23 K) m = r at ih
    obtain ⟨hI, hI2⟩ := hI
    dsimp only at hI hI2
    have hlt := pcm_lt hL i
    have hb : (apY L c x i).1 ≤ 24 * c + 24 := by rw [apY_1]; have := cnt_le (l_Y L c) i; omega
    unfold f_X12_parts_L179
    rw [h20, if_neg (nI_ge hi (by omega)), gd_in (by omega) (by omega), nI_clamp (by omega), h8 i hi, nI_1]
    refine ok_lk (ok_ite (fun z => ?_) (fun z => ?_))
    · rw [oI_bit1 (by omega) (by omega), pcm_bit hc] at z
      have e72 : v' = nI (l_n L + l_k L + (apY L c x i).1) := hI.1
      rw [gd_in (by omega) (by omega), bd_s (m_own (S := wd_o S [(72, v')] [] [(13, a23), (14, a14'), (16, a16'), (39, a5), (40, a8), (41, a1)] [] []) (b := l_n L + l_k L + (apY L c x i).1) (t := l_n L + l_k L + c) e72 (by omega) (by omega))]
      have hs := mAp_place (k := i) (ch := l_R L c) hI
      refine ok_lz ?_
      rw [gd_in (by omega) (by omega)]
      refine ok_lz ?_
      have hstep : apY L c x (i + 1) = apI (l_R L c) 0 (2 ^ i) true (apY L c x i) := by show apI _ _ _ _ (apY L c x i) = _; rw [z]
      have e41 : (wd_o S [(72, v')] [] [(13, a23), (14, a14'), (16, a16'), (39, a5), (40, a8), (41, a1)] [] []).2.2.1 41 (l_n L + l_k L + c) = nI (l_R L c) := by
        show a1 (l_n L + l_k L + c) = _
        rw [h1 _ (show l_n L + l_k L + c < l_n L + l_k L + l_c L by omega), hch]
      dsimp only
      rw [e41]
      refine ih (nI (l_n L + l_k L + (apY L c x i).1 + 1), upd a14' i (a14' i ||| (if l_n L + l_k L + (apY L c x i).1 < 15 then nI (2 ^ (l_n L + l_k L + (apY L c x i).1)) else 0)), if l_n L + l_k L + (apY L c x i).1 < 15 then upd a16' (l_n L + l_k L + (apY L c x i).1) (nI (l_R L c)) else a16') ⟨?_, fun p hp => ?_⟩
      · rw [hstep]
        exact hs
      · dsimp only
        rw [pk_un (by omega)]
        exact hI2 p hp
    · rw [oI_bit1 (by omega) (by omega), pcm_bit hc] at z
      refine ih (v', a14', a16') ⟨?_, hI2⟩
      have z : (l_Y L c).testBit i = false := by simpa using z
      have hstep : apY L c x (i + 1) = apY L c x i := by show apI _ _ _ _ (apY L c x i) = _; rw [z]; rfl
      rw [hstep]
      exact hI
theorem m_parts {S : wd_W} {L : Ld} (hL : lOk L) (h : mL S L) (h31 : S.1 31 = nI (l_c L)) (hc3 : l_c L ≤ 3) :
    Ok (f_X12_parts S) (fun o => o.2.1 = o.1 ∧ mAp L (apF L (l_c L)) o.1 o.2.2.1 o.2.2.2.1 o.2.2.2.2.1 ∧ (∀ p, l_N L ≤ p → o.2.2.2.1 p = S.2.2.1 14 p) ∧
      (∀ k, k < l_n L → o.2.2.2.2.2.1 k = nI (lcm L k)) ∧ (∀ p, p < l_N L → o.2.2.2.2.2.2.1 p = nI (pcm L p)) ∧ ∀ t, t < l_M L → o.2.2.2.2.2.2.2 t = nI (cha L t)) := by
  have hL0 := hL
  have hM := lM_15 hL
  obtain ⟨⟨g1, g2, g3, g4, g5, g6⟩, gk, gj, gu, gc, gw⟩ := hL
  obtain ⟨⟨h20, h21, h30, _, h32, h34, h35, h36, h37⟩, hk, hp, ht⟩ := h
  unfold f_X12_parts
  rw [lk_eq, li_0]
  have f41 : ∀ K : (Nat → Int32) → Option o_X12_parts, it2 (f_X12_parts_L2 S K) fuel (nI 0) (S.2.2.1 41) = K (fil (S.2.2.1 16) (S.2.2.1 41) (l_M L)) := by
    intro K
    refine Eq.trans ?_ (eq_for0 (W := fun m i => it2 (f_X12_parts_L2 S K) m (nI i) (fil (S.2.2.1 16) (S.2.2.1 41) i)) (e := l_M L) (by omega) ?_ ?_)
    · show it2 _ fuel (nI 0) _ = it2 _ fuel (nI 0) (fil _ _ 0)
      rw [fil_0]
    · intro m
      show f_X12_parts_L2 S K _ (nI (l_M L)) _ = _
      unfold f_X12_parts_L2
      rw [h32, if_pos (nI_le (Nat.le_refl _) (by omega))]
    · intro m i hi
      show f_X12_parts_L2 S K (it2 _ m) (nI i) _ = it2 (f_X12_parts_L2 S K) m (nI (i + 1)) _
      generalize it2 (f_X12_parts_L2 S K) m = r
      unfold f_X12_parts_L2
      rw [h32, if_neg (nI_ge hi (by omega)), ← fil_upd, gd_in (by omega) (by omega), lz_eq, gd_in (by omega) (by omega), lz_eq, nI_clamp (by omega), nI_1]
  have f39 : ∀ K : (Nat → Int32) → (Nat → Int32) → Option o_X12_parts, it3 (f_X12_parts_L43 S K) fuel (nI 0) (S.2.2.1 13) (S.2.2.1 39) = K (fil (fun _ => 0) (S.2.2.1 13) (l_n L)) (fil (S.2.2.1 13) (S.2.2.1 39) (l_n L)) := by
    intro K
    refine Eq.trans ?_ (eq_for0 (W := fun m i => it3 (f_X12_parts_L43 S K) m (nI i) (fil (fun _ => 0) (S.2.2.1 13) i) (fil (S.2.2.1 13) (S.2.2.1 39) i)) (e := l_n L) (by omega) ?_ ?_)
    · show it3 _ fuel (nI 0) _ _ = it3 _ fuel (nI 0) (fil _ _ 0) (fil _ _ 0)
      rw [fil_0, fil_0]
    · intro m
      show f_X12_parts_L43 S K _ (nI (l_n L)) _ _ = _
      unfold f_X12_parts_L43
      rw [h21, if_pos (nI_le (Nat.le_refl _) (by omega))]
    · intro m i hi
      show f_X12_parts_L43 S K (it3 _ m) (nI i) _ _ = it3 (f_X12_parts_L43 S K) m (nI (i + 1)) _ _
      generalize it3 (f_X12_parts_L43 S K) m = r
      unfold f_X12_parts_L43
      rw [h21, if_neg (nI_ge hi (by omega)), ← fil_upd, ← fil_upd, gd_in (by omega) (by omega), lz_eq, gd_in (by omega) (by omega), lz_eq, gd_in (by omega) (by omega), lz_eq, nI_clamp (by omega), nI_1, fil_out (Nat.le_refl i)]
  have f40 : ∀ K : (Nat → Int32) → (Nat → Int32) → Option o_X12_parts, it3 (f_X12_parts_L78 S K) fuel (nI 0) (S.2.2.1 14) (S.2.2.1 40) = K (fil (fun _ => 0) (S.2.2.1 14) (l_N L)) (fil (S.2.2.1 14) (S.2.2.1 40) (l_N L)) := by
    intro K
    refine Eq.trans ?_ (eq_for0 (W := fun m i => it3 (f_X12_parts_L78 S K) m (nI i) (fil (fun _ => 0) (S.2.2.1 14) i) (fil (S.2.2.1 14) (S.2.2.1 40) i)) (e := l_N L) (by omega) ?_ ?_)
    · show it3 _ fuel (nI 0) _ _ = it3 _ fuel (nI 0) (fil _ _ 0) (fil _ _ 0)
      rw [fil_0, fil_0]
    · intro m
      show f_X12_parts_L78 S K _ (nI (l_N L)) _ _ = _
      unfold f_X12_parts_L78
      rw [h20, if_pos (nI_le (Nat.le_refl _) (by omega))]
    · intro m i hi
      show f_X12_parts_L78 S K (it3 _ m) (nI i) _ _ = it3 (f_X12_parts_L78 S K) m (nI (i + 1)) _ _
      generalize it3 (f_X12_parts_L78 S K) m = r
      unfold f_X12_parts_L78
      rw [h20, if_neg (nI_ge hi (by omega)), ← fil_upd, ← fil_upd, gd_in (by omega) (by omega), lz_eq, gd_in (by omega) (by omega), lz_eq, gd_in (by omega) (by omega), lz_eq, nI_clamp (by omega), nI_1, fil_out (Nat.le_refl i)]
  rw [f41, lz_eq, lk_eq, f39, lk_eq, f40, lk_eq, h21, h30, nI_add]
  have e41 : ∀ t, t < l_M L → fil (S.2.2.1 16) (S.2.2.1 41) (l_M L) t = nI (cha L t) := fun t ht' => by rw [fil_in ht', ht t ht']
  have e39 : ∀ k, k < l_n L → fil (S.2.2.1 13) (S.2.2.1 39) (l_n L) k = nI (lcm L k) := fun k hk' => by rw [fil_in hk', (hk k hk').2.2.2.2.2]
  have e40 : ∀ p, p < l_N L → fil (S.2.2.1 14) (S.2.2.1 40) (l_N L) p = nI (pcm L p) := fun p hp' => by rw [fil_in hp', (hp p (by omega)).1]
  generalize fil (S.2.2.1 16) (S.2.2.1 41) (l_M L) = a1 at e41
  generalize fil (S.2.2.1 13) (S.2.2.1 39) (l_n L) = a5 at e39
  generalize fil (S.2.2.1 14) (S.2.2.1 40) (l_N L) = a8 at e40
  refine ok_for0 (W := fun m i (s : Int32 × (Nat → Int32) × (Nat → Int32) × (Nat → Int32)) => it5 (f_X12_parts_L113 S a1 a5 a8 _) m (nI i) s.1 s.2.1 s.2.2.1 s.2.2.2) (I := fun i s => mAp L (apF L i) s.1 s.2.1 s.2.2.1 s.2.2.2 ∧ ∀ p, l_N L ≤ p → s.2.2.1 p = S.2.2.1 14 p) (e := l_c L) (s := (nI (l_n L + l_k L), fil (fun _ => 0) (S.2.2.1 13) (l_n L), fil (fun _ => 0) (S.2.2.1 14) (l_N L), S.2.2.1 16)) (by omega) ?_ ?_ ?_
  · refine ⟨⟨rfl, fun _ => ⟨fun k hk' => ?_, fun p hp' => ?_, fun t ht' => ?_, fun c hc' => absurd hc' (Nat.not_lt_zero c)⟩⟩, fun p hp' => ?_⟩
    · dsimp only; rw [fil_in hk']; rfl
    · dsimp only; rw [fil_in hp']; rfl
    · exact ht t (by unfold l_M; omega)
    · dsimp only; rw [fil_out hp']
  · rintro m ⟨v, a13, a14, a16⟩ hI
    show Ok (f_X12_parts_L113 S a1 a5 a8 _ _ (nI (l_c L)) v a13 a14 a16) _
    unfold f_X12_parts_L113
    rw [h31, if_pos (nI_le (Nat.le_refl _) (by omega))]
    exact ok_some ⟨rfl, hI.1, hI.2, e39, e40, e41⟩
  · rintro m i ⟨v, a13, a14, a16⟩ hi hI ih
    show Ok (f_X12_parts_L113 S a1 a5 a8 _ (it5 (f_X12_parts_L113 S a1 a5 a8 _) m) (nI i) v a13 a14 a16) _
    generalize it5 (f_X12_parts_L113 S a1 a5 a8 _) m = r at ih
    obtain ⟨hI, hI2⟩ := hI
    dsimp only at hI hI2
    have hb := apF_le hL0 (show i ≤ l_c L by omega)
    have hb2 := (ap_bnd hL0 (c := i) (m := l_n L) (x := apF L i) (by omega) (by omega) g3).1
    unfold f_X12_parts_L113
    rw [h31, if_neg (nI_ge hi (by omega)), h21, h30, nI_add, nI_add, lz_eq, lk_eq, nI_1]
    refine m_partsX hL0 h21 hi e39 e41 (by omega) _ hI ?_
    intro v' a13' a16' h1
    rw [lk_eq]
    refine m_partsY hL0 h20 hi e40 e41 hb2 _ h1 hI2 ?_
    intro v'' a14'' a16'' h2 hg2
    exact ih (v'', a13', a14'', a16'') ⟨h2, hg2⟩
theorem m_whole {S : wd_W} {n N M : Nat} (h21 : S.1 21 = nI n) (h20 : S.1 20 = nI N) (h32 : S.1 32 = nI M) (hn : n ≤ 12) (hN : N ≤ 10) (hM : M ≤ 15) :
    f_X12_whole S = some (fil (S.2.2.1 39) (S.2.2.1 13) n, fil (S.2.2.1 40) (S.2.2.1 14) N, fil (S.2.2.1 41) (S.2.2.1 16) M) := by
  have f1 : ∀ K : (Nat → Int32) → Option o_X12_whole, it2 (f_X12_whole_L2 S K) fuel (nI 0) (S.2.2.1 13) = K (fil (S.2.2.1 39) (S.2.2.1 13) n) := by
    intro K
    refine Eq.trans ?_ (eq_for0 (W := fun m i => it2 (f_X12_whole_L2 S K) m (nI i) (fil (S.2.2.1 39) (S.2.2.1 13) i)) (e := n) (by omega) ?_ ?_)
    · show it2 _ fuel (nI 0) _ = it2 _ fuel (nI 0) (fil _ _ 0)
      rw [fil_0]
    · intro m
      show f_X12_whole_L2 S K _ (nI n) _ = _
      unfold f_X12_whole_L2
      rw [h21, if_pos (nI_le (Nat.le_refl _) (by omega))]
    · intro m i hi
      show f_X12_whole_L2 S K (it2 _ m) (nI i) _ = it2 (f_X12_whole_L2 S K) m (nI (i + 1)) _
      generalize it2 (f_X12_whole_L2 S K) m = r
      unfold f_X12_whole_L2
      rw [h21, if_neg (nI_ge hi (by omega)), ← fil_upd, gd_in (by omega) (by omega), lz_eq, gd_in (by omega) (by omega), lz_eq, nI_clamp (by omega), nI_1]
  have f2 : ∀ K : (Nat → Int32) → Option o_X12_whole, it2 (f_X12_whole_L30 S K) fuel (nI 0) (S.2.2.1 14) = K (fil (S.2.2.1 40) (S.2.2.1 14) N) := by
    intro K
    refine Eq.trans ?_ (eq_for0 (W := fun m i => it2 (f_X12_whole_L30 S K) m (nI i) (fil (S.2.2.1 40) (S.2.2.1 14) i)) (e := N) (by omega) ?_ ?_)
    · show it2 _ fuel (nI 0) _ = it2 _ fuel (nI 0) (fil _ _ 0)
      rw [fil_0]
    · intro m
      show f_X12_whole_L30 S K _ (nI N) _ = _
      unfold f_X12_whole_L30
      rw [h20, if_pos (nI_le (Nat.le_refl _) (by omega))]
    · intro m i hi
      show f_X12_whole_L30 S K (it2 _ m) (nI i) _ = it2 (f_X12_whole_L30 S K) m (nI (i + 1)) _
      generalize it2 (f_X12_whole_L30 S K) m = r
      unfold f_X12_whole_L30
      rw [h20, if_neg (nI_ge hi (by omega)), ← fil_upd, gd_in (by omega) (by omega), lz_eq, gd_in (by omega) (by omega), lz_eq, nI_clamp (by omega), nI_1]
  unfold f_X12_whole
  rw [lk_eq, li_0, f1, lk_eq, f2]
  refine Eq.trans ?_ (eq_for0 (W := fun m i => it2 (f_X12_whole_L58 S (fil (S.2.2.1 39) (S.2.2.1 13) n) (fil (S.2.2.1 40) (S.2.2.1 14) N)) m (nI i) (fil (S.2.2.1 41) (S.2.2.1 16) i)) (e := M) (by omega) ?_ ?_)
  · show it2 _ fuel (nI 0) _ = it2 _ fuel (nI 0) (fil _ _ 0)
    rw [fil_0]
  · intro m
    show f_X12_whole_L58 S _ _ _ (nI M) _ = _
    unfold f_X12_whole_L58
    rw [h32, if_pos (nI_le (Nat.le_refl _) (by omega))]
  · intro m i hi
    show f_X12_whole_L58 S _ _ (it2 _ m) (nI i) _ = it2 (f_X12_whole_L58 S (fil (S.2.2.1 39) (S.2.2.1 13) n) (fil (S.2.2.1 40) (S.2.2.1 14) N)) m (nI (i + 1)) _
    generalize it2 (f_X12_whole_L58 S (fil (S.2.2.1 39) (S.2.2.1 13) n) (fil (S.2.2.1 40) (S.2.2.1 14) N)) m = r
    unfold f_X12_whole_L58
    rw [h32, if_neg (nI_ge hi (by omega)), ← fil_upd, gd_in (by omega) (by omega), lz_eq, gd_in (by omega) (by omega), lz_eq, nI_clamp (by omega), nI_1]
