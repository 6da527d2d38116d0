/-! alone: the reference -/
theorem mL_ap {S : wd_W} {L : Ld} {v x38 x39 x72 : Int32} {a13 a14 a16 a17 a18 a19 a22 a23 a39 a40 a41 : Nat → Int32} {g21 : Nat → Int64} (hL : lOk L) (h : mL S L) (hq : l_n L + l_k L + apq L ≤ 15)
    (hA : mAp L (apF L (l_c L)) v a13 a14 a16) (hg : ∀ p, l_N L ≤ p → a14 p = S.2.2.1 14 p) :
    mL (wd_o S [(32, v), (38, x38), (39, x39), (72, x72)] [] [(13, a13), (14, a14), (16, a16), (17, a17), (18, a18), (19, a19), (22, a22), (23, a23), (39, a39), (40, a40), (41, a41)] [(21, g21)] []) (apL L) := by
  have hL' := apL_ok hL hq
  obtain ⟨⟨g1, g2, g3, g4, g5, g6⟩, gk, gj, gu, gc, gw⟩ := hL
  obtain ⟨⟨h20, h21, h30, _, h32, h34, h35, h36, h37⟩, hk, hp, ht⟩ := h
  obtain ⟨e1, e2⟩ := hA
  obtain ⟨q1, q2, q3, q4⟩ := e2 hq
  refine ⟨⟨h20, h21, h30, trivial, e1, h34, h35, h36, h37⟩, fun k hk' => ?_, fun p hp' => ?_, fun t ht' => ?_⟩
  · obtain ⟨b1, b2, b3, b4, b5, b6⟩ := hk k hk'
    exact ⟨b1, b2, b3, b4, b5, q1 k hk'⟩
  · refine ⟨?_, (hp p hp').2⟩
    by_cases c : p < l_N L
    · exact q2 p c
    · show a14 p = _
      rw [hg p (by omega), (hp p hp').1, pcm_out (fun c hc => (gc c hc).2.2) (by omega)]
      congr 1
      exact (pcm_out (L := apL L) (fun c hc => (hL'.2.2.2.2.1 c hc).2.2) (show l_N L ≤ p by omega)).symm
  · have ht' : t < l_n L + l_k L + apq L := ht'
    show a16 t = _
    by_cases c : t < l_n L + l_k L
    · rw [q3 t c]
      congr 1
      unfold cha
      by_cases d : t < l_n L
      · rw [if_pos d]; exact (if_pos d).symm
      · rw [if_neg d, if_pos c]
        show _ = if t < l_n L then _ else if t < l_n L + l_k L then _ else _
        rw [if_neg d, if_pos c]
        rfl
    · obtain ⟨j, rfl⟩ : ∃ j, t = l_n L + l_k L + j := ⟨t - (l_n L + l_k L), by omega⟩
      rw [q4 j (by show j < apq L; omega)]
      congr 1
      show _ = if l_n L + l_k L + j < l_n L then _ else if l_n L + l_k L + j < l_n L + l_k L then _ else (apF L (l_c L)).2.1 (l_n L + l_k L + j - l_n L - l_k L)
      rw [if_neg (by omega), if_neg (by omega), show l_n L + l_k L + j - l_n L - l_k L = j by omega]
noncomputable def aloN (L : Ld) : Nat := fb_sm (fun s => if thB (apL L) s = true then wt (apL L) s else 0) (2 ^ (l_n L + l_k L + apq L))
noncomputable def aloA (L : Ld) (p1 : Int32) : Int64 := if inB 0 1 p1 = true then (if 15 < l_n L + l_k L + apq L then -1 else if p1 = 0 then lN (aloN L) else lN (16 ^ (l_n L + l_k L + apq L))) else -1
theorem m_alone {S : wd_W} {L : Ld} {p1 : Int32} (hL : lOk L) (h : mL S L) (h31 : S.1 31 = nI (l_c L)) (hc3 : l_c L ≤ 3) :
    Ok (f_X12_alone S p1) (fun o => o.1 = aloA L p1 ∧ o.2.1 = nI (l_M L) ∧ (∀ k, k < l_n L → o.2.2.2.2.2.1 k = nI (lcm L k)) ∧ (∀ p, p < 10 → o.2.2.2.2.2.2.1 p = nI (pcm L p)) ∧ ∀ t, t < l_M L → o.2.2.2.2.2.2.2.1 t = nI (cha L t)) := by
  have hM := lM_15 hL
  have pM := pow_le15 hM
  have g2 := hL.1.2.1
  have g3 := hL.1.2.2.1
  have g4 := hL.1.2.2.2.1
  have h32 : S.1 32 = nI (l_M L) := h.1.2.2.2.2.1
  have h21 : S.1 21 = nI (l_n L) := h.1.2.1
  have h20 : S.1 20 = nI (l_N L) := h.1.1
  unfold f_X12_alone
  rw [lN_0, show (1 : Int64) = lN 1 from rfl, bd_s (m_inN (by omega) (by omega))]
  refine ok_b (fun z => ?_) (fun z => ?_)
  · refine ok_some ⟨?_, h32, fun k hk => (h.2.1 k hk).2.2.2.2.2, fun p hp => (h.2.2.1 p hp).1, h.2.2.2⟩
    unfold aloA
    rw [show inB 0 1 p1 = false from z]; rfl
  have z : inB 0 1 p1 = true := z
  obtain ⟨n, n1, e, n2, n3⟩ := inB_t (by omega) z
  refine ok_lz ?_
  refine ok_bd (m_parts (S := wd_o S [(32, (S.1 32)), (38, (S.1 38)), (39, (S.1 39)), (72, (S.1 72))] [] [(13, (S.2.2.1 13)), (14, (S.2.2.1 14)), (16, (S.2.2.1 16)), (17, (S.2.2.1 17)), (18, (S.2.2.1 18)), (19, (S.2.2.1 19)), (22, (S.2.2.1 22)), (23, (S.2.2.1 23)), (39, (S.2.2.1 39)), (40, (S.2.2.1 40)), (41, (S.2.2.1 41))] [(21, (S.2.2.2.1 21))] []) hL h h31 hc3) ?_
  rintro ⟨v, v2, a13, a14, a16, a39, a40, a41⟩ ⟨q0, hA, hg, e39, e40, e41⟩
  dsimp only at q0 hA hg e39 e40 e41 ⊢
  subst q0
  have hv : v2 = nI (l_n L + l_k L + apq L) := hA.1
  have hqb : apq L ≤ 3 * 24 := Nat.le_trans (apF_le hL (Nat.le_refl _)) (Nat.mul_le_mul_right _ hc3)
  rw [h32]
  have hw : ∀ (x6 : Int64) (x8 x9 : Int32) (a10 a11 a12 b13 b14 : Nat → Int32) (g : Nat → Int64), x6 = aloA L p1 →
      Ok (bd (f_X12_whole (wd_o S [(32, nI (l_M L)), (38, x8), (39, x9), (72, v2)] [] [(13, a13), (14, a14), (16, a16), (17, a10), (18, a11), (19, a12), (22, b13), (23, b14), (39, a39), (40, a40), (41, a41)] [(21, g)] [])) fun o17 =>
        (some (x6, nI (l_M L), x8, x9, v2, o17.1, o17.2.1, o17.2.2, a10, a11, a12, b13, b14, a39, a40, a41, g) : Option o_X12_alone))
      (fun o => o.1 = aloA L p1 ∧ o.2.1 = nI (l_M L) ∧ (∀ k, k < l_n L → o.2.2.2.2.2.1 k = nI (lcm L k)) ∧ (∀ p, p < 10 → o.2.2.2.2.2.2.1 p = nI (pcm L p)) ∧ ∀ t, t < l_M L → o.2.2.2.2.2.2.2.1 t = nI (cha L t)) := by
    intro x6 x8 x9 a10 a11 a12 b13 b14 g hx
    rw [bd_s (m_whole (S := wd_o S [(32, nI (l_M L)), (38, x8), (39, x9), (72, v2)] [] [(13, a13), (14, a14), (16, a16), (17, a10), (18, a11), (19, a12), (22, b13), (23, b14), (39, a39), (40, a40), (41, a41)] [(21, g)] []) (n := l_n L) (N := l_N L) (M := l_M L) h21 h20 rfl g3 g2 hM)]
    refine ok_some ⟨hx, rfl, fun k hk => ?_, fun p hp => ?_, fun t ht => ?_⟩
    · show fil a39 a13 (l_n L) k = _
      rw [fil_in hk]; exact e39 k hk
    · show fil a40 a14 (l_N L) p = _
      by_cases c : p < l_N L
      · rw [fil_in c]; exact e40 p c
      · rw [fil_out (by omega), hg p (by omega)]; exact (h.2.2.1 p hp).1
    · show fil a41 a16 (l_M L) t = _
      rw [fil_in ht]; exact e41 t ht
  have hans : aloA L p1 = if 15 < l_n L + l_k L + apq L then -1 else if p1 = 0 then lN (aloN L) else lN (16 ^ (l_n L + l_k L + apq L)) := by
    unfold aloA
    rw [z, if_pos rfl]
  by_cases c : 15 < l_n L + l_k L + apq L
  · have hc : (15 : Int32) < v2 := by rw [hv, li_15]; exact nI_lt c (by omega)
    rw [lk_eq, if_pos hc]
    refine ok_lk ?_
    rw [if_pos hc]
    exact hw _ _ _ _ _ _ _ _ _ (by rw [hans, if_pos c]; rfl)
  · have hc : ¬ (15 : Int32) < v2 := by rw [hv, li_15]; exact nI_nlt (by omega) (by omega)
    have hq : l_n L + l_k L + apq L ≤ 15 := by omega
    rw [lk_eq, if_neg hc]
    have hL' := apL_ok hL hq
    by_cases c1 : p1 = 0
    · have c2 : ¬ p1 = (1 : Int32) := by rw [c1]; decide
      rw [if_neg c2]
      refine ok_lk ?_
      rw [if_neg hc, if_pos c1]
      have hh := fun (x38 x39 : Int32) (a17 a18 a19 a22 a23 : Nat → Int32) (g21 : Nat → Int64) => mL_ap (x38 := x38) (x39 := x39) (x72 := v2) (a17 := a17) (a18 := a18) (a19 := a19) (a22 := a22) (a23 := a23) (a39 := a39) (a40 := a40) (a41 := a41) (g21 := g21) hL h hq hA hg
      have pM' := pow_le15 hq
      refine ok_bd (m_plain (S := wd_o S [(32, v2), (38, (S.1 38)), (39, (S.1 39)), (72, v2)] [] [(13, a13), (14, a14), (16, a16), (17, (S.2.2.1 17)), (18, (S.2.2.1 18)), (19, (S.2.2.1 19)), (22, (S.2.2.1 22)), (23, (S.2.2.1 23)), (39, a39), (40, a40), (41, a41)] [(21, (S.2.2.2.1 21))] []) (L := apL L) hL' hv (hh _ _ _ _ _ _ _ _).2.2.2) ?_
      rintro ⟨b22, b23⟩ ⟨f1, f2⟩
      dsimp only at f1 f2
      refine ok_bd (P := fun o => ∀ s, s < 2 ^ l_M (apL L) → o s = lN (wt (apL L) s)) (ok_of (m_weighs (S := wd_o S [(32, v2), (38, (S.1 38)), (39, (S.1 39)), (72, v2)] [] [(13, a13), (14, a14), (16, a16), (17, (S.2.2.1 17)), (18, (S.2.2.1 18)), (19, (S.2.2.1 19)), (22, b22), (23, b23), (39, a39), (40, a40), (41, a41)] [(21, (S.2.2.2.1 21))] []) (M := l_M (apL L)) (h := cha (apL L)) (f := fun t => 16 - cha (apL L) t) hq hv (fun t ht => ⟨f1 t ht, f2 t ht, cha_le hL' ht, by omega⟩)) (fun s hs => fil_in (f := fun s => lN (wtF (cha (apL L)) (fun t => 16 - cha (apL L) t) (l_M (apL L)) s)) hs)) ?_
      intro o19 hwt
      refine ok_lk ?_
      rw [li_0]
      refine ok_for0 (W := fun m i (s : Int64 × Int32 × Int32 × (Nat → Int32) × (Nat → Int32) × (Nat → Int32)) => it7 (f_X12_alone_L76 S (v2, v2, a13, a14, a16, a39, a40, a41) (b22, b23) o19 _) m s.1 (nI i) s.2.1 s.2.2.1 s.2.2.2.1 s.2.2.2.2.1 s.2.2.2.2.2) (I := fun i s => s.1 = lN (fb_sm (fun s => if thB (apL L) s = true then wt (apL L) s else 0) i)) (e := 2 ^ (l_n L + l_k L + apq L)) (s := (lN 0, S.1 38, S.1 39, S.2.2.1 17, S.2.2.1 18, S.2.2.1 19)) (by omega) rfl ?_ ?_
      · rintro m ⟨y, y38, y39, y17, y18, y19⟩ hI
        dsimp only at hI
        show Ok (f_X12_alone_L76 S (v2, v2, a13, a14, a16, a39, a40, a41) (b22, b23) o19 _ _ y (nI (2 ^ (l_n L + l_k L + apq L))) y38 y39 y17 y18 y19) _
        unfold f_X12_alone_L76
        rw [bd_s (m_sets (S := wd_o S [(32, v2), (38, y38), (39, y39), (72, v2)] [] [(13, a13), (14, a14), (16, a16), (17, y17), (18, y18), (19, y19), (22, b22), (23, b23), (39, a39), (40, a40), (41, a41)] [(21, o19)] []) (M := l_n L + l_k L + apq L) hv hq), if_pos (nI_le (Nat.le_refl _) (by omega))]
        exact hw _ _ _ _ _ _ _ _ _ (by rw [hans, if_neg c, if_pos c1, hI]; rfl)
      · rintro m i ⟨y, y38, y39, y17, y18, y19⟩ hi hI ih
        dsimp only at hI
        show Ok (f_X12_alone_L76 S (v2, v2, a13, a14, a16, a39, a40, a41) (b22, b23) o19 _ (it7 _ m) y (nI i) y38 y39 y17 y18 y19) _
        generalize it7 (f_X12_alone_L76 S (v2, v2, a13, a14, a16, a39, a40, a41) (b22, b23) o19 _) m = r at ih
        have hi2 : i < 2 ^ l_M (apL L) := hi
        have pw := pow16_le hq
        have hwl : wt (apL L) i ≤ 16 ^ (l_n L + l_k L + apq L) := wtF_le (fun t ht => ⟨cha_le hL' ht, by omega⟩) i
        have stay : (if thB (apL L) i = true then wt (apL L) i else 0) = 0 → ∀ (z38 z39 : Int32) (z17 z18 z19 : Nat → Int32), Ok (r (y + (0 : Int64)) (nI (i + 1)) z38 z39 z17 z18 z19) _ := fun hz z38 z39 z17 z18 z19 => ih (y + (0 : Int64), z38, z39, z17, z18, z19) (by dsimp only; rw [fb_sm_succ, hz, hI, lN_0, lN_add])
        unfold f_X12_alone_L76
        rw [bd_s (m_sets (S := wd_o S [(32, v2), (38, y38), (39, y39), (72, v2)] [] [(13, a13), (14, a14), (16, a16), (17, y17), (18, y18), (19, y19), (22, b22), (23, b23), (39, a39), (40, a40), (41, a41)] [(21, o19)] []) (M := l_n L + l_k L + apq L) hv hq), if_neg (nI_ge hi (by omega)), gd_in (by omega) (by omega), nI_clamp (by omega), hwt i hi2, nI_1]
        refine ok_lk (ok_lk (ok_ite (fun w => ?_) (fun w => ?_)))
        · rw [lN_0, lN_leL (by omega) (by omega)] at w
          refine ok_lz (stay (by rw [show wt (apL L) i = 0 by omega]; split <;> rfl) _ _ _ _ _)
        · rw [li_0]
          refine ok_bd (m_isThrough (S := wd_o S [(32, v2), (38, y38), (39, y39), (72, v2)] [] [(13, a13), (14, a14), (16, a16), (17, y17), (18, y18), (19, y19), (22, b22), (23, b23), (39, a39), (40, a40), (41, a41)] [(21, o19)] []) (L := apL L) (s := i) (mo := false) hL' (hh _ _ _ _ _ _ _ _) (fun z => by cases z) (by omega)) ?_
          rintro ⟨o1, z38, z39, z17, z18, z19⟩ ⟨x, ex, hx⟩
          dsimp only at ex ⊢
          subst ex
          have hxt : x = thB (apL L) i := b_of_iff hx (thB_iff (apL L) i)
          refine ok_b (fun hb => ?_) (fun hb => ?_)
          · refine ok_lz (stay (by rw [← hxt, hb]; rfl) _ _ _ _ _)
          · rw [gd_in (by omega) (by omega)]
            refine ok_lz (ih (y + lN (wt (apL L) i), z38, z39, z17, z18, z19) ?_)
            dsimp only
            rw [fb_sm_succ, ← hxt, hb, hI, lN_add]; rfl
    · have c2 : p1 = (1 : Int32) := by
        rw [e]
        have : n = 1 := by
          have : ¬ n = 0 := fun q => c1 (by rw [e, q]; rfl)
          omega
        rw [this]; rfl
      rw [if_pos c2]
      have hp : f_X12_power v2 = some (lN (16 ^ (l_n L + l_k L + apq L))) := by rw [hv]; exact m_power (by omega)
      rw [bd_s hp]
      refine ok_lk ?_
      rw [if_neg hc, if_neg c1]
      exact hw _ _ _ _ _ _ _ _ _ (by rw [hans, if_neg c, if_neg c1])
