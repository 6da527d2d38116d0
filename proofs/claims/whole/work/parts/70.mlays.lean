/-! the reference's sets: laid, weighed, together -/
def mLaid (S : wd_W) (L : Ld) : Prop := S.1 44 = nI 0 ∨ (S.1 44 = nI 1 ∧ ∀ s, s < 2 ^ l_M L → S.2.2.1 20 s = nI (b2n (thB L s)))
theorem m_sets {S : wd_W} {M : Nat} (h : S.1 32 = nI M) (hM : M ≤ 15) : f_X12_sets S = some (nI (2 ^ M)) := by
  unfold f_X12_sets
  rw [h, oI_pow (by omega)]
theorem nar_b (x : Bool) : vp_nar .boolean (nI (b2n x)) = nI (b2n x) := by cases x <;> rfl
theorem lM_15 {L : Ld} (hL : lOk L) : l_M L ≤ 15 := hL.1.2.2.2.2.2
theorem m_lays {S : wd_W} {L : Ld} (hL : lOk L) (h : mL S L) (hla : mLaid S L) :
    Ok (f_X12_lays S) (fun o => o.2.2.1 = nI 1 ∧ ∀ s, s < 2 ^ l_M L → o.2.2.2.2.2.2 s = nI (b2n (thB L s))) := by
  have hM := lM_15 hL
  have pM := pow_le15 hM
  have h32 : S.1 32 = nI (l_M L) := h.1.2.2.2.2.1
  unfold f_X12_lays
  rcases hla with e | ⟨e, ht⟩
  · rw [e]
    refine ok_ite (fun _ => ?_) (fun z => absurd rfl z)
    rw [li_0]
    refine ok_for0 (W := fun n i (s : Int32 × Int32 × (Nat → Int32) × (Nat → Int32) × (Nat → Int32) × (Nat → Int32)) => it7 (f_X12_lays_L15 S) n (nI i) s.1 s.2.1 s.2.2.1 s.2.2.2.1 s.2.2.2.2.1 s.2.2.2.2.2) (I := fun i s => ∀ j, j < i → s.2.2.2.2.2 j = nI (b2n (thB L j))) (e := 2 ^ l_M L) (s := (S.1 38, S.1 39, S.2.2.1 17, S.2.2.1 18, S.2.2.1 19, S.2.2.1 20)) (by omega) (fun j hj => by omega) ?_ ?_
    · rintro n ⟨x2, x3, a4, a5, a6, a7⟩ hI
      dsimp only at hI
      show Ok (f_X12_lays_L15 S _ (nI (2 ^ l_M L)) x2 x3 a4 a5 a6 a7) _
      unfold f_X12_lays_L15
      rw [bd_s (m_sets (S := wd_o S [(38, x2), (39, x3), (44, (1 : Int32))] [] [(17, a4), (18, a5), (19, a6), (20, a7)] [] []) h32 hM), if_pos (nI_le (Nat.le_refl _) (by omega))]
      exact ok_some ⟨rfl, hI⟩
    · rintro n i ⟨x2, x3, a4, a5, a6, a7⟩ hi hI ih
      dsimp only at hI
      show Ok (f_X12_lays_L15 S (it7 (f_X12_lays_L15 S) n) (nI i) x2 x3 a4 a5 a6 a7) _
      generalize it7 (f_X12_lays_L15 S) n = r at ih
      unfold f_X12_lays_L15
      rw [bd_s (m_sets (S := wd_o S [(38, x2), (39, x3), (44, (1 : Int32))] [] [(17, a4), (18, a5), (19, a6), (20, a7)] [] []) h32 hM), if_neg (nI_ge hi (by omega)), li_0]
      refine ok_bd (m_isThrough (S := wd_o S [(38, x2), (39, x3), (44, (1 : Int32))] [] [(17, a4), (18, a5), (19, a6), (20, a7)] [] []) (L := L) (s := i) (mo := false) hL h (fun z => by cases z) (by omega)) ?_
      rintro ⟨o1, o2, o3, o4, o5, o6⟩ ⟨x, ex, hx⟩
      dsimp only at ex
      have hxt : x = thB L i := b_of_iff hx (thB_iff L i)
      subst ex
      dsimp only
      rw [gd_in (by omega) (by omega), nI_clamp (by omega), nar_b, lz_eq, nI_1]
      refine ih (o2, o3, o4, o5, o6, upd a7 i (nI (b2n x))) (fun j hj => ?_)
      dsimp only
      by_cases hji : j = i
      · subst hji; rw [pk_us, hxt]
      · rw [pk_un hji]; exact hI j (by omega)
  · rw [e]
    refine ok_ite (fun z => absurd z (by decide)) (fun _ => ok_some ⟨rfl, ht⟩)
theorem m_plain {S : wd_W} {L : Ld} (hL : lOk L) (h32 : S.1 32 = nI (l_M L)) (ht : ∀ t, t < l_M L → S.2.2.1 16 t = nI (cha L t)) :
    Ok (f_X12_plain S) (fun o => (∀ t, t < l_M L → o.1 t = nI (cha L t)) ∧ ∀ t, t < l_M L → o.2 t = nI (16 - cha L t)) := by
  have hM := lM_15 hL
  unfold f_X12_plain
  rw [li_0]
  refine ok_for0 (W := fun n i (s : (Nat → Int32) × (Nat → Int32)) => it3 (f_X12_plain_L2 S) n (nI i) s.1 s.2) (I := fun i s => (∀ t, t < i → s.1 t = nI (cha L t)) ∧ ∀ t, t < i → s.2 t = nI (16 - cha L t)) (e := l_M L) (s := (S.2.2.1 22, S.2.2.1 23)) (by omega) ⟨fun t ht => by omega, fun t ht => by omega⟩ ?_ ?_
  · rintro n ⟨a2, a3⟩ hI
    show Ok (f_X12_plain_L2 S _ (nI (l_M L)) a2 a3) _
    unfold f_X12_plain_L2
    rw [h32, if_pos (nI_le (Nat.le_refl _) (by omega))]
    exact ok_some hI
  · rintro n i ⟨a2, a3⟩ hi ⟨hI1, hI2⟩ ih
    dsimp only at hI1 hI2
    show Ok (f_X12_plain_L2 S (it3 (f_X12_plain_L2 S) n) (nI i) a2 a3) _
    generalize it3 (f_X12_plain_L2 S) n = r at ih
    have hc := cha_le hL hi
    unfold f_X12_plain_L2
    rw [h32, if_neg (nI_ge hi (by omega)), nI_clamp (by omega), ht i hi, li_16, pk_sub hc, nI_1]
    rw [gd_in (by omega) (by omega), lz_eq, gd_in (by omega) (by omega), lz_eq, gd_in (by omega) (by omega), lz_eq, gd_in (by omega) (by omega), lz_eq]
    refine ih (upd a2 i (nI (cha L i)), upd a3 i (nI (16 - cha L i))) ⟨fun t ht => ?_, fun t ht => ?_⟩
    · dsimp only
      by_cases e : t = i
      · subst e; rw [pk_us]
      · rw [pk_un e]; exact hI1 t (by omega)
    · dsimp only
      by_cases e : t = i
      · subst e; rw [pk_us]
      · rw [pk_un e]; exact hI2 t (by omega)
theorem or_add {j t : Nat} (h : j < 2 ^ t) : j ||| 2 ^ t = j + 2 ^ t := by
  have := Nat.two_pow_add_eq_or_of_lt h 1
  rw [Nat.mul_one] at this
  rw [Nat.or_comm, ← this, Nat.add_comm]
theorem m_weighs {S : wd_W} {M : Nat} {h f : Nat → Nat} (hM : M ≤ 15) (h32 : S.1 32 = nI M) (hh : ∀ t, t < M → S.2.2.1 22 t = nI (h t) ∧ S.2.2.1 23 t = nI (f t) ∧ h t ≤ 16 ∧ f t ≤ 16) :
    f_X12_weighs S = some (fil (fun s => lN (wtF h f M s)) (S.2.2.2.1 21) (2 ^ M)) := by
  generalize hg : S.2.2.2.1 21 = gl
  have hin : ∀ (t : Nat), t < M → ∀ (K : (Nat → Int64) → Option o_X12_weighs),
      it2 (f_X12_weighs_L19 S (nI t) K) fuel 0 (fil (fun s => lN (wtF h f t s)) gl (2 ^ t)) = K (fil (fun s => lN (wtF h f (t + 1) s)) gl (2 ^ (t + 1))) := by
    intro t ht K
    obtain ⟨d1, d2, d3, d4⟩ := hh t ht
    have p2 := pow_dbl t
    have p3 := pow_le15 (t := t + 1) (by omega)
    rw [← dbl_0 (fun s => lN (wtF h f t s)) (fun s => lN (wtF h f (t + 1) s)) gl (2 ^ t)]
    refine eq_for0 (W := fun n j => it2 (f_X12_weighs_L19 S (nI t) K) n (nI j) (dbl (fun s => lN (wtF h f t s)) (fun s => lN (wtF h f (t + 1) s)) gl (2 ^ t) j)) (e := 2 ^ t) (by omega) ?_ ?_
    · intro n
      show f_X12_weighs_L19 S _ K _ (nI (2 ^ t)) _ = _
      unfold f_X12_weighs_L19
      rw [oI_pow (by omega), if_pos (nI_le (Nat.le_refl _) (by omega)), dbl_end, p2]
    · intro n j hj
      show f_X12_weighs_L19 S _ K (it2 (f_X12_weighs_L19 S (nI t) K) n) (nI j) _ = it2 (f_X12_weighs_L19 S (nI t) K) n (nI (j + 1)) _
      generalize it2 (f_X12_weighs_L19 S (nI t) K) n = r
      unfold f_X12_weighs_L19
      have hne : j ≠ j + 2 ^ t := by have := Nat.two_pow_pos t; omega
      have e1 : (dbl (fun s => lN (wtF h f t s)) (fun s => lN (wtF h f (t + 1) s)) gl (2 ^ t) j) j * (nI (h t)).toInt64 = lN (wtF h f (t + 1) (j + 2 ^ t)) := by
        rw [dbl_lo hj, nI_l (by omega), lN_mul, wtF_hi hj]
      have e2 : (dbl (fun s => lN (wtF h f t s)) (fun s => lN (wtF h f (t + 1) s)) gl (2 ^ t) j) j * (nI (f t)).toInt64 = lN (wtF h f (t + 1) j) := by
        rw [dbl_lo hj, nI_l (by omega), lN_mul, wtF, tb_lt hj (Nat.le_refl t), if_neg (by decide)]
      rw [oI_pow (by omega), if_neg (nI_ge hj (by omega)), oI_or, or_add hj]
      simp (disch := omega) only [lz, gd_in, nI_clamp, nI_1, d1, d2]
      rw [e1, pk_uLn hne, e2, dbl_updL _ _ _ hj]
  unfold f_X12_weighs
  rw [li_0, gd_in (by omega) (by omega), lz_eq, nI_clamp (by omega), hg]
  have e2 : vp_updL gl 0 (1 : Int64) = fil (fun s => lN (wtF h f 0 s)) gl (2 ^ 0) := by
    rw [← fil_0 (fun s => lN (wtF h f 0 s)) gl]
    exact fil_updL (fun s => lN (wtF h f 0 s)) gl 0
  rw [e2]
  refine eq_for0 (W := fun n i => it2 (f_X12_weighs_L9 S) n (nI i) (fil (fun s => lN (wtF h f i s)) gl (2 ^ i))) (e := M) (by omega) ?_ ?_
  · intro n
    show f_X12_weighs_L9 S _ (nI M) _ = _
    unfold f_X12_weighs_L9
    rw [h32, if_pos (nI_le (Nat.le_refl _) (by omega))]
  · intro n i hi
    show f_X12_weighs_L9 S (it2 (f_X12_weighs_L9 S) n) (nI i) _ = it2 (f_X12_weighs_L9 S) n (nI (i + 1)) _
    generalize it2 (f_X12_weighs_L9 S) n = r
    unfold f_X12_weighs_L9
    rw [h32, if_neg (nI_ge hi (by omega)), lk_eq, hin i hi, nI_1]
/-- the sum of what is through, by these weights -/
noncomputable def tgt (L : Ld) (h f : Nat → Nat) : Nat := fb_sm (fun s => if thB L s = true then wtF h f (l_M L) s else 0) (2 ^ l_M L)
theorem lN_0 : (0 : Int64) = lN 0 := rfl
theorem m_together {S : wd_W} {L : Ld} {h f : Nat → Nat} (hL : lOk L) (hl : mL S L) (hla : mLaid S L) (hh : ∀ t, t < l_M L → S.2.2.1 22 t = nI (h t) ∧ S.2.2.1 23 t = nI (f t) ∧ h t ≤ 16 ∧ f t ≤ 16) :
    Ok (f_X12_together S) (fun o => o.1 = lN (tgt L h f) ∧ o.2.2.2.1 = nI 1 ∧ ∀ s, s < 2 ^ l_M L → o.2.2.2.2.2.2.2.1 s = nI (b2n (thB L s))) := by
  have hM := lM_15 hL
  have pM := pow_le15 hM
  have h32 : S.1 32 = nI (l_M L) := hl.1.2.2.2.2.1
  unfold f_X12_together
  refine ok_bd (m_lays (S := wd_o S [(38, (S.1 38)), (39, (S.1 39)), (44, (S.1 44))] [] [(17, (S.2.2.1 17)), (18, (S.2.2.1 18)), (19, (S.2.2.1 19)), (20, (S.2.2.1 20))] [(21, (S.2.2.2.1 21))] []) hL hl hla) ?_
  rintro ⟨u1, u2, u3, u4, u5, u6, u7⟩ ⟨e1, e2⟩
  dsimp only at e1 e2
  refine ok_bd (P := fun o => ∀ s, s < 2 ^ l_M L → o s = lN (wtF h f (l_M L) s)) (ok_of (m_weighs (S := wd_o S [(38, u1), (39, u2), (44, u3)] [] [(17, u4), (18, u5), (19, u6), (20, u7)] [(21, (S.2.2.2.1 21))] []) (M := l_M L) hM h32 hh) (fun s hs => fil_in (f := fun s => lN (wtF h f (l_M L) s)) hs)) ?_
  intro o2 hw
  rw [lN_0, li_0]
  refine ok_for0 (W := fun n i (v : Int64) => it2 (f_X12_together_L12 S (u1, u2, u3, u4, u5, u6, u7) o2) n v (nI i)) (I := fun i v => v = lN (fb_sm (fun s => if thB L s = true then wtF h f (l_M L) s else 0) i)) (e := 2 ^ l_M L) (by omega) rfl ?_ ?_
  · intro n v hI
    show Ok (f_X12_together_L12 S _ o2 _ v (nI (2 ^ l_M L))) _
    unfold f_X12_together_L12
    rw [bd_s (m_sets (S := wd_o S [(38, u1), (39, u2), (44, u3)] [] [(17, u4), (18, u5), (19, u6), (20, u7)] [(21, o2)] []) h32 hM), if_pos (nI_le (Nat.le_refl _) (by omega))]
    exact ok_some ⟨hI, e1, e2⟩
  · intro n i v hi hI ih
    show Ok (f_X12_together_L12 S _ o2 (it2 (f_X12_together_L12 S (u1, u2, u3, u4, u5, u6, u7) o2) n) v (nI i)) _
    generalize it2 (f_X12_together_L12 S (u1, u2, u3, u4, u5, u6, u7) o2) n = r at ih
    unfold f_X12_together_L12
    rw [bd_s (m_sets (S := wd_o S [(38, u1), (39, u2), (44, u3)] [] [(17, u4), (18, u5), (19, u6), (20, u7)] [(21, o2)] []) h32 hM), if_neg (nI_ge hi (by omega)), gd_in (by omega) (by omega)]
    refine ok_lk ?_
    dsimp only
    have ez : u7 (nI i).toNatClampNeg = nI (b2n (thB L i)) := by rw [nI_clamp (by omega)]; exact e2 i hi
    have hs := fb_sm_succ (fun s => if thB L s = true then wtF h f (l_M L) s else 0) i
    refine ok_ite (fun z => ?_) (fun z => ?_)
    · have hb : thB L i = false := by
        rw [ez] at z
        cases q : thB L i with
        | false => rfl
        | true => rw [q] at z; exact absurd z (by decide)
      rw [nI_1]
      refine ok_lz (ih _ ?_)
      rw [hs, hb, hI, lN_0, lN_add]; rfl
    · have hb : thB L i = true := by
        rw [ez] at z
        cases q : thB L i with
        | true => rfl
        | false => rw [q] at z; exact absurd rfl z
      rw [gd_in (by omega) (by omega), nI_clamp (by omega), hw i hi, nI_1]
      refine ok_lz (ih _ ?_)
      rw [hs, hb, hI, lN_add]; rfl
