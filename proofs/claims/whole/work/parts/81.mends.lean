/-! the reference's ends, by its method -/
theorem m_in {a b c : Int64} : f_X12_in a b c = some (if a < b then 0 else if c < a then 0 else 1) := by
  unfold f_X12_in
  split
  · rfl
  · split <;> rfl
theorem m_in_n {a b c : Nat} (ha : a < 2 ^ 31) (hb : b < 2 ^ 31) (hc : c < 2 ^ 31) : f_X12_in (nI a).toInt64 (lN b) (lN c) = some (nI (b2n (decide (b ≤ a ∧ a ≤ c)))) := by
  rw [m_in, nI_l ha]
  by_cases h1 : a < b
  · rw [if_pos ((lN_ltL (by omega) (by omega)).mpr h1)]
    have : decide (b ≤ a ∧ a ≤ c) = false := by simp; omega
    rw [this]; rfl
  · rw [if_neg (fun z => h1 ((lN_ltL (by omega) (by omega)).mp z))]
    by_cases h2 : c < a
    · rw [if_pos ((lN_ltL (by omega) (by omega)).mpr h2)]
      have : decide (b ≤ a ∧ a ≤ c) = false := by simp; omega
      rw [this]; rfl
    · rw [if_neg (fun z => h2 ((lN_ltL (by omega) (by omega)).mp z))]
      have : decide (b ≤ a ∧ a ≤ c) = true := by simp; omega
      rw [this]; rfl
theorem m_ends {S : wd_W} {L : Ld} {c : Bool} {m : Nat} (hL : lOk L) (h : mL S L) (hla : mLaid S L) (hm : m ≤ 60) :
    Ok (f_X12_ends S (nI m) (nI (b2n c))) (fun o => o.1 = lN (endA L c m) ∧ lai L o.2.2.2.1 o.2.2.2.2.2.2.2.1) := by
  have hM := lM_15 hL
  have pM := pow_le15 hM
  have p0 := Nat.two_pow_pos (l_M L)
  have h32 : S.1 32 = nI (l_M L) := h.1.2.2.2.2.1
  have hch := h.2.2.2
  have hsd := b2n_le c
  unfold f_X12_ends
  rw [show (0 : Int64) = lN 0 from rfl, show (60 : Int64) = lN 60 from rfl, show (1 : Int64) = lN 1 from rfl, bd_s (m_in_n (by omega) (by omega) (by omega)), bd_s (m_in_n (by omega) (by omega) (by omega))]
  have d1 : decide (0 ≤ m ∧ m ≤ 60) = true := by simp; omega
  have d2 : decide (0 ≤ b2n c ∧ b2n c ≤ 1) = true := by simp; omega
  rw [d1, d2]
  refine ok_b (fun z => by cases z) (fun _ => ok_b (fun z => by cases z) (fun _ => ?_))
  refine ok_lk ?_
  have main : ∀ x3 : Int32, x3 = nI (b2n c) → Ok (bd (f_X12_lists (wd_o S [(38, (S.1 38)), (39, (S.1 39)), (44, (S.1 44))] [] [(17, (S.2.2.1 17)), (18, (S.2.2.1 18)), (19, (S.2.2.1 19)), (20, (S.2.2.1 20)), (22, (S.2.2.1 22)), (23, (S.2.2.1 23)), (24, (S.2.2.1 24)), (25, (S.2.2.1 25)), (26, (S.2.2.1 26))] [(21, (S.2.2.2.1 21))] []) x3) fun o5 =>
bd (f_X12_plain (wd_o S [(38, o5.1), (39, o5.2.1), (44, o5.2.2.1)] [] [(17, o5.2.2.2.1), (18, o5.2.2.2.2.1), (19, o5.2.2.2.2.2.1), (20, o5.2.2.2.2.2.2.1), (22, (S.2.2.1 22)), (23, (S.2.2.1 23)), (24, o5.2.2.2.2.2.2.2.1), (25, o5.2.2.2.2.2.2.2.2.1), (26, o5.2.2.2.2.2.2.2.2.2)] [(21, (S.2.2.2.1 21))] [])) fun o6 =>
bd (f_X12_weighs (wd_o S [(38, o5.1), (39, o5.2.1), (44, o5.2.2.1)] [] [(17, o5.2.2.2.1), (18, o5.2.2.2.2.1), (19, o5.2.2.2.2.2.1), (20, o5.2.2.2.2.2.2.1), (22, o6.1), (23, o6.2), (24, o5.2.2.2.2.2.2.2.1), (25, o5.2.2.2.2.2.2.2.2.1), (26, o5.2.2.2.2.2.2.2.2.2)] [(21, (S.2.2.2.1 21))] [])) fun o7 =>
it2 (f_X12_ends_L53 S (nI m) (nI (b2n c)) o5 o6 o7) fuel (lN 0) (0 : Int32)) (fun o => o.1 = lN (endA L c m) ∧ lai L o.2.2.2.1 o.2.2.2.2.2.2.2.1) := by
    intro x3 ex3
    subst ex3
    refine ok_bd (m_lists (S := wd_o S [(38, (S.1 38)), (39, (S.1 39)), (44, (S.1 44))] [] [(17, (S.2.2.1 17)), (18, (S.2.2.1 18)), (19, (S.2.2.1 19)), (20, (S.2.2.1 20)), (22, (S.2.2.1 22)), (23, (S.2.2.1 23)), (24, (S.2.2.1 24)), (25, (S.2.2.1 25)), (26, (S.2.2.1 26))] [(21, (S.2.2.2.1 21))] []) (c := c) hL h hla) ?_
    rintro ⟨u1, u2, u3, u4, u5, u6, u7, u8, u9, u10⟩ ⟨⟨e1, e2⟩, e3, e4, e5⟩
    dsimp only at e1 e2 e3 e4 e5
    refine ok_bd (m_plain (S := wd_o S [(38, u1), (39, u2), (44, u3)] [] [(17, u4), (18, u5), (19, u6), (20, u7), (22, (S.2.2.1 22)), (23, (S.2.2.1 23)), (24, u8), (25, u9), (26, u10)] [(21, (S.2.2.2.1 21))] []) hL h32 hch) ?_
    rintro ⟨a1, a2⟩ ⟨f1, f2⟩
    dsimp only at f1 f2
    refine ok_bd (P := fun o => ∀ s, s < 2 ^ l_M L → o s = lN (wt L s)) (ok_of (m_weighs (S := wd_o S [(38, u1), (39, u2), (44, u3)] [] [(17, u4), (18, u5), (19, u6), (20, u7), (22, a1), (23, a2), (24, u8), (25, u9), (26, u10)] [(21, (S.2.2.2.1 21))] []) (M := l_M L) (h := cha L) (f := fun t => 16 - cha L t) hM h32 (fun t ht => by
      have hc := cha_le hL ht
      exact ⟨f1 t ht, f2 t ht, hc, by omega⟩)) (fun s hs => fil_in (f := fun s => lN (wtF (cha L) (fun t => 16 - cha L t) (l_M L) s)) hs)) ?_
    intro o7 hw
    have htold := (lsF_told L c (2 ^ l_M L)).1
    have hset := lsF_set L c (2 ^ l_M L)
    have hsum := endA_sum hL c m
    generalize lsF L c (2 ^ l_M L) = X at e3 e4 e5 htold hset hsum
    rw [li_0]
    refine ok_for0 (W := fun n i (v : Int64) => it2 (f_X12_ends_L53 S (nI m) (nI (b2n c)) (u1, u2, u3, u4, u5, u6, u7, u8, u9, u10) (a1, a2) o7) n v (nI i)) (I := fun i v => v = lN (fb_sm (fun s => if (hasB X.2.2 (hol L c s) (min m X.2.1) != c) = true then wt L s else 0) i)) (e := 2 ^ l_M L) (by omega) rfl ?_ ?_
    · intro n v hI
      show Ok (f_X12_ends_L53 S _ _ _ _ _ _ v (nI (2 ^ l_M L))) _
      unfold f_X12_ends_L53
      rw [bd_s (m_sets (S := wd_o S [(38, u1), (39, u2), (44, u3)] [] [(17, u4), (18, u5), (19, u6), (20, u7), (22, a1), (23, a2), (24, u8), (25, u9), (26, u10)] [(21, o7)] []) h32 hM), if_pos (nI_le (Nat.le_refl _) (by omega)), hI, hsum]
      exact ok_some ⟨rfl, e1, e2⟩
    · intro n i v hi hI ih
      show Ok (f_X12_ends_L53 S _ _ _ _ _ (it2 (f_X12_ends_L53 S (nI m) (nI (b2n c)) (u1, u2, u3, u4, u5, u6, u7, u8, u9, u10) (a1, a2) o7) n) v (nI i)) _
      generalize it2 (f_X12_ends_L53 S (nI m) (nI (b2n c)) (u1, u2, u3, u4, u5, u6, u7, u8, u9, u10) (a1, a2) o7) n = r at ih
      unfold f_X12_ends_L53
      have hstep := fb_sm_succ (fun s => if (hasB X.2.2 (hol L c s) (min m X.2.1) != c) = true then wt L s else 0) i
      rw [bd_s (m_sets (S := wd_o S [(38, u1), (39, u2), (44, u3)] [] [(17, u4), (18, u5), (19, u6), (20, u7), (22, a1), (23, a2), (24, u8), (25, u9), (26, u10)] [(21, o7)] []) h32 hM), if_neg (nI_ge hi (by omega)), nI_1]
      refine ok_lk (ok_lk (ok_lk ?_))
      have zero : (hasB X.2.2 (hol L c i) (min m X.2.1) != c) = false → Ok (lz (v + (0 : Int64)) fun x15 => r x15 (nI (i + 1))) (fun o => o.1 = lN (endA L c m) ∧ lai L o.2.2.2.1 o.2.2.2.2.2.2.2.1) := by
        intro z
        refine ok_lz (ih _ ?_)
        rw [hstep, z, if_neg (by decide), hI, lN_0, lN_add]
      have one : (hasB X.2.2 (hol L c i) (min m X.2.1) != c) = true → Ok (gd (okx (nI i) 32768) <| lz (v + (o7 (nI i).toNatClampNeg)) fun x15 => r x15 (nI (i + 1))) (fun o => o.1 = lN (endA L c m) ∧ lai L o.2.2.2.1 o.2.2.2.2.2.2.2.1) := by
        intro z
        rw [gd_in (by omega) (by omega), nI_clamp (by omega), hw i hi]
        refine ok_lz (ih _ ?_)
        rw [hstep, z, if_pos rfl, hI, lN_add]
      refine ok_b (fun hc => ?_) (fun hc => ?_)
      · subst hc
        have hh : hol L false i = i := by unfold hol; simp
        rw [hh] at zero one
        refine ok_bd (ok_eq (m_hasOne (S := wd_o S [(38, u1), (39, u2), (44, u3)] [] [(17, u4), (18, u5), (19, u6), (20, u7), (22, a1), (23, a2), (24, u8), (25, u9), (26, u10)] [(21, o7)] []) (c := false) (n := X.2.1) (l := X.2.2) (h := i) htold hm e4 e5 (fun j hj => by have := hset j hj; omega))) ?_
        rintro _ rfl
        refine ok_b (fun y => ?_) (fun y => ?_)
        · exact zero (by rw [y]; rfl)
        · exact one (by rw [y]; rfl)
      · subst hc
        have hh : hol L true i = ndn (2 ^ l_M L - 1) i := by unfold hol; simp
        rw [hh] at zero one
        rw [bd_s (m_sets (S := wd_o S [(38, u1), (39, u2), (44, u3)] [] [(17, u4), (18, u5), (19, u6), (20, u7), (22, a1), (23, a2), (24, u8), (25, u9), (26, u10)] [(21, o7)] []) h32 hM), show nI (2 ^ l_M L) - (1 : Int32) = nI (2 ^ l_M L - 1) from by rw [li_1, oI_sub1 p0], oI_ndn]
        refine ok_bd (ok_eq (m_hasOne (S := wd_o S [(38, u1), (39, u2), (44, u3)] [] [(17, u4), (18, u5), (19, u6), (20, u7), (22, a1), (23, a2), (24, u8), (25, u9), (26, u10)] [(21, o7)] []) (c := true) (n := X.2.1) (l := X.2.2) (h := ndn (2 ^ l_M L - 1) i) htold hm e4 e5 (fun j hj => by have := hset j hj; omega))) ?_
        rintro _ rfl
        refine ok_b (fun y => ?_) (fun y => ?_)
        · exact one (by rw [y]; rfl)
        · exact zero (by rw [y]; rfl)
  cases c with
  | true => exact ok_ite (fun _ => main 1 rfl) (fun z => absurd rfl z)
  | false => exact ok_ite (fun z => absurd z (by decide)) (fun _ => main 0 rfl)
