/-! what the developers' sets are asked -/
theorem n1_ne : ¬ nI 1 = 0 := by decide
theorem ok_b {ρ : Type} {x : Bool} {inst : Decidable (nI (b2n x) = 0)} {a b : Option ρ} {Q : ρ → Prop} (h1 : x = false → Ok a Q) (h2 : x = true → Ok b Q) : Ok (@ite _ (nI (b2n x) = 0) inst a b) Q := by
  cases x with
  | false => exact ok_ite (fun _ => h1 rfl) (fun z => absurd rfl z)
  | true => exact ok_ite (fun z => absurd z n1_ne) (fun _ => h2 rfl)
theorem and_pow0 {s t : Nat} : s &&& 2 ^ t = 0 ↔ s.testBit t = false := by
  constructor
  · intro h
    cases hb : s.testBit t with
    | false => rfl
    | true => exact absurd h (and_ne0.mpr ⟨t, hb, by rw [pow_bit]⟩)
  · intro h
    apply Classical.byContradiction
    intro hne
    obtain ⟨i, h1, h2⟩ := and_ne0.mp hne
    rw [pow_bit] at h2
    subst h2
    rw [h] at h1; cases h1
theorem x_throughIn {S : wd_W} {L : Ld} {so ho : Nat} (hL : lOk L) (h : xS S L) (hN : xN S) (hho : ho < 2 ^ 31) :
    f_X8_throughIn_q106 S (nI so) (nI ho) = some (lN (fb_sm (fun s => if s &&& so = ho ∧ thB L s = true then wt L s else 0) (2 ^ l_M L))) := by
  have hM := lM_15 hL
  have pM := pow_le15 hM
  have h2 := h.2.1
  obtain ⟨e, f, he, hf, n7, n9, n8, n10⟩ := hN
  have pe := pow_le15 he
  have hN : xN S := ⟨e, f, he, hf, n7, n9, n8, n10⟩
  have l7 := h.2.2.2.2.2.2.2.1
  apply ok_e
  unfold f_X8_throughIn_q106
  rw [lN_0, li_0]
  refine ok_for0 (W := fun n i (v : Int64) => it2 (f_X8_throughIn_q106_L5 S (nI so) (nI ho)) n v (nI i)) (I := fun i v => v = lN (fb_sm (fun s => if s &&& so = ho ∧ thB L s = true then wt L s else 0) i)) (e := 2 ^ l_M L) (by omega) rfl ?_ ?_
  · intro n v hI
    show Ok (f_X8_throughIn_q106_L5 S _ _ _ v (nI (2 ^ l_M L))) _
    unfold f_X8_throughIn_q106_L5
    rw [h2, if_pos (nI_le (Nat.le_refl _) (by omega))]
    exact ok_some hI
  · intro n i v hi hI ih
    show Ok (f_X8_throughIn_q106_L5 S _ _ (it2 (f_X8_throughIn_q106_L5 S (nI so) (nI ho)) n) v (nI i)) _
    generalize it2 (f_X8_throughIn_q106_L5 S (nI so) (nI ho)) n = r at ih
    unfold f_X8_throughIn_q106_L5
    have hs := fb_sm_succ (fun s => if s &&& so = ho ∧ thB L s = true then wt L s else 0) i
    have hand : i &&& so ≤ i := Nat.and_le_left
    have skip : ¬ (i &&& so = ho ∧ thB L i = true) → Ok (r v (nI i + 1)) (fun o => o = lN (fb_sm (fun s => if s &&& so = ho ∧ thB L s = true then wt L s else 0) (2 ^ l_M L))) := by
      intro hn
      rw [nI_1]
      exact ih _ (by rw [hs, if_neg hn, hI, Nat.add_zero])
    rw [h2, if_neg (nI_ge hi (by omega)), oI_and]
    refine ok_lk (ok_ite (fun c => ?_) (fun c => ?_))
    · rw [nI_eq (by omega) hho] at c
      rw [bd_s (x_isThrough (S := wd_o S [] [] [] [] []) hL h hN hi)]
      refine ok_b (fun hb => ?_) (fun hb => ?_)
      · exact skip (fun z => by rw [hb] at z; cases z.2)
      · rw [gd_in (by omega) (by omega), nI_clamp (by omega), (h.2.2.2.2.2.1 i hi).1, nI_1]
        refine ok_lz (ih _ ?_)
        rw [hs, if_pos ⟨c, hb⟩, hI, lN_add]
    · rw [nI_eq (by omega) hho] at c
      exact skip (fun z => c z.1)
theorem x_given {S : wd_W} {L : Ld} {t : Nat} {p2 : Int32} (hL : lOk L) (h : xS S L) (hN : xN S) (ht : t < l_M L) :
    f_X8_given_q106 S (nI t) p2 = some (lN (sur L t (decide (p2 ≠ 0)))) := by
  have hM := lM_15 hL
  have pM := pow_le15 hM
  have h2 := h.2.1
  obtain ⟨e, f, he, hf, n7, n9, n8, n10⟩ := hN
  have pe := pow_le15 he
  have hN : xN S := ⟨e, f, he, hf, n7, n9, n8, n10⟩
  have l7 := h.2.2.2.2.2.2.2.1
  generalize hF : (fun s => if s.testBit t = true then 0 else if thB L (if decide (p2 ≠ 0) = true then s ||| 2 ^ t else s) = true then wo (cha L) (fun t => 16 - cha L t) t (l_M L) s else 0) = F
  have hsur : sur L t (decide (p2 ≠ 0)) = fb_sm F (2 ^ l_M L) := by rw [← hF]; rfl
  have hbound : 16 * fb_sm F (2 ^ l_M L) ≤ 1152921504606846976 := by
    rw [← sm_mul]
    have e1 := sm_bit (t := t) (l_M L) (wt L) ht
    rw [sm_wt16 hL] at e1
    refine Nat.le_trans ?_ (pow16_le hM)
    rw [e1]
    apply fb_sm_le
    intro s hs
    have hFe : F s = if s.testBit t = true then 0 else if thB L (if decide (p2 ≠ 0) = true then s ||| 2 ^ t else s) = true then wo (cha L) (fun t => 16 - cha L t) t (l_M L) s else 0 := (congrFun hF s).symm
    rw [hFe]
    by_cases hb : s.testBit t = true
    · rw [if_pos hb, if_pos hb]; omega
    · have hb' : s.testBit t = false := by simpa using hb
      rw [if_neg hb, if_neg hb, wt_pair hL ht hb']
      cases thB L (if decide (p2 ≠ 0) = true then s ||| 2 ^ t else s) <;> simp
  rw [hsur]
  apply ok_e
  unfold f_X8_given_q106
  rw [oI_pow (by omega), lN_0, li_0]
  refine ok_lz (ok_lk ?_)
  refine ok_for0 (W := fun n i (v : Int64) => it2 (f_X8_given_q106_L10 S p2 (nI (2 ^ t)) _) n v (nI i)) (I := fun i v => v = lN (16 * fb_sm F i)) (e := 2 ^ l_M L) (by omega) rfl ?_ ?_
  · intro n v hI
    show Ok (f_X8_given_q106_L10 S p2 _ _ _ v (nI (2 ^ l_M L))) _
    unfold f_X8_given_q106_L10
    rw [h2, if_pos (nI_le (Nat.le_refl _) (by omega)), hI]
    show Ok (some (lN (16 * fb_sm F (2 ^ l_M L)) / 16)) _
    rw [lN_div (by omega), show 16 * fb_sm F (2 ^ l_M L) / 16 = fb_sm F (2 ^ l_M L) by omega]
    exact ok_some rfl
  · intro n i v hi hI ih
    show Ok (f_X8_given_q106_L10 S p2 _ _ (it2 (f_X8_given_q106_L10 S p2 (nI (2 ^ t)) _) n) v (nI i)) _
    generalize it2 (f_X8_given_q106_L10 S p2 (nI (2 ^ t)) _) n = r at ih
    unfold f_X8_given_q106_L10
    have hs := fb_sm_succ F i
    have hand : i &&& 2 ^ t ≤ i := Nat.and_le_left
    have skip : F i = 0 → Ok (r v (nI i + 1)) (fun o => o = lN (fb_sm F (2 ^ l_M L))) := by
      intro hn
      rw [nI_1]
      exact ih _ (by rw [hs, hn, hI, Nat.add_zero])
    rw [h2, if_neg (nI_ge hi (by omega)), oI_and]
    refine ok_lk (ok_ite (fun c => ?_) (fun c => ?_))
    · rw [oI_z (by omega), and_pow0] at c
      have hlt : i ||| 2 ^ t < 2 ^ l_M L := or_pow_lt hi ht
      have hFi : F i = if thB L (if decide (p2 ≠ 0) = true then i ||| 2 ^ t else i) = true then wo (cha L) (fun t => 16 - cha L t) t (l_M L) i else 0 := by
        rw [← hF]
        show (if i.testBit t = true then _ else _) = _
        rw [c, if_neg (by decide)]
      have go : ∀ x9 : Nat, x9 < 2 ^ l_M L → x9 = (if decide (p2 ≠ 0) = true then i ||| 2 ^ t else i) → Ok (bd (f_X8_isThrough_q106 (wd_o S [] [] [] [] []) (nI x9)) fun o11 => if o11 = 0 then (r v (nI i + 1)) else (gd (okx (nI i) (S.2.2.2.2 107)) <| gd (okx (nI i ||| nI (2 ^ t)) (S.2.2.2.2 107)) <| lz (v + (((S.2.2.2.1 107) (nI i).toNatClampNeg) + ((S.2.2.2.1 107) (nI i ||| nI (2 ^ t)).toNatClampNeg))) fun x14 => r x14 (nI i + 1))) (fun o => o = lN (fb_sm F (2 ^ l_M L))) := by
        intro x9 hx9 e9
        rw [bd_s (x_isThrough (S := wd_o S [] [] [] [] []) hL h hN hx9)]
        refine ok_b (fun hb => ?_) (fun hb => ?_)
        · exact skip (by rw [hFi, ← e9, hb, if_neg (by decide)])
        · rw [oI_or, gd_in (by omega) (by omega), gd_in (by omega) (by omega), nI_clamp (by omega), nI_clamp (by omega), (h.2.2.2.2.2.1 i hi).1, (h.2.2.2.2.2.1 _ hlt).1, nI_1, lN_add, wt_pair hL ht c]
          refine ok_lz (ih _ ?_)
          rw [hs, hFi, ← e9, hb, if_pos rfl, hI, lN_add, Nat.mul_add]
      refine ok_lk (ok_ite (fun d => ?_) (fun d => ?_))
      · exact go i hi (by rw [d]; simp)
      · rw [oI_or]
        have := go (i ||| 2 ^ t) hlt (by simp [d])
        rw [oI_or] at this
        exact this
    · rw [oI_z (by omega), and_pow0] at c
      have hb : i.testBit t = true := by simpa using c
      refine skip ?_
      rw [← hF]
      show (if i.testBit t = true then _ else _) = _
      rw [if_pos hb]
/-- in how many sets of all others a thing decides -/
noncomputable def dcd (L : Ld) (t : Nat) : Nat := fb_ct (fun s => !s.testBit t && (thB L (s ||| 2 ^ t) && !thB L s)) (2 ^ l_M L)
theorem x_decidesIn {S : wd_W} {L : Ld} {t : Nat} (hL : lOk L) (h : xS S L) (hN : xN S) (ht : t < l_M L) : f_X8_decidesIn_q106 S (nI t) = some (nI (dcd L t)) := by
  have hM := lM_15 hL
  have pM := pow_le15 hM
  have h2 := h.2.1
  apply ok_e
  unfold f_X8_decidesIn_q106
  rw [oI_pow (by omega), li_0]
  refine ok_lz ?_
  refine ok_for0 (W := fun n i (v : Nat) => it2 (f_X8_decidesIn_q106_L9 S (nI (2 ^ t))) n (nI v) (nI i)) (I := fun i v => v = fb_ct (fun s => !s.testBit t && (thB L (s ||| 2 ^ t) && !thB L s)) i) (e := 2 ^ l_M L) (s := 0) (by omega) rfl ?_ ?_
  · intro n v hI
    show Ok (f_X8_decidesIn_q106_L9 S _ _ (nI v) (nI (2 ^ l_M L))) _
    unfold f_X8_decidesIn_q106_L9
    rw [h2, if_pos (nI_le (Nat.le_refl _) (by omega)), hI]
    exact ok_some rfl
  · intro n i v hi hI ih
    show Ok (f_X8_decidesIn_q106_L9 S _ (it2 (f_X8_decidesIn_q106_L9 S (nI (2 ^ t))) n) (nI v) (nI i)) _
    generalize it2 (f_X8_decidesIn_q106_L9 S (nI (2 ^ t))) n = r at ih
    unfold f_X8_decidesIn_q106_L9
    have hs := fb_ct_succ (fun s => !s.testBit t && (thB L (s ||| 2 ^ t) && !thB L s)) i
    have hand : i &&& 2 ^ t ≤ i := Nat.and_le_left
    have hlt : i ||| 2 ^ t < 2 ^ l_M L := or_pow_lt hi ht
    rw [h2, if_neg (nI_ge hi (by omega)), oI_and, oI_or, nI_1, nI_1]
    refine ok_lk (ok_ite (fun c => ?_) (fun c => ?_))
    · rw [oI_z (by omega), and_pow0] at c
      rw [bd_s (x_isThrough (S := wd_o S [] [] [] [] []) hL h hN hlt)]
      refine ok_b (fun hb => ih _ ?_) (fun hb => ?_)
      · rw [hs, hI, c, hb]; rfl
      · rw [bd_s (x_isThrough (S := wd_o S [] [] [] [] []) hL h hN hi)]
        refine ok_b (fun hb2 => ih _ ?_) (fun hb2 => ih _ ?_)
        · rw [hs, hI, c, hb, hb2]; rfl
        · rw [hs, hI, c, hb, hb2]; rfl
    · rw [oI_z (by omega), and_pow0] at c
      have hb : i.testBit t = true := by simpa using c
      refine ih _ ?_
      rw [hs, hI, hb]; rfl
/-- the row: sets of k lines with which it is through, all others holding -/
noncomputable def rowN (L : Ld) (k : Nat) : Nat := fb_ct (fun s => (cnt s 12 == k) && thB L (s ||| (2 ^ l_M L - 2 ^ l_n L))) (2 ^ l_n L)
theorem ndn_all {n M : Nat} (h : n ≤ M) : ndn (2 ^ M - 1) (2 ^ n - 1) = 2 ^ M - 2 ^ n := by
  have p := pow_le_k h
  have p0 := Nat.two_pow_pos n
  have e : (2 ^ M - 2 ^ n) = 2 ^ n * (2 ^ (M - n) - 1) := by
    rw [Nat.mul_sub, ← Nat.pow_add, Nat.mul_one, show n + (M - n) = M by omega]
  apply Nat.eq_of_testBit_eq
  intro i
  rw [ndn_bit, all_bit, all_bit, e, Nat.mul_comm, mul_bit, all_bit]
  by_cases h1 : i < n
  · have h2 : i < M := by omega
    have h3 : ¬ n ≤ i := by omega
    simp [h1, h2, h3]
  · have h3 : n ≤ i := by omega
    by_cases h2 : i < M
    · have h4 : i - n < M - n := by omega
      simp [h1, h2, h3, h4]
    · have h4 : ¬ i - n < M - n := by omega
      simp [h1, h2, h3, h4]
theorem x_lineSetsOf {S : wd_W} {L : Ld} {k : Nat} (hL : lOk L) (h : xS S L) (hN : xN S) (hk : k < 2 ^ 31) : f_X8_lineSetsOf_q106 S (nI k) = some (nI (rowN L k)) := by
  have hM := lM_15 hL
  have pM := pow_le15 hM
  have h2 := h.2.1
  have h3 := h.2.2.1
  have g3 : l_n L ≤ 12 := hL.1.2.2.1
  have p3 : 2 ^ l_n L ≤ 4096 := pow_le_k (n := 12) g3
  have p0 := Nat.two_pow_pos (l_n L)
  have p0' := Nat.two_pow_pos (l_M L)
  have hnM : l_n L ≤ l_M L := by unfold l_M; omega
  apply ok_e
  unfold f_X8_lineSetsOf_q106
  rw [h2, h3, show nI (2 ^ l_M L) - (1 : Int32) = nI (2 ^ l_M L - 1) from by rw [li_1, oI_sub1 p0'], oI_ndn, ndn_all hnM, li_0]
  refine ok_lz ?_
  refine ok_for0 (W := fun n i (v : Nat) => it2 (f_X8_lineSetsOf_q106_L19 S (nI k) (nI (2 ^ l_M L - 2 ^ l_n L))) n (nI v) (nI i)) (I := fun i v => v = fb_ct (fun s => (cnt s 12 == k) && thB L (s ||| (2 ^ l_M L - 2 ^ l_n L))) i) (e := 2 ^ l_n L) (s := 0) (by omega) rfl ?_ ?_
  · intro n v hI
    show Ok (f_X8_lineSetsOf_q106_L19 S _ _ _ (nI v) (nI (2 ^ l_n L))) _
    unfold f_X8_lineSetsOf_q106_L19
    rw [h3, if_pos (nI_lt (by omega) (by omega)), hI]
    exact ok_some rfl
  · intro n i v hi hI ih
    show Ok (f_X8_lineSetsOf_q106_L19 S _ _ (it2 (f_X8_lineSetsOf_q106_L19 S (nI k) (nI (2 ^ l_M L - 2 ^ l_n L))) n) (nI v) (nI i)) _
    generalize it2 (f_X8_lineSetsOf_q106_L19 S (nI k) (nI (2 ^ l_M L - 2 ^ l_n L))) n = r at ih
    unfold f_X8_lineSetsOf_q106_L19
    have hs := fb_ct_succ (fun s => (cnt s 12 == k) && thB L (s ||| (2 ^ l_M L - 2 ^ l_n L))) i
    have hlt : i ||| (2 ^ l_M L - 2 ^ l_n L) < 2 ^ l_M L := Nat.or_lt_two_pow (Nat.lt_of_lt_of_le hi (pow_le_k hnM)) (by omega)
    have hc := cnt_le i 12
    rw [h3, if_neg (nI_nlt (by omega) (by omega)), bd_s (x_bitCount (show i < 4096 by omega)), oI_or, nI_1, nI_1]
    refine ok_lk (ok_ite (fun c => ?_) (fun c => ?_))
    · rw [nI_eq (by omega) hk] at c
      rw [bd_s (x_isThrough (S := wd_o S [] [] [] [] []) hL h hN hlt)]
      have ck : (cnt i 12 == k) = true := by simp [c]
      refine ok_b (fun hb => ih _ ?_) (fun hb => ih _ ?_)
      · rw [hs, hI, ck, hb]; rfl
      · rw [hs, hI, ck, hb]; rfl
    · rw [nI_eq (by omega) hk] at c
      have ck : (cnt i 12 == k) = false := by simp [c]
      refine ih _ ?_
      rw [hs, hI, ck]; rfl
