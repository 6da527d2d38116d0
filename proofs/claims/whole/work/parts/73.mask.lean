/-! what the reference's sets are asked -/
/-- laid, as a method leaves it -/
def lai (L : Ld) (x44 : Int32) (a20 : Nat → Int32) : Prop := x44 = nI 1 ∧ ∀ s, s < 2 ^ l_M L → a20 s = nI (b2n (thB L s))
theorem ct_sm (p : Nat → Bool) : ∀ n, fb_ct p n = fb_sm (fun k => if p k = true then 1 else 0) n
  | 0 => rfl
  | n + 1 => by rw [fb_ct_succ, fb_sm_succ, ct_sm p n]
theorem ndn_back {s t : Nat} (h : s.testBit t = false) : ndn (s ||| 2 ^ t) (2 ^ t) = s := by
  apply Nat.eq_of_testBit_eq
  intro i
  rw [ndn_bit, or_pow_bit, Nat.testBit_two_pow]
  by_cases e : t = i
  · subst e; simp [h]
  · simp [e]
theorem dcd_eq {L : Ld} {t : Nat} (ht : t < l_M L) : fb_ct (fun s => s.testBit t && (thB L s && !thB L (ndn s (2 ^ t)))) (2 ^ l_M L) = dcd L t := by
  unfold dcd
  rw [ct_sm, ct_sm, sm_bit (t := t) (l_M L) _ ht]
  apply fb_sm_cong
  intro s _
  by_cases hb : s.testBit t = true
  · rw [if_pos hb]; simp [hb]
  · have hb' : s.testBit t = false := by simpa using hb
    have hb2 : (s ||| 2 ^ t).testBit t = true := by rw [or_pow_bit]; simp
    rw [if_neg hb, ndn_back hb', hb', hb2]
    simp
theorem m_decides {S : wd_W} {L : Ld} {t : Nat} (hL : lOk L) (h : mL S L) (hla : mLaid S L) (ht : t < l_M L) :
    Ok (f_X12_decides S (nI t)) (fun o => o.1 = nI (dcd L t) ∧ lai L o.2.2.2.1 o.2.2.2.2.2.2.2) := by
  have hM := lM_15 hL
  have pM := pow_le15 hM
  have h32 : S.1 32 = nI (l_M L) := h.1.2.2.2.2.1
  unfold f_X12_decides
  refine ok_bd (m_lays (S := wd_o S [(38, (S.1 38)), (39, (S.1 39)), (44, (S.1 44))] [] [(17, (S.2.2.1 17)), (18, (S.2.2.1 18)), (19, (S.2.2.1 19)), (20, (S.2.2.1 20))] [] []) hL h hla) ?_
  rintro ⟨u1, u2, u3, u4, u5, u6, u7⟩ ⟨e1, e2⟩
  dsimp only at e1 e2
  rw [li_0]
  refine ok_for0 (W := fun n i (v : Nat) => it2 (f_X12_decides_L8 S (nI t) (u1, u2, u3, u4, u5, u6, u7)) n (nI v) (nI i)) (I := fun i v => v = fb_ct (fun s => s.testBit t && (thB L s && !thB L (ndn s (2 ^ t)))) i) (e := 2 ^ l_M L) (s := 0) (by omega) rfl ?_ ?_
  · intro n v hI
    show Ok (f_X12_decides_L8 S _ _ _ (nI v) (nI (2 ^ l_M L))) _
    unfold f_X12_decides_L8
    rw [bd_s (m_sets (S := wd_o S [(38, u1), (39, u2), (44, u3)] [] [(17, u4), (18, u5), (19, u6), (20, u7)] [] []) h32 hM), if_pos (nI_le (Nat.le_refl _) (by omega)), hI, dcd_eq ht]
    exact ok_some ⟨rfl, e1, e2⟩
  · intro n i v hi hI ih
    show Ok (f_X12_decides_L8 S _ _ (it2 (f_X12_decides_L8 S (nI t) (u1, u2, u3, u4, u5, u6, u7)) n) (nI v) (nI i)) _
    generalize it2 (f_X12_decides_L8 S (nI t) (u1, u2, u3, u4, u5, u6, u7)) n = r at ih
    unfold f_X12_decides_L8
    have hs := fb_ct_succ (fun s => s.testBit t && (thB L s && !thB L (ndn s (2 ^ t)))) i
    have hnd : ndn i (2 ^ t) < 2 ^ l_M L := ndn_lt hi
    rw [bd_s (m_sets (S := wd_o S [(38, u1), (39, u2), (44, u3)] [] [(17, u4), (18, u5), (19, u6), (20, u7)] [] []) h32 hM), if_neg (nI_ge hi (by omega)), oI_pow (by omega), oI_ndn, nI_1, nI_1]
    refine ok_lk (ok_ite (fun c => ?_) (fun c => ?_))
    · rw [oI_bit1 (by omega) (by omega)] at c
      rw [gd_in (by omega) (by omega)]
      dsimp only
      have z1 : u7 (nI i).toNatClampNeg = nI (b2n (thB L i)) := by rw [nI_clamp (by omega)]; exact e2 i hi
      have z2 : u7 (nI (ndn i (2 ^ t))).toNatClampNeg = nI (b2n (thB L (ndn i (2 ^ t)))) := by rw [nI_clamp (by omega)]; exact e2 _ hnd
      refine ok_ite (fun z => ih _ ?_) (fun z => ?_)
      · have hb : thB L i = false := by
          rw [z1] at z
          cases q : thB L i with
          | false => rfl
          | true => rw [q] at z; exact absurd z n1_ne
        rw [hs, hI, c, hb]; rfl
      · have hb : thB L i = true := by
          rw [z1] at z
          cases q : thB L i with
          | true => rfl
          | false => rw [q] at z; exact absurd rfl z
        rw [gd_in (by omega) (by omega)]
        refine ok_ite (fun y => ih _ ?_) (fun y => ih _ ?_)
        · have hb2 : thB L (ndn i (2 ^ t)) = false := by
            rw [z2] at y
            cases q : thB L (ndn i (2 ^ t)) with
            | false => rfl
            | true => rw [q] at y; exact absurd y n1_ne
          rw [hs, hI, c, hb, hb2]; rfl
        · have hb2 : thB L (ndn i (2 ^ t)) = true := by
            rw [z2] at y
            cases q : thB L (ndn i (2 ^ t)) with
            | true => rfl
            | false => rw [q] at y; exact absurd rfl y
          rw [hs, hI, c, hb, hb2]; rfl
    · rw [oI_bit1 (by omega) (by omega)] at c
      have c' : i.testBit t = false := by simpa using c
      refine ih _ ?_
      rw [hs, hI, c']; rfl
theorem m_sureOf {S : wd_W} {L : Ld} {t : Nat} {p2 : Int32} (hL : lOk L) (h : mL S L) (hla : mLaid S L) (ht : t < l_M L) :
    Ok (f_X12_sureOf S (nI t) p2) (fun o => o.1 = lN (sur L t (decide (p2 ≠ 0))) ∧ lai L o.2.2.2.1 o.2.2.2.2.2.2.2.1) := by
  have hM := lM_15 hL
  have h32 : S.1 32 = nI (l_M L) := h.1.2.2.2.2.1
  have hch := h.2.2.2
  unfold f_X12_sureOf
  refine ok_bd (m_plain (S := wd_o S [(38, (S.1 38)), (39, (S.1 39)), (44, (S.1 44))] [] [(17, (S.2.2.1 17)), (18, (S.2.2.1 18)), (19, (S.2.2.1 19)), (20, (S.2.2.1 20)), (22, (S.2.2.1 22)), (23, (S.2.2.1 23))] [(21, (S.2.2.2.1 21))] []) hL h32 hch) ?_
  rintro ⟨a1, a2⟩ ⟨e1, e2⟩
  dsimp only at e1 e2
  have fin : ∀ ho : Bool, Ok (bd (f_X12_together (wd_o S [(38, (S.1 38)), (39, (S.1 39)), (44, (S.1 44))] [] [(17, (S.2.2.1 17)), (18, (S.2.2.1 18)), (19, (S.2.2.1 19)), (20, (S.2.2.1 20)), (22, upd a1 t (nI (b2n ho))), (23, upd a2 t (nI (b2n !ho)))] [(21, (S.2.2.2.1 21))] [])) fun o12 =>
      (some (o12.1, o12.2.1, o12.2.2.1, o12.2.2.2.1, o12.2.2.2.2.1, o12.2.2.2.2.2.1, o12.2.2.2.2.2.2.1, o12.2.2.2.2.2.2.2.1, upd a1 t (nI (b2n ho)), upd a2 t (nI (b2n !ho)), o12.2.2.2.2.2.2.2.2) : Option o_X12_sureOf)) (fun o => o.1 = lN (sur L t ho) ∧ lai L o.2.2.2.1 o.2.2.2.2.2.2.2.1) := by
    intro ho
    refine ok_bd (m_together (S := wd_o S [(38, (S.1 38)), (39, (S.1 39)), (44, (S.1 44))] [] [(17, (S.2.2.1 17)), (18, (S.2.2.1 18)), (19, (S.2.2.1 19)), (20, (S.2.2.1 20)), (22, upd a1 t (nI (b2n ho))), (23, upd a2 t (nI (b2n !ho)))] [(21, (S.2.2.2.1 21))] []) (h := upN (cha L) t (b2n ho)) (f := upN (fun t => 16 - cha L t) t (b2n !ho)) hL h hla (fun i hi => ?_)) ?_
    · show upd a1 t (nI (b2n ho)) i = _ ∧ upd a2 t (nI (b2n !ho)) i = _ ∧ _
      by_cases e : i = t
      · subst e
        rw [pk_us, pk_us, upN_s, upN_s]
        refine ⟨rfl, rfl, ?_, ?_⟩ <;> cases ho <;> decide
      · have hc := cha_le hL hi
        rw [pk_un e, pk_un e, upN_n e, upN_n e]
        exact ⟨e1 i hi, e2 i hi, hc, by omega⟩
    · intro o12 ⟨f1, f2, f3⟩
      rw [tgt_sur ht] at f1
      exact ok_some ⟨f1, f2, f3⟩
  by_cases hp : p2 = 0
  · have hd : decide (p2 ≠ 0) = false := by simp [hp]
    rw [hd]
    refine ok_lk ?_
    rw [if_pos hp]
    dsimp only
    rw [gd_in (by omega) (by omega), nI_clamp (by omega)]
    refine ok_lz (ok_lk ?_)
    rw [if_pos hp]
    dsimp only
    rw [li_0, gd_in (by omega) (by omega), nI_clamp (by omega), li_1]
    exact ok_lz (fin false)
  · have hd : decide (p2 ≠ 0) = true := by simp [hp]
    rw [hd]
    refine ok_lk ?_
    rw [if_neg hp]
    dsimp only
    rw [gd_in (by omega) (by omega), nI_clamp (by omega)]
    refine ok_lz (ok_lk ?_)
    rw [if_neg hp]
    dsimp only
    rw [li_1, gd_in (by omega) (by omega), nI_clamp (by omega), li_0]
    exact ok_lz (fin true)
theorem m_row {S : wd_W} {L : Ld} {p1 : Int32} {k : Nat} (hL : lOk L) (h : mL S L) (hla : mLaid S L) (hp : p1 = nI k) (hk : k < 2 ^ 31) :
    Ok (f_X12_row S p1) (fun o => o.1 = nI (rowN L k) ∧ lai L o.2.2.2.1 o.2.2.2.2.2.2.2) := by
  subst hp
  have hM := lM_15 hL
  have pM := pow_le15 hM
  have h32 : S.1 32 = nI (l_M L) := h.1.2.2.2.2.1
  have h21 : S.1 21 = nI (l_n L) := h.1.2.1
  have g3 : l_n L ≤ 12 := hL.1.2.2.1
  have p3 : 2 ^ l_n L ≤ 4096 := pow_le_k (n := 12) g3
  have hnM : l_n L ≤ l_M L := by unfold l_M; omega
  have pnM := pow_le_k hnM
  unfold f_X12_row
  refine ok_bd (m_lays (S := wd_o S [(38, (S.1 38)), (39, (S.1 39)), (44, (S.1 44))] [] [(17, (S.2.2.1 17)), (18, (S.2.2.1 18)), (19, (S.2.2.1 19)), (20, (S.2.2.1 20))] [] []) hL h hla) ?_
  rintro ⟨u1, u2, u3, u4, u5, u6, u7⟩ ⟨e1, e2⟩
  dsimp only at e1 e2
  rw [bd_s (m_sets (S := wd_o S [(38, u1), (39, u2), (44, u3)] [] [(17, u4), (18, u5), (19, u6), (20, u7)] [] []) h32 hM), h21, oI_pow (by omega), pk_sub pnM, li_0]
  refine ok_lz ?_
  refine ok_for0 (W := fun n i (v : Nat) => it2 (f_X12_row_L21 S (nI k) (u1, u2, u3, u4, u5, u6, u7) (nI (2 ^ l_M L - 2 ^ l_n L))) n (nI v) (nI i)) (I := fun i v => v = fb_ct (fun s => (cnt s 12 == k) && thB L (s ||| (2 ^ l_M L - 2 ^ l_n L))) i) (e := 2 ^ l_n L) (s := 0) (by omega) rfl ?_ ?_
  · intro n v hI
    show Ok (f_X12_row_L21 S _ _ _ _ (nI v) (nI (2 ^ l_n L))) _
    unfold f_X12_row_L21
    rw [h21, oI_pow (by omega), if_pos (nI_le (Nat.le_refl _) (by omega)), hI]
    exact ok_some ⟨rfl, e1, e2⟩
  · intro n i v hi hI ih
    show Ok (f_X12_row_L21 S _ _ _ (it2 (f_X12_row_L21 S (nI k) (u1, u2, u3, u4, u5, u6, u7) (nI (2 ^ l_M L - 2 ^ l_n L))) n) (nI v) (nI i)) _
    generalize it2 (f_X12_row_L21 S (nI k) (u1, u2, u3, u4, u5, u6, u7) (nI (2 ^ l_M L - 2 ^ l_n L))) n = r at ih
    unfold f_X12_row_L21
    have hs := fb_ct_succ (fun s => (cnt s 12 == k) && thB L (s ||| (2 ^ l_M L - 2 ^ l_n L))) i
    have p0 := Nat.two_pow_pos (l_n L)
    have hlt : i ||| (2 ^ l_M L - 2 ^ l_n L) < 2 ^ l_M L := Nat.or_lt_two_pow (Nat.lt_of_lt_of_le hi (pow_le_k hnM)) (by omega)
    have hc := cnt_le i 12
    rw [h21, oI_pow (by omega), if_neg (nI_ge hi (by omega)), bd_s (m_bits (show i < 4096 by omega)), oI_or]
    have z1 : u7 (nI (i ||| (2 ^ l_M L - 2 ^ l_n L))).toNatClampNeg = nI (b2n (thB L (i ||| (2 ^ l_M L - 2 ^ l_n L)))) := by rw [nI_clamp (by omega)]; exact e2 _ hlt
    have zero : fb_ct (fun s => (cnt s 12 == k) && thB L (s ||| (2 ^ l_M L - 2 ^ l_n L))) (i + 1) = v → Ok (lz (nI v + 0) fun x11 => r x11 (nI i + (1 : Int32))) (fun o => o.1 = nI (rowN L k) ∧ lai L o.2.2.2.1 o.2.2.2.2.2.2.2) := by
      intro e
      rw [li_0, nI_add, Nat.add_zero, nI_1]
      exact ok_lz (ih _ e.symm)
    refine ok_lk (ok_lk (ok_ite (fun c => ?_) (fun c => ?_)))
    · rw [nI_eq (by omega) hk] at c
      have ck : (cnt i 12 == k) = true := by simp [c]
      rw [gd_in (by omega) (by omega)]
      dsimp only
      refine ok_ite (fun z => zero ?_) (fun z => ?_)
      · have hb : thB L (i ||| (2 ^ l_M L - 2 ^ l_n L)) = false := by
          rw [z1] at z
          cases q : thB L (i ||| (2 ^ l_M L - 2 ^ l_n L)) with
          | false => rfl
          | true => rw [q] at z; exact absurd z n1_ne
        rw [hs, hI, ck, hb]; rfl
      · have hb : thB L (i ||| (2 ^ l_M L - 2 ^ l_n L)) = true := by
          rw [z1] at z
          cases q : thB L (i ||| (2 ^ l_M L - 2 ^ l_n L)) with
          | true => rfl
          | false => rw [q] at z; exact absurd rfl z
        rw [nI_1, nI_1]
        refine ok_lz (ih _ ?_)
        rw [hs, hI, ck, hb]; rfl
    · rw [nI_eq (by omega) hk] at c
      have ck : (cnt i 12 == k) = false := by simp [c]
      refine zero ?_
      rw [hs, hI, ck]; rfl
