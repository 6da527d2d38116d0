/-! thought, look first -/
def thA (L : Ld) (T : Nt) (p1 p2 : Int32) : Int64 := if (inB 0 ((l_M L : Int) - 1) p1 && inB 0 1 p2) = true then (if p2 = 0 then lN (agS L T (2 ^ p1.toNatClampNeg)) else lN (agS L T 0)) else -1
theorem m_thought {S : wd_W} {L : Ld} {T : Nt} {p1 p2 : Int32} (hL : lOk L) (h : mL S L) (hT : mT S T) (hn : nOk L T) : Ok (f_X12_thought S p1 p2) (fun o => o.1 = thA L T p1 p2) := by
  have hM := lM_15 hL
  have h32 : S.1 32 = nI (l_M L) := h.1.2.2.2.2.1
  unfold f_X12_thought thA
  rw [bd_s (m_isThingB (S := wd_o S [(38, (S.1 38)), (39, (S.1 39))] [(64, (S.2.1 64))] [(22, (S.2.2.1 22)), (23, (S.2.2.1 23))] [(21, (S.2.2.2.1 21)), (35, (S.2.2.2.1 35))] []) h32 (by omega))]
  refine ok_b (fun z => ok_some (by rw [z]; rfl)) (fun z => ?_)
  obtain ⟨t, t1, rfl, t2, t3⟩ := inB_t (by omega) z
  rw [z, lN_0, show (1 : Int64) = lN 1 from rfl, bd_s (m_inN (by omega) (by omega))]
  refine ok_b (fun y => ok_some (by rw [show inB 0 1 p2 = false from y]; rfl)) (fun y => ?_)
  have y : inB 0 1 p2 = true := y
  rw [y, if_pos (show (true && true) = true from rfl), nI_clamp (by omega)]
  refine ok_bd (m_asks (S := wd_o S [(38, (S.1 38)), (39, (S.1 39))] [(64, (S.2.1 64))] [(22, (S.2.2.1 22)), (23, (S.2.2.1 23))] [(21, (S.2.2.2.1 21)), (35, (S.2.2.2.1 35))] []) hL h hT hn) ?_
  intro o3 ho
  refine ok_ite (fun w => ?_) (fun w => ?_)
  · rw [gd_in (by omega) (by omega), if_pos w]
    exact ok_some (ho.2 t (by omega))
  · rw [if_neg w]
    exact ok_some ho.1
def absL (x : Int64) : Int64 := if 0 ≤ x then x else -x
theorem absL_gt (x : Int64) : (if 0 < x then x else -x) = absL x := by
  unfold absL
  by_cases h : 0 < x
  · rw [if_pos h, if_pos (Int64.le_of_lt h)]
  · rw [if_neg h]
    by_cases h2 : 0 ≤ x
    · rw [if_pos h2]
      have : x = 0 := by
        have h3 := Int64.le_iff_toInt_le.mp h2
        have h4 : ¬ (0 : Int64).toInt < x.toInt := fun q => h (Int64.lt_iff_toInt_lt.mpr q)
        apply Int64.toInt_inj.mp
        omega
      rw [this]; rfl
    · rw [if_neg h2]
/-- the first with the least -/
def lkF (D : Nat → Int64) : Nat → Int32 × Int64
  | 0 => (-1, 0)
  | t + 1 => if (lkF D t).1 = -1 ∨ D t < (lkF D t).2 then (nI t, D t) else lkF D t
theorem lkF_1 (D : Nat → Int64) : ∀ t, (lkF D t).1 = -1 ∨ ∃ j, j < t ∧ (lkF D t).1 = nI j
  | 0 => Or.inl rfl
  | t + 1 => by
    rw [lkF]
    split
    · exact Or.inr ⟨t, by omega, rfl⟩
    · rcases lkF_1 D t with h | ⟨j, h1, h2⟩
      · exact Or.inl h
      · exact Or.inr ⟨j, by omega, h2⟩
theorem m1_neg : (-1 : Int32) < 0 := by decide
theorem lkF_neg {D : Nat → Int64} {t : Nat} (ht : t ≤ 32768) : (lkF D t).1 < 0 ↔ (lkF D t).1 = -1 := by
  rcases lkF_1 D t with h | ⟨j, h1, h2⟩
  · rw [h]; exact ⟨fun _ => rfl, fun _ => m1_neg⟩
  · rw [h2, oI_neg (by omega), oI_m1 (by omega)]
def dif (L : Ld) (T : Nt) (t : Nat) : Int64 := absL ((2 : Int64) * lN (agS L T (2 ^ t)) - lN (agS L T 0))
def lookA (L : Ld) (T : Nt) : Int32 := if agS L T 0 = 0 then -1 else (lkF (dif L T) (l_M L)).1
theorem m_look {S : wd_W} {L : Ld} {T : Nt} (hL : lOk L) (h : mL S L) (hT : mT S T) (hn : nOk L T) : Ok (f_X12_look S) (fun o => o.1 = lookA L T) := by
  have hM := lM_15 hL
  have h32 : S.1 32 = nI (l_M L) := h.1.2.2.2.2.1
  have hle := agS_le hL T 0
  unfold f_X12_look lookA
  refine ok_bd (m_asks (S := wd_o S [(38, (S.1 38)), (39, (S.1 39))] [(64, (S.2.1 64))] [(22, (S.2.2.1 22)), (23, (S.2.2.1 23))] [(21, (S.2.2.2.1 21)), (35, (S.2.2.2.1 35))] []) hL h hT hn) ?_
  rintro ⟨y1, y2, y3, y4, y5, y6, y7⟩ ⟨e1, e2⟩
  dsimp only at e1 e2 ⊢
  subst e1
  rw [lN_0]
  refine ok_ite (fun z => ?_) (fun z => ?_)
  · rw [lN_eqL (by omega) (by omega)] at z
    rw [if_pos z]; exact ok_some rfl
  · rw [lN_eqL (by omega) (by omega)] at z
    rw [if_neg z, li_0]
    refine ok_for0 (W := fun n i (x : Int32 × Int64) => it3 (f_X12_look_L22 S _) n x.1 x.2 (nI i)) (I := fun i x => x = lkF (dif L T) i) (e := l_M L) (s := (-1, lN 0)) (by omega) rfl ?_ ?_
    · rintro n ⟨x2, x3⟩ hI
      show Ok (f_X12_look_L22 S _ _ x2 x3 (nI (l_M L))) _
      unfold f_X12_look_L22
      rw [h32, if_pos (nI_le (Nat.le_refl _) (by omega))]
      exact ok_some (congrArg Prod.fst hI)
    · rintro n i ⟨x2, x3⟩ hi hI ih
      show Ok (f_X12_look_L22 S _ (it3 (f_X12_look_L22 S _) n) x2 x3 (nI i)) _
      generalize it3 (f_X12_look_L22 S _) n = r at ih
      have i2 : x2 = (lkF (dif L T) i).1 := congrArg Prod.fst hI
      have i3 : x3 = (lkF (dif L T) i).2 := congrArg Prod.snd hI
      have hneg := lkF_neg (D := dif L T) (t := i) (by omega)
      rw [← i2] at hneg
      have hstep : lkF (dif L T) (i + 1) = if x2 = -1 ∨ dif L T i < x3 then (nI i, dif L T i) else (x2, x3) := by
        rw [lkF, ← i2, ← i3]
        rw [i2, i3]
      unfold f_X12_look_L22
      rw [h32, if_neg (nI_ge hi (by omega)), gd_in (by omega) (by omega), lz_eq, nI_clamp (by omega), nI_1]
      dsimp only
      generalize hdv : (2 : Int64) * y7 i - lN (agS L T 0) = dv
      rw [e2 i hi] at hdv
      have key : ∀ v, v = dif L T i → Ok (lk (fun x10 x11 => r x10 x11 (nI (i + 1))) fun k86_12 => lk (k86_12 (nI i) v) fun k80_13 => if x2 < 0 then k80_13 else if v < x3 then k80_13 else k86_12 x2 x3) (fun o => o.1 = (lkF (dif L T) (l_M L)).1) := by
        intro v hv
        subst hv
        refine ok_lk (ok_lk ?_)
        refine ok_ite (fun w => ?_) (fun w => ok_ite (fun w2 => ?_) (fun w2 => ?_))
        · exact ih (nI i, dif L T i) (by rw [hstep, if_pos (Or.inl (hneg.mp w))])
        · exact ih (nI i, dif L T i) (by rw [hstep, if_pos (Or.inr w2)])
        · exact ih (x2, x3) (by rw [hstep, if_neg (fun q => by rcases q with q | q; exact w (hneg.mpr q); exact w2 q)])
      refine ok_lk (ok_ite (fun w => ?_) (fun w => ?_))
      · exact key _ (by unfold dif absL; rw [hdv, if_pos w])
      · exact key _ (by unfold dif absL; rw [hdv, if_neg w])
/-! the developers' -/
def xAg (S : wd_W) (L : Ld) (T : Nt) : Prop := 2 ^ l_n L ≤ S.2.2.2.2 138 ∧ ∀ j, j < 2 ^ l_n L → S.2.2.1 138 j = nI (b2n (agB L T j))
def xN8 (S : wd_W) : Prop := ∃ e, e ≤ 12 ∧ S.2.2.2.2 138 = 2 ^ e
theorem x_agreeing {S : wd_W} {L : Ld} {T : Nt} {ho : Nat} (hL : lOk L) (h : xS S L) (hN : xN S) (hN8 : xN8 S) (hag : xAg S L T) (hho : ho < 2 ^ 31) : f_X5_agreeing_q137 S (nI ho) = some (lN (agS L T ho)) := by
  have hM := lM_15 hL
  have pM := pow_le15 hM
  have g3 : l_n L ≤ 12 := hL.1.2.2.1
  obtain ⟨e8, he8, n138⟩ := hN8
  have p8 : 2 ^ e8 ≤ 4096 := pow_le_k (n := 12) he8
  obtain ⟨e, f, he, hf, n7, n9, n8, n10⟩ := hN
  have pe := pow_le15 he
  obtain ⟨hxR, h2, h3, h4, ht, hs, hj, l7, l9, l8, l10⟩ := h
  obtain ⟨a1, a2⟩ := hag
  apply ok_e
  unfold f_X5_agreeing_q137
  rw [li_0, lN_0]
  refine ok_for0 (W := fun n i (v : Int64) => it2 (f_X5_agreeing_q137_L5 S (nI ho)) n v (nI i)) (I := fun i v => v = lN (fb_sm (agW L T ho) i)) (e := 2 ^ l_M L) (by omega) rfl ?_ ?_
  · intro n v hI
    show Ok (f_X5_agreeing_q137_L5 S (nI ho) _ v (nI (2 ^ l_M L))) _
    unfold f_X5_agreeing_q137_L5
    rw [h2, if_pos (nI_le (Nat.le_refl _) (by omega))]
    exact ok_some hI
  · intro n i v hi hI ih
    show Ok (f_X5_agreeing_q137_L5 S (nI ho) (it2 (f_X5_agreeing_q137_L5 S (nI ho)) n) v (nI i)) _
    generalize it2 (f_X5_agreeing_q137_L5 S (nI ho)) n = r at ih
    have hand : i &&& ho ≤ i := Nat.and_le_left
    have hop := opM_lt0 L i
    have p3 : 2 ^ l_n L ≤ 4096 := pow_le_k (n := 12) g3
    have stay : agW L T ho i = 0 → Ok (r v (nI (i + 1))) (fun o => o = lN (agS L T ho)) := fun hz => ih v (by rw [fb_sm_succ, hz, Nat.add_zero]; exact hI)
    unfold f_X5_agreeing_q137_L5
    rw [h2, if_neg (nI_ge hi (by omega)), oI_and, nI_1]
    refine ok_lk (ok_ite (fun c => ?_) (fun c => ?_))
    · rw [nI_eq (by omega) hho] at c
      rw [bd_s (x_openIn (S := wd_o S [] [] [] [] []) hL h3 (hs i hi).2 (show i < S.2.2.2.2 109 by omega) (show S.2.2.2.2 109 ≤ 32768 by omega)), gd_in (by omega) (by omega), nI_clamp (show opM L i false < 2 ^ 31 by omega), a2 _ hop]
      refine ok_b (fun hb => stay (by unfold agW; rw [hb]; rfl)) (fun hb => ?_)
      rw [gd_in (by omega) (by omega), lz_eq, nI_clamp (by omega), (hs i hi).1, hI, lN_add]
      refine ih _ ?_
      rw [fb_sm_succ]
      have : agW L T ho i = wt L i := by unfold agW; rw [hb, c]; simp
      rw [this]
    · rw [nI_eq (by omega) hho] at c
      exact stay (by
        unfold agW
        have : (i &&& ho == ho) = false := by simp [c]
        rw [this]; simp)
theorem x_lookFirst {S : wd_W} {L : Ld} {T : Nt} (hL : lOk L) (h : xS S L) (hN : xN S) (hN8 : xN8 S) (hag : xAg S L T) : f_X5_lookFirst_q137 S = some (lookA L T) := by
  have hM := lM_15 hL
  have h4 := h.2.2.2.1
  have hle := agS_le hL T 0
  apply ok_e
  unfold f_X5_lookFirst_q137 lookA
  rw [li_0, lN_0, bd_s (x_agreeing (S := wd_o S [] [] [] [] []) (ho := 0) hL h hN hN8 hag (by omega))]
  refine ok_ite (fun z => ?_) (fun z => ?_)
  · rw [lN_eqL (by omega) (by omega)] at z
    rw [if_pos z]; exact ok_some rfl
  · rw [lN_eqL (by omega) (by omega)] at z
    rw [if_neg z]
    refine ok_for0 (W := fun n i (x : Int32 × Int64) => it3 (f_X5_lookFirst_q137_L22 S _) n x.1 x.2 (nI i)) (I := fun i x => x = lkF (dif L T) i) (e := l_M L) (s := (-1, lN 0)) (by omega) rfl ?_ ?_
    · rintro n ⟨x2, x3⟩ hI
      show Ok (f_X5_lookFirst_q137_L22 S _ _ x2 x3 (nI (l_M L))) _
      unfold f_X5_lookFirst_q137_L22
      rw [h4, if_pos (nI_le (Nat.le_refl _) (by omega))]
      exact ok_some (congrArg Prod.fst hI)
    · rintro n i ⟨x2, x3⟩ hi hI ih
      show Ok (f_X5_lookFirst_q137_L22 S _ (it3 (f_X5_lookFirst_q137_L22 S _) n) x2 x3 (nI i)) _
      generalize it3 (f_X5_lookFirst_q137_L22 S _) n = r at ih
      have i2 : x2 = (lkF (dif L T) i).1 := congrArg Prod.fst hI
      have i3 : x3 = (lkF (dif L T) i).2 := congrArg Prod.snd hI
      have hstep : lkF (dif L T) (i + 1) = if x2 = -1 ∨ dif L T i < x3 then (nI i, dif L T i) else (x2, x3) := by
        rw [lkF, ← i2, ← i3]
        rw [i2, i3]
      have p2 : (2 : Nat) ^ i < 2 ^ 31 := pow_lt31 (by omega)
      unfold f_X5_lookFirst_q137_L22
      rw [h4, if_neg (nI_ge hi (by omega)), oI_pow (by omega), bd_s (x_agreeing (S := wd_o S [] [] [] [] []) hL h hN hN8 hag p2), lz_eq, absL_gt, nI_1, show absL ((2 : Int64) * lN (agS L T (2 ^ i)) - lN (agS L T 0)) = dif L T i from rfl]
      refine ok_lk (ok_lk ?_)
      refine ok_ite (fun w => ?_) (fun w => ok_ite (fun w2 => ?_) (fun w2 => ?_))
      · exact ih (nI i, dif L T i) (by rw [hstep, if_pos (Or.inl w)])
      · exact ih (x2, x3) (by rw [hstep, if_neg (fun q => by rcases q with q | q; exact w q; exact Int64.not_lt.mpr w2 q)])
      · exact ih (nI i, dif L T i) (by rw [hstep, if_pos (Or.inr (Int64.not_le.mp w2))])
theorem okg_in {n c s mc ms : Nat} (h : n ≤ 1000000) (hc : c + 1 ≤ mc) (hs : s + n ≤ ms) : okg (nI n) c s mc ms = true := by
  unfold okg
  rw [nI_toInt (by omega), nI_clamp (by omega)]
  simp only [Bool.and_eq_true, decide_eq_true_eq]
  refine ⟨⟨⟨by omega, by omega⟩, ?_⟩, ?_⟩
  · exact Nat.ble_eq_true_of_le hc
  · exact Nat.ble_eq_true_of_le hs
theorem okr_in {c s x y mc ms : Nat} (hc : c + x ≤ mc) (hs : s + y ≤ ms) : okr c s x y mc ms = true := by
  unfold okr
  simp only [Bool.and_eq_true]
  exact ⟨Nat.ble_eq_true_of_le hc, Nat.ble_eq_true_of_le hs⟩
theorem x_compare {S : wd_W} {L : Ld} {T : Nt} (hL : lOk L) (h : xS S L) (hT : xT S 27 T) (hn : nOk L T) (hN8 : xN8 S) :
    Ok (f_X5_compare_q137 S) (fun o => (∃ e, e ≤ 12 ∧ o.2.1 = 2 ^ e) ∧ 2 ^ l_n L ≤ o.2.1 ∧ (∀ j, j < 2 ^ l_n L → o.1 j = nI (b2n (agB L T j))) ∧ o.2.2.1 ≤ 1 ∧ o.2.2.2 ≤ 4096 ∧ o.2.2.2 + 2 * S.2.2.2.2 138 ≤ 2 * o.2.1) := by
  have hR := lOk_r hL
  have g3 : l_n L ≤ 12 := hL.1.2.2.1
  have p3 : 2 ^ l_n L ≤ 4096 := pow_le_k (n := 12) g3
  have p0 := Nat.two_pow_pos (l_n L)
  obtain ⟨e8, he8, n138⟩ := hN8
  have p8 : 2 ^ e8 ≤ 4096 := pow_le_k (n := 12) he8
  obtain ⟨hxR, h2, h3, h4, ht, hs, hj, l7, l9, l8, l10⟩ := h
  unfold f_X5_compare_q137
  refine ok_lk ?_
  have main : ∀ (a1 : Nat → Int32) (n2 n3 n4 : Nat), (∃ e, e ≤ 12 ∧ n2 = 2 ^ e) → 2 ^ l_n L ≤ n2 → n3 ≤ 1 → n4 ≤ 4096 → n4 + 2 * S.2.2.2.2 138 ≤ 2 * n2 →
      Ok (it2 (f_X5_compare_q137_L32 S n2 n3 n4) fuel (0 : Int32) a1) (fun o => (∃ e, e ≤ 12 ∧ o.2.1 = 2 ^ e) ∧ 2 ^ l_n L ≤ o.2.1 ∧ (∀ j, j < 2 ^ l_n L → o.1 j = nI (b2n (agB L T j))) ∧ o.2.2.1 ≤ 1 ∧ o.2.2.2 ≤ 4096 ∧ o.2.2.2 + 2 * S.2.2.2.2 138 ≤ 2 * o.2.1) := by
    intro a1 n2 n3 n4 q1 q2 q3 q4 q5
    have q6 : n2 ≤ 4096 := by obtain ⟨e, he, rfl⟩ := q1; exact pow_le_k (n := 12) he
    rw [li_0]
    refine ok_for0 (W := fun m i (a : Nat → Int32) => it2 (f_X5_compare_q137_L32 S n2 n3 n4) m (nI i) a) (I := fun i a => ∀ j, j < i → a j = nI (b2n (agB L T j))) (e := 2 ^ l_n L) (s := a1) (by omega) (fun j hj => by omega) ?_ ?_
    · intro m a hI
      show Ok (f_X5_compare_q137_L32 S n2 n3 n4 _ (nI (2 ^ l_n L)) a) _
      unfold f_X5_compare_q137_L32
      rw [h3, if_pos (nI_lt (by omega) (by omega))]
      exact ok_some ⟨q1, q2, hI, q3, q4, q5⟩
    · intro m i a hi hI ih
      show Ok (f_X5_compare_q137_L32 S n2 n3 n4 (it2 (f_X5_compare_q137_L32 S n2 n3 n4) m) (nI i) a) _
      generalize it2 (f_X5_compare_q137_L32 S n2 n3 n4) m = r at ih
      have fin : ∀ x : Bool, x = agB L T i → Ok (lz ((nI (b2n x)).toInt8.toInt32) fun x14 => gd (okx (nI i) n2) <| lz (upd a (nI i).toNatClampNeg (vp_nar .byte x14)) fun a16 => r (nI i + (1 : Int32)) a16) (fun o => (∃ e, e ≤ 12 ∧ o.2.1 = 2 ^ e) ∧ 2 ^ l_n L ≤ o.2.1 ∧ (∀ j, j < 2 ^ l_n L → o.1 j = nI (b2n (agB L T j))) ∧ o.2.2.1 ≤ 1 ∧ o.2.2.2 ≤ 4096 ∧ o.2.2.2 + 2 * S.2.2.2.2 138 ≤ 2 * o.2.1) := by
        intro x hx
        have e1 : vp_nar .byte (nI (b2n x)).toInt8.toInt32 = nI (b2n x) := by cases x <;> rfl
        rw [lz_eq, gd_in (by omega) (by omega), lz_eq, nI_clamp (by omega), nI_1, e1]
        refine ih _ (fun j hj => ?_)
        by_cases e : j = i
        · subst e; rw [pk_us, hx]
        · rw [pk_un e]; exact hI j (by omega)
      unfold f_X5_compare_q137_L32
      rw [h3, if_neg (nI_nlt (by omega) (by omega)), gd_t (okr_in (by omega) (by omega)), bd_s (x_isAsTold (S := wd_o S [] [] [(138, a)] [] [(138, n2)]) hR hxR hT hn hi)]
      refine ok_lk (ok_b (fun hb => ?_) (fun hb => ?_))
      · exact fin false hb.symm
      · exact fin true hb.symm
  have hx : Int32.ofNat (S.2.2.2.2 138) = nI (S.2.2.2.2 138) := rfl
  rw [h3, hx]
  refine ok_ite (fun c => ?_) (fun c => ?_)
  · rw [nI_ltI (by omega) (by omega)] at c
    exact main _ _ 0 0 ⟨e8, he8, n138⟩ (by omega) (by omega) (by omega) (by omega)
  · rw [nI_ltI (by omega) (by omega)] at c
    have x5 : nI (2 ^ l_n L - 1) + (1 : Int32) = nI (2 ^ l_n L) := by rw [nI_1, show 2 ^ l_n L - 1 + 1 = 2 ^ l_n L by omega]
    rw [lz_eq, x5, gd_t (okg_in (by omega) (by omega) (by omega)), nI_clamp (by omega)]
    have hlt : e8 < l_n L := by
      apply Classical.byContradiction
      intro hh
      have := pow_le_k (show l_n L ≤ e8 by omega)
      omega
    have := pow_le_k (show e8 + 1 ≤ l_n L by omega)
    have := pow_dbl e8
    exact main _ _ _ _ ⟨l_n L, g3, rfl⟩ (Nat.le_refl _) (by omega) (by omega) (by omega)
