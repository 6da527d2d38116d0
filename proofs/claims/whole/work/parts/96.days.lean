/-! days -/
def dayN (L : Ld) (op a b : Nat) : Nat := repF (dP (l_A L) (l_B L) (l_O L) (l_D L) op (l_n L)) (far0 a) (l_N L - 1) b
def byD (L : Ld) (a b d : Nat) : Nat := fb_sm (fun s => if dayN L (opM L s false) a b = d then wt L s else 0) (2 ^ l_M L)
theorem day_isD {L : Ld} {op a : Nat} (hL : lOr L) (hop : op < 2 ^ l_n L) (ha : a < l_N L) : isD L op a (fun v => dayN L op a v) := by
  have hen := dP_enough (bo := l_O L) (l_dG hL hop) hop ha (far0_sup (l_A L) (l_B L) (l_O L) (l_D L) op a) (far0_le a)
  have g3 := hL.1.2.2
  exact ⟨l_N L - 1, by rw [dP_K13 hop g3]; rfl, by rw [dP_K13 hop g3]; exact hen⟩
theorem day_le {L : Ld} {op a : Nat} (hL : lOr L) (hop : op < 2 ^ l_n L) (ha : a < l_N L) (b : Nat) : dayN L op a b ≤ 1000 := isD_le (day_isD hL hop ha) b
theorem day_pos {L : Ld} {op a b : Nat} (hL : lOr L) (hop : op < 2 ^ l_n L) (ha : a < l_N L) (hab : a ≠ b) : dayN L op a b ≠ 0 := by
  intro hz
  obtain ⟨k, k1, k2⟩ := (isD_sup (l_dG hL hop) (day_isD hL hop ha)).2 b (Ne.symm hab) (by show dayN L op a b < 1000; omega)
  obtain ⟨_, _, _, d1, _⟩ := l_dG hL hop k k1
  dsimp only at k2
  rw [hz] at k2
  rcases k2 with ⟨_, q⟩ | ⟨_, _, q⟩ <;> omega
theorem dP_idle {A B bo dy : Nat → Nat} {op a : Nat} (h : ∀ k, op.testBit k = true → A k ≠ a ∧ B k ≠ a) : ∀ K, dP A B bo dy op K (far0 a) = far0 a
  | 0 => rfl
  | K + 1 => by
    show dS A B bo dy op K (dP A B bo dy op K (far0 a)) = far0 a
    rw [dP_idle h K]
    unfold dS
    by_cases c : op.testBit K = true
    · obtain ⟨h1, h2⟩ := h K c
      have e1 : far0 a (A K) = 1000 := by simp [far0, h1]
      have e2 : far0 a (B K) = 1000 := by simp [far0, h2]
      rw [if_pos c, e1, e2, if_neg (by omega), if_neg (by omega)]
    · rw [if_neg c]
theorem mG_open {S : wd_W} {L : Ld} {s : Nat} (hL : lOk L) (h : mL S L) (h39 : S.1 39 = nI (opM L s false)) : mG S (l_N L) (l_n L) (opM L s false) (l_A L) (l_B L) (l_O L) (l_D L) := by
  obtain ⟨⟨h20, h21, _⟩, hk, _, _⟩ := h
  obtain ⟨⟨g1, g2, g3, _⟩, gk, _⟩ := hL
  refine ⟨h20, h21, h39, g2, g3, opM_lt L s false, fun k hk' => ?_⟩
  have q1 : k < l_n L := tb_in (opM_lt0 L s) hk'
  obtain ⟨a1, a2, a3, a4, a5, a6, a7⟩ := gk k q1
  obtain ⟨b1, b2, b3, b4, b5, b6⟩ := hk k q1
  exact ⟨b1, b2, b4, b5, a1, a2, a3, a5, a6, a7⟩
theorem op_ends {L : Ld} {s k : Nat} (hk : (opM L s false).testBit k = true) : k < l_n L ∧ stB L s (l_A L k) = true ∧ stB L s (l_B L k) = true := by
  rcases (opM_bit L s false k).mp hk with ⟨q1, q2⟩ | ⟨_, q2, _⟩
  · unfold opB at q2
    simp only [Bool.and_eq_true] at q2
    exact ⟨q1, q2.2⟩
  · cases q2
theorem day_ref {L : Ld} {s a b : Nat} (hL : lOk L) (ha : a < l_N L) (hb : b < l_N L) (hab : a ≠ b) {D : Nat → Nat}
    (e3 : (stM L s).testBit a = false → ∀ v, D v = 1000) (e4 : (stM L s).testBit a = true → ∃ n, D = repF (dP (l_A L) (l_B L) (l_O L) (l_D L) (opM L s false) (l_n L + 1)) (far0 a) n ∧ dP (l_A L) (l_B L) (l_O L) (l_D L) (opM L s false) (l_n L + 1) D = D) :
    (if (stM L s).testBit b = true then D b else 1000) = dayN L (opM L s false) a b := by
  have hR := lOk_r hL
  have hop := opM_lt0 L s
  have hD := day_isD hR hop ha
  have g3 := hL.1.2.2.1
  by_cases cb : (stM L s).testBit b = true
  · rw [if_pos cb]
    cases ca : (stM L s).testBit a with
    | true =>
      obtain ⟨n, d3, d4⟩ := e4 ca
      have hD2 : isD L (opM L s false) a D := ⟨n, by rw [dP_K13 (opM_lt L s false) (by omega)]; exact d3, by rw [dP_K13 (opM_lt L s false) (by omega)]; exact d4⟩
      exact congrFun (isD_one hD2 hD) b
    | false =>
      rw [e3 ca b]
      have hst : stB L s a = false := by
        cases z : stB L s a with
        | false => rfl
        | true => rw [(stM_bit L s a).mpr ⟨ha, z⟩] at ca; cases ca
      have hi : ∀ k, (opM L s false).testBit k = true → l_A L k ≠ a ∧ l_B L k ≠ a := fun k hk => by
        obtain ⟨_, q1, q2⟩ := op_ends hk
        exact ⟨fun e => (by rw [e, hst] at q1; cases q1), fun e => (by rw [e, hst] at q2; cases q2)⟩
      unfold dayN
      rw [repF_fix (dP_idle hi (l_n L))]
      simp [far0, Ne.symm hab]
  · rw [if_neg cb]
    have hle : dayN L (opM L s false) a b ≤ 1000 := isD_le hD b
    apply Classical.byContradiction
    intro hne
    obtain ⟨k, k1, k2⟩ := (isD_sup (l_dG hR hop) hD).2 b (Ne.symm hab) (by show dayN L (opM L s false) a b < 1000; omega)
    obtain ⟨_, q1, q2⟩ := op_ends k1
    have : stB L s b = true := by
      rcases k2 with ⟨z, _⟩ | ⟨_, z, _⟩
      · rw [← z]; exact q2
      · rw [← z]; exact q1
    exact cb ((stM_bit L s b).mpr ⟨hb, this⟩)
theorem m_daysOf {S : wd_W} {L : Ld} {a b : Nat} (hL : lOk L) (h : mL S L) (ha : a < l_N L) (hb : b < l_N L) (hab : a ≠ b) :
    Ok (f_X12_daysOf S (nI a) (nI b)) (fun o => ∀ d, d < 100 → o.2.2.2.2.2.2 d = lN (byD L a b d)) := by
  have hM := lM_15 hL
  have pM := pow_le15 hM
  have h32 : S.1 32 = nI (l_M L) := h.1.2.2.2.2.1
  have g2 := hL.1.2.1
  unfold f_X12_daysOf
  refine ok_bd (m_plain (S := wd_o S [(38, (S.1 38)), (39, (S.1 39))] [] [(17, (S.2.2.1 17)), (22, (S.2.2.1 22)), (23, (S.2.2.1 23))] [(21, (S.2.2.2.1 21)), (36, (S.2.2.2.1 36))] []) hL h32 h.2.2.2) ?_
  rintro ⟨c1, c2⟩ ⟨e1, e2⟩
  dsimp only at e1 e2
  refine ok_bd (P := fun o => ∀ s, s < 2 ^ l_M L → o s = lN (wt L s)) (ok_of (m_weighs (S := wd_o S [(38, (S.1 38)), (39, (S.1 39))] [] [(17, (S.2.2.1 17)), (22, c1), (23, c2)] [(21, (S.2.2.2.1 21)), (36, (S.2.2.2.1 36))] []) (M := l_M L) (h := cha L) (f := fun t => 16 - cha L t) hM h32 (fun t ht => ⟨e1 t ht, e2 t ht, cha_le hL ht, by omega⟩)) (fun s hs => fil_in (f := fun s => lN (wtF (cha L) (fun t => 16 - cha L t) (l_M L) s)) hs)) ?_
  intro o2 hw
  refine ok_lk ?_
  rw [li_0]
  refine ok_for0 (W := fun n i (v : Nat → Int64) => it2 (f_X12_daysOf_L10 _) n (nI i) v) (I := fun i v => ∀ d, d < i → v d = lN 0) (e := 100) (s := S.2.2.2.1 36) (by omega) (fun d hd => by omega) ?_ ?_
  · intro n v hI
    show Ok (f_X12_daysOf_L10 _ _ (nI 100) v) _
    unfold f_X12_daysOf_L10
    rw [if_pos (show (99 : Int32) < nI 100 by decide)]
    refine ok_for0 (W := fun n i (x : Int32 × Int32 × (Nat → Int32) × (Nat → Int64)) => it5 (f_X12_daysOf_L31 S (nI a) (nI b) (c1, c2) o2) n (nI i) x.1 x.2.1 x.2.2.1 x.2.2.2) (I := fun i x => ∀ d, d < 100 → x.2.2.2 d = lN (fb_sm (fun s => if dayN L (opM L s false) a b = d then wt L s else 0) i)) (e := 2 ^ l_M L) (s := (S.1 38, S.1 39, S.2.2.1 17, v)) (by omega) hI ?_ ?_
    · rintro n ⟨x6, x7, a8, a9⟩ hI
      dsimp only at hI
      show Ok (f_X12_daysOf_L31 S (nI a) (nI b) (c1, c2) o2 _ (nI (2 ^ l_M L)) x6 x7 a8 a9) _
      unfold f_X12_daysOf_L31
      rw [bd_s (m_sets (S := wd_o S [(38, x6), (39, x7)] [] [(17, a8), (22, c1), (23, c2)] [(21, o2), (36, a9)] []) h32 hM), if_pos (nI_le (Nat.le_refl _) (by omega))]
      exact ok_some hI
    · rintro n i ⟨x6, x7, a8, a9⟩ hi hI ih
      dsimp only at hI
      show Ok (f_X12_daysOf_L31 S (nI a) (nI b) (c1, c2) o2 (it5 (f_X12_daysOf_L31 S (nI a) (nI b) (c1, c2) o2) n) (nI i) x6 x7 a8 a9) _
      generalize it5 (f_X12_daysOf_L31 S (nI a) (nI b) (c1, c2) o2) n = r at ih
      have hst2 := lt31_10 (stM_lt L i) (by omega)
      unfold f_X12_daysOf_L31
      rw [bd_s (m_sets (S := wd_o S [(38, x6), (39, x7)] [] [(17, a8), (22, c1), (23, c2)] [(21, o2), (36, a9)] []) h32 hM), if_neg (nI_ge hi (by omega)), gd_in (by omega) (by omega), nI_clamp (by omega), hw i hi, lN_0, nI_1]
      refine ok_lk ?_
      have pw := pow16_le hM
      have hwl : wt L i ≤ 16 ^ l_M L := wtF_le (fun t ht => ⟨cha_le hL ht, by omega⟩) i
      refine ok_ite (fun z => ?_) (fun z => ?_)
      · rw [lN_eqL (by omega) (by omega)] at z
        refine ih (x6, x7, a8, a9) (fun d hd => ?_)
        dsimp only
        rw [fb_sm_succ, hI d hd, z]
        congr 1
        split <;> rfl
      · refine ok_bd (ok_eq (m_opens (S := wd_o S [(38, x6), (39, x7)] [] [(17, a8), (22, c1), (23, c2)] [(21, o2), (36, a9)] []) (L := L) (s := i) (mo := false) hL h (fun z => by cases z) (by omega))) ?_
        rintro _ rfl
        dsimp only
        have hday : ∀ (dd : Nat) (a20 : Nat → Int32), dd = dayN L (opM L i false) a b → dd ≤ 1000 →
            Ok (if (99 : Int32) < nI dd then r (nI (i + 1)) (nI (stM L i)) (nI (opM L i false)) a20 a9 else
              gd (okx (nI dd) 100) <| gd (okx (nI i) 32768) <| lz ((a9 (nI dd).toNatClampNeg) + (lN (wt L i))) fun x24 =>
              gd (okx (nI dd) 100) <| lz (vp_updL a9 (nI dd).toNatClampNeg x24) fun a26 => r (nI (i + 1)) (nI (stM L i)) (nI (opM L i false)) a20 a26) (fun o => ∀ d, d < 100 → o.2.2.2.2.2.2 d = lN (byD L a b d)) := by
          intro dd a20 hdd hd1
          refine ok_ite (fun y => ?_) (fun y => ?_)
          · rw [li_99, pI_ltN (by omega), nI_toInt (by omega)] at y
            refine ih (_, _, a20, a9) (fun d hd => ?_)
            dsimp only
            rw [fb_sm_succ, hI d hd, if_neg (by omega), Nat.add_zero]
          · rw [li_99, pI_ltN (by omega), nI_toInt (by omega)] at y
            rw [gd_in (by omega) (by omega), gd_in (by omega) (by omega), nI_clamp (by omega), lz_eq, gd_in (by omega) (by omega), lz_eq, hI dd (by omega), lN_add]
            refine ih (nI (stM L i), nI (opM L i false), a20, vp_updL a9 dd (lN (fb_sm (fun s => if dayN L (opM L s false) a b = dd then wt L s else 0) i + wt L i))) (fun d hd => ?_)
            dsimp only
            rw [fb_sm_succ]
            by_cases e : d = dd
            · subst e; rw [pk_uLs, if_pos hdd.symm]
            · rw [pk_uLn e, hI d hd, if_neg (by omega), Nat.add_zero]
        refine ok_lk ?_
        refine ok_ite (fun y => ?_) (fun y => ?_)
        · rw [oI_bit1 (by omega) (by omega)] at y
          refine ok_bd (m_daysTo (S := wd_o S [(38, nI (stM L i)), (39, nI (opM L i false))] [] [(17, a8), (22, c1), (23, c2)] [(21, o2), (36, a9)] []) (mG_open hL h rfl) rfl (stM_lt L i) ha hb) ?_
          rintro ⟨d1, a20⟩ ⟨D, q1, q2, q3, q4⟩
          dsimp only at q1 ⊢
          subst q1
          have := day_ref hL ha hb hab q3 q4
          rw [if_pos y] at this
          exact hday (D b) a20 this q2
        · rw [oI_bit1 (by omega) (by omega)] at y
          have hfar : 1000 = dayN L (opM L i false) a b := by
            have hD := day_isD (lOk_r hL) (opM_lt0 L i) ha
            have hle : dayN L (opM L i false) a b ≤ 1000 := isD_le hD b
            apply Classical.byContradiction
            intro hne
            obtain ⟨k, k1, k2⟩ := (isD_sup (l_dG (lOk_r hL) (opM_lt0 L i)) hD).2 b (Ne.symm hab) (by show dayN L (opM L i false) a b < 1000; omega)
            obtain ⟨_, q1, q2⟩ := op_ends k1
            have : stB L i b = true := by
              rcases k2 with ⟨z, _⟩ | ⟨_, z, _⟩
              · rw [← z]; exact q2
              · rw [← z]; exact q1
            exact y ((stM_bit L i b).mpr ⟨hb, this⟩)
          exact hday 1000 a8 hfar (Nat.le_refl _)
  · intro n i v hi hI ih
    show Ok (f_X12_daysOf_L10 _ (it2 _ n) (nI i) v) _
    generalize it2 (f_X12_daysOf_L10 _) n = r at ih
    unfold f_X12_daysOf_L10
    rw [if_neg (by rw [li_99, pI_ltN (by omega), nI_toInt (by omega)]; omega), gd_in (by omega) (by omega), lz_eq, nI_clamp (by omega), nI_1]
    refine ih _ (fun d hd => ?_)
    by_cases e : d = i
    · subst e; rw [pk_uLs]; rfl
    · rw [pk_uLn e]; exact hI d (by omega)
