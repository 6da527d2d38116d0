/-! letters -/
abbrev Nt : Type := Nat → Nat → Nat
/-- notes: 0 how many mendings, 1 line, 2 coins, 3 becomes; 4 how many letters, 5 from, 6 to, 7 came -/
def nOk (L : Ld) (T : Nt) : Prop :=
  (T 0 0 ≤ 9 ∧ ∀ i, i < T 0 0 → T 1 i < l_n L ∧ T 2 i ≤ 999 ∧ T 3 i ≤ 16 ∧ l_C L (T 1 i) < T 3 i) ∧ T 4 0 ≤ 6 ∧ ∀ i, i < T 4 0 → T 5 i < l_N L ∧ T 6 i < l_N L ∧ T 5 i ≠ T 6 i ∧ T 7 i ≤ 1
def mT (S : wd_W) (T : Nt) : Prop := S.1 51 = nI (T 0 0) ∧ S.1 60 = nI (T 4 0) ∧ (∀ i, i < T 0 0 → S.2.2.1 27 i = nI (T 1 i) ∧ S.2.2.1 28 i = nI (T 2 i) ∧ S.2.2.1 29 i = nI (T 3 i)) ∧ ∀ i, i < T 4 0 → S.2.2.1 32 i = nI (T 5 i) ∧ S.2.2.1 33 i = nI (T 6 i) ∧ S.2.2.1 34 i = nI (T 7 i)
def xT (S : wd_W) (c : Nat) (T : Nt) : Prop := S.1 (100 * c) = nI (T 0 0) ∧ S.1 (100 * c + 4) = nI (T 4 0) ∧ (∀ i, i < T 0 0 → S.2.2.1 (c + 1) i = nI (T 1 i) ∧ S.2.2.1 (c + 2) i = nI (T 2 i) ∧ S.2.2.1 (c + 3) i = nI (T 3 i)) ∧ ∀ i, i < T 4 0 → S.2.2.1 (c + 4) i = nI (T 5 i) ∧ S.2.2.1 (c + 5) i = nI (T 6 i) ∧ S.2.2.1 (c + 6) i = nI (T 7 i)
def ldB (L : Ld) (op a b : Nat) : Bool := (rchM (ouM L) (tM L) op (l_n L) (l_N L) a).testBit b
theorem ldB_iff {L : Ld} {op a b : Nat} (hL : lOr L) (ha : a < l_N L) (hop : op < 2 ^ l_n L) : ldB L op a b = true ↔ rch (l_E L op) a b := by
  unfold ldB
  rw [(rchM_ok (g := ouM L) (t := tM L) hop (fun k hk' => (tM_lt hL (tb_in hop hk')).1) ha).2 b, rch_out]
def agB (L : Ld) (T : Nt) (op : Nat) : Bool := alls (fun k => decide (b2n (ldB L op (T 5 k) (T 6 k)) = T 7 k)) (T 4 0)
theorem x_isAsTold {S : wd_W} {L : Ld} {T : Nt} {op : Nat} (hL : lOr L) (h : xR S 111 L) (hT : xT S 27 T) (hn : nOk L T) (hop : op < 2 ^ l_n L) : f_X5_isAsTold_q137 S (nI op) = some (nI (b2n (agB L T op))) := by
  obtain ⟨_, n4, hk⟩ := hn
  obtain ⟨_, t4, _, tk⟩ := hT
  apply ok_e
  unfold f_X5_isAsTold_q137
  rw [li_0]
  refine ok_for0 (W := fun m i (_ : Unit) => it1 (f_X5_isAsTold_q137_L2 S (nI op)) m (nI i)) (I := fun i _ => ∀ k, k < i → decide (b2n (ldB L op (T 5 k) (T 6 k)) = T 7 k) = true) (e := T 4 0) (s := ()) (by omega) (fun k hk => by omega) ?_ ?_
  · intro m _ hI
    show Ok (f_X5_isAsTold_q137_L2 S (nI op) _ (nI (T 4 0))) _
    unfold f_X5_isAsTold_q137_L2
    rw [show S.1 2704 = nI (T 4 0) from t4, if_pos (nI_le (Nat.le_refl _) (by omega))]
    refine ok_some ?_
    have : agB L T op = true := alls_iff.mpr hI
    rw [this]; rfl
  · intro m i _ hi hI ih
    show Ok (f_X5_isAsTold_q137_L2 S (nI op) (it1 (f_X5_isAsTold_q137_L2 S (nI op)) m) (nI i)) _
    generalize it1 (f_X5_isAsTold_q137_L2 S (nI op)) m = r at ih
    obtain ⟨k1, k2, k3, k4⟩ := hk i hi
    obtain ⟨r1, r2, r3⟩ := tk i hi
    have r1 : S.2.2.1 31 i = nI (T 5 i) := r1
    have r2 : S.2.2.1 32 i = nI (T 6 i) := r2
    have r3 : S.2.2.1 33 i = nI (T 7 i) := r3
    unfold f_X5_isAsTold_q137_L2
    rw [show S.1 2704 = nI (T 4 0) from t4, if_neg (nI_ge hi (by omega)), gd_in (by omega) (by omega), gd_in (by omega) (by omega), nI_clamp (by omega), r1, r2, bd_s (x_leads_q111 (S := wd_o S [] [] [] [] []) hL h k1 k2 hop).1, gd_in (by omega) (by omega), r3, nI_1]
    have hst : agB L T op = false ∨ decide (b2n (ldB L op (T 5 i) (T 6 i)) = T 7 i) = true := by
      cases hd : decide (b2n (ldB L op (T 5 i) (T 6 i)) = T 7 i) with
      | true => exact Or.inr rfl
      | false => exact Or.inl (alls_f.mpr ⟨i, hi, hd⟩)
    have hgo : decide (b2n (ldB L op (T 5 i) (T 6 i)) = T 7 i) = true → Ok (r (nI (i + 1))) (fun o => o = nI (b2n (agB L T op))) := fun hd => ih () (fun k hk => by
      by_cases e : k = i
      · subst e; exact hd
      · exact hI k (by omega))
    have hno : ¬ (decide (b2n (ldB L op (T 5 i) (T 6 i)) = T 7 i) = true) → Ok (some (0 : Int32)) (fun o => o = nI (b2n (agB L T op))) := fun hd => by
      rcases hst with q | q
      · rw [q]; exact ok_some rfl
      · exact absurd q hd
    show Ok (lk _ _) _
    have hfold : (rchM (ouM L) (tM L) op (l_n L) (l_N L) (T 5 i)).testBit (T 6 i) = ldB L op (T 5 i) (T 6 i) := rfl
    rw [hfold]
    generalize ldB L op (T 5 i) (T 6 i) = x at hgo hno
    refine ok_lk (ok_ite (fun z => ?_) (fun z => ?_))
    · have z : T 7 i = 0 := (oI_z (by omega)).mp z
      rw [z] at hgo hno
      cases x with
      | true => exact ok_ite (fun y => absurd y (by decide)) (fun _ => hno (by decide))
      | false => exact ok_ite (fun _ => hgo (by decide)) (fun y => absurd (rfl : nI (b2n false) = 0) y)
    · have z : T 7 i = 1 := by
        have : ¬ T 7 i = 0 := fun w => z ((oI_z (by omega)).mpr w)
        omega
      rw [z] at hgo hno
      cases x with
      | true => exact ok_ite (fun _ => hgo (by decide)) (fun y => absurd (rfl : nI (b2n true) = 1) y)
      | false => exact ok_ite (fun y => absurd y (by decide)) (fun _ => hno (by decide))
theorem st_of_rch {L : Ld} {s a b : Nat} (h : rch (l_E L (opM L s false)) a b) (hab : a ≠ b) : stB L s a = true := by
  have := h (fun p => p = a ∨ stB L s a = true) (Or.inl rfl) (by
    rintro u v ⟨k, hk, q⟩ hu
    right
    rcases hu with hu | hu
    · obtain ⟨_, q1, q2⟩ := op_ends hk
      rcases q with ⟨z, _⟩ | ⟨_, z, _⟩
      · rw [← hu, ← z]; exact q1
      · rw [← hu, ← z]; exact q2
    · exact hu)
  rcases this with e | e
  · exact absurd e.symm hab
  · exact e
theorem m_agrees {S : wd_W} {L : Ld} {T : Nt} {s : Nat} (hL : lOk L) (h : mL S L) (hT : mT S T) (hn : nOk L T) (hs : s < 32768) : Ok (f_X12_agrees S (nI s)) (fun o => o.1 = nI (b2n (agB L T (opM L s false)))) := by
  obtain ⟨_, n4, hk⟩ := hn
  obtain ⟨_, t4, _, tk⟩ := hT
  have hR := lOk_r hL
  unfold f_X12_agrees
  rw [li_0]
  refine ok_bd (ok_eq (m_opens (S := wd_o S [(38, (S.1 38)), (39, (S.1 39))] [] [] [] []) (L := L) (s := s) (mo := false) hL h (fun z => by cases z) hs)) ?_
  rintro _ rfl
  refine ok_for0 (W := fun m i (_ : Unit) => it1 (f_X12_agrees_L8 S (nI (stM L s), nI (opM L s false))) m (nI i)) (I := fun i _ => ∀ k, k < i → decide (b2n (ldB L (opM L s false) (T 5 k) (T 6 k)) = T 7 k) = true) (e := T 4 0) (s := ()) (by omega) (fun k hk => by omega) ?_ ?_
  · intro m _ hI
    show Ok (f_X12_agrees_L8 S _ _ (nI (T 4 0))) _
    unfold f_X12_agrees_L8
    rw [t4, if_pos (nI_le (Nat.le_refl _) (by omega))]
    refine ok_some ?_
    have : agB L T (opM L s false) = true := alls_iff.mpr hI
    rw [this]; rfl
  · intro m i _ hi hI ih
    show Ok (f_X12_agrees_L8 S _ (it1 (f_X12_agrees_L8 S (nI (stM L s), nI (opM L s false))) m) (nI i)) _
    generalize it1 (f_X12_agrees_L8 S (nI (stM L s), nI (opM L s false))) m = r at ih
    obtain ⟨k1, k2, k3, k4⟩ := hk i hi
    obtain ⟨r1, r2, r3⟩ := tk i hi
    unfold f_X12_agrees_L8
    rw [t4, if_neg (nI_ge hi (by omega)), gd_in (by omega) (by omega), gd_in (by omega) (by omega), nI_clamp (by omega), r1, r2, r3, nI_1]
    refine ok_bd (m_leads (S := wd_o S [(38, nI (stM L s)), (39, nI (opM L s false))] [] [] [] []) (mG_open hL h rfl) rfl (stM_lt L s) k1 k2) ?_
    rintro _ ⟨x, rfl, hx⟩
    have hxe : x = ldB L (opM L s false) (T 5 i) (T 6 i) := by
      apply b_of_iff hx
      rw [ldB_iff hR k1 (opM_lt0 L s)]
      constructor
      · intro q; exact ⟨(stM_bit L s _).mpr ⟨k1, st_of_rch q k3⟩, q⟩
      · intro q; exact q.2
    rw [gd_in (by omega) (by omega)]
    have b1 : b2n x ≤ 1 := by cases x <;> decide
    refine ok_ite (fun z => ?_) (fun z => ?_)
    · rw [nI_eq (by omega) (by omega)] at z
      refine ih () (fun k hk => ?_)
      by_cases e : k = i
      · subst e; rw [← hxe]; exact decide_eq_true z
      · exact hI k (by omega)
    · rw [nI_eq (by omega) (by omega)] at z
      have : agB L T (opM L s false) = false := alls_f.mpr ⟨i, hi, by rw [← hxe]; exact decide_eq_false z⟩
      rw [this]
      exact ok_some rfl
/-- the chance of sets that agree in which these hold -/
def agW (L : Ld) (T : Nt) (ho s : Nat) : Nat := if (agB L T (opM L s false) && (s &&& ho == ho)) = true then wt L s else 0
def agS (L : Ld) (T : Nt) (ho : Nat) : Nat := fb_sm (agW L T ho) (2 ^ l_M L)
theorem agS_le {L : Ld} (hL : lOk L) (T : Nt) (ho : Nat) : agS L T ho ≤ 1152921504606846976 := sm_le_wt hL (fun s _ => by
  unfold agW
  split
  · exact Nat.le_refl _
  · exact Nat.zero_le _)
theorem and_powB (s t : Nat) : (s &&& 2 ^ t == 2 ^ t) = s.testBit t := by
  cases hb : s.testBit t with
  | false =>
    have := (and_pow0 (s := s) (t := t)).mpr hb
    rw [this]
    have := Nat.two_pow_pos t
    simp; omega
  | true =>
    have : s &&& 2 ^ t = 2 ^ t := by
      apply Nat.eq_of_testBit_eq
      intro i
      rw [Nat.testBit_and, Nat.testBit_two_pow]
      by_cases e : t = i
      · subst e; simp [hb]
      · simp [e]
    rw [this]; simp
theorem and_0B (s : Nat) : (s &&& 0 == 0) = true := by simp
theorem m_asks {S : wd_W} {L : Ld} {T : Nt} (hL : lOk L) (h : mL S L) (hT : mT S T) (hn : nOk L T) :
    Ok (f_X12_asks S) (fun o => o.2.2.1 = lN (agS L T 0) ∧ ∀ t, t < l_M L → o.2.2.2.2.2.2 t = lN (agS L T (2 ^ t))) := by
  have hM := lM_15 hL
  have pM := pow_le15 hM
  have h32 : S.1 32 = nI (l_M L) := h.1.2.2.2.2.1
  unfold f_X12_asks
  refine ok_bd (m_plain (S := wd_o S [(38, (S.1 38)), (39, (S.1 39))] [(64, (S.2.1 64))] [(22, (S.2.2.1 22)), (23, (S.2.2.1 23))] [(21, (S.2.2.2.1 21)), (35, (S.2.2.2.1 35))] []) hL h32 h.2.2.2) ?_
  rintro ⟨c1, c2⟩ ⟨e1, e2⟩
  dsimp only at e1 e2
  refine ok_bd (P := fun o => ∀ s, s < 2 ^ l_M L → o s = lN (wt L s)) (ok_of (m_weighs (S := wd_o S [(38, (S.1 38)), (39, (S.1 39))] [(64, (S.2.1 64))] [(22, c1), (23, c2)] [(21, (S.2.2.2.1 21)), (35, (S.2.2.2.1 35))] []) (M := l_M L) (h := cha L) (f := fun t => 16 - cha L t) hM h32 (fun t ht => ⟨e1 t ht, e2 t ht, cha_le hL ht, by omega⟩)) (fun s hs => fil_in (f := fun s => lN (wtF (cha L) (fun t => 16 - cha L t) (l_M L) s)) hs)) ?_
  intro o2 hw
  refine ok_lk ?_
  rw [li_0]
  refine ok_for0 (W := fun n i (v : Nat → Int64) => it2 (f_X12_asks_L15 S _) n (nI i) v) (I := fun i v => ∀ d, d < i → v d = lN 0) (e := l_M L) (s := S.2.2.2.1 35) (by omega) (fun d hd => by omega) ?_ ?_
  · intro n v hI
    show Ok (f_X12_asks_L15 S _ _ (nI (l_M L)) v) _
    unfold f_X12_asks_L15
    rw [h32, if_pos (nI_le (Nat.le_refl _) (by omega))]
    refine ok_for0 (W := fun n i (x : Int32 × Int32 × Int64 × (Nat → Int64)) => it5 (f_X12_asks_L38 S (c1, c2) o2) n (nI i) x.1 x.2.1 x.2.2.1 x.2.2.2) (I := fun i x => x.2.2.1 = lN (fb_sm (agW L T 0) i) ∧ ∀ t, t < l_M L → x.2.2.2 t = lN (fb_sm (agW L T (2 ^ t)) i)) (e := 2 ^ l_M L) (s := (S.1 38, S.1 39, 0, v)) (by omega) ⟨rfl, hI⟩ ?_ ?_
    · rintro n ⟨x6, x7, x8, a9⟩ hI
      dsimp only at hI
      show Ok (f_X12_asks_L38 S (c1, c2) o2 _ (nI (2 ^ l_M L)) x6 x7 x8 a9) _
      unfold f_X12_asks_L38
      rw [bd_s (m_sets (S := wd_o S [(38, x6), (39, x7)] [(64, x8)] [(22, c1), (23, c2)] [(21, o2), (35, a9)] []) h32 hM), if_pos (nI_le (Nat.le_refl _) (by omega))]
      exact ok_some hI
    · rintro n i ⟨x6, x7, x8, a9⟩ hi hI ih
      dsimp only at hI
      obtain ⟨hI1, hI2⟩ := hI
      show Ok (f_X12_asks_L38 S (c1, c2) o2 (it5 (f_X12_asks_L38 S (c1, c2) o2) n) (nI i) x6 x7 x8 a9) _
      generalize it5 (f_X12_asks_L38 S (c1, c2) o2) n = r at ih
      unfold f_X12_asks_L38
      rw [bd_s (m_sets (S := wd_o S [(38, x6), (39, x7)] [(64, x8)] [(22, c1), (23, c2)] [(21, o2), (35, a9)] []) h32 hM), if_neg (nI_ge hi (by omega)), gd_in (by omega) (by omega), nI_clamp (by omega), hw i hi, lN_0, nI_1]
      refine ok_lk ?_
      have pw := pow16_le hM
      have hwl : wt L i ≤ 16 ^ l_M L := wtF_le (fun t ht => ⟨cha_le hL ht, by omega⟩) i
      have stay : (∀ ho, agW L T ho i = 0) → ∀ y6 y7 : Int32, Ok (r (nI (i + 1)) y6 y7 x8 a9) (fun o => o.2.2.1 = lN (agS L T 0) ∧ ∀ t, t < l_M L → o.2.2.2.2.2.2 t = lN (agS L T (2 ^ t))) := by
        intro hz y6 y7
        refine ih (y6, y7, x8, a9) ⟨?_, fun t ht => ?_⟩
        · dsimp only; rw [fb_sm_succ, hI1, hz, Nat.add_zero]
        · dsimp only; rw [fb_sm_succ, hI2 t ht, hz, Nat.add_zero]
      refine ok_ite (fun z => ?_) (fun z => ?_)
      · rw [lN_eqL (by omega) (by omega)] at z
        exact stay (fun ho => by unfold agW; rw [z]; split <;> rfl) x6 x7
      · refine ok_bd (m_agrees (S := wd_o S [(38, x6), (39, x7)] [(64, x8)] [(22, c1), (23, c2)] [(21, o2), (35, a9)] []) hL h hT hn (show i < 32768 by omega)) ?_
        rintro ⟨ag, y6, y7⟩ hag
        dsimp only at hag ⊢
        subst hag
        refine ok_b (fun hb => stay (fun ho => by unfold agW; rw [hb]; rfl) y6 y7) (fun hb => ?_)
        rw [gd_in (by omega) (by omega), lz_eq]
        have a0 : agW L T 0 i = wt L i := by unfold agW; rw [hb, and_0B]; rfl
        have at_ : ∀ t, agW L T (2 ^ t) i = if i.testBit t = true then wt L i else 0 := fun t => by unfold agW; rw [hb, and_powB]; rfl
        refine ok_for0 (W := fun n j (v : Nat → Int64) => it2 (f_X12_asks_L85 S o2 (nI i) _ _ _) n (nI j) v) (I := fun j v => ∀ t, t < l_M L → v t = lN (fb_sm (agW L T (2 ^ t)) (if t < j then i + 1 else i))) (e := l_M L) (s := a9) (by omega) (fun t ht => by rw [if_neg (by omega)]; exact hI2 t ht) ?_ ?_
        · intro n v hv
          show Ok (f_X12_asks_L85 S o2 (nI i) _ _ _ _ (nI (l_M L)) v) _
          unfold f_X12_asks_L85
          rw [h32, if_pos (nI_le (Nat.le_refl _) (by omega))]
          refine ih (y6, y7, _, v) ⟨?_, fun t ht => ?_⟩
          · dsimp only; rw [fb_sm_succ, hI1, a0, lN_add]
          · dsimp only; rw [hv t ht, if_pos ht]
        · intro n j v hj hv ih2
          show Ok (f_X12_asks_L85 S o2 (nI i) _ _ _ (it2 _ n) (nI j) v) _
          generalize it2 (f_X12_asks_L85 S o2 (nI i) _ _ _) n = r2 at ih2
          have key : ∀ w : Nat, w = agW L T (2 ^ j) i → Ok (lz ((v (nI j).toNatClampNeg) + lN w) fun x29 => gd (okx (nI j) 15) <| lz (vp_updL v (nI j).toNatClampNeg x29) fun a31 => r2 (nI j + (1 : Int32)) a31) (fun o => o.2.2.1 = lN (agS L T 0) ∧ ∀ t, t < l_M L → o.2.2.2.2.2.2 t = lN (agS L T (2 ^ t))) := by
            intro w hw2
            rw [lz_eq, gd_in (by omega) (by omega), lz_eq, nI_clamp (by omega), nI_1, hv j hj, if_neg (by omega), lN_add, hw2, ← fb_sm_succ]
            refine ih2 (vp_updL v j (lN (fb_sm (agW L T (2 ^ j)) (i + 1)))) (fun t ht => ?_)
            by_cases e : t = j
            · subst e; rw [pk_uLs, if_pos (by omega)]
            · rw [pk_uLn e, hv t ht]
              by_cases e2 : t < j
              · rw [if_pos e2, if_pos (by omega)]
              · rw [if_neg e2, if_neg (by omega)]
          unfold f_X12_asks_L85
          rw [h32, if_neg (nI_ge hj (by omega)), gd_in (by omega) (by omega)]
          refine ok_lk (ok_ite (fun z2 => ?_) (fun z2 => ?_))
          · rw [oI_bit1 (by omega) (by omega)] at z2
            rw [gd_in (by omega) (by omega), nI_clamp (show i < 2 ^ 31 by omega), hw i hi]
            exact key _ (by rw [at_, if_pos z2])
          · rw [oI_bit1 (by omega) (by omega)] at z2
            exact key 0 (by rw [at_, if_neg z2])
  · intro n i v hi hI ih
    show Ok (f_X12_asks_L15 S _ (it2 _ n) (nI i) v) _
    generalize it2 (f_X12_asks_L15 S _) n = r at ih
    unfold f_X12_asks_L15
    rw [h32, if_neg (nI_ge hi (by omega)), gd_in (by omega) (by omega), lz_eq, nI_clamp (by omega), nI_1]
    refine ih _ (fun d hd => ?_)
    by_cases e : d = i
    · subst e; rw [pk_uLs]; rfl
    · rw [pk_uLn e]; exact hI d (by omega)
