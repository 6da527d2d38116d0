/-! what a text tells, by readers in turn: the first fault, or where reading stands and what was read -/
abbrev PR (α : Type) : Type := Except Nat (Nat × α)
def pb {α β : Type} (r : PR α) (k : Nat → α → Except Nat β) : Except Nat β := match r with
  | .error f => .error f
  | .ok x => k x.1 x.2
theorem pb_ok {α β : Type} (e : Nat) (v : α) (k : Nat → α → Except Nat β) : pb (.ok (e, v)) k = k e v := rfl
theorem pb_er {α β : Type} (f : Nat) (k : Nat → α → Except Nat β) : pb (.error f) k = .error f := rfl
theorem pb_pb {α β γ : Type} (r : PR α) (k : Nat → α → PR β) (j : Nat → β → Except Nat γ) : pb (pb r k) j = pb r (fun e v => pb (k e v) j) := by
  cases r <;> rfl
def pNum (t : Nat → Nat) (n p lo hx : Nat) : PR Nat := if numF t n p lo hx = 0 then .ok (nE t n p, numV t n p) else .error (numF t n p lo hx)
/-- a reader that goes on behind a fault f: what is left to read is X, all in all R -/
def ct {β : Type} (R : Except Nat β) (f : Nat) (X : Except Nat β) : Prop := f < 2 ^ 16 ∧ ((f = 0 ∧ R = X) ∨ (f ≠ 0 ∧ R = .error f))
theorem ct_0 {β : Type} {R X : Except Nat β} (h : ct R 0 X) : R = X := by
  rcases h.2 with h | h
  · exact h.2
  · exact absurd rfl h.1
theorem ct_f {β : Type} {R X : Except Nat β} {f : Nat} (h : ct R f X) (Y : Except Nat β) (hf : f ≠ 0) : ct R f Y := by
  rcases h.2 with h2 | h2
  · exact absurd h2.1 hf
  · exact ⟨h.1, Or.inr h2⟩
theorem ct_start {β : Type} (R : Except Nat β) : ct R 0 R := ⟨by omega, Or.inl ⟨rfl, rfl⟩⟩
/-- a fault of one's own, kept where there was one -/
theorem ct_blame {β : Type} {R X : Except Nat β} {f q k : Nat} (Y : Except Nat β) (h : ct R f X) (hX : X = .error (flt q k)) (hq : q ≤ 400) (hk : k ≤ 3) : (if f = 0 then flt q k else f) ≠ 0 ∧ ct R (if f = 0 then flt q k else f) Y := by
  subst hX
  obtain ⟨h1, h2⟩ := h
  by_cases c : f = 0
  · rw [if_pos c]
    rcases h2 with h2 | h2
    · refine ⟨by unfold flt; omega, by unfold flt; omega, Or.inr ⟨by unfold flt; omega, h2.2⟩⟩
    · exact absurd c h2.1
  · rw [if_neg c]
    exact ⟨c, ct_f ⟨h1, h2⟩ Y c⟩
theorem fstF_eq (f g : Nat) : fstF f g = if f = 0 then g else f := rfl
theorem num_ct {β : Type} {R : Except Nat β} {k : Nat → Nat → Except Nat β} {t : Nat → Nat} {n p f lo hx v : Nat} (h4 : n ≤ 400) (hp : p ≤ n) (hR : ct R f (pb (pNum t n p lo hx) k)) (hv : nE t n p - wB t n p ≤ 2 → v = numV t n p) :
    ct R (fstF f (numF t n p lo hx)) (k (nE t n p) v) ∧ (fstF f (numF t n p lo hx) = 0 → f = 0 ∧ lo ≤ v ∧ v < hx ∧ v ≤ 99 ∧ wB t n p < nE t n p) := by
  by_cases c : f = 0
  · subst c
    have e := ct_0 hR
    rw [fstF_eq, if_pos rfl]
    by_cases d : numF t n p lo hx = 0
    · obtain ⟨g1, g2, g3, g4, g5⟩ := numF_0 d
      have ev := hv g3
      subst ev
      unfold pNum at e
      rw [if_pos d, pb_ok] at e
      rw [d]
      exact ⟨⟨by omega, Or.inl ⟨rfl, e⟩⟩, fun _ => ⟨rfl, g1, g2, g5, g4⟩⟩
    · unfold pNum at e
      rw [if_neg d, pb_er] at e
      exact ⟨⟨numF_lt hp h4, Or.inr ⟨d, e⟩⟩, fun z => absurd z d⟩
  · rw [fstF_eq, if_neg c]
    exact ⟨ct_f hR _ c, fun z => absurd z c⟩
theorem x_number {S : wd_W} {n p f lo hx : Nat} {t : Nat → Nat} {p1 p2 : Int32} {β : Type} {R : Except Nat β} {k : Nat → Nat → Except Nat β} (ht : XTa S n t) (h : S.1 1402 = nI p) (hp : p ≤ n) (hf : S.1 1404 = nI f) (h1 : p1 = nI lo) (hlo : lo < 2 ^ 20) (h2 : ∀ v, v < 2 ^ 20 → (nI v ≤ p2 ↔ v < hx)) (hR : ct R f (pb (pNum t n p lo hx) k)) :
    Ok (f_X9_readNumber_q14 S p1 p2) (fun o => ∃ v g, o = (nI v, nI (nE t n p), nI (wB t n p), nI g) ∧ v ≤ 1000 ∧ ct R g (k (nE t n p) v) ∧ (g = 0 → f = 0 ∧ lo ≤ v ∧ v < hx ∧ v ≤ 99 ∧ wB t n p < nE t n p)) := by
  subst h1
  have hq : wB t n p ≤ n := run_le hp
  have h4 := ht.2.1
  have hf2 : f < 2 ^ 16 := hR.1
  have fin : ∀ v, v ≤ 1000 → (nE t n p - wB t n p ≤ 2 → v = numV t n p) → Ok (some (nI v, nI (nE t n p), nI (wB t n p), nI (fstF f (numF t n p lo hx))) : Option o_X9_readNumber_q14) (fun o => ∃ v g, o = (nI v, nI (nE t n p), nI (wB t n p), nI g) ∧ v ≤ 1000 ∧ ct R g (k (nE t n p) v) ∧ (g = 0 → f = 0 ∧ lo ≤ v ∧ v < hx ∧ v ≤ 99 ∧ wB t n p < nE t n p)) := fun v v1 v2 => ok_some ⟨v, _, rfl, v1, num_ct h4 hp hR v2⟩
  clear hR
  revert fin
  generalize hX : (fun o : o_X9_readNumber_q14 => ∃ v g, o = (nI v, nI (nE t n p), nI (wB t n p), nI g) ∧ v ≤ 1000 ∧ ct R g (k (nE t n p) v) ∧ (g = 0 → f = 0 ∧ lo ≤ v ∧ v < hx ∧ v ≤ 99 ∧ wB t n p < nE t n p)) = Q
  intro fin
  clear hX
  unfold f_X9_readNumber_q14
  rw [bd_s (x_skip (S := wd_o S [(1402, (S.1 1402)), (1403, (S.1 1403)), (1404, (S.1 1404))] [] [] [] []) ht h hp)]
  have eB : run (isBl t) n p = wB t n p := rfl
  have eE : run (isDg t) n (wB t n p) = nE t n p := rfl
  have hqe := nE_ge t n p
  have hen := nE_le (t := t) hp
  rw [eB]
  refine ok_lk2 (fun x2 x3 => x3 = nI (nE t n p) ∧ ∃ v, v ≤ 1000 ∧ x2 = nI v ∧ (nE t n p - wB t n p ≤ 2 → v = numV t n p)) (fun K hK => ?_) ?_
  · rw [li_0]
    exact x_digits ht hq K (fun v v1 v2 => by rw [eE] at v2 ⊢; exact hK _ _ ⟨rfl, v, v1, rfl, v2⟩)
  · rintro x2 x3 ⟨rfl, v, v1, rfl, v3⟩
    have fin2 := fin v v1 v3
    refine ok_ite (fun c => ?_) (fun c => ?_)
    · rw [nI_eq (by omega) (by omega)] at c
      rw [bd_s (x_blame (S := wd_o S [(1402, nI (nE t n p)), (1403, nI (wB t n p)), (1404, (S.1 1404))] [] [] [] []) (q := wB t n p) (k := 0) (p2 := (0 : Int32)) (f := f) (by omega) (by omega) rfl hf (by omega))]
      unfold numF at fin2
      rw [if_pos c, fstF_eq] at fin2
      exact fin2
    · rw [nI_eq (by omega) (by omega)] at c
      have bad : (2 < nE t n p - wB t n p ∨ numV t n p < lo ∨ hx ≤ numV t n p) → Ok (bd (f_X9_blame_q14 (wd_o S [(1402, nI (nE t n p)), (1403, nI (wB t n p)), (1404, (S.1 1404))] [] [] [] []) (nI (wB t n p)) (1 : Int32)) fun o6 => some (nI v, nI (nE t n p), nI (wB t n p), o6)) Q := fun z => by
        rw [bd_s (x_blame (S := wd_o S [(1402, nI (nE t n p)), (1403, nI (wB t n p)), (1404, (S.1 1404))] [] [] [] []) (q := wB t n p) (k := 1) (p2 := (1 : Int32)) (f := f) (by omega) (by omega) rfl hf (by omega))]
        unfold numF at fin2
        rw [if_neg c, if_pos z, fstF_eq] at fin2
        exact fin2
      refine ok_lk ?_
      rw [pk_sub hqe, li_2]
      refine ok_ite (fun d => bad (Or.inl ?_)) (fun d => ?_)
      · rw [nI_ltI (by omega) (by omega)] at d; exact d
      · rw [nI_ltI (by omega) (by omega)] at d
        have ev := v3 (by omega)
        refine ok_ite (fun d1 => bad (Or.inr (Or.inl ?_))) (fun d1 => ok_ite (fun d2 => ?_) (fun d2 => bad (Or.inr (Or.inr ?_))))
        · rw [nI_ltI (by omega) (by omega)] at d1; omega
        · rw [nI_ltI (by omega) (by omega)] at d1
          rw [h2 v (by omega)] at d2
          unfold numF at fin2
          rw [if_neg c, if_neg (show ¬ (2 < nE t n p - wB t n p ∨ numV t n p < lo ∨ hx ≤ numV t n p) by omega), fstF_eq] at fin2
          rw [hf]
          by_cases f0 : f = 0
          · rw [if_pos f0] at fin2; rw [f0]; exact fin2
          · rw [if_neg f0] at fin2; exact fin2
        · rw [h2 v (by omega)] at d2; omega
/-- the reference's number: only without a fault before -/
def mR {α : Type} (r : PR α) (good : Nat → α → Prop) (bad : Nat → Prop) : Prop := match r with
  | .ok x => good x.1 x.2
  | .error f => bad f
theorem in_nat {v : Nat} {p1 p2 : Int32} {lo hx : Nat} (hv : v < 2 ^ 20) (h1 : p1 = nI lo) (hlo : lo < 2 ^ 20) (h2 : ∀ v, v < 2 ^ 20 → (nI v ≤ p2 ↔ v < hx)) : f_X12_in (nI v).toInt64 p1.toInt64 p2.toInt64 = some (nI (b2n (decide (lo ≤ v ∧ v < hx)))) := by
  subst h1
  have a : (nI v).toInt64.toInt = v := by rw [Int32.toInt_toInt64, nI_toInt (by omega)]
  have b : (nI lo).toInt64.toInt = lo := by rw [Int32.toInt_toInt64, nI_toInt (by omega)]
  have c : p2.toInt64.toInt = p2.toInt := Int32.toInt_toInt64 _
  have d := h2 v hv
  rw [Int32.le_iff_toInt_le, nI_toInt (by omega)] at d
  unfold f_X12_in
  by_cases z : (v : Int) < lo
  · rw [if_pos (by rw [Int64.lt_iff_toInt_lt, a, b]; exact z), decide_eq_false (by omega)]; rfl
  · rw [if_neg (by rw [Int64.lt_iff_toInt_lt, a, b]; exact z)]
    by_cases y : p2.toInt < v
    · rw [if_pos (by rw [Int64.lt_iff_toInt_lt, a, c]; exact y), decide_eq_false (fun w => by have := d.mpr w.2; omega)]; rfl
    · rw [if_neg (by rw [Int64.lt_iff_toInt_lt, a, c]; exact y), decide_eq_true ⟨by omega, d.mp (by omega)⟩]; rfl
theorem m_number {S : wd_W} {n p lo hx : Nat} {t : Nat → Nat} {p1 p2 : Int32} (ht : MTa S n t) (h : S.1 17 = nI p) (hp : p ≤ n) (h18 : S.1 18 = nI 0) (h1 : p1 = nI lo) (hlo : lo < 2 ^ 20) (h2 : ∀ v, v < 2 ^ 20 → (nI v ≤ p2 ↔ v < hx)) :
    Ok (f_X12_number S p1 p2) (fun o => mR (pNum t n p lo hx) (fun e v => o = (nI 1, nI e, nI 0, nI v)) (fun f => o.1 = nI 0 ∧ o.2.2.1 = nI f)) := by
  have hq : wB t n p ≤ n := run_le hp
  have eE : run (isDg t) n (wB t n p) = nE t n p := rfl
  have hqe := nE_ge t n p
  have hen := nE_le (t := t) hp
  have h4 := ht.2.1
  unfold f_X12_number
  rw [bd_s (m_see (S := wd_o S [(17, (S.1 17)), (18, (S.1 18)), (19, (S.1 19))] [] [] [] []) ht h hp)]
  rw [bd_s (m_isDigit (S := wd_o S [(17, nI (wB t n p)), (18, (S.1 18)), (19, (S.1 19))] [] [] [] []) ht rfl hq)]
  have bad : ∀ {x e19 : Int32} {k : Nat} {kk : Int32}, kk = nI k → numF t n p lo hx = flt (wB t n p) k → Ok (bd (f_X12_fails (wd_o S [(17, e19), (18, (S.1 18)), (19, x)] [] [] [] []) kk (nI (wB t n p))) fun o24 => gd (okz o24.1) <| some (o24.1, e19, o24.2, x)) (fun o : o_X12_number => mR (pNum t n p lo hx) (fun e v => o = (nI 1, nI e, nI 0, nI v)) (fun f => o.1 = nI 0 ∧ o.2.2.1 = nI f)) := by
    intro x e19 k kk hkk hF
    rw [bd_s (m_fails (S := wd_o S [(17, e19), (18, (S.1 18)), (19, x)] [] [] [] []) (q := wB t n p) hkk h18)]
    unfold pNum
    rw [hF, if_neg (by unfold flt; omega)]
    exact ok_some ⟨rfl, rfl⟩
  refine ok_b (fun c => ?_) (fun c => ?_)
  · refine bad rfl ?_
    have : nE t n p = wB t n p := by
      rw [← eE, run_eq]
      exact if_neg (fun z => by rw [decide_eq_true z.1, z.2] at c; cases c)
    unfold numF
    rw [if_pos this]
  · have c1 : wB t n p < n ∧ isDg t (wB t n p) = true := by
      rw [Bool.and_eq_true] at c
      exact ⟨of_decide_eq_true c.1, c.2⟩
    have c2 : wB t n p < nE t n p := by
      rw [← eE, run_eq, if_pos c1]
      exact run_ge _ _ _
    refine ok_lk2 (fun x3 x4 => x4 = nI (nE t n p) ∧ ∃ v, v ≤ 99 ∧ x3 = nI v ∧ (nE t n p - wB t n p ≤ 2 → v = numV t n p)) (fun K hK => ?_) ?_
    · rw [li_0]
      refine ok_up (W := fun m i (x : Int32) => it2 (f_X12_number_L30 S (seeA t n (wB t n p), nI (wB t n p)) K) m x (nI i)) (I := fun i x => wB t n p ≤ i ∧ nE t n p = run (isDg t) n i ∧ ∃ v, v ≤ 99 ∧ x = nI v ∧ (i - wB t n p ≤ 2 → v = dv t (wB t n p) (i - wB t n p))) (e := n) ?_ ?_ fuel (wB t n p) (nI 0) hq ⟨Nat.le_refl _, rfl, 0, by omega, rfl, fun _ => by rw [Nat.sub_self]; rfl⟩ (by unfold fuel; omega)
      · rintro m x ⟨hqi, hI, v, v1, rfl, v3⟩
        show Ok (f_X12_number_L30 S (seeA t n (wB t n p), nI (wB t n p)) K _ (nI v) (nI n)) _
        unfold f_X12_number_L30
        rw [bd_s (m_isDigit (S := wd_o S [(17, nI n), (18, (S.1 18)), (19, (S.1 19))] [] [] [] []) ht rfl (Nat.le_refl n)), decide_eq_false (Nat.lt_irrefl n)]
        have e : nE t n p = n := by rw [hI, run_eq, if_neg (fun z => by omega)]
        refine ok_b (fun _ => ?_) (fun z => by cases z)
        have := hK (nI v) (nI n)
        rw [e] at this
        refine this ⟨rfl, v, v1, rfl, fun y => ?_⟩
        unfold numV
        rw [e]
        exact v3 y
      · rintro m i x hi ⟨hqi, hI, v, v1, rfl, v3⟩ ih
        show Ok (f_X12_number_L30 S (seeA t n (wB t n p), nI (wB t n p)) K (it2 _ m) (nI v) (nI i)) _
        generalize it2 (f_X12_number_L30 S (seeA t n (wB t n p), nI (wB t n p)) K) m = r at ih
        have hb := (ht.2.2 i hi).1
        have hb2 := (ht.2.2 i hi).2
        unfold f_X12_number_L30
        rw [bd_s (m_isDigit (S := wd_o S [(17, nI i), (18, (S.1 18)), (19, (S.1 19))] [] [] [] []) ht rfl (Nat.le_of_lt hi)), decide_eq_true hi, Bool.true_and]
        refine ok_b (fun z => ?_) (fun z => ?_)
        · have e : nE t n p = i := by rw [hI, run_eq, if_neg (fun y => by rw [y.2] at z; cases z)]
          have := hK (nI v) (nI i)
          rw [e] at this
          refine this ⟨rfl, v, v1, rfl, fun y => ?_⟩
          unfold numV
          rw [e]
          exact v3 y
        · have hd := of_decide_eq_true z
          have hrun : nE t n p = run (isDg t) n (i + 1) := by
            rw [hI, run_eq (isDg t) n i, if_pos ⟨hi, z⟩]
          have hnew : i + 1 - wB t n p ≤ 2 → v * 10 + (t i - 48) = dv t (wB t n p) (i + 1 - wB t n p) := fun y => by
            rw [show i + 1 - wB t n p = (i - wB t n p) + 1 by omega, dv, v3 (by omega), show wB t n p + (i - wB t n p) = i by omega]
          have hv99 : i + 1 - wB t n p ≤ 2 → dv t (wB t n p) (i + 1 - wB t n p) ≤ 99 := fun y => dv_le _ (fun j hj => by
            have hin := run_in (c := isDg t) (n := n) (p := wB t n p) (i := wB t n p + j) (by omega) (by
              rw [eE, hrun]
              have := run_ge (isDg t) n (i + 1)
              omega)
            exact (of_decide_eq_true hin).2) y
          refine ok_lk1 (fun x => ∃ v, v ≤ 99 ∧ x = nI v ∧ (i + 1 - wB t n p ≤ 2 → v = dv t (wB t n p) (i + 1 - wB t n p))) (fun K2 hK2 => ?_) (fun x hx => ?_)
          · rw [pk_sub hqi, li_2]
            refine ok_ite (fun y => hK2 _ ⟨v, v1, rfl, fun w => ?_⟩) (fun y => ?_)
            · rw [nI_leI (by omega) (by omega)] at y
              omega
            · rw [nI_leI (by omega) (by omega)] at y
              have e : (10 : Int32) * nI v + nI (t i) - (48 : Int32) = nI (v * 10 + (t i - 48)) := by
                rw [li_10, li_48, nI_mulR, nI_add, pk_sub (by omega)]
                congr 1
                omega
              rw [gd_in (by omega) (by omega), nI_clamp (by omega), hb2, sby_id _ (by omega), e]
              have a1 := hnew (by omega)
              have a2 := hv99 (by omega)
              exact ok_lz (hK2 _ ⟨_, by omega, rfl, hnew⟩)
          · rw [nI_1]
            exact ok_lz (ih x ⟨by omega, hrun, hx⟩)
    · rintro x3 x4 ⟨rfl, v, v1, rfl, v3⟩
      have bad2 : (2 < nE t n p - wB t n p ∨ numV t n p < lo ∨ hx ≤ numV t n p) → Ok (bd (f_X12_fails (wd_o S [(17, nI (nE t n p)), (18, (S.1 18)), (19, nI v)] [] [] [] []) (1 : Int32) (nI (wB t n p))) fun o7 => if o7.1 = 0 then some ((0 : Int32), nI (nE t n p), o7.2, nI v) else some ((1 : Int32), nI (nE t n p), o7.2, nI v)) (fun o : o_X12_number => mR (pNum t n p lo hx) (fun e v => o = (nI 1, nI e, nI 0, nI v)) (fun f => o.1 = nI 0 ∧ o.2.2.1 = nI f)) := fun z => by
        rw [bd_s (m_fails (S := wd_o S [(17, nI (nE t n p)), (18, (S.1 18)), (19, nI v)] [] [] [] []) (q := wB t n p) (k := 1) (p1 := (1 : Int32)) rfl h18), if_pos rfl]
        unfold pNum
        have hF : numF t n p lo hx = flt (wB t n p) 1 := by
          unfold numF
          rw [if_neg (by omega), if_pos z]
        rw [hF, if_neg (by unfold flt; omega)]
        exact ok_some ⟨rfl, rfl⟩
      refine ok_lk ?_
      dsimp only
      rw [pk_sub hqe, li_2]
      refine ok_ite (fun d => bad2 (Or.inl ?_)) (fun d => ?_)
      · rw [nI_ltI (by omega) (by omega)] at d; exact d
      · rw [nI_ltI (by omega) (by omega)] at d
        have ev := v3 (by omega)
        rw [bd_s (in_nat (v := v) (by omega) h1 hlo h2)]
        refine ok_b (fun z => bad2 (Or.inr ?_)) (fun z => ?_)
        · have z := of_decide_eq_false z
          omega
        · have z := of_decide_eq_true z
          unfold pNum numF
          rw [if_neg (show ¬ nE t n p = wB t n p by omega), if_neg (show ¬ (2 < nE t n p - wB t n p ∨ numV t n p < lo ∨ hx ≤ numV t n p) by omega), if_pos rfl, h18]
          refine ok_some ?_
          show _ = _
          rw [ev]
          rfl
