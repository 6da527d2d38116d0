/-! the reference's readers -/
theorem ite_1 {ρ : Type} {inst : Decidable (nI 1 = 0)} {a b : ρ} : @ite _ (nI 1 = 0) inst a b = b := if_neg n1_ne
theorem ite_0 {ρ : Type} {inst : Decidable (nI 0 = 0)} {a b : ρ} : @ite _ (nI 0 = 0) inst a b = a := if_pos rfl
theorem rwd_mem {t : Nat → Nat} {q x : Nat} : ∀ k, x ∈ rwd t q k → ∃ j, j < k ∧ x = t (q + j)
  | 0, h => by cases h
  | k + 1, h => by
    rw [rwd, List.mem_cons] at h
    rcases h with h | h
    · exact ⟨k, by omega, h⟩
    · obtain ⟨j, hj, e⟩ := rwd_mem k h
      exact ⟨j, by omega, e⟩
abbrev kwOk (l : List Nat) : Prop := 0 < l.length ∧ l.length < 8 ∧ ∀ x, x ∈ l → 1 ≤ x ∧ x < 256
theorem isWB_uw {t : Nat → Nat} {n p : Nat} {l : List Nat} (hl : kwOk l) : isWB t n p (wcd l) = decide (uw t n p = l) := by
  obtain ⟨h1, h2, h3⟩ := hl
  unfold isWB
  apply decide_eq_decide.mpr
  constructor
  · rintro ⟨_, _, h⟩
    refine wcd_inj _ _ (fun x hx => ?_) h3 h
    obtain ⟨j, hj, e⟩ := rwd_mem _ hx
    have := of_decide_eq_true (run_in (c := isLt t) (n := n) (p := wB t n p) (i := wB t n p + j) (by omega) (by show wB t n p + j < wE t n p; omega))
    omega
  · intro h
    have e : (uw t n p).length = wE t n p - wB t n p := rwd_len _ _ _
    rw [h] at e
    refine ⟨by omega, by omega, ?_⟩
    rw [← h]
    rfl
theorem m_uw {S : wd_W} {n p : Nat} {t : Nat → Nat} {w : Int64} (l : List Nat) (hl : kwOk l) (hw : w = lN (wcd l)) (h62 : wcd l < 2 ^ 62) (ht : MTa S n t) (h : S.1 17 = nI p) (hp : p ≤ n) : f_X12_isWord S w = some (nI (b2n (decide (uw t n p = l))), nI (wB t n p)) := by
  subst hw
  rw [m_isWord ht h hp h62, isWB_uw hl]
theorem m_uwT {S : wd_W} {n p : Nat} {t : Nat → Nat} {w : Int64} (l : List Nat) (hl : kwOk l) (hw : w = lN (wcd l)) (h62 : wcd l < 2 ^ 62) (ht : MTa S n t) (h : S.1 17 = nI p) (hp : p ≤ n) (e : uw t n p = l) : f_X12_isWord S w = some (nI 1, nI (wB t n p)) := by
  rw [m_uw l hl hw h62 ht h hp, decide_eq_true e]; rfl
theorem m_uwF {S : wd_W} {n p : Nat} {t : Nat → Nat} {w : Int64} (l : List Nat) (hl : kwOk l) (hw : w = lN (wcd l)) (h62 : wcd l < 2 ^ 62) (ht : MTa S n t) (h : S.1 17 = nI p) (hp : p ≤ n) (e : uw t n p ≠ l) : f_X12_isWord S w = some (nI 0, nI (wB t n p)) := by
  rw [m_uw l hl hw h62 ht h hp, decide_eq_false e]; rfl
theorem m_tkT {S : wd_W} {n p : Nat} {t : Nat → Nat} {w : Int64} (l : List Nat) (hl : kwOk l) (hw : w = lN (wcd l)) (h62 : wcd l < 2 ^ 62) (ht : MTa S n t) (h : S.1 17 = nI p) (hp : p ≤ n) (e : uw t n p = l) : f_X12_takesWord S w = some (nI 1, nI (wE t n p)) := by
  apply ok_e
  unfold f_X12_takesWord
  rw [bd_s (m_uwT (S := wd_o S [(17, (S.1 17))] [] [] [] []) l hl hw h62 ht h hp e)]
  dsimp only
  rw [ite_1]
  obtain ⟨h0, h4, hr⟩ := ht
  have hq : wB t n p ≤ n := run_le hp
  unfold wE
  generalize wB t n p = q at hq
  refine ok_up (W := fun m i (_ : Unit) => it1 (f_X12_takesWord_L10 S) m (nI i)) (I := fun i _ => run (isLt t) n q = run (isLt t) n i) (e := n) ?_ ?_ fuel q () hq rfl (by unfold fuel; omega)
  · intro m _ hI
    show Ok (f_X12_takesWord_L10 S _ (nI n)) _
    unfold f_X12_takesWord_L10
    rw [h0, if_pos (nI_le (Nat.le_refl _) (by omega))]
    refine ok_some ?_
    rw [hI, run_eq, if_neg (fun z => Nat.lt_irrefl n z.1)]
    rfl
  · intro m i _ hi hI ih
    show Ok (f_X12_takesWord_L10 S (it1 _ m) (nI i)) _
    generalize it1 (f_X12_takesWord_L10 S) m = r at ih
    have hb := (hr i hi).1
    have hd := sby_lt _ hb
    unfold f_X12_takesWord_L10
    rw [h0, if_neg (nI_ge hi (by omega)), gd_in (by omega) (by omega), gd_in (by omega) (by omega), nI_clamp (by omega), (hr i hi).2, nI_1]
    rw [run_eq (isLt t) n i] at hI
    have stop : ¬ isLt t i = true → Ok (some ((1 : Int32), nI i)) (fun o => o = (nI 1, nI (run (isLt t) n q))) := fun z => by
      rw [if_neg (fun y => z y.2)] at hI
      exact ok_some (by rw [hI]; rfl)
    refine ok_ite (fun c => stop (fun z => (hd.mp (Or.inl c)) (of_decide_eq_true z))) (fun c => ok_ite (fun d => stop (fun z => (hd.mp (Or.inr d)) (of_decide_eq_true z))) (fun d => ?_))
    have hl : 97 ≤ t i ∧ t i ≤ 122 := Classical.byContradiction fun z => by rcases hd.mpr z with w | w; exact c w; exact d w
    rw [if_pos ⟨hi, decide_eq_true hl⟩] at hI
    exact ok_lz (ih () hI)
theorem m_tkF {S : wd_W} {n p : Nat} {t : Nat → Nat} {w : Int64} (l : List Nat) (hl : kwOk l) (hw : w = lN (wcd l)) (h62 : wcd l < 2 ^ 62) (ht : MTa S n t) (h : S.1 17 = nI p) (hp : p ≤ n) (e : uw t n p ≠ l) : f_X12_takesWord S w = some (nI 0, nI (wB t n p)) := by
  unfold f_X12_takesWord
  rw [bd_s (m_uwF (S := wd_o S [(17, (S.1 17))] [] [] [] []) l hl hw h62 ht h hp e)]
  dsimp only
  rw [ite_0]
  rfl
theorem kq0 : kwOk kw0 := by decide
theorem kq1 : kwOk kw1 := by decide
theorem kq2 : kwOk kw2 := by decide
theorem kq3 : kwOk kw3 := by decide
theorem kq4 : kwOk kw4 := by decide
theorem kq5 : kwOk kw5 := by decide
theorem kq6 : kwOk kw6 := by decide
theorem kq7 : kwOk kw7 := by decide
theorem kq8 : kwOk kw8 := by decide
theorem kq9 : kwOk kw9 := by decide
theorem kq10 : kwOk kw10 := by decide
theorem kz0 : (123610792682867 : Int64) = lN (wcd kw0) := by decide
theorem kz1 : (1818848869 : Int64) = lN (wcd kw1) := by decide
theorem kz2 : (7302757 : Int64) = lN (wcd kw2) := by decide
theorem kz3 : (1684109683 : Int64) = lN (wcd kw3) := by decide
theorem kz4 : (1801807216 : Int64) = lN (wcd kw4) := by decide
theorem kz5 : (426836849509 : Int64) = lN (wcd kw5) := by decide
theorem kz6 : (482854658917 : Int64) = lN (wcd kw6) := by decide
theorem kz7 : (32765938003961704 : Int64) = lN (wcd kw7) := by decide
theorem kz8 : (1936682341 : Int64) = lN (wcd kw8) := by decide
theorem kz9 : (7632751 : Int64) = lN (wcd kw9) := by decide
theorem kz10 : (6384748 : Int64) = lN (wcd kw10) := by decide
theorem ky0 : wcd kw0 < 2 ^ 62 := by decide
theorem ky1 : wcd kw1 < 2 ^ 62 := by decide
theorem ky2 : wcd kw2 < 2 ^ 62 := by decide
theorem ky3 : wcd kw3 < 2 ^ 62 := by decide
theorem ky4 : wcd kw4 < 2 ^ 62 := by decide
theorem ky5 : wcd kw5 < 2 ^ 62 := by decide
theorem ky6 : wcd kw6 < 2 ^ 62 := by decide
theorem ky7 : wcd kw7 < 2 ^ 62 := by decide
theorem ky8 : wcd kw8 < 2 ^ 62 := by decide
theorem ky9 : wcd kw9 < 2 ^ 62 := by decide
theorem ky10 : wcd kw10 < 2 ^ 62 := by decide
theorem okz_n0 : okz (nI 0) = true := rfl
theorem okz_n1 : okz (nI 1) = true := rfl
theorem m_rplace {S : wd_W} {n p N : Nat} {t : Nat → Nat} (ht : MTa S n t) (h : S.1 17 = nI p) (hp : p ≤ n) (h18 : S.1 18 = nI 0) (h11 : S.1 11 = nI N) (hN : N ≤ 1000) :
    Ok (f_X12_readsPlace S) (fun o => mR (pNum t n p 0 N) (fun e v => o = (nI 1, nI e, nI 0, nI v)) (fun f => o.1 = nI 0 ∧ o.2.2.1 = nI f)) := by
  unfold f_X12_readsPlace
  refine ok_bd (m_number (S := wd_o S [(17, (S.1 17)), (18, (S.1 18)), (19, (S.1 19))] [] [] [] []) ht h hp h18 (lo := 0) rfl (by omega) (le_sub1 (N := N) (by omega) h11)) ?_
  rintro o ho
  cases hP : pNum t n p 0 N with
  | error f =>
    rw [hP] at ho
    have ho1 : o.1 = nI 0 := ho.1
    rw [ho1, gd_t okz_n0]
    exact ok_some ⟨rfl, ho.2⟩
  | ok x =>
    rw [hP] at ho
    have ho : o = (nI 1, nI x.1, nI 0, nI x.2) := ho
    subst ho
    dsimp only
    rw [gd_t okz_n1]
    exact ok_some rfl
theorem m_rends {S : wd_W} {n p N : Nat} {t : Nat → Nat} (ht : MTa S n t) (h : S.1 17 = nI p) (hp : p ≤ n) (h18 : S.1 18 = nI 0) (h11 : S.1 11 = nI N) (hN : N ≤ 1000) :
    Ok (f_X12_readsEnds S) (fun o => mR (pEnds t n p N) (fun e ab => o = (nI 1, nI ab.1, nI ab.2, nI e, nI 0, nI ab.2)) (fun f => o.1 = nI 0 ∧ o.2.2.2.2.1 = nI f)) := by
  unfold f_X12_readsEnds
  refine ok_bd (m_rplace (S := wd_o S [(14, (S.1 14)), (15, (S.1 15)), (17, (S.1 17)), (18, (S.1 18)), (19, (S.1 19))] [] [] [] []) ht h hp h18 h11 hN) ?_
  rintro o ho
  unfold pEnds
  cases hP : pNum t n p 0 N with
  | error f =>
    rw [hP] at ho
    have ho1 : o.1 = nI 0 := ho.1
    rw [ho1, ite_0, pb_er]
    exact ok_some ⟨rfl, ho.2⟩
  | ok x =>
    obtain ⟨e, a⟩ := x
    rw [hP] at ho
    have ho : o = (nI 1, nI e, nI 0, nI a) := ho
    subst ho
    dsimp only
    rw [ite_1, pb_ok]
    have k := pNum_inv hP
    have en : e ≤ n := by rw [k.1]; exact nE_le hp
    have hq := wB_le (t := t) en
    rw [bd_s (m_see (S := wd_o S [(14, nI a), (15, (S.1 15)), (17, nI e), (18, nI 0), (19, nI a)] [] [] [] []) ht rfl en)]
    dsimp only
    refine ok_bd (m_rplace (S := wd_o S [(14, nI a), (15, (S.1 15)), (17, nI (wB t n e)), (18, nI 0), (19, nI a)] [] [] [] []) ht rfl hq rfl h11 hN) ?_
    rintro o ho
    rw [pNum_wB] at ho
    cases hP2 : pNum t n e 0 N with
    | error f =>
      rw [hP2] at ho
      have ho1 : o.1 = nI 0 := ho.1
      rw [ho1, ite_0, pb_er]
      exact ok_some ⟨rfl, ho.2⟩
    | ok x =>
      obtain ⟨e2, b⟩ := x
      rw [hP2] at ho
      have ho : o = (nI 1, nI e2, nI 0, nI b) := ho
      subst ho
      dsimp only
      rw [ite_1, pb_ok]
      have k2 := pNum_inv hP2
      refine ok_ite (fun c => ?_) (fun c => ?_)
      · rw [nI_eq (by omega) (by omega)] at c
        rw [if_pos c.symm, bd_s (m_fails (S := wd_o S [(14, nI a), (15, nI b), (17, nI e2), (18, nI 0), (19, nI b)] [] [] [] []) (q := wB t n e) (k := 1) (p1 := (1 : Int32)) rfl rfl)]
        dsimp only
        rw [if_pos rfl]
        exact ok_some ⟨rfl, rfl⟩
      · rw [nI_eq (by omega) (by omega)] at c
        rw [if_neg (fun z => c z.symm)]
        exact ok_some rfl
