/-! the reference's clauses: line -/
/-- what was read so far -/
def mRd (S : wd_W) (L : Ld) (d : Nat) : Prop :=
  (S.1 3 = nI (l_n L) ∧ S.1 6 = nI (l_k L) ∧ S.1 10 = nI (l_c L) ∧ S.1 11 = nI (l_N L) ∧ S.1 12 = nI (l_w L) ∧ S.1 13 = nI (l_m L) ∧ S.1 14 = nI (l_a L) ∧ S.1 15 = nI (l_b L) ∧ S.1 16 = nI d) ∧
  (∀ k, k < l_n L → S.2.2.1 2 (5 * k) = nI (l_A L k) ∧ S.2.2.1 2 (5 * k + 1) = nI (l_B L k) ∧ S.2.2.1 2 (5 * k + 2) = nI (l_C L k) ∧ S.2.2.1 2 (5 * k + 3) = nI (l_O L k) ∧ S.2.2.1 2 (5 * k + 4) = nI (l_D L k)) ∧
  (∀ j, j < l_k L → S.2.2.1 3 j = nI (l_P L j) ∧ S.2.2.1 4 j = nI (l_Q L j)) ∧
  (∀ j, j < l_c L → S.2.2.1 5 j = nI (l_R L j) ∧ S.2.2.1 6 j = nI (l_X L j) ∧ S.2.2.1 7 j = nI (l_Y L j))
/-- a clause that fails, or ends well ahead of what no clause can hold -/
def mBad (t : Nat → Nat) (n p f : Nat) (r x17 x18 : Int32) : Prop :=
  (r = nI 0 ∧ x18 = nI f) ∨ (r = nI 1 ∧ x18 = nI 0 ∧ ∃ e, x17 = nI e ∧ e ≤ n ∧ p ≤ e ∧ wB t n e < n ∧ t (wB t n e) ≠ 59 ∧ f = flt (wB t n e) 0)
theorem m_things {S : wd_W} {L : Ld} (h3 : S.1 3 = nI (l_n L)) (h6 : S.1 6 = nI (l_k L)) (h10 : S.1 10 = nI (l_c L)) : f_X12_readThings S = some (nI (l_M L)) := by
  unfold f_X12_readThings
  rw [h3, h6, h10, nI_add, nI_add]
  rfl
/-- the words behind a line's chance -/
theorem m_opts {S : wd_W} {n p b : Nat} {t : Nat → Nat} {x5 x6 x8 : Int32} {a0 : Nat → Int32} {Q : o_X12_readsLine → Prop} (ht : MTa S n t) (hp : p ≤ n) (h8 : x8 = nI b) (hb : b ≤ 55) {x19 : Int32} (a3 : a0 (b + 3) = nI 1) (a4 : a0 (b + 4) = nI 0)
    (K1 K2 K3 : Int32 → Int32 → Int32 → (Nat → Int32) → Option o_X12_readsLine)
    (hbad : ∀ e x a, pOpt t n 3 p 0 0 = .error (flt (wB t n e) 0) → e ≤ n → Ok (K1 (nI (wB t n e)) (nI 0) x a) Q ∧ Ok (K2 (nI (wB t n e)) (nI 0) x a) Q)
    (hret : ∀ f e x a, pOpt t n 3 p 0 0 = .error f → Ok (some ((0 : Int32), S.1 3, x5, x6, e, nI f, x, a)) Q)
    (hgood : ∀ w d e x a, e ≤ n → p ≤ e → (∀ j, j < b + 3 → a j = a0 j) → a (b + 3) = nI (1 - w) → a (b + 4) = nI d → d ≤ 9 → (pOpt t n 3 p 0 0 = .ok (e, w, d) ∨ (wB t n e < n ∧ t (wB t n e) ≠ 59 ∧ pOpt t n 3 p 0 0 = .error (flt (wB t n e) 0))) → Ok (K3 (nI e) (nI 0) x a) Q) :
    Ok (it4 (f_X12_readsLine_L131 S x5 x6 x8 K1 K2 K3) fuel (nI p) (nI 0) x19 a0) Q := by
  subst h8
  generalize hR0 : pOpt t n 3 p 0 0 = R0 at hbad hret hgood
  refine ok_while (W := fun m (s : Nat × Nat × Nat × Nat × Int32 × (Nat → Int32)) => it4 (f_X12_readsLine_L131 S x5 x6 (nI b) K1 K2 K3) m (nI s.2.2.2.1) (nI 0) s.2.2.2.2.1 s.2.2.2.2.2) (I := fun s => s.1 ≤ 1 ∧ s.2.1 ≤ 9 ∧ s.2.2.1 = s.1 + (if s.2.1 = 0 then 0 else 1) ∧ s.2.2.2.1 ≤ n ∧ p ≤ s.2.2.2.1 ∧ R0 = pOpt t n (3 - s.2.2.1) s.2.2.2.1 s.1 s.2.1 ∧ (∀ j, j < b + 3 → s.2.2.2.2.2 j = a0 j) ∧ s.2.2.2.2.2 (b + 3) = nI (1 - s.1) ∧ s.2.2.2.2.2 (b + 4) = nI s.2.1) (μ := fun s => 4 - s.2.2.1) (s := (0, 0, 0, p, x19, a0)) ⟨Nat.zero_le _, Nat.zero_le _, rfl, hp, Nat.le_refl _, hR0.symm, fun _ _ => rfl, a3, a4⟩ (by show 4 - 0 < _; omega) ?_
  rintro m ⟨w, d, i, e, x, a⟩ ⟨w1, d9, hi, en, pe, hR, r1, r2, r3⟩ ih
  dsimp only at w1 d9 hi en pe hR r1 r2 r3
  show Ok (f_X12_readsLine_L131 S x5 x6 (nI b) K1 K2 K3 (it4 _ m) (nI e) (nI 0) x a) Q
  have i2 : i ≤ 2 := by
    split at hi <;> omega
  have ih2 := fun (w' d' e' : Nat) (x' : Int32) (a' : Nat → Int32) h => ih (w', d', i + 1, e', x', a') h (by show 4 - (i + 1) < 4 - i; omega)
  dsimp only at ih2
  clear ih
  generalize it4 (f_X12_readsLine_L131 S x5 x6 (nI b) K1 K2 K3) m = r at ih2
  rw [show 3 - (i + 1) = 2 - i by omega] at ih2
  rw [show 3 - i = (2 - i) + 1 by omega, pOpt] at hR
  have h4 := ht.2.1
  have hq := wB_le (t := t) en
  have hpq := wB_ge t n e
  have en2 := wE_le (t := t) en
  have hpe := wE_ge t n e
  have eu : uw t n (wB t n e) = uw t n e := uw_wB t n e
  have eWW : wB t n (wB t n e) = wB t n e := wB_wB t n e
  have eEE : wE t n (wB t n e) = wE t n e := wE_wB t n e
  have nstop : uw t n e = kw2 ∨ uw t n e = kw3 → ¬ n ≤ wB t n e ∧ t (wB t n e) ≠ 59 := by
    intro z
    have hl : wB t n e < wE t n e := by
      have e1 : (uw t n e).length = wE t n e - wB t n e := rwd_len _ _ _
      have e2 : 0 < (uw t n e).length := by
        rcases z with z | z <;> rw [z] <;> decide
      omega
    have := of_decide_eq_true (run_in (c := isLt t) (n := n) (p := wB t n e) (i := wB t n e) (Nat.le_refl _) hl)
    exact ⟨by omega, by omega⟩
  unfold f_X12_readsLine_L131
  have q3 : nI b + (3 : Int32) = nI (b + 3) := by rw [li_3, nI_add]
  have q4 : nI b + (4 : Int32) = nI (b + 4) := by rw [li_4, nI_add]
  rw [q3, q4]
  by_cases c2 : uw t n e = kw2
  · obtain ⟨s1, s2⟩ := nstop (Or.inl c2)
    rw [if_neg s1, if_neg s2, if_pos c2] at hR
    rw [bd_s (m_uwT (S := wd_o S [(3, (S.1 3)), (14, x5), (15, x6), (17, nI e), (18, nI 0), (19, x)] [] [(2, a)] [] []) kw2 kq2 kz2 ky2 ht rfl en c2)]
    dsimp only
    refine ok_lk ?_
    dsimp only
    rw [ite_1]
    rw [bd_s (m_uwT (S := wd_o S [(3, (S.1 3)), (14, x5), (15, x6), (17, nI (wB t n e)), (18, nI 0), (19, x)] [] [(2, a)] [] []) kw2 kq2 kz2 ky2 ht rfl hq (by rw [eu]; exact c2)), eWW]
    dsimp only
    refine ok_lk ?_
    rw [ite_1, gd_in (by omega) (by omega), nI_clamp (by omega), r2]
    refine ok_ite (fun z => ?_) (fun z => ?_)
    · rw [oI_z (by omega)] at z
      rw [if_neg (by omega)] at hR
      exact (hbad e x a hR en).2
    · rw [oI_z (by omega)] at z
      have w0 : w = 0 := by omega
      subst w0
      rw [if_pos rfl] at hR
      refine ok_lk ?_
      dsimp only
      rw [ite_1]
      rw [bd_s (m_tkT (S := wd_o S [(3, (S.1 3)), (14, x5), (15, x6), (17, nI (wB t n e)), (18, nI 0), (19, x)] [] [(2, a)] [] []) kw2 kq2 kz2 ky2 ht rfl hq (by rw [eu]; exact c2)), eEE]
      dsimp only
      refine ok_lk ?_
      dsimp only
      rw [ite_1]
      refine ok_lk ?_
      dsimp only
      rw [ite_1, gd_in (by omega) (by omega), lz_eq]
      refine ih2 1 d (wE t n e) x _ ⟨by omega, d9, by rw [hi]; omega, en2, by omega, hR, fun j hj => ?_, ?_, ?_⟩
      · rw [pk_un (by omega)]; exact r1 j hj
      · rw [pk_us]; rfl
      · rw [pk_un (by omega)]; exact r3
  · rw [bd_s (m_uwF (S := wd_o S [(3, (S.1 3)), (14, x5), (15, x6), (17, nI e), (18, nI 0), (19, x)] [] [(2, a)] [] []) kw2 kq2 kz2 ky2 ht rfl en c2)]
    dsimp only
    refine ok_lk ?_
    dsimp only
    rw [ite_0]
    by_cases c3 : uw t n e = kw3
    · obtain ⟨s1, s2⟩ := nstop (Or.inr c3)
      rw [if_neg s1, if_neg s2, if_neg c2, if_pos c3] at hR
      rw [bd_s (m_uwT (S := wd_o S [(3, (S.1 3)), (14, x5), (15, x6), (17, nI (wB t n e)), (18, nI 0), (19, x)] [] [(2, a)] [] []) kw3 kq3 kz3 ky3 ht rfl hq (by rw [eu]; exact c3)), eWW]
      dsimp only
      rw [ite_1]
      rw [bd_s (m_uwF (S := wd_o S [(3, (S.1 3)), (14, x5), (15, x6), (17, nI (wB t n e)), (18, nI 0), (19, x)] [] [(2, a)] [] []) kw2 kq2 kz2 ky2 ht rfl hq (by rw [eu]; exact c2)), eWW]
      dsimp only
      refine ok_lk ?_
      rw [ite_0, gd_in (by omega) (by omega), nI_clamp (by omega), r3]
      refine ok_ite (fun z => ?_) (fun z => ?_)
      · rw [oI_le0 (by omega)] at z
        subst z
        rw [if_pos rfl] at hR
        refine ok_lk ?_
        dsimp only
        rw [ite_0]
        rw [bd_s (m_tkT (S := wd_o S [(3, (S.1 3)), (14, x5), (15, x6), (17, nI (wB t n e)), (18, nI 0), (19, x)] [] [(2, a)] [] []) kw3 kq3 kz3 ky3 ht rfl hq (by rw [eu]; exact c3)), eEE]
        dsimp only
        refine ok_lk ?_
        dsimp only
        rw [ite_0]
        refine ok_bd (m_number (S := wd_o S [(3, (S.1 3)), (14, x5), (15, x6), (17, nI (wE t n e)), (18, nI 0), (19, x)] [] [(2, a)] [] []) ht rfl en2 rfl (lo := 1) rfl (by omega) (le_lit (N := 9) (by omega) rfl)) ?_
        rintro o ho
        cases hP : pNum t n (wE t n e) 1 10 with
        | error f =>
          rw [hP] at ho
          rw [hP, pb_er] at hR
          have ho1 : o.1 = nI 0 := ho.1
          have ho2 : o.2.2.1 = nI f := ho.2
          rw [ho1, ite_0, ho2]
          exact hret f _ _ _ hR
        | ok y =>
          obtain ⟨e2, v⟩ := y
          rw [hP] at ho
          have ho : o = (nI 1, nI e2, nI 0, nI v) := ho
          subst ho
          rw [hP, pb_ok] at hR
          have kk := pNum_inv hP
          dsimp only
          rw [ite_1]
          refine ok_lk ?_
          dsimp only
          rw [ite_0, gd_in (by omega) (by omega), lz_eq]
          have e2n : e2 ≤ n := by rw [kk.1]; exact nE_le en2
          refine ih2 w v e2 (nI v) _ ⟨w1, by omega, ?_, e2n, by omega, hR, fun j hj => ?_, ?_, ?_⟩
          · rw [hi, if_pos rfl, if_neg (by omega)]
          · rw [pk_un (by omega)]; exact r1 j hj
          · rw [pk_un (by omega)]; exact r2
          · rw [pk_us]
      · rw [oI_le0 (by omega)] at z
        rw [if_neg z] at hR
        exact (hbad e x a hR en).1
    · rw [bd_s (m_uwF (S := wd_o S [(3, (S.1 3)), (14, x5), (15, x6), (17, nI (wB t n e)), (18, nI 0), (19, x)] [] [(2, a)] [] []) kw3 kq3 kz3 ky3 ht rfl hq (by rw [eu]; exact c3)), eWW]
      dsimp only
      rw [ite_0]
      refine hgood w d (wB t n e) x a hq (by omega) r1 r2 r3 d9 ?_
      by_cases s1 : n ≤ wB t n e
      · rw [if_pos s1] at hR
        exact Or.inl hR
      · rw [if_neg s1] at hR
        by_cases s2 : t (wB t n e) = 59
        · rw [if_pos s2] at hR
          exact Or.inl hR
        · rw [if_neg s2, if_neg c2, if_neg c3] at hR
          rw [eWW]
          exact Or.inr ⟨by omega, s2, hR⟩
theorem ok_lkI {ρ α β γ δ : Type} {B : α → β → γ → δ → Option ρ} {R : (α → β → γ → δ → Option ρ) → Option ρ} {Q : ρ → Prop} (I : α → β → γ → δ → Prop) (hR : ∀ K, (∀ a b c d, I a b c d → Ok (K a b c d) Q) → Ok (R K) Q) (hB : ∀ a b c d, I a b c d → Ok (B a b c d) Q) : Ok (lk B R) Q := hR B hB
theorem m_rline {S : wd_W} {n p q d : Nat} {t : Nat → Nat} {L : Ld} (ht : MTa S n t) (hp : p ≤ n) (h : S.1 17 = nI p) (h18 : S.1 18 = nI 0) (hL : lOk L) (hm : mRd S L d) :
    Ok (f_X12_readsLine S (nI q)) (fun o => match pLine t n L q p with
      | .ok x => o.1 = nI 1 ∧ o.2.2.2.2.1 = nI x.1 ∧ o.2.2.2.2.2.1 = nI 0 ∧ mRd (wd_o S [(3, o.2.1), (14, o.2.2.1), (15, o.2.2.2.1)] [] [(2, o.2.2.2.2.2.2.2)] [] []) x.2 d
      | .error f => mBad t n p f o.1 o.2.2.2.2.1 o.2.2.2.2.2.1) := by
  obtain ⟨c1, c2, c3, c4, c5⟩ := lOk_cnt hL
  have h4 := ht.2.1
  have g3 : S.1 3 = nI (l_n L) := hm.1.1
  have g11 : S.1 11 = nI (l_N L) := hm.1.2.2.2.1
  unfold f_X12_readsLine
  generalize hP : pLine t n L q p = P
  refine ok_lkP (l_n L = 12 ∨ l_M L = 15) (fun K hK => ?_) (fun z => ?_)
  · rw [g3, li_12]
    refine ok_ite (fun c => hK (Or.inl ?_)) (fun c => ?_)
    · rw [nI_eq (by omega) (by omega)] at c; exact c
    rw [nI_eq (by omega) (by omega)] at c
    rw [bd_s (m_things (S := wd_o S [(3, nI (l_n L)), (14, (S.1 14)), (15, (S.1 15)), (17, (S.1 17)), (18, (S.1 18)), (19, (S.1 19))] [] [(2, (S.2.2.1 2))] [] []) (L := L) rfl hm.1.2.1 hm.1.2.2.1), li_15]
    refine ok_ite (fun c' => hK (Or.inr ?_)) (fun c' => ?_)
    · rw [nI_eq (by omega) (by omega)] at c'; exact c'
    rw [nI_eq (by omega) (by omega)] at c'
    have hP2 := hP
    unfold pLine at hP2
    rw [if_neg (by omega)] at hP2
    refine ok_lz (ok_lz ?_)
    refine ok_bd (m_rends (S := wd_o S [(3, nI (l_n L)), (14, (S.1 14)), (15, (S.1 15)), (17, (S.1 17)), (18, (S.1 18)), (19, (S.1 19))] [] [(2, (S.2.2.1 2))] [] []) (N := l_N L) ht h hp h18 g11 (by omega)) ?_
    rintro o ho
    cases hE : pEnds t n p (l_N L) with
    | error f =>
      rw [hE] at ho hP2
      rw [pb_er] at hP2
      have ho1 : o.1 = nI 0 := ho.1
      rw [ho1, ite_0, ← hP2]
      exact ok_some (Or.inl ⟨rfl, ho.2⟩)
    | ok y =>
    obtain ⟨e, a, b⟩ := y
    rw [hE] at ho hP2
    rw [pb_ok] at hP2
    have ho : o = (nI 1, nI a, nI b, nI e, nI 0, nI b) := ho
    subst ho
    dsimp only at hP2 ⊢
    have kE : p ≤ e ∧ e ≤ n := by
      unfold pEnds at hE
      obtain ⟨e1, a1, i1, hE⟩ := pb_inv hE
      obtain ⟨e2, a2, i2, hE⟩ := pb_inv hE
      split at hE
      · cases hE
      · obtain ⟨rfl, _⟩ := ok_inj2 hE
        have j1 := pNum_inv i1
        have j2 := pNum_inv i2
        have j3 : e1 ≤ n := by rw [j1.1]; exact nE_le hp
        exact ⟨by omega, by rw [j2.1]; exact nE_le j3⟩
    rw [ite_1]
    have e5 : (5 : Int32) * nI (l_n L) = nI (5 * l_n L) := by rw [li_5, nI_mulR, Nat.mul_comm]
    rw [e5, lz_eq, gd_in (by omega) (by omega), lz_eq, li_1, nI_add, gd_in (by omega) (by omega), lz_eq, nI_clamp (by omega), nI_clamp (by omega)]
    refine ok_bd (m_number (S := wd_o S [(3, nI (l_n L)), (14, (S.1 14)), (15, (S.1 15)), (17, nI e), (18, nI 0), (19, nI b)] [] [(2, upd (upd (S.2.2.1 2) (5 * l_n L) (nI a)) (5 * l_n L + 1) (nI b))] [] []) ht rfl kE.2 rfl (lo := 0) rfl (by omega) (le_lit (N := 16) (by omega) rfl)) ?_
    rintro o ho
    cases hC : pNum t n e 0 17 with
    | error f =>
      rw [hC] at ho hP2
      rw [pb_er] at hP2
      have ho1 : o.1 = nI 0 := ho.1
      rw [ho1, ite_0, ← hP2]
      exact ok_some (Or.inl ⟨rfl, ho.2⟩)
    | ok y =>
    obtain ⟨e2, c⟩ := y
    rw [hC] at ho hP2
    rw [pb_ok] at hP2
    have ho : o = (nI 1, nI e2, nI 0, nI c) := ho
    subst ho
    have kC := pNum_inv hC
    have e2n : e2 ≤ n := by rw [kC.1]; exact nE_le kE.2
    dsimp only at hP2 ⊢
    rw [ite_1, li_2, nI_add, gd_in (by omega) (by omega), lz_eq, li_3, nI_add, gd_in (by omega) (by omega), lz_eq, li_4, nI_add, gd_in (by omega) (by omega), lz_eq, nI_clamp (by omega), nI_clamp (by omega), nI_clamp (by omega)]
    have hfail : ∀ x20 x22 a23, Ok (bd (f_X12_fails (wd_o S [(3, nI (l_n L)), (14, (S.1 14)), (15, (S.1 15)), (17, nI x20), (18, nI 0), (19, x22)] [] [(2, a23)] [] []) (0 : Int32) (nI x20)) fun o25 => gd (okz o25.1) <| some (o25.1, nI (l_n L), S.1 14, S.1 15, nI x20, o25.2, x22, a23)) (fun o : o_X12_readsLine => o.1 = nI 0 ∧ o.2.2.2.2.2.1 = nI (flt x20 0)) := by
      intro x20 x22 a23
      rw [bd_s (m_fails (S := wd_o S [(3, nI (l_n L)), (14, (S.1 14)), (15, (S.1 15)), (17, nI x20), (18, nI 0), (19, x22)] [] [(2, a23)] [] []) (q := x20) (k := 0) (p1 := (0 : Int32)) rfl rfl)]
      dsimp only
      rw [gd_t okz_0]
      exact ok_some ⟨rfl, rfl⟩
    have hbad : ∀ f, pOpt t n 3 e2 0 0 = .error f → P = .error f := by
      intro f hf
      rw [hf, pb_er] at hP2
      exact hP2.symm
    refine ok_lkI (fun x20 x21 x22 a23 => ∃ y, x20 = nI y ∧ x21 = nI 0 ∧ P = .error (flt y 0)) (fun K1 hK1 => ?_) ?_
    · refine ok_lkI (fun x20 x21 x22 a23 => ∃ y, x20 = nI y ∧ x21 = nI 0 ∧ P = .error (flt y 0)) (fun K2 hK2 => ?_) (fun x20 x21 x22 a23 hI => hK1 _ _ _ _ hI)
      refine ok_lkI (fun x32 x33 x34 a35 => x33 = nI 0 ∧ ∃ w d' e3, x32 = nI e3 ∧ e3 ≤ n ∧ e2 ≤ e3 ∧ (∀ j, j < 5 * l_n L → a35 j = S.2.2.1 2 j) ∧ a35 (5 * l_n L) = nI a ∧ a35 (5 * l_n L + 1) = nI b ∧ a35 (5 * l_n L + 2) = nI c ∧ a35 (5 * l_n L + 3) = nI (1 - w) ∧ a35 (5 * l_n L + 4) = nI d' ∧ d' ≤ 9 ∧ (pOpt t n 3 e2 0 0 = .ok (e3, w, d') ∨ (wB t n e3 < n ∧ t (wB t n e3) ≠ 59 ∧ pOpt t n 3 e2 0 0 = .error (flt (wB t n e3) 0)))) (fun K3 hK3 => ?_) ?_
      · refine m_opts (b := 5 * l_n L) ht e2n rfl (by omega) ?_ ?_ K1 K2 K3 (fun e x a0 hf en => ⟨hK1 _ _ _ _ ⟨_, rfl, rfl, hbad _ hf⟩, hK2 _ _ _ _ ⟨_, rfl, rfl, hbad _ hf⟩⟩) (fun f e x a0 hf => ?_) (fun w d' e3 x a0 r1 r2 r3 r4 r5 r6 r7 => hK3 _ _ _ _ ⟨rfl, w, d', e3, rfl, r1, r2, fun j hj => ?_, ?_, ?_, ?_, r4, r5, r6, r7⟩)
        · rw [pk_un (by omega), pk_us]
        · rw [pk_us]; rfl
        · rw [hbad _ hf]
          exact ok_some (Or.inl ⟨rfl, rfl⟩)
        · rw [r3 j (by omega), pk_un (by omega), pk_un (by omega), pk_un (by omega), pk_un (by omega), pk_un (by omega)]
        · rw [r3 _ (by omega), pk_un (by omega), pk_un (by omega), pk_un (by omega), pk_un (by omega), pk_us]
        · rw [r3 _ (by omega), pk_un (by omega), pk_un (by omega), pk_un (by omega), pk_us]
        · rw [r3 _ (by omega), pk_un (by omega), pk_un (by omega), pk_us]
      · rintro _ _ x34 a35 ⟨rfl, w, d', e3, rfl, r1, r2, r3, r4, r5, r6, r7, r8, r9, r10⟩
        rw [gd_in (by omega) (by omega), r8]
        refine ok_lk2 (fun x38 x39 => x38 = nI (if d' = 0 then 1 else d') ∧ x39 = nI (5 * l_n L + 4)) (fun K4 hK4 => ?_) ?_
        · refine ok_ite (fun z => ?_) (fun z => ?_)
          · rw [oI_z (by omega)] at z
            exact hK4 _ _ ⟨by rw [if_pos z], rfl⟩
          · rw [oI_z (by omega)] at z
            rw [gd_in (by omega) (by omega)]
            exact hK4 _ _ ⟨by rw [if_neg z], rfl⟩
        · rintro _ _ ⟨rfl, rfl⟩
          rw [gd_in (by omega) (by omega), lz_eq, nI_clamp (by omega), nI_add, lz_eq]
          rcases r10 with r10 | ⟨r10, r11, r12⟩
          · rw [r10, pb_ok] at hP2
            rw [← hP2]
            refine ok_some ⟨rfl, rfl, rfl, ?_⟩
            obtain ⟨⟨m1, m2, m3, m4, m5, m6, m7, m8, m9⟩, mk, mj, mc⟩ := hm
            refine ⟨⟨rfl, m2, m3, m4, m5, m6, m7, m8, m9⟩, fun k hk => ?_, mj, mc⟩
            have hk : k < l_n L + 1 := hk
            show upd a35 (5 * l_n L + 4) (nI (if d' = 0 then 1 else d')) (5 * k) = nI (upN (L 2) (l_n L) a k) ∧ upd a35 (5 * l_n L + 4) (nI (if d' = 0 then 1 else d')) (5 * k + 1) = nI (upN (L 3) (l_n L) b k) ∧ upd a35 (5 * l_n L + 4) (nI (if d' = 0 then 1 else d')) (5 * k + 2) = nI (upN (L 4) (l_n L) c k) ∧ upd a35 (5 * l_n L + 4) (nI (if d' = 0 then 1 else d')) (5 * k + 3) = nI (upN (L 5) (l_n L) (1 - w) k) ∧ upd a35 (5 * l_n L + 4) (nI (if d' = 0 then 1 else d')) (5 * k + 4) = nI (upN (L 6) (l_n L) (if d' = 0 then 1 else d') k)
            by_cases ek : k = l_n L
            · subst ek
              rw [pk_un (by omega), pk_un (by omega), pk_un (by omega), pk_un (by omega), pk_us, upN_s, upN_s, upN_s, upN_s, upN_s]
              exact ⟨r4, r5, r6, r7, rfl⟩
            · rw [pk_un (by omega), pk_un (by omega), pk_un (by omega), pk_un (by omega), pk_un (by omega), upN_n ek, upN_n ek, upN_n ek, upN_n ek, upN_n ek, r3 _ (by omega), r3 _ (by omega), r3 _ (by omega), r3 _ (by omega), r3 _ (by omega)]
              exact mk k (by omega)
          · rw [hbad _ r12]
            exact ok_some (Or.inr ⟨rfl, rfl, e3, rfl, r1, by omega, r10, r11, rfl⟩)
    · rintro _ _ x22 a23 ⟨y, rfl, rfl, hy⟩
      rw [hy]
      exact ok_mono (hfail y x22 a23) (fun o ho => Or.inl ho)
  · have hP2 := hP
    unfold pLine at hP2
    rw [if_pos z] at hP2
    rw [bd_s (m_fails (S := wd_o S [(3, (S.1 3)), (14, (S.1 14)), (15, (S.1 15)), (17, (S.1 17)), (18, (S.1 18)), (19, (S.1 19))] [] [(2, (S.2.2.1 2))] [] []) (q := q) (k := 3) (p1 := (3 : Int32)) rfl h18)]
    dsimp only
    rw [gd_t okz_0, ← hP2]
    exact ok_some (Or.inl ⟨rfl, rfl⟩)
