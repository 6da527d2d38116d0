/-! the developers' own methods: alone, looks, judge, plan, differ, joined, the days -/
theorem xE_over {S S' S'' : wd_W} {L : Ld} {T : Nt} {nc ns : Nat} (h : xE S L T S' nc ns) (hf : xFr S' S'') (h7 : S''.1 7 = S'.1 7) (hl : xLens S'') (hlen : lenS S'' = lenS S') (hp : ∀ c, c < 9 → xP S' L T c → xP S'' L T c) : xE S L T S'' nc ns := by
  obtain ⟨⟨h1, k, h2, h3, h4⟩, h5, h6, h8⟩ := h
  exact ⟨⟨XC_fr h1 hf hl, k, h2, h7.trans h3, fun c hc hb => hp c hc (h4 c hc hb)⟩, xFr_trans h5 hf, h6, by rw [hlen]; exact h8⟩
theorem sm_leK {f : Nat → Nat} {K : Nat} : ∀ n, (∀ i, i < n → f i ≤ K) → fb_sm f n ≤ K * n
  | 0, _ => Nat.le_refl _
  | n + 1, h => by
    rw [fb_sm_succ, Nat.mul_succ]
    exact Nat.add_le_add (sm_leK n (fun i hi => h i (by omega))) (h n (by omega))
theorem apq_le {L : Ld} (hL : lOk L) (hc3 : l_c L ≤ 3) : apq L ≤ 72 := by
  have e : apq L = fb_sm (fun c => cnt (l_X L c) 12 + cnt (l_Y L c) 12) (l_c L) := by unfold apq; rw [apF_1 hL _ (Nat.le_refl _)]
  have h := sm_leK (f := fun c => cnt (l_X L c) 12 + cnt (l_Y L c) 12) (K := 24) (l_c L) (fun c _ => by
    have a1 : cnt (l_X L c) 12 ≤ 12 := fb_ct_le _ _
    have a2 : cnt (l_Y L c) 12 ≤ 12 := fb_ct_le _ _
    omega)
  rw [e]
  omega
theorem x_alone {S : wd_W} {L : Ld} {T : Nt} {p1 : Int32} (h : XI S L T) : Ok (f_X11_alone S p1) (fun o => o.1 = aloA L p1 ∧ xE S L T o.2.1 o.2.2.1 o.2.2.2) := by
  have hL := h.1.1.1
  have hc3 := h.1.1.2.1
  have e16 : inB 0 ((1 : Nat) : Int) p1 = inB 0 1 p1 := rfl
  unfold f_X11_alone aloA
  rw [bd_s (x_thingsApart (S := wd_o S [] [] [] [] []) hL hc3 h.1.2.1)]
  rw [tst_gt (q := (1 : Int32)) (k := 1) rfl (by omega), e16]
  cases hin : inB 0 1 p1 with
  | false => exact ok_some ⟨rfl, xE_refl h⟩
  | true =>
    obtain ⟨p, hp, rfl, n1, n2⟩ := inB_t (by omega) hin
    have hapq : l_n L + l_k L + apq L < 2 ^ 31 := by
      have a1 := hL.1.2.2.1
      have a2 := hL.1.2.2.2.1
      have a3 := apq_le hL hc3
      omega
    rw [if_pos rfl, if_pos rfl, li_15]
    refine ok_ite (fun c => ?_) (fun c => ?_)
    · rw [nI_leI hapq (by omega)] at c
      rw [if_neg (show ¬ 15 < l_n L + l_k L + apq L by omega)]
      refine ok_ite (fun d => ?_) (fun d => ?_)
      · have : p = 1 := (nI_eq hp (by omega)).mp d
        subst this
        rw [if_neg (by decide), bd_s (x_power (by omega))]
        exact ok_some ⟨rfl, xE_refl h⟩
      · have : p = 0 := by
          have : p ≠ 1 := fun z => d (by rw [z]; rfl)
          omega
        subst this
        rw [if_pos (show nI 0 = 0 from rfl)]
        refine ok_bd (x_ks (S := wd_o S [] [] [] [] []) h) ?_
        rintro ⟨S', nc, ns⟩ ⟨e, ⟨e1, e2⟩, hs, hN, hl⟩
        dsimp only at e e1 e2 hs hN hl ⊢
        rw [gd_t (okr_in (by omega) (by omega))]
        refine ok_bd (x_throughApart hL hc3 ?_ ?_ ?_ c) ?_
        · exact hl
        · exact hs
        · exact hN
        · rintro ⟨o1, o2, o3, o4⟩ ho
          refine ok_some ⟨ho, xE_over (xE_0 e) (xFr_o rfl rfl) rfl e.1.1.2.2.2.2 rfl (fun c hc hp => ?_)⟩
          match c, hp with
          | 0, hp => exact hp
          | 1, hp => exact hp
          | 2, hp => exact hp
          | 3, hp => exact hp
          | 4, hp => exact hp
          | 5, hp => exact hp
          | 6, hp => exact hp
          | 7, hp => exact hp
          | _ + 8, hp => exact hp
    · rw [nI_leI hapq (by omega)] at c
      rw [if_pos (show 15 < l_n L + l_k L + apq L by omega)]
      exact ok_some ⟨rfl, xE_refl h⟩
theorem x_looks {S : wd_W} {L : Ld} {T : Nt} {p1 : Int32} (h : XI S L T) : Ok (f_X11_looks S p1) (fun o => o.1 = looA L p1 ∧ xE S L T o.2.1 o.2.2.1 o.2.2.2) := by
  have hL := h.1.1.1
  have hM := lM_15 hL
  have e16 : inB 0 ((1 : Nat) : Int) p1 = inB 0 1 p1 := rfl
  unfold f_X11_looks looA
  rw [tst_gt (q := (1 : Int32)) (k := 1) rfl (by omega), e16]
  cases hin : inB 0 1 p1 with
  | false => exact ok_some ⟨rfl, xE_refl h⟩
  | true =>
    rw [if_pos rfl, bd_s (x_things (S := wd_o S [] [] [] [] []) h.1.2.1), li_9, Bool.true_and]
    refine ok_ite (fun c => ?_) (fun c => ?_)
    · rw [nI_leI (by omega) (by omega)] at c
      rw [if_pos (decide_eq_true c)]
      refine ok_bd (x_know (S := wd_o S [] [] [] [] []) (q := 128) h (by omega) (by decide) (fun _ => c)) ?_
      rintro ⟨S', nc, ns⟩ hI
      have e := xKI_E hI
      have hk : xLk S' L := xKI_P hI (b := 7) (by omega) rfl
      have hN3 := e.1.1.2.2.2.2.2.1
      obtain ⟨_, _, _, h4, h5, _⟩ := hI
      dsimp only at e h4 h5 hN3 ⊢
      refine ok_ite (fun d => ?_) (fun d => ?_)
      · rw [gd_t (okr_in (by omega) (by omega)), bd_s (x_fewest (S := wd_o S' [] [] [] [] []) c hk hN3), if_pos d]
        exact ok_some ⟨rfl, xE_0 e⟩
      · rw [gd_t (okr_in (by omega) (by omega)), bd_s (x_firstThing (S := wd_o S' [] [] [] [] []) hL c hk hN3), if_neg d]
        exact ok_some ⟨rfl, xE_0 e⟩
    · rw [nI_leI (by omega) (by omega)] at c
      rw [if_neg (fun z => c (of_decide_eq_true z))]
      exact ok_some ⟨rfl, xE_refl h⟩
theorem x_judge {S : wd_W} {L : Ld} {T : Nt} {p1 : Int32} (h : XI S L T) : Ok (f_X11_judge S p1) (fun o => o.1 = judA L p1 ∧ xE S L T o.2.1 o.2.2.1 o.2.2.2) := by
  have hL := h.1.1.1
  have g3 := hL.1.2.2.1
  have pn : 2 ^ l_n L ≤ 4096 := pow_le_k (n := 12) g3
  unfold f_X11_judge judA
  rw [tst_shr (q := S.1 1601) (k := l_n L) h.1.2.1.1.2.1 (by omega)]
  cases hin : inB 0 (((2 ^ l_n L : Nat) : Int) - 1) p1 with
  | false => exact ok_some ⟨rfl, xE_refl h⟩
  | true =>
    obtain ⟨p, hp, rfl, n1, n2⟩ := inB_t (by omega) hin
    rw [if_pos rfl, if_pos rfl, nI_clamp hp]
    refine ok_bd (x_know (S := wd_o S [] [] [] [] []) (q := 8) h (by omega) (by decide) (fun z => absurd z (by decide))) ?_
    rintro ⟨S', nc, ns⟩ hI
    have e := xKI_E hI
    have hk : xBu S' L := xKI_P hI (b := 3) (by omega) rfl
    obtain ⟨e4, f4, n132, _⟩ := e.1.1.2.2.2.2.2.2.1
    have pe := pow_le_k (n := 12) f4
    dsimp only at e n132 ⊢
    have hb := hk.2.1
    rw [gd_in (by omega) (by omega), (hk.2.2 p (by omega)).1]
    exact ok_some ⟨rfl, xE_0 e⟩
theorem x_plan {S : wd_W} {L : Ld} {T : Nt} {p1 : Int32} (h : XI S L T) : Ok (f_X11_plan S p1) (fun o => o.1 = plaA L p1 ∧ xE S L T o.2.1 o.2.2.1 o.2.2.2) := by
  have hL := h.1.1.1
  have e16 : inB 0 ((16 : Nat) : Int) p1 = inB 0 16 p1 := rfl
  unfold f_X11_plan plaA
  rw [tst_le (q := (16 : Int32)) (k := 16) rfl (by omega), e16]
  cases hin : inB 0 16 p1 with
  | false => exact ok_some ⟨rfl, xE_refl h⟩
  | true =>
    obtain ⟨p, hp, rfl, n1, n2⟩ := inB_t (by omega) hin
    rw [if_pos rfl, if_pos rfl, nI_clamp hp]
    refine ok_bd (x_know (S := wd_o S [] [] [] [] []) (q := 8) h (by omega) (by decide) (fun z => absurd z (by decide))) ?_
    rintro ⟨S', nc, ns⟩ hI
    have e := xKI_E hI
    have hk : xBu S' L := xKI_P hI (b := 3) (by omega) rfl
    have hN4 := e.1.1.2.2.2.2.2.2.1
    have hl := e.1.1.2.1
    obtain ⟨_, _, _, h4, h5, _⟩ := hI
    dsimp only at e h4 h5 hN4 hl ⊢
    rw [gd_t (okr_in (by omega) (by omega)), bd_s (x_shortest (S := wd_o S' [] [] [] [] []) (n := p) hL hl hk hN4 (by omega))]
    exact ok_some ⟨rfl, xE_0 e⟩
theorem and_two {s a b : Nat} (hab : a ≠ b) (u v : Bool) : s &&& (2 ^ a ||| 2 ^ b) = ((if u = true then 2 ^ a else 0) ||| (if v = true then 2 ^ b else 0)) ↔ (s.testBit a = u ∧ s.testBit b = v) := by
  have hu : ∀ i, (if u = true then 2 ^ a else 0).testBit i = (u && decide (a = i)) := by
    intro i
    cases u with
    | true => rw [if_pos rfl, Nat.testBit_two_pow, Bool.true_and]
    | false => rw [if_neg (by decide), Nat.zero_testBit, Bool.false_and]
  have hv : ∀ i, (if v = true then 2 ^ b else 0).testBit i = (v && decide (b = i)) := by
    intro i
    cases v with
    | true => rw [if_pos rfl, Nat.testBit_two_pow, Bool.true_and]
    | false => rw [if_neg (by decide), Nat.zero_testBit, Bool.false_and]
  constructor
  · intro h
    constructor
    · have := congrArg (fun x => Nat.testBit x a) h
      rw [Nat.testBit_and, Nat.testBit_or, Nat.testBit_or, Nat.testBit_two_pow, Nat.testBit_two_pow, hu, hv, decide_eq_true rfl, decide_eq_false (fun z => hab z.symm)] at this
      simpa using this
    · have := congrArg (fun x => Nat.testBit x b) h
      rw [Nat.testBit_and, Nat.testBit_or, Nat.testBit_or, Nat.testBit_two_pow, Nat.testBit_two_pow, hu, hv, decide_eq_true rfl, decide_eq_false hab] at this
      simpa using this
  · rintro ⟨h1, h2⟩
    apply Nat.eq_of_testBit_eq
    intro i
    rw [Nat.testBit_and, Nat.testBit_or, Nat.testBit_or, Nat.testBit_two_pow, Nat.testBit_two_pow, hu, hv]
    by_cases c1 : a = i
    · subst c1; rw [decide_eq_true rfl, decide_eq_false (fun z => hab z.symm), h1]; simp
    · rw [decide_eq_false c1]
      by_cases c2 : b = i
      · subst c2; rw [decide_eq_true rfl, h2]; simp
      · rw [decide_eq_false c2]; simp
noncomputable def difN (L : Ld) (a b : Nat) (u v : Bool) : Nat := fb_sm (fun s => if (s.testBit a = u ∧ s.testBit b = v) ∧ thB L s = true then wt L s else 0) (2 ^ l_M L)
noncomputable def difA (L : Ld) (p1 p2 p3 : Int32) : Int64 := if inB 0 ((l_M L : Int) - 1) p1 = true then (if inB 0 ((l_M L : Int) - 1) p2 = true then (if p1 = p2 then -1 else if inB 0 3 p3 = true then lN (difN L p1.toNatClampNeg p2.toNatClampNeg (decide (p3.toNatClampNeg < 2)) (decide (p3.toNatClampNeg % 2 = 0))) else -1) else -1) else -1
theorem x_differ {S : wd_W} {L : Ld} {T : Nt} {p1 p2 p3 : Int32} (h : XI S L T) : Ok (f_X11_differ S p1 p2 p3) (fun o => o.1 = difA L p1 p2 p3 ∧ xE S L T o.2.1 o.2.2.1 o.2.2.2) := by
  have hL := h.1.1.1
  have hM := lM_15 hL
  unfold f_X11_differ difA
  rw [bd_s (x_isThing (S := wd_o S [] [] [] [] []) (p := p1) hL h.1.2.1)]
  refine ok_b (fun z => ?_) (fun z => ?_)
  · rw [z]; exact ok_some ⟨rfl, xE_refl h⟩
  obtain ⟨a, ha, rfl, a1, a2⟩ := inB_t (by omega) z
  rw [if_pos z, bd_s (x_isThing (S := wd_o S [] [] [] [] []) (p := p2) hL h.1.2.1)]
  refine ok_b (fun z2 => ?_) (fun z2 => ?_)
  · rw [z2]; exact ok_some ⟨rfl, xE_refl h⟩
  obtain ⟨b, hb, rfl, b1, b2⟩ := inB_t (by omega) z2
  rw [if_pos z2]
  refine ok_ite (fun z3 => ?_) (fun z3 => ?_)
  · rw [if_pos z3]; exact ok_some ⟨rfl, xE_refl h⟩
  rw [if_neg z3]
  have hab : a ≠ b := fun z => z3 (by rw [z])
  have e3 : inB 0 ((3 : Nat) : Int) p3 = inB 0 3 p3 := rfl
  rw [tst_le (q := (3 : Int32)) (k := 3) rfl (by omega), e3]
  cases hin : inB 0 3 p3 with
  | false => exact ok_some ⟨rfl, xE_refl h⟩
  | true =>
    obtain ⟨p, hp, rfl, n1, n2⟩ := inB_t (by omega) hin
    rw [if_pos rfl, if_pos rfl, nI_clamp hp, nI_clamp ha, nI_clamp hb]
    have fin : ∀ (u v : Bool) (x3 x5 : Int32), x3 = nI (if u = true then 2 ^ a else 0) → x5 = nI (if v = true then 2 ^ b else 0) →
        Ok (bd (f_X11_knownSets (wd_o S [] [] [] [] [])) fun o7 => gd (okr (0 + o7.2.1) (0 + o7.2.2) 0 0 40 500000) <| bd (f_X8_throughIn_q106 (wd_o o7.1 [] [] [] [] []) (((1 : Int32) <<< (nI a &&& 31)) ||| ((1 : Int32) <<< (nI b &&& 31))) (x3 ||| x5)) fun o8 => some (o8, o7.1, 0 + o7.2.1, 0 + o7.2.2)) (fun o => o.1 = lN (difN L a b u v) ∧ xE S L T o.2.1 o.2.2.1 o.2.2.2) := by
      rintro u v x3 x5 rfl rfl
      refine ok_bd (x_ks (S := wd_o S [] [] [] [] []) h) ?_
      rintro ⟨S', nc, ns⟩ ⟨e, ⟨e1, e2⟩, hs, hN, hl⟩
      dsimp only at e e1 e2 hs hN hl ⊢
      have pa : 2 ^ a < 2 ^ 20 := Nat.pow_lt_pow_right (by omega) (by omega)
      have pb : 2 ^ b < 2 ^ 20 := Nat.pow_lt_pow_right (by omega) (by omega)
      have q1 : (if u = true then 2 ^ a else 0) < 2 ^ 20 := by
        cases u with
        | false => exact Nat.two_pow_pos 20
        | true => exact pa
      have q2 : (if v = true then 2 ^ b else 0) < 2 ^ 20 := by
        cases v with
        | false => exact Nat.two_pow_pos 20
        | true => exact pb
      have q3 := Nat.or_lt_two_pow q1 q2
      rw [gd_t (okr_in (by omega) (by omega)), oI_pow (by omega), oI_pow (by omega), oI_or, oI_or, bd_s (x_throughIn (S := wd_o S' [] [] [] [] []) hL hs hN (by omega))]
      refine ok_some ⟨?_, xE_0 e⟩
      dsimp only
      congr 1
      unfold difN
      apply fb_sm_cong
      intro s hs
      by_cases c : (s.testBit a = u ∧ s.testBit b = v) ∧ thB L s = true
      · rw [if_pos c, if_pos ⟨(and_two hab u v).mpr c.1, c.2⟩]
      · rw [if_neg c, if_neg (fun z => c ⟨(and_two hab u v).mp z.1, z.2⟩)]
    have p4 : p = 0 ∨ p = 1 ∨ p = 2 ∨ p = 3 := by omega
    rcases p4 with rfl | rfl | rfl | rfl
    · exact fin true true _ _ (oI_pow (by omega)) (oI_pow (by omega))
    · exact fin true false _ _ (oI_pow (by omega)) rfl
    · exact fin false true _ _ rfl (oI_pow (by omega))
    · exact fin false false _ _ rfl rfl
