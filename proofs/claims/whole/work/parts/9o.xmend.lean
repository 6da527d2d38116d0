/-! mendings: the developers', all of them -/
theorem doM_bit (L : Ld) (T : Nt) (c j : Nat) : (doM L T c).testBit j = (decide (j < l_n L) && (!(tcM T).testBit j || decide (j < c))) := by unfold doM; rw [mk_bit]
def reM (L : Ld) (T : Nt) (c : Nat) : Nat := mk (fun j => (tcM T).testBit j && decide (c ≤ j)) (l_n L)
theorem reM_bit (L : Ld) (T : Nt) (c j : Nat) : (reM L T c).testBit j = (decide (j < l_n L) && ((tcM T).testBit j && decide (c ≤ j))) := by unfold reM; rw [mk_bit]
theorem reM_lt (L : Ld) (T : Nt) (c : Nat) : reM L T c < 2 ^ l_n L := mk_lt _ _
theorem doM_yes {L : Ld} {T : Nt} {c : Nat} (hc : c < l_n L) (h : (tcM T).testBit c = true) : doM L T (c + 1) = doM L T c ||| 2 ^ c ∧ (doM L T c).testBit c = false ∧ (reM L T c).testBit c = true ∧ reM L T (c + 1) = ndn (reM L T c) (2 ^ c) := by
  refine ⟨?_, ?_, ?_, ?_⟩
  · apply Nat.eq_of_testBit_eq
    intro j
    rw [or_pow_bit, doM_bit, doM_bit]
    by_cases e : c = j
    · subst e; simp [hc]
    · by_cases d : j < c
      · have : j < c + 1 := by omega
        simp [e, d, this]
      · have : ¬ j < c + 1 := by omega
        simp [e, d, this]
  · rw [doM_bit, h]; simp
  · rw [reM_bit, h]; simp [hc]
  · apply Nat.eq_of_testBit_eq
    intro j
    rw [ndn_bit, Nat.testBit_two_pow, reM_bit, reM_bit]
    by_cases e : c = j
    · subst e
      have : ¬ c + 1 ≤ c := by omega
      simp
    · by_cases d : c ≤ j
      · have : c + 1 ≤ j := by omega
        simp [e, d, this]
      · have : ¬ c + 1 ≤ j := by omega
        simp [d, this]
theorem doM_no {L : Ld} {T : Nt} {c : Nat} (h : (tcM T).testBit c = false) : doM L T (c + 1) = doM L T c ∧ reM L T (c + 1) = reM L T c := by
  constructor
  · apply Nat.eq_of_testBit_eq
    intro j
    rw [doM_bit, doM_bit]
    by_cases e : c = j
    · subst e; simp [h]
    · by_cases d : j < c
      · have : j < c + 1 := by omega
        simp [d, this]
      · have : ¬ j < c + 1 := by omega
        simp [d, this]
  · apply Nat.eq_of_testBit_eq
    intro j
    rw [reM_bit, reM_bit]
    by_cases e : c = j
    · subst e; simp [h]
    · by_cases d : c ≤ j
      · have : c + 1 ≤ j := by omega
        simp [d, this]
      · have : ¬ c + 1 ≤ j := by omega
        simp [d, this]
theorem doM_all (L : Ld) (T : Nt) : doM L T (l_n L) = 2 ^ l_n L - 1 := by
  apply Nat.eq_of_testBit_eq
  intro j
  rw [doM_bit, all_bit]
  by_cases e : j < l_n L <;> simp [e]
theorem doM_none {L : Ld} {T : Nt} {c : Nat} (h : ∀ j, j < c → (tcM T).testBit j = false) : doM L T c = unM T (l_n L) ∧ reM L T c = mk (fun j => (tcM T).testBit j) (l_n L) := by
  constructor
  · apply Nat.eq_of_testBit_eq
    intro j
    unfold unM
    rw [doM_bit, mk_bit]
    by_cases d : j < c
    · rw [h j d]; simp
    · simp [d]
  · apply Nat.eq_of_testBit_eq
    intro j
    rw [reM_bit, mk_bit]
    by_cases d : j < c
    · rw [h j d]; simp
    · have : c ≤ j := by omega
      simp [this]
theorem mk_self {m n : Nat} (h : m < 2 ^ n) : mk (fun j => m.testBit j) n = m := (mk_eq h (fun _ _ => rfl)).symm
theorem mdH_at (L : Ld) (T : Nt) (s t : Nat) : mdH L T s t = mdG T s t (cha L t) (T 0 0) := mdH_G L T s t (T 0 0)
theorem mdH_un {L : Ld} {T : Nt} {s t : Nat} (h : (tcM T).testBit t = false) : mdH L T s t = cha L t := by
  rw [mdH_at]
  exact mdG_out _ (fun i hi q => by rw [(tcM_bit T t).mpr ⟨i, hi, q⟩] at h; cases h)
theorem mnd_end {L : Ld} {T : Nt} (hn : nOk L T) (s : Nat) : FT L (mdH L T s) (2 ^ l_n L - 1) 0 = mndN L T s := by
  unfold mndN
  refine FT_all (fun t _ => ⟨rfl, rfl⟩) (fun t h1 _ => ?_)
  have : mdH L T s t = cha L t := mdH_un (by
    cases q : (tcM T).testBit t with
    | false => rfl
    | true => have := tb_in (tcM_lt hn) q; omega)
  rw [this]
  exact ⟨rfl, rfl⟩
theorem FT_un {L : Ld} {T : Nt} (s k : Nat) : FT L (cha L) (unM T (l_n L)) k = FT L (mdH L T s) (unM T (l_n L)) k := by
  apply FT_congr
  intro i _ hb
  unfold unM at hb
  rw [mk_bit] at hb
  simp only [Bool.and_eq_true, Bool.not_eq_true'] at hb
  exact (mdH_un hb.2).symm
theorem x_chanceAfter {S : wd_W} {L : Ld} {T : Nt} {s : Nat} (hL : lOk L) (hl : xL S 16 L) (hT : xT S 27 T) (hn : nOk L T) (h5 : S.1 13105 = nI (l_n L)) (l1 : 2 ^ l_n L ≤ S.2.2.2.2 135) (l2 : S.2.2.2.2 135 ≤ 4096) (m1 : 2 ^ l_n L ≤ S.2.2.2.2 136) (m2 : S.2.2.2.2 136 ≤ 4096)
    (hf : ∀ k, k &&& tcM T = k → S.2.2.2.1 135 k = lN (FT L (cha L) (unM T (l_n L)) k)) (hs : s < 32768) :
    Ok (f_X0_chanceAfter_q131 S (nI s) (nI (tcM T))) (fun o => o.1 = lN (mndN L T s)) := by
  have g3 := hL.1.2.2.1
  have p3 : 2 ^ l_n L ≤ 4096 := pow_le_k (n := 12) g3
  have p0 := Nat.two_pow_pos (l_n L)
  have htc := tcM_lt hn
  have lk1 := hl.2.1
  have hch : ∀ i, i < l_n L → S.2.2.1 19 i = nI (l_C L i) ∧ l_C L i ≤ 16 ∧ cha L i = l_C L i := fun i hi => ⟨(lk1 i hi).2.2.1, (hL.2.1 i hi).2.2.2.1, by unfold cha; rw [if_pos hi]⟩
  unfold f_X0_chanceAfter_q131
  rw [lk_eq, li_0]
  refine ok_lk ?_
  refine ok_for0 (W := fun m i (_ : Unit) => it1 (f_X0_chanceAfter_q131_L11 S (nI (tcM T)) _ _) m (nI i)) (I := fun i _ => ∀ j, j < i → (tcM T).testBit j = false) (e := l_n L) (s := ()) (by omega) (fun j hj => absurd hj (Nat.not_lt_zero j)) ?_ ?_
  · intro m _ hI
    show Ok (f_X0_chanceAfter_q131_L11 S (nI (tcM T)) _ _ _ (nI (l_n L))) _
    unfold f_X0_chanceAfter_q131_L11
    rw [h5, if_pos (nI_le (Nat.le_refl _) (by omega)), gd_in (by omega) (by omega), nI_clamp (by omega)]
    refine ok_some ?_
    show S.2.2.2.1 135 0 = _
    rw [hf 0 (Nat.zero_and _), FT_un s, ← (doM_none hI).1, doM_all, mnd_end hn]
  · intro m i _ hi hI ih
    show Ok (f_X0_chanceAfter_q131_L11 S (nI (tcM T)) _ _ (it1 _ m) (nI i)) _
    generalize it1 (f_X0_chanceAfter_q131_L11 S (nI (tcM T)) _ _) m = r at ih
    obtain ⟨c1, c2, c3⟩ := hch i hi
    unfold f_X0_chanceAfter_q131_L11
    rw [h5, if_neg (nI_ge hi (by omega)), nI_1]
    refine ok_ite (fun z => ?_) (fun z => ?_)
    · have z := (oI_bit0 (by omega) (by omega)).mp z
      refine ih () (fun j hj => ?_)
      by_cases e : j = i
      · subst e; exact z
      · exact hI j (by omega)
    · have z : (tcM T).testBit i = true := by
        cases q : (tcM T).testBit i with
        | true => rfl
        | false => exact absurd ((oI_bit0 (by omega) (by omega)).mpr q) z
      obtain ⟨d1, d2, d3, d4⟩ := doM_yes hi z
      obtain ⟨n1, n2⟩ := doM_none (L := L) hI
      rw [mk_self htc] at n2
      have hm16 : mdH L T s i ≤ 16 := by rw [mdH_at]; exact mdG_le (by omega) _ (fun j hj => (hn.1.2 j hj).2.2.1)
      have hmd : mdG T s i (l_C L i) (T 0 0) = mdH L T s i := by rw [mdH_at, c3]
      dsimp only
      rw [oI_pow (by omega), oI_xor, xor_pow_ndn z, lz_eq, gd_in (by omega) (by omega), nI_clamp (by omega), c1, bd_s (x_chAfter (S := wd_o S [] [] [] [(136, (S.2.2.2.1 136))] []) (T := T) hL hT hn hs (show i < 32 by omega) c2), hmd, show ndn (tcM T) (2 ^ i) = reM L T (i + 1) by rw [d4, n2]]
      rw [n2] at d3
      refine ok_bd (x_fold_135_136 (S := wd_o S [] [] [] [(136, (S.2.2.2.1 136))] []) (n := l_n L) (i := i) (c := mdH L T s i) (rest := reM L T (i + 1)) (T := FT L (mdH L T s) (doM L T i)) g3 hi hm16 (reM_lt _ _ _) (by rw [reM_bit]; simp) l1 l2 m1 m2 (fun k hk => ?_)) ?_
      · rw [d4, n2] at hk
        rw [n1, ← FT_un s, ← FT_un s]
        exact ⟨hf k (sub_clear hk).1, hf _ (sub_with d3 hk)⟩
      · intro o ho
        refine ok_lk ?_
        have hstart : ∀ k, k &&& reM L T (i + 1) = k → o k = lN (FT L (mdH L T s) (doM L T (i + 1)) k) := by
          intro k hk
          rw [ho k hk, d1, FT_step hi d2]
          rw [d4] at hk
          exact (sub_clear hk).2
        refine ok_up (W := fun m c (x : Nat × (Nat → Int64)) => it3 (f_X0_chanceAfter_q131_L75_7 S (nI s) (nI (tcM T)) _) m (nI x.1) (nI c) x.2) (I := fun c x => x.1 = reM L T (c + 1) ∧ ∀ k, k &&& reM L T (c + 1) = k → x.2 k = lN (FT L (mdH L T s) (doM L T (c + 1)) k)) (e := l_n L - 1) ?_ ?_ fuel i (reM L T (i + 1), o) (by omega) ⟨rfl, hstart⟩ (by unfold fuel; omega)
        · rintro m ⟨rest, a⟩ ⟨j1, j2⟩
          dsimp only at j1 j2
          show Ok (f_X0_chanceAfter_q131_L75_7 S (nI s) (nI (tcM T)) _ _ (nI rest) (nI (l_n L - 1)) a) _
          unfold f_X0_chanceAfter_q131_L75_7
          rw [nI_1, show l_n L - 1 + 1 = l_n L by omega, h5, if_pos (nI_le (Nat.le_refl _) (by omega))]
          dsimp only
          rw [gd_in (by omega) (by omega), nI_clamp (by omega)]
          refine ok_some ?_
          show a 0 = _
          rw [j2 0 (Nat.zero_and _), show l_n L - 1 + 1 = l_n L by omega, doM_all, mnd_end hn]
        · rintro m c ⟨rest, a⟩ hc ⟨j1, j2⟩ ih2
          dsimp only at j1 j2
          subst j1
          show Ok (f_X0_chanceAfter_q131_L75_7 S (nI s) (nI (tcM T)) _ (it3 _ m) (nI (reM L T (c + 1))) (nI c) a) _
          generalize it3 (f_X0_chanceAfter_q131_L75_7 S (nI s) (nI (tcM T)) _) m = r2 at ih2
          have hc1 : c + 1 < l_n L := by omega
          obtain ⟨c1, c2, c3⟩ := hch (c + 1) hc1
          unfold f_X0_chanceAfter_q131_L75_7
          rw [nI_1, h5, if_neg (nI_ge hc1 (by omega))]
          refine ok_ite (fun y => ?_) (fun y => ?_)
          · have y := (oI_bit0 (by omega) (by omega)).mp y
            obtain ⟨w1, w2⟩ := doM_no (L := L) y
            refine ih2 (reM L T (c + 1), a) ⟨by dsimp only; rw [w2], fun k hk => ?_⟩
            rw [w2] at hk
            dsimp only
            rw [w1]
            exact j2 k hk
          · have y : (tcM T).testBit (c + 1) = true := by
              cases q : (tcM T).testBit (c + 1) with
              | true => rfl
              | false => exact absurd ((oI_bit0 (by omega) (by omega)).mpr q) y
            obtain ⟨d1, d2, d3, d4⟩ := doM_yes hc1 y
            have hm16 : mdH L T s (c + 1) ≤ 16 := by rw [mdH_at]; exact mdG_le (by omega) _ (fun j hj => (hn.1.2 j hj).2.2.1)
            have hmd : mdG T s (c + 1) (l_C L (c + 1)) (T 0 0) = mdH L T s (c + 1) := by rw [mdH_at, c3]
            rw [oI_pow (by omega), oI_xor, xor_pow_ndn d3, ← d4, lz_eq, gd_in (by omega) (by omega), nI_clamp (by omega), c1, bd_s (x_chAfter (S := wd_o S [] [] [] [(136, a)] []) (T := T) hL hT hn hs (show c + 1 < 32 by omega) c2), hmd]
            refine ok_bd (x_fold_136_136 (S := wd_o S [] [] [] [(136, a)] []) (n := l_n L) (i := c + 1) (c := mdH L T s (c + 1)) (rest := reM L T (c + 1 + 1)) (T := FT L (mdH L T s) (doM L T (c + 1))) g3 hc1 hm16 (reM_lt _ _ _) (by rw [reM_bit]; simp) m1 m2 m1 m2 (fun k hk => ?_)) ?_
            · rw [d4] at hk
              exact ⟨j2 k (sub_clear hk).1, j2 _ (sub_with d3 hk)⟩
            · intro o2 ho2
              refine ih2 (reM L T (c + 1 + 1), o2) ⟨rfl, fun k hk => ?_⟩
              dsimp only
              rw [ho2 k hk, d1, FT_step hc1 d2]
              rw [d4] at hk
              exact (sub_clear hk).2
def xN5 (S : wd_W) : Prop := ∃ e, e ≤ 9 ∧ S.2.2.2.2 133 = 2 ^ e
def xMe (S : wd_W) (L : Ld) (T : Nt) : Prop := 2 ^ T 0 0 ≤ S.2.2.2.2 133 ∧ ∀ m, m < 2 ^ T 0 0 → S.2.2.2.1 133 m = lN (mndN L T m)
theorem x_mendAll {S : wd_W} {L : Ld} {T : Nt} (hL : lOk L) (hl : xL S 16 L) (hT : xT S 27 T) (hn : nOk L T) (hb : xBu S L) (hN4 : xN4 S) (hN5 : xN5 S) :
    Ok (f_X0_mendAll_q131 S) (fun o => (∃ e, e ≤ 9 ∧ o.2.2.2.1 = 2 ^ e) ∧ 2 ^ T 0 0 ≤ o.2.2.2.1 ∧ (∀ m, m < 2 ^ T 0 0 → o.1 m = lN (mndN L T m)) ∧ o.2.2.2.2.1 ≤ 1 ∧ o.2.2.2.2.2 ≤ 512 ∧ o.2.2.2.2.2 + 2 * S.2.2.2.2 133 ≤ 2 * o.2.2.2.1) := by
  have n0 := hn.1.1
  have pT : 2 ^ T 0 0 ≤ 512 := pow_le_k (n := 9) n0
  have t0 : S.1 2700 = nI (T 0 0) := hT.1
  have hb0 := hb
  obtain ⟨b5, bl, bk⟩ := hb
  have hN4' := hN4
  obtain ⟨e4, he4, n132, n134, n135, n136⟩ := hN4
  have p4 : 2 ^ e4 ≤ 4096 := pow_le_k (n := 12) he4
  obtain ⟨e5, he5, n133⟩ := hN5
  have p5 : 2 ^ e5 ≤ 512 := pow_le_k (n := 9) he5
  unfold f_X0_mendAll_q131
  rw [t0, oI_pow (by omega), lz_eq, n133]
  refine ok_lk ?_
  have main : ∀ (a2 : Nat → Int64) (n3 n4 n5 : Nat), (∃ e, e ≤ 9 ∧ n3 = 2 ^ e) → 2 ^ T 0 0 ≤ n3 → n4 ≤ 1 → n5 ≤ 512 → n5 + 2 * 2 ^ e5 ≤ 2 * n3 →
      Ok (gd (okr n4 n5 0 0 1 600) <| bd (f_X6_linesMended_q27 (wd_o S [] [] [] [(133, a2), (135, (S.2.2.2.1 135)), (136, (S.2.2.2.1 136))] [(133, n3)])) fun o7 =>
        gd (okr n4 n5 0 0 1 600) <| bd (f_X0_foldUntouched_q131 (wd_o S [] [] [] [(133, a2), (135, (S.2.2.2.1 135)), (136, (S.2.2.2.1 136))] [(133, n3)]) o7) fun o9 =>
        it3 (f_X0_mendAll_q131_L41 S (nI (2 ^ T 0 0)) n3 n4 n5 o7 o9) fuel (0 : Int32) a2 (S.2.2.2.1 136))
      (fun o => (∃ e, e ≤ 9 ∧ o.2.2.2.1 = 2 ^ e) ∧ 2 ^ T 0 0 ≤ o.2.2.2.1 ∧ (∀ m, m < 2 ^ T 0 0 → o.1 m = lN (mndN L T m)) ∧ o.2.2.2.2.1 ≤ 1 ∧ o.2.2.2.2.2 ≤ 512 ∧ o.2.2.2.2.2 + 2 * 2 ^ e5 ≤ 2 * o.2.2.2.1) := by
    intro a2 n3 n4 n5 q1 q2 q3 q4 q5
    have q6 : n3 ≤ 512 := by obtain ⟨e, he, rfl⟩ := q1; exact pow_le_k (n := 9) he
    rw [gd_t (okr_in (by omega) (by omega)), bd_s (x_linesMended (S := wd_o S [] [] [] [(133, a2), (135, (S.2.2.2.1 135)), (136, (S.2.2.2.1 136))] [(133, n3)]) hL hT hn), gd_t (okr_in (by omega) (by omega))]
    refine ok_bd (x_foldUntouched (S := wd_o S [] [] [] [(133, a2), (135, (S.2.2.2.1 135)), (136, (S.2.2.2.1 136))] [(133, n3)]) hL hl hn hb0 hN4') ?_
    intro o9 ho9
    rw [li_0]
    refine ok_for0 (W := fun m i (x : (Nat → Int64) × (Nat → Int64)) => it3 (f_X0_mendAll_q131_L41 S (nI (2 ^ T 0 0)) n3 n4 n5 (nI (tcM T)) o9) m (nI i) x.1 x.2) (I := fun i x => ∀ j, j < i → x.1 j = lN (mndN L T j)) (e := 2 ^ T 0 0) (s := (a2, S.2.2.2.1 136)) (by omega) (fun j hj => absurd hj (Nat.not_lt_zero j)) ?_ ?_
    · rintro m ⟨a12, a13⟩ hI
      dsimp only at hI
      show Ok (f_X0_mendAll_q131_L41 S (nI (2 ^ T 0 0)) n3 n4 n5 (nI (tcM T)) o9 _ (nI (2 ^ T 0 0)) a12 a13) _
      unfold f_X0_mendAll_q131_L41
      rw [if_pos (nI_le (Nat.le_refl _) (by omega))]
      exact ok_some ⟨q1, q2, hI, q3, q4, q5⟩
    · rintro m i ⟨a12, a13⟩ hi hI ih
      dsimp only at hI
      show Ok (f_X0_mendAll_q131_L41 S (nI (2 ^ T 0 0)) n3 n4 n5 (nI (tcM T)) o9 (it3 _ m) (nI i) a12 a13) _
      generalize it3 (f_X0_mendAll_q131_L41 S (nI (2 ^ T 0 0)) n3 n4 n5 (nI (tcM T)) o9) m = r at ih
      unfold f_X0_mendAll_q131_L41
      rw [if_neg (nI_ge hi (by omega)), gd_t (okr_in (by omega) (by omega))]
      refine ok_bd (x_chanceAfter (S := wd_o S [] [] [] [(133, a12), (135, o9), (136, a13)] [(133, n3)]) (s := i) hL hl hT hn b5 (by show 2 ^ l_n L ≤ S.2.2.2.2 135; omega) (by show S.2.2.2.2 135 ≤ 4096; omega) (by show 2 ^ l_n L ≤ S.2.2.2.2 136; omega) (by show S.2.2.2.2 136 ≤ 4096; omega) ho9 (by omega)) ?_
      rintro ⟨v, a⟩ hv
      dsimp only at hv ⊢
      subst hv
      rw [gd_in (by omega) (by omega), lz_eq, nI_clamp (by omega), nI_1]
      refine ih (vp_updL a12 i (lN (mndN L T i)), a) (fun j hj => ?_)
      dsimp only
      by_cases e : j = i
      · subst e; rw [pk_uLs]
      · rw [pk_uLn e]; exact hI j (by omega)
  have hx : Int32.ofNat (2 ^ e5) = nI (2 ^ e5) := rfl
  rw [hx]
  refine ok_ite (fun c => ?_) (fun c => ?_)
  · rw [nI_leI (by omega) (by omega)] at c
    exact main _ _ 0 0 ⟨e5, he5, rfl⟩ c (by omega) (by omega) (by omega)
  · rw [nI_leI (by omega) (by omega)] at c
    rw [gd_t (okg_in (by omega) (by omega) (by omega)), nI_clamp (by omega)]
    have hlt : e5 < T 0 0 := by
      apply Classical.byContradiction
      intro hh
      have := pow_le_k (show T 0 0 ≤ e5 by omega)
      omega
    have := pow_le_k (show e5 + 1 ≤ T 0 0 by omega)
    have := pow_dbl e5
    exact main _ _ _ _ ⟨T 0 0, n0, rfl⟩ (Nat.le_refl _) (by omega) (by omega) (by omega)
theorem x_bestMended {S : wd_W} {L : Ld} {T : Nt} {c : Nat} (hL : lOk L) (hT : xT S 27 T) (hn : nOk L T) (hm : xMe S L T) (hN5 : xN5 S) (hc : c < 2 ^ 31) : f_X0_bestMended_q131 S (nI c) = some (nI (bst L T c)) := by
  have hM := lM_15 hL
  have pw := pow16_le hM
  have n0 := hn.1.1
  have pT : 2 ^ T 0 0 ≤ 512 := pow_le_k (n := 9) n0
  have pT0 := Nat.two_pow_pos (T 0 0)
  have t0 : S.1 2700 = nI (T 0 0) := hT.1
  obtain ⟨m1, m2⟩ := hm
  obtain ⟨e5, he5, n133⟩ := hN5
  have p5 : 2 ^ e5 ≤ 512 := pow_le_k (n := 9) he5
  apply ok_e
  unfold f_X0_bestMended_q131 bst
  rw [li_0, li_1]
  suffices key : Ok (it3 (f_X0_bestMended_q131_L7 S (nI c)) fuel (nI 0) (nI (coiF T 0)) (nI (0 + 1))) (fun o => o = nI (bmF L T c (2 ^ T 0 0 - 1))) by
    rw [coiF_0] at key; exact key
  refine ok_for0 (W := fun m j (b : Nat) => it3 (f_X0_bestMended_q131_L7 S (nI c)) m (nI b) (nI (coiF T b)) (nI (j + 1))) (I := fun j b => b = bmF L T c j) (e := 2 ^ T 0 0 - 1) (s := 0) (by omega) rfl ?_ ?_
  · intro m b hI
    show Ok (f_X0_bestMended_q131_L7 S (nI c) _ (nI b) (nI (coiF T b)) (nI (2 ^ T 0 0 - 1 + 1))) _
    unfold f_X0_bestMended_q131_L7
    rw [t0, oI_pow (by omega), if_pos (nI_le (by omega) (by omega)), hI]
    exact ok_some rfl
  · intro m j b hj hI ih
    show Ok (f_X0_bestMended_q131_L7 S (nI c) (it3 _ m) (nI b) (nI (coiF T b)) (nI (j + 1))) _
    generalize it3 (f_X0_bestMended_q131_L7 S (nI c)) m = r at ih
    have hbj : b ≤ j := by rw [hI]; exact bmF_le L T c j
    have v1 := mndN_le hL hn b
    have v2 := mndN_le hL hn (j + 1)
    have k1 := coiF_le hn b
    have k2 := coiF_le hn (j + 1)
    have hstep : bmF L T c (j + 1) = if coiF T (j + 1) ≤ c ∧ (mndN L T b < mndN L T (j + 1) ∨ (mndN L T (j + 1) = mndN L T b ∧ coiF T (j + 1) < coiF T b)) then j + 1 else b := by rw [hI]; rfl
    unfold f_X0_bestMended_q131_L7
    rw [t0, oI_pow (by omega), if_neg (nI_ge (show j + 1 < 2 ^ T 0 0 by omega) (by omega)), bd_s (x_coinsOf (S := wd_o S [] [] [] [] []) hT hn (show j + 1 < 32768 by omega)), gd_in (by omega) (by omega), gd_in (by omega) (by omega), nI_clamp (by omega), nI_clamp (by omega), m2 _ (show j + 1 < 2 ^ T 0 0 by omega), m2 _ (show b < 2 ^ T 0 0 by omega), nI_1]
    have work : ∀ better : Bool, (better = true ↔ (mndN L T b < mndN L T (j + 1) ∨ (mndN L T (j + 1) = mndN L T b ∧ coiF T (j + 1) < coiF T b))) → Ok (lk (fun x10 x11 => r x10 x11 (nI (j + 1 + 1))) fun k96_12 => if nI (b2n better) = 0 then k96_12 (nI b) (nI (coiF T b)) else if nI c < nI (coiF T (j + 1)) then k96_12 (nI b) (nI (coiF T b)) else k96_12 (nI (j + 1)) (nI (coiF T (j + 1)))) (fun o => o = nI (bmF L T c (2 ^ T 0 0 - 1))) := by
      intro better hbt
      refine ok_lk (ok_b (fun z => ?_) (fun z => ?_))
      · exact ih b (by rw [hstep, if_neg (fun q => by have := hbt.mpr q.2; rw [z] at this; cases this)])
      · refine ok_ite (fun y => ?_) (fun y => ?_)
        · rw [nI_ltI hc (by omega)] at y
          exact ih b (by rw [hstep, if_neg (fun q => by omega)])
        · rw [nI_ltI hc (by omega)] at y
          exact ih (j + 1) (by rw [hstep, if_pos ⟨by omega, hbt.mp z⟩])
    refine ok_lk (ok_lk ?_)
    refine ok_ite (fun y => ?_) (fun y => ?_)
    · rw [lN_ltL (by omega) (by omega)] at y
      exact work true ⟨fun _ => Or.inl y, fun _ => rfl⟩
    · rw [lN_ltL (by omega) (by omega)] at y
      rw [gd_in (by omega) (by omega), gd_in (by omega) (by omega)]
      refine ok_lk (ok_ite (fun y2 => ?_) (fun y2 => ?_))
      · rw [lN_eqL (by omega) (by omega)] at y2
        refine ok_ite (fun y3 => ?_) (fun y3 => ?_)
        · rw [nI_leI (by omega) (by omega)] at y3
          exact work false ⟨fun q => (by cases q), fun q => (by omega)⟩
        · rw [nI_leI (by omega) (by omega)] at y3
          exact work true ⟨fun _ => Or.inr ⟨y2, by omega⟩, fun _ => rfl⟩
      · rw [lN_eqL (by omega) (by omega)] at y2
        exact work false ⟨fun q => (by cases q), fun q => (by omega)⟩
