/-! trees of the reference -/
theorem oI_bit2 {m a b : Nat} (hm : m < 2 ^ 31) (ha : a < 32) (hb : b < 32) : ((nI m >>> (nI a &&& 31)) ||| (nI m >>> (nI b &&& 31))) &&& (1 : Int32) = 1 ↔ m.testBit a = true ∨ m.testBit b = true := by
  rw [oI_shr hm ha, oI_shr hm hb, oI_or]
  have e : nI (m >>> a ||| m >>> b) &&& (1 : Int32) = nI ((if m.testBit a = true then 1 else 0) ||| (if m.testBit b = true then 1 else 0)) := by
    show nI _ &&& nI 1 = _
    rw [oI_and, Nat.and_or_distrib_right, bit_01, bit_01]
  rw [e]
  cases m.testBit a <;> cases m.testBit b <;> decide
theorem rS_tM {L : Ld} {op k m : Nat} : rS (tM L) (tM L) op k m = if op.testBit k = true then (if m.testBit (l_A L k) = true ∨ m.testBit (l_B L k) = true then m ||| (2 ^ l_A L k ||| 2 ^ l_B L k) else m) else m := by
  have h : m &&& tM L k ≠ 0 ↔ m.testBit (l_A L k) = true ∨ m.testBit (l_B L k) = true := by
    rw [and_ne0]
    constructor
    · rintro ⟨i, h1, h2⟩
      rw [tM_bit] at h2
      rcases h2 with h2 | h2
      · subst h2; exact Or.inl h1
      · subst h2; exact Or.inr h1
    · rintro (q | q)
      · exact ⟨_, q, by rw [tM_bit]; exact Or.inl rfl⟩
      · exact ⟨_, q, by rw [tM_bit]; exact Or.inr rfl⟩
  unfold rS
  by_cases c1 : op.testBit k = true
  · by_cases c2 : m.testBit (l_A L k) = true ∨ m.testBit (l_B L k) = true
    · rw [if_pos ⟨c1, h.mpr c2⟩, if_pos c1, if_pos c2]; rfl
    · rw [if_neg (fun z => c2 (h.mp z.2)), if_pos c1, if_neg c2]
  · rw [if_neg (fun z => c1 z.1), if_neg c1]
theorem m_areJoined {S : wd_W} {L : Ld} {s : Nat} (hL : lOk L) (hl : mL S L) (hs : s < 2 ^ l_n L) : f_X12_areJoined S (nI s) = some (nI (b2n (joB L s))) := by
  have hR := lOk_r hL
  obtain ⟨⟨g1, g2, g3, g4, g5, g6⟩, gk, gj, gu, gc, gw⟩ := hL
  obtain ⟨⟨h20, h21, _⟩, hk, _, _⟩ := hl
  have hs2 := lt31_10 hs (by omega)
  have p0 := Nat.two_pow_pos (l_N L)
  have p10 : 2 ^ l_N L ≤ 2 ^ 10 := pow_le_k g2
  have ht : ∀ k, s.testBit k = true → tM L k < 2 ^ l_N L := fun k hk' => (tM_lt hR (tb_in hs hk')).1
  have hr := rchM_ok (g := tM L) (t := tM L) (N := l_N L) (a := 0) hs ht (by omega)
  have hpl : ∀ m, m < 2 ^ l_N L → ∀ i, itf (rS (tM L) (tM L) s) m i < 2 ^ l_N L := fun m hm i => itf_ind (P := fun _ x => x < 2 ^ l_N L) hm (fun _ _ _ h => rS_lt ht h)
  have hpass : ∀ (K : Int32 → Option Int32) (m : Nat), m < 2 ^ l_N L → it2 (f_X12_areJoined_L14 S (nI s) K) fuel (nI m) 0 = K (nI (rP (tM L) (tM L) s (l_n L) m)) := by
    intro K m hm
    refine Eq.trans ?_ (eq_for0 (W := fun q i => it2 (f_X12_areJoined_L14 S (nI s) K) q (nI (itf (rS (tM L) (tM L) s) m i)) (nI i)) (e := l_n L) (x := K (nI (rP (tM L) (tM L) s (l_n L) m))) (by omega) ?_ ?_)
    · rfl
    · intro q
      show f_X12_areJoined_L14 S (nI s) K _ _ (nI (l_n L)) = _
      unfold f_X12_areJoined_L14
      rw [h21, if_pos (nI_le (Nat.le_refl _) (by omega))]
      rfl
    · intro q i hi
      show f_X12_areJoined_L14 S (nI s) K (it2 (f_X12_areJoined_L14 S (nI s) K) q) (nI (itf (rS (tM L) (tM L) s) m i)) (nI i) = it2 (f_X12_areJoined_L14 S (nI s) K) q (nI (rS (tM L) (tM L) s i (itf (rS (tM L) (tM L) s) m i))) (nI (i + 1))
      generalize it2 (f_X12_areJoined_L14 S (nI s) K) q = r
      have hx := lt_1024 (hpl m hm i) g2
      generalize itf (rS (tM L) (tM L) s) m i = x at hx
      obtain ⟨k8, k9, _⟩ := hk i hi
      obtain ⟨a1, a2, _⟩ := gk i hi
      apply Eq.symm
      rw [rS_tM]
      unfold f_X12_areJoined_L14
      rw [h21, if_neg (nI_ge hi (by omega)), lk_eq, nI_1, gd_in (by omega) (by omega), gd_in (by omega) (by omega), gd_in (by omega) (by omega), gd_in (by omega) (by omega), nI_clamp (by omega), k8, k9, oI_pow (by omega), oI_pow (by omega), oI_or, oI_or, lz_eq]
      by_cases c1 : s.testBit i = true
      · rw [if_pos c1, if_pos ((oI_bit1 (by omega) (by omega)).mpr c1)]
        by_cases c2 : x.testBit (l_A L i) = true ∨ x.testBit (l_B L i) = true
        · rw [if_pos c2, if_pos ((oI_bit2 (by omega) (by omega) (by omega)).mpr c2)]
        · rw [if_neg c2, if_neg (fun z => c2 ((oI_bit2 (by omega) (by omega) (by omega)).mp z))]
      · rw [if_neg c1, if_neg (fun z => c1 ((oI_bit1 (by omega) (by omega)).mp z))]
  apply ok_e
  unfold f_X12_areJoined
  refine ok_lk ?_
  rw [li_0, show (1 : Int32) = nI 1 from rfl]
  refine ok_while (W := fun q (x : Nat × Nat) => it2 (f_X12_areJoined_L4 S (nI s) _) q (nI x.1) (nI x.2)) (I := fun x => x.1 < 2 ^ l_N L ∧ x.2 < 2 ^ l_N L ∧ x.1.testBit 0 = true ∧ (∀ p, x.1.testBit p = true → rch (mE (tM L) (tM L) s) 0 p) ∧ (x.1 = x.2 → rP (tM L) (tM L) s (l_n L) x.1 = x.1)) (μ := fun x => 2 * (32768 - x.1) + (if x.1 = x.2 then 0 else 1)) (s := (1, 0)) ⟨by dsimp only; have := pow_le_k g1; omega, p0, by decide, fun p hp => ?_, fun z => by cases z⟩ (by dsimp only; split <;> omega) ?_
  · have : p = 0 := by
      have h1 : (2 ^ 0).testBit p = true := hp
      rw [pow_bit] at h1; exact h1.symm
    subst this; exact rch_refl _ _
  · rintro q ⟨m, bf⟩ ⟨i1, i2, i3, i4, i5⟩ ih
    dsimp only at i1 i2 i3 i4 i5 ih
    have hm2 := lt_1024 i1 g2
    have hb2 := lt_1024 i2 g2
    show Ok (f_X12_areJoined_L4 S (nI s) _ (it2 (f_X12_areJoined_L4 S (nI s) _) q) (nI m) (nI bf)) _
    generalize it2 (f_X12_areJoined_L4 S (nI s) _) q = r at ih
    unfold f_X12_areJoined_L4
    refine ok_ite (fun z => ?_) (fun z => ?_)
    · have z := (nI_eq (by omega) (by omega)).mp z
      have hcl := rS_closed hs (i5 z)
      have hmr : m = rchM (tM L) (tM L) s (l_n L) (l_N L) 0 := by
        apply msk_ext i1 hr.1
        intro i _
        rw [Bool.eq_iff_iff, hr.2 i]
        exact led_of i3 hcl i4 i
      dsimp only
      have e1 : nI 1 <<< (S.1 20 &&& 31) - nI 1 = nI (2 ^ l_N L - 1) := by rw [h20, oI_p2 (by omega), oI_sub1 p0]
      rw [e1]
      refine ok_ite (fun y => ?_) (fun y => ?_)
      · rw [nI_eq (by omega) (by omega)] at y
        have : joB L s = true := by unfold joB; rw [← hmr, y]; exact beq_self_eq_true _
        rw [this]; exact ok_some rfl
      · rw [nI_eq (by omega) (by omega)] at y
        have : joB L s = false := by unfold joB; rw [beq_eq_false_iff_ne, ← hmr]; exact y
        rw [this]; exact ok_some rfl
    · have z : ¬ m = bf := fun w => z (by rw [w])
      refine ok_lk ?_
      rw [hpass _ m i1]
      have hlt := hpl m i1 (l_n L)
      change rP (tM L) (tM L) s (l_n L) m < 2 ^ l_N L at hlt
      have hlt2 := lt_1024 hlt g2
      have hge : m ≤ rP (tM L) (tM L) s (l_n L) m := itf_le (rS_infl (tM L) (tM L) s) m (l_n L)
      refine ih (rP (tM L) (tM L) s (l_n L) m, m) ⟨hlt, i1, itf_infl (rS_infl (tM L) (tM L) s) (n := 0) (l_n L) (Nat.zero_le _) 0 i3, ?_, fun e => by dsimp only at e ⊢; rw [e, e]⟩ ?_
      · exact itf_ind (P := fun _ (x : Nat) => ∀ p, x.testBit p = true → rch (mE (tM L) (tM L) s) 0 p) i4 (fun i b _ h => rS_sub (P := fun p => rch (mE (tM L) (tM L) s) 0 p) (fun u v e h => rch_step h e) h)
      · dsimp only
        rw [if_neg z]
        by_cases e : rP (tM L) (tM L) s (l_n L) m = m
        · rw [if_pos e]; omega
        · rw [if_neg e]; omega
