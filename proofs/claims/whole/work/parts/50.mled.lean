/-! the reference's ways: ledTo, leads -/
/-- the graph that the reference sees: places, lines, open lines -/
def mG (S : wd_W) (N nl op : Nat) (A B bo dy : Nat → Nat) : Prop :=
  S.1 20 = nI N ∧ S.1 21 = nI nl ∧ S.1 39 = nI op ∧ N ≤ 10 ∧ nl ≤ 12 ∧ op < 2 ^ (nl + 1) ∧
  ∀ k, op.testBit k = true → S.2.2.1 8 k = nI (A k) ∧ S.2.2.1 9 k = nI (B k) ∧ S.2.2.1 11 k = nI (bo k) ∧ S.2.2.1 12 k = nI (dy k) ∧ A k < N ∧ B k < N ∧ A k ≠ B k ∧ bo k ≤ 1 ∧ 1 ≤ dy k ∧ dy k ≤ 9
theorem m_isOpen {S : wd_W} {op i : Nat} (h : S.1 39 = nI op) (ho : op < 2 ^ 31) (hi : i < 32) : f_X12_isOpen S (nI i) = some (nI (b2n (op.testBit i))) := by
  unfold f_X12_isOpen
  rw [h]
  simp (disch := omega) only [li_1, oI_tb, oI_b1]
  cases op.testBit i <;> rfl
theorem op_lt {op nl : Nat} (h : op < 2 ^ (nl + 1)) (hn : nl ≤ 12) : op < 32768 := lt31_10 h (by omega)
/-- one line gone along -/
def ledS (A B bo : Nat → Nat) (op : Nat) (k m : Nat) : Nat :=
  if op.testBit k = true then (if bo k = 0 then (if m.testBit (A k) = true then m ||| 2 ^ B k else m) else (if (if m.testBit (A k) = true then m ||| 2 ^ B k else m).testBit (B k) = true then (if m.testBit (A k) = true then m ||| 2 ^ B k else m) ||| 2 ^ A k else (if m.testBit (A k) = true then m ||| 2 ^ B k else m))) else m
theorem ledS_infl (A B bo : Nat → Nat) (op : Nat) : infl (ledS A B bo op) := by
  intro k m b hb
  unfold ledS
  split
  · split
    · split
      · rw [or_pow_bit, hb]; rfl
      · exact hb
    · split
      · split
        · rw [or_pow_bit, or_pow_bit, hb]; rfl
        · rw [or_pow_bit, hb]; rfl
      · split
        · rw [or_pow_bit, hb]; rfl
        · exact hb
  · exact hb
theorem ledS_lt {A B bo : Nat → Nat} {op N : Nat} (hG : ∀ k, op.testBit k = true → A k < N ∧ B k < N) {k m : Nat} (hm : m < 2 ^ N) : ledS A B bo op k m < 2 ^ N := by
  unfold ledS
  split
  · rename_i h
    obtain ⟨h1, h2⟩ := hG k h
    have hX : (if m.testBit (A k) = true then m ||| 2 ^ B k else m) < 2 ^ N := by
      split
      · exact or_pow_lt hm h2
      · exact hm
    generalize (if m.testBit (A k) = true then m ||| 2 ^ B k else m) = X at hX
    split
    · exact hX
    · split
      · exact or_pow_lt hX h1
      · exact hX
  · exact hm
theorem ledS_sub {A B bo : Nat → Nat} {op k m : Nat} {P : Nat → Prop} (hP : ∀ u v, gE A B bo op u v → P u → P v) (hm : ∀ p, m.testBit p = true → P p) : ∀ p, (ledS A B bo op k m).testBit p = true → P p := by
  intro p hp
  unfold ledS at hp
  by_cases h : op.testBit k = true
  · rw [if_pos h] at hp
    have first : ∀ p, (if m.testBit (A k) = true then m ||| 2 ^ B k else m).testBit p = true → P p := by
      intro p hp
      split at hp
      · rename_i hA
        rw [or_pow_bit, Bool.or_eq_true, decide_eq_true_eq] at hp
        rcases hp with hp | hp
        · exact hm p hp
        · subst hp; exact hP _ _ ⟨k, h, Or.inl ⟨rfl, rfl⟩⟩ (hm _ hA)
      · exact hm p hp
    generalize (if m.testBit (A k) = true then m ||| 2 ^ B k else m) = m1 at first hp
    split at hp
    · exact first p hp
    · rename_i hb
      split at hp
      · rename_i hB
        rw [or_pow_bit, Bool.or_eq_true, decide_eq_true_eq] at hp
        rcases hp with hp | hp
        · exact first p hp
        · subst hp; exact hP _ _ ⟨k, h, Or.inr ⟨hb, rfl, rfl⟩⟩ (first _ hB)
      · exact first p hp
  · rw [if_neg h] at hp; exact hm p hp
/-- a pass that adds nothing: nothing more is led to -/
theorem ledS_closed {A B bo : Nat → Nat} {op m K : Nat} (hK : op < 2 ^ K) (hf : itf (ledS A B bo op) m K = m) : ∀ u v, gE A B bo op u v → m.testBit u = true → m.testBit v = true := by
  intro u v ⟨k, hk, q⟩ hu
  have e := itf_fix (ledS_infl A B bo op) hf k (tb_in hK hk)
  unfold ledS at e
  rw [if_pos hk] at e
  rcases q with ⟨q1, q2⟩ | ⟨q0, q1, q2⟩
  · subst q1; subst q2
    rw [if_pos hu] at e
    rw [← e]
    split
    · rw [or_pow_bit]; simp
    · split
      · rw [or_pow_bit, or_pow_bit]; simp
      · rw [or_pow_bit]; simp
  · subst q1; subst q2
    rw [if_neg q0] at e
    have h1 : (if m.testBit (A k) = true then m ||| 2 ^ B k else m).testBit (B k) = true := by
      split
      · rw [or_pow_bit]; simp
      · exact hu
    rw [if_pos h1] at e
    rw [← e, or_pow_bit]; simp
theorem m_ledS {S : wd_W} {N nl op m i : Nat} {A B bo dy : Nat → Nat} (hG : mG S N nl op A B bo dy) (hm : m < 2 ^ N) (hi : i < nl + 1) (k : Int32 → Option Int32) (r : Int32 → Int32 → Option Int32) :
    f_X12_ledTo_L21 S k r (nI m) (nI i) = r (nI (ledS A B bo op i m)) (nI (i + 1)) := by
  obtain ⟨h20, h21, h39, hN, hnl, hop, hk⟩ := hG
  have hop2 := op_lt hop hnl
  have hm2 := lt31_10 hm (by omega)
  unfold f_X12_ledTo_L21
  rw [h21, if_neg (nI_nlt (by omega) (by omega)), bd_s (m_isOpen (S := wd_o S [] [] [] [] []) h39 (by omega) (by omega))]
  unfold ledS
  cases hoi : op.testBit i with
  | false => simp only [lk, li_0, li_1, oI_b0, nI_add]; simp
  | true =>
    obtain ⟨k8, k9, k11, k12, hAN, hBN, hAB, hbo, _, _⟩ := hk i hoi
    have hm3 := lt31_10 (or_pow_lt hm hBN) (by omega)
    simp (disch := omega) only [lk, lz, li_0, li_1, oI_b0, oI_b1, nI_add, nI_clamp, gd_in, k8, k9, k11, oI_tb, oI_p2, oI_or, nI_eq]
    by_cases c1 : bo i = 0 <;> by_cases c2 : m.testBit (A i) = true <;> simp [c1, c2] <;> split <;> rfl
theorem m_ledTo {S : wd_W} {N nl op st a : Nat} {A B bo dy : Nat → Nat} (hG : mG S N nl op A B bo dy) (h38 : S.1 38 = nI st) (hst : st < 2 ^ N) (ha : a < N) :
    Ok (f_X12_ledTo S (nI a)) (fun o => ∃ m, o = nI m ∧ m < 2 ^ N ∧ ∀ p, m.testBit p = true ↔ st.testBit a = true ∧ rch (gE A B bo op) a p) := by
  have hG0 := hG
  obtain ⟨h20, h21, h39, hN, hnl, hop, hk⟩ := hG
  have hop2 := op_lt hop hnl
  have hst2 := lt31_10 hst (by omega)
  have hAB : ∀ k, op.testBit k = true → A k < N ∧ B k < N := fun k h => ⟨(hk k h).2.2.2.2.1, (hk k h).2.2.2.2.2.1⟩
  unfold f_X12_ledTo
  refine ok_lz ?_
  have e0 : (S.1 38 &&& ((1 : Int32) <<< (nI a &&& 31))) = nI (if st.testBit a = true then 2 ^ a else 0) := by
    rw [h38, oI_pow (by omega), oI_and]
    congr 1
    apply Nat.eq_of_testBit_eq
    intro i
    rw [Nat.testBit_and, Nat.testBit_two_pow]
    by_cases hi : a = i
    · subst hi
      cases st.testBit a <;> simp
    · cases st.testBit a <;> simp [hi, Nat.testBit_two_pow]
  rw [e0]
  refine ok_while (W := fun n (s : Nat × Int32) => it2 (f_X12_ledTo_L11 S) n (nI s.1) s.2)
    (I := fun s => s.1 < 2 ^ N ∧ (st.testBit a = true → s.1.testBit a = true) ∧ (∀ p, s.1.testBit p = true → st.testBit a = true ∧ rch (gE A B bo op) a p) ∧ (s.2 = nI s.1 → itf (ledS A B bo op) s.1 (nl + 1) = s.1))
    (μ := fun s => 2 * (32768 - s.1) + (if s.2 = nI s.1 then 0 else 1)) (s := (if st.testBit a = true then 2 ^ a else 0, -1)) ?_ ?_ ?_
  · refine ⟨?_, ?_, ?_, ?_⟩
    · dsimp only
      split
      · exact Nat.pow_lt_pow_right (by decide) ha
      · exact Nat.two_pow_pos N
    · intro h; simp [h]
    · intro p hp
      dsimp only at hp
      split at hp
      · rename_i h
        rw [Nat.testBit_two_pow] at hp
        have : a = p := by simpa using hp
        subst this
        exact ⟨h, rch_refl _ _⟩
      · simp at hp
    · intro h
      dsimp only at h
      have hb : (if st.testBit a = true then 2 ^ a else 0) < 2 ^ 31 := by
        split
        · exact pow_lt31 (by omega)
        · omega
      exact absurd h.symm (by rw [oI_m1 hb]; exact id)
  · dsimp only
    generalize (if st.testBit a = true then 2 ^ a else 0) = z
    split <;> omega
  · intro n s hI ih
    obtain ⟨m, b⟩ := s
    obtain ⟨hm, hma, hms, hmc⟩ := hI
    dsimp only at hm hma hms hmc ih ⊢
    have hm2 := lt31_10 hm (by omega)
    show Ok (f_X12_ledTo_L11 S (it2 (f_X12_ledTo_L11 S) n) (nI m) b) _
    generalize hr : it2 (f_X12_ledTo_L11 S) n = r at ih
    unfold f_X12_ledTo_L11
    refine ok_ite (fun hb => ?_) (fun hb => ?_)
    · have hmc := ledS_closed hop (hmc hb.symm)
      refine ok_some ⟨m, rfl, hm, fun p => ?_⟩
      constructor
      · exact hms p
      · intro ⟨h1, h2⟩
        exact h2 (fun x => m.testBit x = true) (hma h1) hmc
    · refine ok_lk ?_
      have hlt : ∀ i, itf (ledS A B bo op) m i < 2 ^ N := fun i => itf_ind (P := fun _ x => x < 2 ^ N) hm (fun _ _ _ h => ledS_lt hAB h)
      have hpass := eq_for0 (W := fun n i => it2 (f_X12_ledTo_L21 S (fun x5 => r x5 (nI m))) n (nI (itf (ledS A B bo op) m i)) (nI i)) (e := nl + 1) (x := r (nI (itf (ledS A B bo op) m (nl + 1))) (nI m)) (by omega) (fun n => by
          show f_X12_ledTo_L21 S (fun x5 => r x5 (nI m)) _ _ (nI (nl + 1)) = _
          unfold f_X12_ledTo_L21
          rw [h21, if_pos (nI_lt (by omega) (by omega))]) (fun n i hi => m_ledS hG0 (hlt i) hi _ _)
      have hpass : it2 (f_X12_ledTo_L21 S (fun x5 => r x5 (nI m))) fuel (nI m) 0 = r (nI (itf (ledS A B bo op) m (nl + 1))) (nI m) := hpass
      rw [hpass]
      have hge := itf_le (ledS_infl A B bo op) m (nl + 1)
      have hlt' := lt31_10 (hlt (nl + 1)) (by omega)
      refine ih (itf (ledS A B bo op) m (nl + 1), nI m) ⟨hlt _, fun h => itf_infl (ledS_infl A B bo op) (n := 0) (nl + 1) (Nat.zero_le _) a (hma h), ?_, ?_⟩ ?_
      · exact itf_ind (P := fun _ (x : Nat) => ∀ p, x.testBit p = true → st.testBit a = true ∧ rch (gE A B bo op) a p) hms (fun i b _ h => ledS_sub (P := fun p => st.testBit a = true ∧ rch (gE A B bo op) a p) (fun u v e h => ⟨h.1, rch_step h.2 e⟩) h)
      · intro he
        dsimp only at he ⊢
        rw [nI_eq (by omega) (by omega)] at he
        rw [← he, ← he]
      · have hbn : ¬ b = nI m := fun e => hb e.symm
        rw [if_neg hbn]
        by_cases he : itf (ledS A B bo op) m (nl + 1) = m
        · rw [he, if_pos rfl]; omega
        · have : ¬ nI m = nI (itf (ledS A B bo op) m (nl + 1)) := by rw [nI_eq (by omega) (by omega)]; exact fun e => he e.symm
          rw [if_neg this]; omega
theorem m_leads {S : wd_W} {N nl op st a b : Nat} {A B bo dy : Nat → Nat} (hG : mG S N nl op A B bo dy) (h38 : S.1 38 = nI st) (hst : st < 2 ^ N) (ha : a < N) (hb : b < N) :
    Ok (f_X12_leads S (nI a) (nI b)) (fun o => ∃ x : Bool, o = nI (b2n x) ∧ (x = true ↔ st.testBit a = true ∧ rch (gE A B bo op) a b)) := by
  have hN : N ≤ 10 := hG.2.2.2.1
  unfold f_X12_leads
  refine ok_bd (m_ledTo (S := wd_o S [] [] [] [] []) hG h38 hst ha) ?_
  rintro _ ⟨m, rfl, hm, hp⟩
  have hm2 := lt31_10 hm (by omega)
  simp (disch := omega) only [li_1, oI_tb, oI_b1]
  refine ok_if (fun h => ok_some ⟨true, rfl, by simp [(hp b).mp h]⟩) (fun h => ok_some ⟨false, rfl, ?_⟩)
  constructor
  · intro h; cases h
  · intro q; have := (hp b).mpr q; rw [h] at this; cases this
