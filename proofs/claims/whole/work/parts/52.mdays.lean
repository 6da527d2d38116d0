/-! the reference: days -/
/-- a row of plain numbers over the first n -/
def awN (f : Nat → Nat) (g : Nat → Int32) (n : Nat) : Nat → Int32 := fil (fun p => nI (f p)) g n
theorem awN_at {f : Nat → Nat} {g : Nat → Int32} {n k : Nat} (h : k < n) : awN f g n k = nI (f k) := fil_in h
theorem awN_upd {f : Nat → Nat} {g : Nat → Int32} {n k x : Nat} (h : k < n) : upd (awN f g n) k (nI x) = awN (upN f k x) g n := by
  funext j
  unfold awN fil upd upN
  by_cases e : j = k
  · subst e; simp [h]
  · simp [e]
theorem awN_of {a : Nat → Int32} {f : Nat → Nat} {n : Nat} (h : ∀ k, k < n → a k = nI (f k)) : a = awN f a n := by
  funext j
  unfold awN fil
  by_cases e : j < n
  · simp [e, h j e]
  · simp [e]
/-- one line gone along, and whether that changed something -/
def dS2 (A B bo dy : Nat → Nat) (op : Nat) (k : Nat) (s : Nat × (Nat → Nat)) : Nat × (Nat → Nat) :=
  if op.testBit k = true then (if s.2 (A k) + dy k < s.2 (B k) then (1, upN s.2 (B k) (s.2 (A k) + dy k)) else if bo k ≠ 0 ∧ s.2 (B k) + dy k < s.2 (A k) then (1, upN s.2 (A k) (s.2 (B k) + dy k)) else s) else s
theorem dS2_2 (A B bo dy : Nat → Nat) (op k : Nat) (s : Nat × (Nat → Nat)) : (dS2 A B bo dy op k s).2 = dS A B bo dy op k s.2 := by
  unfold dS2 dS
  split
  · split
    · rfl
    · split <;> rfl
  · rfl
theorem dP2_2 (A B bo dy : Nat → Nat) (op : Nat) (s : Nat × (Nat → Nat)) : ∀ K, (itf (dS2 A B bo dy op) s K).2 = itf (dS A B bo dy op) s.2 K
  | 0 => rfl
  | K + 1 => by show (dS2 A B bo dy op K (itf (dS2 A B bo dy op) s K)).2 = _; rw [dS2_2, dP2_2 A B bo dy op s K]; rfl
theorem dP2_flag {A B bo dy : Nat → Nat} {op N : Nat} (hG : dG A B dy op N) (far : Nat → Nat) (K : Nat) : ((itf (dS2 A B bo dy op) (0, far) K).1 = 0 ∧ dP A B bo dy op K far = far) ∨ ((itf (dS2 A B bo dy op) (0, far) K).1 = 1 ∧ fb_sm (dP A B bo dy op K far) N < fb_sm far N) := by
  unfold dP
  have e := dP2_2 A B bo dy op (0, far) K
  dsimp only at e
  rw [← e]
  refine itf_ind (P := fun _ (s : Nat × (Nat → Nat)) => (s.1 = 0 ∧ s.2 = far) ∨ (s.1 = 1 ∧ fb_sm s.2 N < fb_sm far N)) (Or.inl ⟨rfl, rfl⟩) ?_
  intro k s _ hs
  obtain ⟨fl, f⟩ := s
  dsimp only at hs
  have hle : fb_sm f N ≤ fb_sm far N := by
    rcases hs with ⟨_, h⟩ | ⟨_, h⟩
    · rw [h]; exact Nat.le_refl _
    · omega
  unfold dS2
  by_cases hk : op.testBit k = true
  · obtain ⟨g1, g2, g3, g4, g5⟩ := hG k hk
    rw [if_pos hk]
    dsimp only
    by_cases c1 : f (A k) + dy k < f (B k)
    · rw [if_pos c1]
      right
      refine ⟨rfl, ?_⟩
      have := fb_sm_upd f (f (A k) + dy k) g2
      have e2 : fb_sm (upN f (B k) (f (A k) + dy k)) N = fb_sm (fun j => if j = B k then f (A k) + dy k else f j) N := rfl
      dsimp only
      omega
    · rw [if_neg c1]
      by_cases c2 : bo k ≠ 0 ∧ f (B k) + dy k < f (A k)
      · rw [if_pos c2]
        right
        refine ⟨rfl, ?_⟩
        have := fb_sm_upd f (f (B k) + dy k) g1
        have e2 : fb_sm (upN f (A k) (f (B k) + dy k)) N = fb_sm (fun j => if j = A k then f (B k) + dy k else f j) N := rfl
        have := c2.2
        dsimp only
        omega
      · rw [if_neg c2]; exact hs
  · rw [if_neg hk]; exact hs
theorem mG_dG {S : wd_W} {N nl op : Nat} {A B bo dy : Nat → Nat} (hG : mG S N nl op A B bo dy) : dG A B dy op N := by
  intro k hk
  obtain ⟨_, _, _, _, h1, h2, h3, _, h4, h5⟩ := hG.2.2.2.2.2.2 k hk
  exact ⟨h1, h2, h3, h4, h5⟩
theorem m_dS2 {S : wd_W} {N nl op fl i : Nat} {A B bo dy far : Nat → Nat} {g : Nat → Int32} (hG : mG S N nl op A B bo dy) (hf : ∀ v, far v ≤ 1000) (hi : i < nl + 1) (k : Int32 → (Nat → Int32) → Option o_X12_daysTo) (r : Int32 → Int32 → (Nat → Int32) → Option o_X12_daysTo) :
    f_X12_daysTo_L57 S k r (nI fl) (nI i) (awN far g N) = r (nI (dS2 A B bo dy op i (fl, far)).1) (nI (i + 1)) (awN (dS2 A B bo dy op i (fl, far)).2 g N) := by
  obtain ⟨h20, h21, h39, hN, hnl, hop, hk⟩ := hG
  have hop2 := op_lt hop hnl
  unfold f_X12_daysTo_L57
  rw [h21, if_neg (nI_nlt (by omega) (by omega)), bd_s (m_isOpen (S := wd_o S [] [] [(17, awN far g N)] [] []) h39 (by omega) (by omega))]
  unfold dS2
  cases hoi : op.testBit i with
  | false => simp only [lk, li_0, li_1, oI_b0, nI_add]; simp
  | true =>
    obtain ⟨k8, k9, k11, k12, hAN, hBN, hAB, hbo, hd1, hd9⟩ := hk i hoi
    have fA := hf (A i)
    have fB := hf (B i)
    simp (disch := omega) only [lk, lz, li_0, li_1, oI_b0, oI_b1, nI_add, nI_clamp, gd_in, k8, k9, k11, k12, awN_at, awN_upd, nI_leI, nI_eq]
    simp only [Bool.true_eq_false, if_false, if_true]
    by_cases c1 : far (A i) + dy i < far (B i)
    · have c1' : ¬ far (B i) ≤ far (A i) + dy i := by omega
      rw [if_neg c1', if_pos c1]
      have c3 : upN far (B i) (far (A i) + dy i) (A i) = far (A i) := upN_n hAB
      have c4 : upN far (B i) (far (A i) + dy i) (B i) = far (A i) + dy i := upN_s _ _ _
      rw [c3, c4]
      by_cases c2 : bo i = 0
      · rw [if_pos c2]
      · have c5 : far (A i) ≤ far (A i) + dy i + dy i := by omega
        rw [if_neg c2, if_pos (nI_le c5 (by omega))]
    · have c1' : far (B i) ≤ far (A i) + dy i := by omega
      rw [if_pos c1', if_neg c1]
      by_cases c2 : bo i = 0
      · rw [if_pos c2, if_neg (fun z => z.1 c2)]
      · rw [if_neg c2]
        by_cases c3 : far (B i) + dy i < far (A i)
        · rw [if_neg (by omega), if_pos ⟨c2, c3⟩]
        · rw [if_pos (by omega), if_neg (fun z => c3 z.2)]
def f00 (st a : Nat) : Nat → Nat := fun p => if p = a ∧ st.testBit a = true then 0 else 1000
theorem f00_le (st a v : Nat) : f00 st a v ≤ 1000 := by unfold f00; split <;> omega
theorem m_days0 {S : wd_W} {N st a : Nat} (h20 : S.1 20 = nI N) (h38 : S.1 38 = nI st) (hst : st < 32768) (hN : N ≤ 10) (ha : a < N) (k : (Nat → Int32) → Option o_X12_daysTo) :
    it2 (f_X12_daysTo_L2 S (nI a) k) fuel 0 (S.2.2.1 17) = k (awN (f00 st a) (S.2.2.1 17) N) := by
  refine Eq.trans ?_ (eq_for0 (W := fun n i => it2 (f_X12_daysTo_L2 S (nI a) k) n (nI i) (fil (fun p => nI (f00 st a p)) (S.2.2.1 17) i)) (e := N) (x := k (awN (f00 st a) (S.2.2.1 17) N)) (by omega) ?_ ?_)
  · show _ = it2 (f_X12_daysTo_L2 S (nI a) k) fuel 0 (fil (fun p => nI (f00 st a p)) (S.2.2.1 17) 0)
    rw [fil_0]
  · intro n
    show f_X12_daysTo_L2 S (nI a) k _ (nI N) _ = _
    unfold f_X12_daysTo_L2
    rw [h20, if_pos (nI_le (Nat.le_refl _) (by omega))]
    rfl
  · intro n i hi
    show f_X12_daysTo_L2 S (nI a) k (it2 _ n) (nI i) _ = _
    unfold f_X12_daysTo_L2
    rw [h20, if_neg (nI_ge hi (by omega)), ← fil_upd]
    simp (disch := omega) only [lk, lz, nI_1, gd_in, nI_clamp, nI_eq, h38, oI_bit1, li_1000, li_0]
    by_cases c1 : i = a
    · subst c1
      by_cases c2 : st.testBit i = true
      · have : f00 st i i = 0 := by simp [f00, c2]
        rw [if_pos rfl, if_pos c2, this]
      · have : f00 st i i = 1000 := by simp [f00, c2]
        rw [if_pos rfl, if_neg c2, this]
    · have : f00 st a i = 1000 := by simp [f00, c1]
      rw [if_neg c1, this]
theorem m_daysTo {S : wd_W} {N nl op st a b : Nat} {A B bo dy : Nat → Nat} (hG : mG S N nl op A B bo dy) (h38 : S.1 38 = nI st) (hst : st < 2 ^ N) (ha : a < N) (hb : b < N) :
    Ok (f_X12_daysTo S (nI a) (nI b)) (fun o => ∃ D : Nat → Nat, o.1 = nI (D b) ∧ D b ≤ 1000 ∧ (st.testBit a = false → ∀ v, D v = 1000) ∧ (st.testBit a = true → ∃ n, D = repF (dP A B bo dy op (nl + 1)) (far0 a) n ∧ dP A B bo dy op (nl + 1) D = D)) := by
  have hG0 := hG
  have hdG := mG_dG hG
  obtain ⟨h20, h21, h39, hN, hnl, hop, hk⟩ := hG
  have hop2 := op_lt hop hnl
  have hst2 := lt31_10 hst (by omega)
  unfold f_X12_daysTo
  refine ok_lk ?_
  rw [m_days0 h20 h38 hst2 hN ha]
  refine ok_lk ?_
  have hf0e : ∀ p, f00 st a p = if p = a ∧ st.testBit a = true then 0 else 1000 := fun _ => rfl
  have hf0l := f00_le st a
  generalize f00 st a = f0 at hf0e hf0l
  have hK : ∀ far : Nat → Nat, (∀ v, far v ≤ 1000) → ∀ i v, (itf (dS2 A B bo dy op) (0, far) i).2 v ≤ 1000 := by
    intro far hf i v
    rw [dP2_2]
    exact Nat.le_trans (itf_dS_le (n := 0) far v i (Nat.zero_le _)) (hf v)
  rw [li_1]
  refine ok_while (W := fun n (s : Nat × (Nat → Nat)) => it2 (f_X12_daysTo_L48 S (fun a3 => gd (okx (nI b) 10) <| some (a3 (nI b).toNatClampNeg, a3))) n (nI s.1) (awN s.2 (S.2.2.1 17) N))
    (I := fun s => (∀ v, s.2 v ≤ 1000) ∧ s.1 ≤ 1 ∧ (∃ n, s.2 = repF (dP A B bo dy op (nl + 1)) f0 n) ∧ (s.1 = 0 → dP A B bo dy op (nl + 1) s.2 = s.2))
    (μ := fun s => 2 * fb_sm s.2 N + s.1) (s := (1, f0)) ⟨hf0l, Nat.le_refl _, ⟨0, rfl⟩, fun h => by cases h⟩ ?_ ?_
  · have : fb_sm f0 N ≤ N * 1000 := fb_sm_bound (fun k _ => hf0l k)
    dsimp only
    omega
  · intro n s hI ih
    obtain ⟨fl, far⟩ := s
    obtain ⟨hf, hfl, hrep, hfix⟩ := hI
    dsimp only at hf hfl hrep hfix ih
    show Ok (f_X12_daysTo_L48 S _ (it2 _ n) (nI fl) (awN far (S.2.2.1 17) N)) _
    generalize it2 (f_X12_daysTo_L48 S (fun a3 => gd (okx (nI b) 10) <| some (a3 (nI b).toNatClampNeg, a3))) n = r at ih
    unfold f_X12_daysTo_L48
    simp (disch := omega) only [oI_z]
    refine ok_ite (fun h0 => ?_) (fun h0 => ?_)
    · rw [gd_in (by omega) (by omega), nI_clamp (by omega), awN_at hb]
      refine ok_some ⟨far, rfl, hf b, fun hs => ?_, fun hs => ?_⟩
      · obtain ⟨n', e⟩ := hrep
        have hst0 : ∀ v, f0 v = 1000 := fun v => by rw [hf0e, hs]; simp
        have hdP : dP A B bo dy op (nl + 1) f0 = f0 := by
          have hbig : ∀ k, dS A B bo dy op k f0 = f0 := by
            intro k
            unfold dS
            split
            · rw [hst0, hst0, if_neg (by omega), if_neg (fun z => by have := z.2; omega)]
            · rfl
          have : ∀ K, itf (dS A B bo dy op) f0 K = f0 := by
            intro K
            induction K with
            | zero => rfl
            | succ K ihK => show dS A B bo dy op K (itf (dS A B bo dy op) f0 K) = f0; rw [ihK, hbig]
          exact this _
        intro v
        rw [e, repF_fix hdP]
        exact hst0 v
      · obtain ⟨n', e⟩ := hrep
        have e0 : f0 = far0 a := by
          funext v
          rw [hf0e, hs]; simp [far0]
        rw [e0] at e
        exact ⟨n', e, hfix h0⟩
    · refine ok_lk ?_
      have hpass := eq_for0 (W := fun n i => it3 (f_X12_daysTo_L57 S (fun x9 a10 => r x9 a10)) n (nI (itf (dS2 A B bo dy op) (0, far) i).1) (nI i) (awN (itf (dS2 A B bo dy op) (0, far) i).2 (S.2.2.1 17) N)) (e := nl + 1) (x := r (nI (itf (dS2 A B bo dy op) (0, far) (nl + 1)).1) (awN (itf (dS2 A B bo dy op) (0, far) (nl + 1)).2 (S.2.2.1 17) N)) (by omega) (fun n => by
          show f_X12_daysTo_L57 S _ _ _ (nI (nl + 1)) _ = _
          unfold f_X12_daysTo_L57
          rw [h21, if_pos (nI_lt (by omega) (by omega))]) (fun n i hi => m_dS2 hG0 (hK far hf i) hi _ _)
      have hpass : it3 (f_X12_daysTo_L57 S (fun x9 a10 => r x9 a10)) fuel (nI 0) (nI 0) (awN far (S.2.2.1 17) N) = r (nI (itf (dS2 A B bo dy op) (0, far) (nl + 1)).1) (awN (itf (dS2 A B bo dy op) (0, far) (nl + 1)).2 (S.2.2.1 17) N) := hpass
      rw [li_0, hpass]
      have hfl2 := dP2_flag (bo := bo) hdG far (nl + 1)
      have e2 := dP2_2 A B bo dy op (0, far) (nl + 1)
      dsimp only at e2
      have e2' : (itf (dS2 A B bo dy op) (0, far) (nl + 1)).2 = dP A B bo dy op (nl + 1) far := e2
      obtain ⟨n', e⟩ := hrep
      refine ih (itf (dS2 A B bo dy op) (0, far) (nl + 1)) ⟨hK far hf _, ?_, ⟨n' + 1, ?_⟩, ?_⟩ ?_
      · rcases hfl2 with ⟨q, _⟩ | ⟨q, _⟩ <;> omega
      · rw [e2', e]; rfl
      · intro q
        rw [e2']
        rcases hfl2 with ⟨_, q2⟩ | ⟨q1, _⟩
        · rw [q2, q2]
        · omega
      · rw [e2']
        rcases hfl2 with ⟨q1, q2⟩ | ⟨q1, q2⟩
        · rw [q1, q2]; omega
        · rw [q1]; omega
