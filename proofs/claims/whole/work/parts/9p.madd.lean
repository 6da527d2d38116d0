/-! a new line: the reference -/
def laN (L : Ld) (a b : Nat) : Ld := fun f => if f = 2 then upN (L 2) (l_n L) a else if f = 3 then upN (L 3) (l_n L) b else if f = 4 then upN (L 4) (l_n L) 16 else if f = 5 then upN (L 5) (l_n L) 1 else if f = 6 then upN (L 6) (l_n L) 1 else L f
theorem laN_lo {L : Ld} {a b k : Nat} (hk : k < l_n L) : l_A (laN L a b) k = l_A L k ∧ l_B (laN L a b) k = l_B L k ∧ l_C (laN L a b) k = l_C L k ∧ l_O (laN L a b) k = l_O L k ∧ l_D (laN L a b) k = l_D L k := by
  have h : k ≠ l_n L := by omega
  exact ⟨upN_n h, upN_n h, upN_n h, upN_n h, upN_n h⟩
theorem laN_new (L : Ld) (a b : Nat) : l_A (laN L a b) (l_n L) = a ∧ l_B (laN L a b) (l_n L) = b ∧ l_O (laN L a b) (l_n L) = 1 ∧ l_D (laN L a b) (l_n L) = 1 := ⟨upN_s _ _ _, upN_s _ _ _, upN_s _ _ _, upN_s _ _ _⟩
theorem laN_ok {L : Ld} (hL : lOk L) (a b : Nat) : lOk (laN L a b) := by
  obtain ⟨h0, gk, rest⟩ := hL
  refine ⟨h0, fun k hk => ?_, rest⟩
  obtain ⟨e1, e2, e3, e4, e5⟩ := laN_lo (L := L) (a := a) (b := b) hk
  rw [e1, e2, e3, e4, e5]
  exact gk k hk
theorem laN_cha {L : Ld} (a b t : Nat) : cha (laN L a b) t = cha L t := by
  unfold cha
  by_cases h : t < l_n L
  · rw [if_pos h]
    exact (if_pos h).trans (laN_lo h).2.2.1
  · rw [if_neg h]
    exact if_neg h
theorem laN_mL {S : wd_W} {L : Ld} (h : mL S L) (a b : Nat) : mL S (laN L a b) := by
  obtain ⟨h0, hk, hp, ht⟩ := h
  refine ⟨h0, fun k hk' => ?_, hp, fun t ht' => ?_⟩
  · obtain ⟨e1, e2, e3, e4, e5⟩ := laN_lo (L := L) (a := a) (b := b) hk'
    rw [e1, e2, e3, e4, e5]
    exact hk k hk'
  · rw [laN_cha]; exact ht t ht'
theorem mL_row {S S' : wd_W} {L : Ld} (h : mL S L) (h1 : S'.1 = S.1) (hr : ∀ c, 10 ≤ c → c ≤ 16 → c ≠ 11 → c ≠ 12 → S'.2.2.1 c = S.2.2.1 c) (hn : ∀ c, (c = 8 ∨ c = 9 ∨ c = 11 ∨ c = 12) → ∀ k, k < l_n L → S'.2.2.1 c k = S.2.2.1 c k) : mL S' L := by
  obtain ⟨h0, hk, hp, ht⟩ := h
  refine ⟨by rw [h1]; exact h0, fun k hk' => ?_, fun p hp' => ?_, fun t ht' => ?_⟩
  · rw [hn 8 (by omega) k hk', hn 9 (by omega) k hk', hn 11 (by omega) k hk', hn 12 (by omega) k hk', hr 10 (by omega) (by omega) (by omega) (by omega), hr 13 (by omega) (by omega) (by omega) (by omega)]
    exact hk k hk'
  · rw [hr 14 (by omega) (by omega) (by omega) (by omega), hr 15 (by omega) (by omega) (by omega) (by omega)]
    exact hp p hp'
  · rw [hr 16 (by omega) (by omega) (by omega) (by omega)]
    exact ht t ht'
noncomputable def nwB (L : Ld) (a b s : Nat) : Bool := @decide (thr (laN L a b) s true) (Classical.propDecidable _)
theorem nwB_iff (L : Ld) (a b s : Nat) : nwB L a b s = true ↔ thr (laN L a b) s true := by unfold nwB; exact @decide_eq_true_iff _ (Classical.propDecidable _)
noncomputable def nwS (L : Ld) (a b : Nat) : Nat := fb_sm (fun s => if nwB L a b s = true then wt L s else 0) (2 ^ l_M L)
noncomputable def totS (L : Ld) : Nat := fb_sm (fun s => if thB L s = true then wt L s else 0) (2 ^ l_M L)
noncomputable def nwV (L : Ld) (c a b : Nat) : Nat := c * nwS L a b + (16 - c) * totS L
/-- through without it: through with it -/
theorem gE_off {A B bo : Nat → Nat} {op n a b o : Nat} (h : op.testBit n = false) : gE (upN A n a) (upN B n b) (upN bo n o) op = gE A B bo op := by
  funext u v
  apply propext
  unfold gE
  constructor
  · rintro ⟨k, hk, q⟩
    have hne : k ≠ n := fun e => by rw [e, h] at hk; cases hk
    rw [upN_n hne, upN_n hne, upN_n hne] at q
    exact ⟨k, hk, q⟩
  · rintro ⟨k, hk, q⟩
    have hne : k ≠ n := fun e => by rw [e, h] at hk; cases hk
    refine ⟨k, hk, ?_⟩
    rw [upN_n hne, upN_n hne, upN_n hne]
    exact q
theorem dS_off {A B bo dy : Nat → Nat} {op n a b o d : Nat} (h : op.testBit n = false) : dS (upN A n a) (upN B n b) (upN bo n o) (upN dy n d) op = dS A B bo dy op := by
  funext k far
  unfold dS
  by_cases hk : op.testBit k = true
  · have hne : k ≠ n := fun e => by rw [e, h] at hk; cases hk
    rw [upN_n hne, upN_n hne, upN_n hne, upN_n hne]
  · rw [if_neg hk, if_neg hk]
theorem car_laN {L : Ld} {op a b : Nat} (hop : op < 2 ^ l_n L) : car (laN L a b) op ↔ car L op := by
  have h := tb_lt hop (Nat.le_refl (l_n L))
  have e1 : l_E (laN L a b) op = l_E L op := gE_off h
  have e2 : ∀ x D, isD (laN L a b) op x D ↔ isD L op x D := by
    intro x D
    unfold isD dP
    have : dS (l_A (laN L a b)) (l_B (laN L a b)) (l_O (laN L a b)) (l_D (laN L a b)) op = dS (l_A L) (l_B L) (l_O L) (l_D L) op := dS_off h
    rw [this]
  have e3 : noCut (l_A (laN L a b)) (l_B (laN L a b)) (l_O (laN L a b)) op (l_a L) (l_b L) ↔ noCut (l_A L) (l_B L) (l_O L) op (l_a L) (l_b L) := by
    unfold noCut
    apply forall_congr'
    intro i
    apply forall_congr'
    intro hi
    have hni : i ≠ l_n L := fun e => by rw [e, h] at hi; cases hi
    have h2 : (op ^^^ 2 ^ i).testBit (l_n L) = false := by
      rw [Nat.testBit_xor, h, Nat.testBit_two_pow]
      simp [hni]
    have : gE (l_A (laN L a b)) (l_B (laN L a b)) (l_O (laN L a b)) (op ^^^ 2 ^ i) = gE (l_A L) (l_B L) (l_O L) (op ^^^ 2 ^ i) := gE_off h2
    rw [this]
  unfold car
  rw [e1]
  have e4 : (∃ D, isD (laN L a b) op (l_a (laN L a b)) D ∧ D (l_b (laN L a b)) ≤ l_m (laN L a b)) ↔ ∃ D, isD L op (l_a L) D ∧ D (l_b L) ≤ l_m L := by
    constructor
    · rintro ⟨D, d1, d2⟩; exact ⟨D, (e2 _ _).mp d1, d2⟩
    · rintro ⟨D, d1, d2⟩; exact ⟨D, (e2 _ _).mpr d1, d2⟩
  have e5 : noCut (l_A (laN L a b)) (l_B (laN L a b)) (l_O (laN L a b)) op (l_a (laN L a b)) (l_b (laN L a b)) ↔ noCut (l_A L) (l_B L) (l_O L) op (l_a L) (l_b L) := e3
  rw [e4, e5]
  exact Iff.rfl
theorem opM_laN (L : Ld) (a b s : Nat) : opM (laN L a b) s true = opM L s false ||| (if (stB L s a && stB L s b) = true then 2 ^ l_n L else 0) := by
  have h1 : mk (opB (laN L a b) s) (l_n L) = mk (opB L s) (l_n L) := mk_congr (fun k hk => by
    obtain ⟨e1, e2, _⟩ := laN_lo (L := L) (a := a) (b := b) hk
    unfold opB
    rw [e1, e2]
    rfl)
  obtain ⟨n1, n2, _⟩ := laN_new L a b
  unfold opM
  show mk (opB (laN L a b) s) (l_n L) ||| (if (true && (stB L s (l_A (laN L a b) (l_n L)) && stB L s (l_B (laN L a b) (l_n L)))) = true then 2 ^ l_n L else 0) = (mk (opB L s) (l_n L) ||| 0) ||| _
  rw [h1, n1, n2, Nat.or_zero, Bool.true_and]
theorem nw_no {L : Ld} {a b s : Nat} (h : (stB L s a && stB L s b) = false) : nwB L a b s = thB L s := by
  apply b_of_iff (nwB_iff L a b s)
  rw [thB_iff]
  unfold thr
  rw [opM_laN, h, if_neg (by decide), Nat.or_zero, car_laN (opM_lt0 L s)]
  exact Iff.rfl
theorem nw_mono {L : Ld} {a b s : Nat} (hL : lOk L) (ha : a < l_N L) (hb : b < l_N L) (hab : a ≠ b) (hn : l_n L < 12) (h : thB L s = true) : nwB L a b s = true := by
  rw [nwB_iff]
  have h2 : thr (laN L a b) s false := by
    rw [thB_iff] at h
    refine ⟨h.1, ?_⟩
    have : opM (laN L a b) s false = opM L s false := by
      unfold opM
      have h1 : mk (opB (laN L a b) s) (l_n L) = mk (opB L s) (l_n L) := mk_congr (fun k hk => by
        obtain ⟨e1, e2, _⟩ := laN_lo (L := L) (a := a) (b := b) hk
        unfold opB
        rw [e1, e2]
        rfl)
      show mk (opB (laN L a b) s) (l_n L) ||| _ = _
      rw [h1]
      rfl
    rw [this]
    exact (car_laN (opM_lt0 L s)).mpr h.2
  obtain ⟨n1, n2, n3, n4⟩ := laN_new L a b
  exact thr_new (laN_ok hL a b) hn ⟨by show l_A (laN L a b) (l_n L) < l_N L; rw [n1]; exact ha, by show l_B (laN L a b) (l_n L) < l_N L; rw [n2]; exact hb, by show l_A (laN L a b) (l_n L) ≠ l_B (laN L a b) (l_n L); rw [n1, n2]; exact hab, by show 1 ≤ l_D (laN L a b) (l_n L); rw [n4]; omega, by show l_D (laN L a b) (l_n L) ≤ 9; rw [n4]; omega⟩ h2
theorem nwS_le {L : Ld} (hL : lOk L) (a b : Nat) : nwS L a b ≤ 16 ^ l_M L := by
  unfold nwS
  rw [← sm_wt16 hL]
  apply fb_sm_le
  intro s _
  split
  · exact Nat.le_refl _
  · exact Nat.zero_le _
theorem totS_le {L : Ld} (hL : lOk L) : totS L ≤ 16 ^ l_M L := by
  unfold totS
  rw [← sm_wt16 hL]
  apply fb_sm_le
  intro s _
  split
  · exact Nat.le_refl _
  · exact Nat.zero_le _
/-- the reference's sum for a pair -/
theorem nwV_sum {L : Ld} {c a b : Nat} (hL : lOk L) (hc : c ≤ 16) (ha : a < l_N L) (hb : b < l_N L) (hab : a ≠ b) (hn : l_n L < 12) :
    fb_sm (fun s => if thB L s = true then 16 * wt L s else if nwB L a b s = true then c * wt L s else 0) (2 ^ l_M L) = nwV L c a b := by
  unfold nwV nwS totS
  rw [← sm_mul, ← sm_mul, ← sm_add]
  apply fb_sm_cong
  intro s _
  cases h1 : thB L s with
  | true =>
    rw [if_pos rfl, if_pos rfl, nw_mono hL ha hb hab hn h1, if_pos rfl, ← Nat.add_mul]
    congr 1; omega
  | false =>
    have hff : ¬ (false = true) := by decide
    rw [if_neg hff, if_neg hff, Nat.mul_zero, Nat.add_zero]
    cases nwB L a b s with
    | true => rw [if_pos rfl, if_pos rfl]
    | false => rw [if_neg hff, if_neg hff, Nat.mul_zero]
/-- the best pair: the first with the greatest -/
def brS (V : Nat → Nat → Nat) (a b : Nat) (x : Nat × Nat × Nat) : Nat × Nat × Nat := if x.1 ≤ V a b then (V a b + 1, a, b) else x
def brI (V : Nat → Nat → Nat) (a : Nat) (x : Nat × Nat × Nat) (d : Nat) : Nat × Nat × Nat := itf (fun d x => brS V a (a + 1 + d) x) x d
def brF (V : Nat → Nat → Nat) (N m : Nat) : Nat × Nat × Nat := itf (fun a x => brI V a x (N - (a + 1))) (0, 0, 0) m
def enc (x : Nat) : Int64 := if x = 0 then -1 else lN (x - 1)
theorem enc_lt {x v : Nat} (hx : x ≤ 2 ^ 62) (hv : v < 2 ^ 62) : enc x < lN v ↔ x ≤ v := by
  unfold enc
  by_cases h : x = 0
  · rw [if_pos h, Int64.lt_iff_toInt_lt, lN_tI (by omega)]
    have : (-1 : Int64).toInt = -1 := rfl
    omega
  · rw [if_neg h, lN_ltL (by omega) (by omega)]
    omega
def mBe (g : Nat → Int64) (x : Nat × Nat × Nat) : Prop := g 0 = enc x.1 ∧ (x.1 ≠ 0 → g 1 = lN x.2.1 ∧ g 2 = lN x.2.2)
theorem brS_le {V : Nat → Nat → Nat} {K a b : Nat} {x : Nat × Nat × Nat} (h : V a b ≤ K) (hx : x.1 ≤ K + 1) : (brS V a b x).1 ≤ K + 1 := by
  unfold brS
  split
  · dsimp only; omega
  · exact hx
