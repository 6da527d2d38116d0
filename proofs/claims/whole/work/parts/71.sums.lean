/-! sums over sets -/
theorem sm_add (f g : Nat → Nat) (n : Nat) : fb_sm (fun k => f k + g k) n = fb_sm f n + fb_sm g n := fb_sm_add f g n
theorem sm_mul (c : Nat) (f : Nat → Nat) : ∀ n, fb_sm (fun k => c * f k) n = c * fb_sm f n
  | 0 => rfl
  | n + 1 => by rw [fb_sm_succ, fb_sm_succ, sm_mul c f n, Nat.mul_add]
theorem sm_zero {f : Nat → Nat} {n : Nat} (h : ∀ k, k < n → f k = 0) : fb_sm f n = 0 := by
  rw [fb_sm_cong (g := fun _ => 0) h, fb_sm_const, Nat.mul_zero]
/-- the sum by the last bit -/
theorem sm_top (f : Nat → Nat) (M : Nat) : fb_sm f (2 ^ (M + 1)) = fb_sm (fun s => f s + f (s + 2 ^ M)) (2 ^ M) := by
  rw [← pow_dbl, fb_sm_split, sm_add]
  congr 1
  apply fb_sm_cong
  intro k _
  rw [Nat.add_comm]
/-- each set without t goes with the one that has it -/
theorem sm_bit {t : Nat} : ∀ (M : Nat) (f : Nat → Nat), t < M → fb_sm f (2 ^ M) = fb_sm (fun s => if s.testBit t = true then 0 else f s + f (s ||| 2 ^ t)) (2 ^ M) := by
  intro M
  induction M with
  | zero => intro f h; omega
  | succ M ih =>
    intro f h
    rw [sm_top, sm_top]
    by_cases e : t = M
    · subst e
      apply fb_sm_cong
      intro s hs
      rw [tb_lt hs (Nat.le_refl t), if_neg (by decide), bit_hi hs, if_pos rfl, or_add hs, Nat.add_zero]
    · rw [ih (fun s => f s + f (s + 2 ^ M)) (by omega)]
      apply fb_sm_cong
      intro s hs
      rw [bit_lo (show t < M by omega)]
      by_cases hb : s.testBit t = true
      · rw [if_pos hb, if_pos hb, if_pos hb]
      · rw [if_neg hb, if_neg hb, if_neg hb]
        have hlt : s ||| 2 ^ t < 2 ^ M := or_pow_lt hs (by omega)
        have e1 : (s + 2 ^ M) ||| 2 ^ t = (s ||| 2 ^ t) + 2 ^ M := by
          rw [← or_add hs, ← or_add hlt, Nat.or_assoc, Nat.or_assoc, Nat.or_comm (2 ^ M)]
        rw [e1]; omega
/-- the weight without a thing -/
def wo (h f : Nat → Nat) (t n s : Nat) : Nat := wtF (upN h t 1) (upN f t 1) n s
theorem wtF_congr {h f h' f' : Nat → Nat} {s : Nat} : ∀ n, (∀ t, t < n → h t = h' t ∧ f t = f' t) → wtF h f n s = wtF h' f' n s
  | 0, _ => rfl
  | n + 1, hc => by rw [wtF, wtF, wtF_congr n (fun t ht => hc t (by omega)), (hc n (by omega)).1, (hc n (by omega)).2]
theorem wt_fac {h f : Nat → Nat} {t s : Nat} : ∀ n, t < n → wtF h f n s = wo h f t n s * (if s.testBit t = true then h t else f t) := by
  intro n
  induction n with
  | zero => intro h; omega
  | succ n ih =>
    intro hn
    unfold wo
    rw [wtF, wtF]
    by_cases e : t = n
    · subst e
      rw [upN_s, upN_s]
      have : wtF (upN h t 1) (upN f t 1) t s = wtF h f t s := wtF_congr t (fun i hi => ⟨upN_n (by omega), upN_n (by omega)⟩)
      rw [this]
      cases s.testBit t <;> simp
    · rw [upN_n (Ne.symm e), upN_n (Ne.symm e), ih (by omega)]
      unfold wo
      rw [Nat.mul_assoc, Nat.mul_assoc, Nat.mul_comm (if s.testBit t = true then h t else f t)]
theorem wo_flip {h f : Nat → Nat} {t s : Nat} : ∀ n, wo h f t n (s ||| 2 ^ t) = wo h f t n s := by
  intro n
  induction n with
  | zero => rfl
  | succ n ih =>
    unfold wo at ih ⊢
    rw [wtF, wtF, ih]
    by_cases e : t = n
    · subst e; rw [upN_s, upN_s]; simp
    · have : (s ||| 2 ^ t).testBit n = s.testBit n := by rw [or_pow_bit]; simp [e]
      rw [this]
theorem wo_up {h f : Nat → Nat} {t n s a b : Nat} : wo (upN h t a) (upN f t b) t n s = wo h f t n s := by
  unfold wo
  apply wtF_congr
  intro i _
  unfold upN
  by_cases e : i = t <;> simp [e]
theorem sm_wt {h f : Nat → Nat} {c : Nat} : ∀ n, (∀ t, t < n → h t + f t = c) → fb_sm (wtF h f n) (2 ^ n) = c ^ n
  | 0, _ => rfl
  | n + 1, hc => by
    rw [sm_top, Nat.pow_succ, ← sm_wt n (fun t ht => hc t (by omega)), Nat.mul_comm, ← sm_mul]
    apply fb_sm_cong
    intro s hs
    rw [wtF_hi hs, wtF_low hs, ← hc n (by omega), Nat.add_mul, Nat.mul_comm (h n), Nat.mul_comm (f n), Nat.add_comm]
/-- a thing as sure -/
noncomputable def sur (L : Ld) (t : Nat) (ho : Bool) : Nat := fb_sm (fun s => if s.testBit t = true then 0 else if thB L (if ho = true then s ||| 2 ^ t else s) = true then wo (cha L) (fun t => 16 - cha L t) t (l_M L) s else 0) (2 ^ l_M L)
theorem tgt_sur {L : Ld} {t : Nat} (ht : t < l_M L) (ho : Bool) : tgt L (upN (cha L) t (b2n ho)) (upN (fun t => 16 - cha L t) t (b2n !ho)) = sur L t ho := by
  unfold tgt sur
  rw [sm_bit (t := t) (l_M L) _ ht]
  apply fb_sm_cong
  intro s _
  by_cases hb : s.testBit t = true
  · rw [if_pos hb, if_pos hb]
  · have hb' : s.testBit t = false := by simpa using hb
    have hb2 : (s ||| 2 ^ t).testBit t = true := by rw [or_pow_bit]; simp
    rw [if_neg hb, if_neg hb, wt_fac (t := t) _ ht, wt_fac (t := t) (s := s ||| 2 ^ t) _ ht, hb', hb2, wo_up, wo_up, wo_flip, upN_s, upN_s]
    cases ho with
    | true => simp [b2n]
    | false => simp [b2n]
theorem wt_pair {L : Ld} (hL : lOk L) {t s : Nat} (ht : t < l_M L) (hb : s.testBit t = false) : wt L s + wt L (s ||| 2 ^ t) = 16 * wo (cha L) (fun t => 16 - cha L t) t (l_M L) s := by
  have hc := cha_le hL ht
  have hb2 : (s ||| 2 ^ t).testBit t = true := by rw [or_pow_bit]; simp
  unfold wt
  rw [wt_fac (t := t) _ ht, wt_fac (t := t) (s := s ||| 2 ^ t) _ ht, hb, hb2, wo_flip, if_neg (by decide), if_pos rfl, ← Nat.mul_add, Nat.mul_comm]
  congr 1
  omega
theorem sm_wt16 {L : Ld} (hL : lOk L) : fb_sm (wt L) (2 ^ l_M L) = 16 ^ l_M L := sm_wt (l_M L) (fun t ht => by have := cha_le hL ht; omega)
theorem pow16_le {n : Nat} (h : n ≤ 15) : 16 ^ n ≤ 1152921504606846976 := Nat.pow_le_pow_right (n := 16) (by decide) h
theorem sm_le_wt {L : Ld} (hL : lOk L) {F : Nat → Nat} (h : ∀ s, s < 2 ^ l_M L → F s ≤ wt L s) : fb_sm F (2 ^ l_M L) ≤ 1152921504606846976 := by
  refine Nat.le_trans (fb_sm_le h) ?_
  rw [sm_wt16 hL]
  exact pow16_le (lM_15 hL)
/-! longs over plain numbers -/
theorem lN_tI {n : Nat} (h : n < 2 ^ 63) : (lN n).toInt = (n : Int) := by
  show (Int64.ofNat n).toInt = _
  rw [Int64.toInt_ofNat_of_lt h]
theorem lN_leL {a b : Nat} (ha : a < 2 ^ 63) (hb : b < 2 ^ 63) : lN a ≤ lN b ↔ a ≤ b := by
  rw [Int64.le_iff_toInt_le, lN_tI ha, lN_tI hb]; omega
theorem lN_ltL {a b : Nat} (ha : a < 2 ^ 63) (hb : b < 2 ^ 63) : lN a < lN b ↔ a < b := by
  rw [Int64.lt_iff_toInt_lt, lN_tI ha, lN_tI hb]; omega
theorem lN_eqL {a b : Nat} (ha : a < 2 ^ 63) (hb : b < 2 ^ 63) : lN a = lN b ↔ a = b := by
  rw [← Int64.toInt_inj, lN_tI ha, lN_tI hb]; omega
theorem lN_div {a : Nat} (ha : a < 2 ^ 63) : lN a / 16 = lN (a / 16) := by
  apply Int64.toInt_inj.mp
  have h16 : (16 : Int64) = lN 16 := rfl
  rw [h16, lN_tI (n := a / 16) (by omega), Int64.toInt_div_of_ne_right, lN_tI ha, lN_tI (n := 16) (by omega)]
  · rw [Int.tdiv_eq_ediv_of_nonneg (by omega)]; omega
  · decide
