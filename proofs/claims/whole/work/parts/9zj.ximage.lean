/-! image and restore, the developers' -/
def upI (I : Nat → Option (Ld × Nt)) (p : Nat) (v : Option (Ld × Nt)) : Nat → Option (Ld × Nt) := fun i => if i = p then v else I i
theorem upI_s (I : Nat → Option (Ld × Nt)) (p : Nat) (v : Option (Ld × Nt)) : upI I p v p = v := by unfold upI; rw [if_pos rfl]
theorem upI_n {I : Nat → Option (Ld × Nt)} {p i : Nat} {v : Option (Ld × Nt)} (h : i ≠ p) : upI I p v i = I i := by unfold upI; rw [if_neg h]
def pB (c d i : Nat) : Bool := Nat.beq i 6 || ((Nat.ble (100 * c) i && Nat.ble i (100 * c + 99)) || (Nat.ble (100 * d) i && Nat.ble i (100 * d + 99)))
def pR (c d r : Nat) : Bool := (Nat.ble (c + 1) r && Nat.ble r (c + 10)) || (Nat.ble (d + 1) r && Nat.ble r (d + 6))
theorem ble_f {a b : Nat} (h : b < a) : Nat.ble a b = false := by
  cases w : Nat.ble a b with
  | false => rfl
  | true => have := Nat.le_of_ble_eq_true w; omega
theorem pB_f {c d i : Nat} (h6 : i ≠ 6) (h1 : i < 100 * c ∨ 100 * c + 99 < i) (h2 : i < 100 * d ∨ 100 * d + 99 < i) : pB c d i = false := by
  have a : Nat.beq i 6 = false := by
    cases w : Nat.beq i 6 with
    | false => rfl
    | true => exact absurd (Nat.eq_of_beq_eq_true w) h6
  have b : (Nat.ble (100 * c) i && Nat.ble i (100 * c + 99)) = false := by
    rcases h1 with h | h
    · rw [ble_f h]; rfl
    · rw [ble_f h, Bool.and_false]
  have e : (Nat.ble (100 * d) i && Nat.ble i (100 * d + 99)) = false := by
    rcases h2 with h | h
    · rw [ble_f h]; rfl
    · rw [ble_f h, Bool.and_false]
  unfold pB
  rw [a, b, e]; rfl
theorem pR_f {c d r : Nat} (h1 : r < c + 1 ∨ c + 10 < r) (h2 : r < d + 1 ∨ d + 6 < r) : pR c d r = false := by
  have b : (Nat.ble (c + 1) r && Nat.ble r (c + 10)) = false := by
    rcases h1 with h | h
    · rw [ble_f h]; rfl
    · rw [ble_f h, Bool.and_false]
  have e : (Nat.ble (d + 1) r && Nat.ble r (d + 6)) = false := by
    rcases h2 with h | h
    · rw [ble_f h]; rfl
    · rw [ble_f h, Bool.and_false]
  unfold pR
  rw [b, e]; rfl
/-- one image more -/
theorem XIm_new {S S' : wd_W} {I : Nat → Option (Ld × Nt)} {p : Nat} {L : Ld} {T : Nt} (h : XIm S I) (hp : p < 4) (h6 : S'.1 6 = S.1 6 ||| nI (2 ^ p)) (e1 : ∀ i, pB (34 + 11 * p) (78 + 7 * p) i = false → S'.1 i = S.1 i) (e3 : ∀ r, pR (34 + 11 * p) (78 + 7 * p) r = false → S'.2.2.1 r = S.2.2.1 r) (hln : lnOk L T) (hl : xL S' (34 + 11 * p) L) (ht : xT S' (78 + 7 * p) T) : XIm S' (upI I p (some (L, T))) := by
  obtain ⟨m, m1, m2, m3⟩ := h
  refine ⟨m ||| 2 ^ p, or_pow_lt (n := 4) m1 hp, by rw [h6, m2, oI_or], fun i hi => ?_⟩
  by_cases e : i = p
  · subst e
    rw [upI_s, or_pow_bit, decide_eq_true rfl, Bool.or_true]
    refine ⟨rfl, fun L' T' hE => ?_⟩
    cases hE
    exact ⟨hln, hl, ht⟩
  · rw [upI_n e, or_pow_bit, decide_eq_false (fun z => e z.symm), Bool.or_false]
    refine ⟨(m3 i hi).1, fun L' T' hE => ?_⟩
    obtain ⟨g1, g2, g3⟩ := (m3 i hi).2 L' T' hE
    exact ⟨g1, xL_eq (fun j hj hj2 => e1 j (pB_f (by omega) (by omega) (by omega))) (fun j hj hj2 => e3 j (pR_f (by omega) (by omega))) g2, xT_eq (fun j hj hj2 => e1 j (pB_f (by omega) (by omega) (by omega))) (fun j hj hj2 => e3 j (pR_f (by omega) (by omega))) g3⟩
theorem xL_cp {S S' : wd_W} {L : Ld} {c0 c : Nat} (hL : lOk L) (hc3 : l_c L ≤ 3) (h : xL S c0 L) (e0 : S'.1 (100 * c) = S.1 (100 * c0)) (e1 : S'.1 (100 * c + 1) = S.1 (100 * c0 + 1)) (e7 : S'.1 (100 * c + 7) = S.1 (100 * c0 + 7)) (e10 : S'.1 (100 * c + 10) = S.1 (100 * c0 + 10)) (e14 : S'.1 (100 * c + 14) = S.1 (100 * c0 + 14)) (e15 : S'.1 (100 * c + 15) = S.1 (100 * c0 + 15)) (e16 : S'.1 (100 * c + 16) = S.1 (100 * c0 + 16)) (e17 : S'.1 (100 * c + 17) = S.1 (100 * c0 + 17))
    (r1 : ∀ k, k < 13 → S'.2.2.1 (c + 1) k = S.2.2.1 (c0 + 1) k) (r2 : ∀ k, k < 13 → S'.2.2.1 (c + 2) k = S.2.2.1 (c0 + 2) k) (r3 : ∀ k, k < 13 → S'.2.2.1 (c + 3) k = S.2.2.1 (c0 + 3) k) (r4 : ∀ k, k < 13 → S'.2.2.1 (c + 4) k = S.2.2.1 (c0 + 4) k) (r5 : ∀ k, k < 13 → S'.2.2.1 (c + 5) k = S.2.2.1 (c0 + 5) k) (r6 : ∀ k, k < 10 → S'.2.2.1 (c + 6) k = S.2.2.1 (c0 + 6) k) (r7 : ∀ k, k < 10 → S'.2.2.1 (c + 7) k = S.2.2.1 (c0 + 7) k) (r8 : ∀ k, k < 3 → S'.2.2.1 (c + 8) k = S.2.2.1 (c0 + 8) k) (r9 : ∀ k, k < 3 → S'.2.2.1 (c + 9) k = S.2.2.1 (c0 + 9) k) (r10 : ∀ k, k < 3 → S'.2.2.1 (c + 10) k = S.2.2.1 (c0 + 10) k) : xL S' c L := by
  have g3 := hL.1.2.2.1
  have g4 := hL.1.2.2.2.1
  obtain ⟨⟨h0, h1, h2, h3, h4, h5, h6, h7⟩, k1, k2, k3⟩ := h
  refine ⟨⟨e0.trans h0, e1.trans h1, e7.trans h2, e10.trans h3, e14.trans h4, e15.trans h5, e16.trans h6, e17.trans h7⟩, fun k hk => ?_, fun k hk => ?_, fun k hk => ?_⟩
  · rw [r1 k (by omega), r2 k (by omega), r3 k (by omega), r4 k (by omega), r5 k (by omega)]; exact k1 k hk
  · rw [r6 k (by omega), r7 k (by omega)]; exact k2 k hk
  · rw [r8 k (by omega), r9 k (by omega), r10 k (by omega)]; exact k3 k hk
theorem xT_cp {S S' : wd_W} {L : Ld} {T : Nt} {c0 c : Nat} (hT : nOk L T) (h : xT S c0 T) (e0 : S'.1 (100 * c) = S.1 (100 * c0)) (e4 : S'.1 (100 * c + 4) = S.1 (100 * c0 + 4)) (r1 : ∀ k, k < 9 → S'.2.2.1 (c + 1) k = S.2.2.1 (c0 + 1) k) (r2 : ∀ k, k < 9 → S'.2.2.1 (c + 2) k = S.2.2.1 (c0 + 2) k) (r3 : ∀ k, k < 9 → S'.2.2.1 (c + 3) k = S.2.2.1 (c0 + 3) k) (r4 : ∀ k, k < 6 → S'.2.2.1 (c + 4) k = S.2.2.1 (c0 + 4) k) (r5 : ∀ k, k < 6 → S'.2.2.1 (c + 5) k = S.2.2.1 (c0 + 5) k) (r6 : ∀ k, k < 6 → S'.2.2.1 (c + 6) k = S.2.2.1 (c0 + 6) k) : xT S' c T := by
  have n0 := hT.1.1
  have n4 := hT.2.1
  obtain ⟨h0, h4, k1, k2⟩ := h
  refine ⟨e0.trans h0, e4.trans h4, fun k hk => ?_, fun k hk => ?_⟩
  · rw [r1 k (by omega), r2 k (by omega), r3 k (by omega)]; exact k1 k hk
  · rw [r4 k (by omega), r5 k (by omega), r6 k (by omega)]; exact k2 k hk
theorem cpL_34_16 (S : wd_W) : f_X2_copyOf_q34_q16 S = some (S.1 1600, S.1 1601, S.1 1607, S.1 1610, S.1 1614, S.1 1615, S.1 1616, S.1 1617, va_cpy (S.2.2.1 17) (S.2.2.1 35) 0 0 13, va_cpy (S.2.2.1 18) (S.2.2.1 36) 0 0 13, va_cpy (S.2.2.1 19) (S.2.2.1 37) 0 0 13, va_cpy (S.2.2.1 20) (S.2.2.1 38) 0 0 13, va_cpy (S.2.2.1 21) (S.2.2.1 39) 0 0 13, va_cpy (S.2.2.1 22) (S.2.2.1 40) 0 0 10, va_cpy (S.2.2.1 23) (S.2.2.1 41) 0 0 10, va_cpy (S.2.2.1 24) (S.2.2.1 42) 0 0 3, va_cpy (S.2.2.1 25) (S.2.2.1 43) 0 0 3, va_cpy (S.2.2.1 26) (S.2.2.1 44) 0 0 3) := rfl
theorem cpT_78_27 (S : wd_W) : f_X6_copyOf_q78_q27 S = some (S.1 2700, S.1 2704, va_cpy (S.2.2.1 28) (S.2.2.1 79) 0 0 9, va_cpy (S.2.2.1 29) (S.2.2.1 80) 0 0 9, va_cpy (S.2.2.1 30) (S.2.2.1 81) 0 0 9, va_cpy (S.2.2.1 31) (S.2.2.1 82) 0 0 6, va_cpy (S.2.2.1 32) (S.2.2.1 83) 0 0 6, va_cpy (S.2.2.1 33) (S.2.2.1 84) 0 0 6) := rfl
theorem cpL_16_34 (S : wd_W) : f_X2_copyOf_q16_q34 S = some (S.1 3400, S.1 3401, S.1 3407, S.1 3410, S.1 3414, S.1 3415, S.1 3416, S.1 3417, va_cpy (S.2.2.1 35) (S.2.2.1 17) 0 0 13, va_cpy (S.2.2.1 36) (S.2.2.1 18) 0 0 13, va_cpy (S.2.2.1 37) (S.2.2.1 19) 0 0 13, va_cpy (S.2.2.1 38) (S.2.2.1 20) 0 0 13, va_cpy (S.2.2.1 39) (S.2.2.1 21) 0 0 13, va_cpy (S.2.2.1 40) (S.2.2.1 22) 0 0 10, va_cpy (S.2.2.1 41) (S.2.2.1 23) 0 0 10, va_cpy (S.2.2.1 42) (S.2.2.1 24) 0 0 3, va_cpy (S.2.2.1 43) (S.2.2.1 25) 0 0 3, va_cpy (S.2.2.1 44) (S.2.2.1 26) 0 0 3) := rfl
theorem cpT_27_78 (S : wd_W) : f_X6_copyOf_q27_q78 S = some (S.1 7800, S.1 7804, va_cpy (S.2.2.1 79) (S.2.2.1 28) 0 0 9, va_cpy (S.2.2.1 80) (S.2.2.1 29) 0 0 9, va_cpy (S.2.2.1 81) (S.2.2.1 30) 0 0 9, va_cpy (S.2.2.1 82) (S.2.2.1 31) 0 0 6, va_cpy (S.2.2.1 83) (S.2.2.1 32) 0 0 6, va_cpy (S.2.2.1 84) (S.2.2.1 33) 0 0 6) := rfl
theorem cpL_45_16 (S : wd_W) : f_X2_copyOf_q45_q16 S = some (S.1 1600, S.1 1601, S.1 1607, S.1 1610, S.1 1614, S.1 1615, S.1 1616, S.1 1617, va_cpy (S.2.2.1 17) (S.2.2.1 46) 0 0 13, va_cpy (S.2.2.1 18) (S.2.2.1 47) 0 0 13, va_cpy (S.2.2.1 19) (S.2.2.1 48) 0 0 13, va_cpy (S.2.2.1 20) (S.2.2.1 49) 0 0 13, va_cpy (S.2.2.1 21) (S.2.2.1 50) 0 0 13, va_cpy (S.2.2.1 22) (S.2.2.1 51) 0 0 10, va_cpy (S.2.2.1 23) (S.2.2.1 52) 0 0 10, va_cpy (S.2.2.1 24) (S.2.2.1 53) 0 0 3, va_cpy (S.2.2.1 25) (S.2.2.1 54) 0 0 3, va_cpy (S.2.2.1 26) (S.2.2.1 55) 0 0 3) := rfl
theorem cpT_85_27 (S : wd_W) : f_X6_copyOf_q85_q27 S = some (S.1 2700, S.1 2704, va_cpy (S.2.2.1 28) (S.2.2.1 86) 0 0 9, va_cpy (S.2.2.1 29) (S.2.2.1 87) 0 0 9, va_cpy (S.2.2.1 30) (S.2.2.1 88) 0 0 9, va_cpy (S.2.2.1 31) (S.2.2.1 89) 0 0 6, va_cpy (S.2.2.1 32) (S.2.2.1 90) 0 0 6, va_cpy (S.2.2.1 33) (S.2.2.1 91) 0 0 6) := rfl
theorem cpL_16_45 (S : wd_W) : f_X2_copyOf_q16_q45 S = some (S.1 4500, S.1 4501, S.1 4507, S.1 4510, S.1 4514, S.1 4515, S.1 4516, S.1 4517, va_cpy (S.2.2.1 46) (S.2.2.1 17) 0 0 13, va_cpy (S.2.2.1 47) (S.2.2.1 18) 0 0 13, va_cpy (S.2.2.1 48) (S.2.2.1 19) 0 0 13, va_cpy (S.2.2.1 49) (S.2.2.1 20) 0 0 13, va_cpy (S.2.2.1 50) (S.2.2.1 21) 0 0 13, va_cpy (S.2.2.1 51) (S.2.2.1 22) 0 0 10, va_cpy (S.2.2.1 52) (S.2.2.1 23) 0 0 10, va_cpy (S.2.2.1 53) (S.2.2.1 24) 0 0 3, va_cpy (S.2.2.1 54) (S.2.2.1 25) 0 0 3, va_cpy (S.2.2.1 55) (S.2.2.1 26) 0 0 3) := rfl
theorem cpT_27_85 (S : wd_W) : f_X6_copyOf_q27_q85 S = some (S.1 8500, S.1 8504, va_cpy (S.2.2.1 86) (S.2.2.1 28) 0 0 9, va_cpy (S.2.2.1 87) (S.2.2.1 29) 0 0 9, va_cpy (S.2.2.1 88) (S.2.2.1 30) 0 0 9, va_cpy (S.2.2.1 89) (S.2.2.1 31) 0 0 6, va_cpy (S.2.2.1 90) (S.2.2.1 32) 0 0 6, va_cpy (S.2.2.1 91) (S.2.2.1 33) 0 0 6) := rfl
theorem cpL_56_16 (S : wd_W) : f_X2_copyOf_q56_q16 S = some (S.1 1600, S.1 1601, S.1 1607, S.1 1610, S.1 1614, S.1 1615, S.1 1616, S.1 1617, va_cpy (S.2.2.1 17) (S.2.2.1 57) 0 0 13, va_cpy (S.2.2.1 18) (S.2.2.1 58) 0 0 13, va_cpy (S.2.2.1 19) (S.2.2.1 59) 0 0 13, va_cpy (S.2.2.1 20) (S.2.2.1 60) 0 0 13, va_cpy (S.2.2.1 21) (S.2.2.1 61) 0 0 13, va_cpy (S.2.2.1 22) (S.2.2.1 62) 0 0 10, va_cpy (S.2.2.1 23) (S.2.2.1 63) 0 0 10, va_cpy (S.2.2.1 24) (S.2.2.1 64) 0 0 3, va_cpy (S.2.2.1 25) (S.2.2.1 65) 0 0 3, va_cpy (S.2.2.1 26) (S.2.2.1 66) 0 0 3) := rfl
theorem cpT_92_27 (S : wd_W) : f_X6_copyOf_q92_q27 S = some (S.1 2700, S.1 2704, va_cpy (S.2.2.1 28) (S.2.2.1 93) 0 0 9, va_cpy (S.2.2.1 29) (S.2.2.1 94) 0 0 9, va_cpy (S.2.2.1 30) (S.2.2.1 95) 0 0 9, va_cpy (S.2.2.1 31) (S.2.2.1 96) 0 0 6, va_cpy (S.2.2.1 32) (S.2.2.1 97) 0 0 6, va_cpy (S.2.2.1 33) (S.2.2.1 98) 0 0 6) := rfl
theorem cpL_16_56 (S : wd_W) : f_X2_copyOf_q16_q56 S = some (S.1 5600, S.1 5601, S.1 5607, S.1 5610, S.1 5614, S.1 5615, S.1 5616, S.1 5617, va_cpy (S.2.2.1 57) (S.2.2.1 17) 0 0 13, va_cpy (S.2.2.1 58) (S.2.2.1 18) 0 0 13, va_cpy (S.2.2.1 59) (S.2.2.1 19) 0 0 13, va_cpy (S.2.2.1 60) (S.2.2.1 20) 0 0 13, va_cpy (S.2.2.1 61) (S.2.2.1 21) 0 0 13, va_cpy (S.2.2.1 62) (S.2.2.1 22) 0 0 10, va_cpy (S.2.2.1 63) (S.2.2.1 23) 0 0 10, va_cpy (S.2.2.1 64) (S.2.2.1 24) 0 0 3, va_cpy (S.2.2.1 65) (S.2.2.1 25) 0 0 3, va_cpy (S.2.2.1 66) (S.2.2.1 26) 0 0 3) := rfl
theorem cpT_27_92 (S : wd_W) : f_X6_copyOf_q27_q92 S = some (S.1 9200, S.1 9204, va_cpy (S.2.2.1 93) (S.2.2.1 28) 0 0 9, va_cpy (S.2.2.1 94) (S.2.2.1 29) 0 0 9, va_cpy (S.2.2.1 95) (S.2.2.1 30) 0 0 9, va_cpy (S.2.2.1 96) (S.2.2.1 31) 0 0 6, va_cpy (S.2.2.1 97) (S.2.2.1 32) 0 0 6, va_cpy (S.2.2.1 98) (S.2.2.1 33) 0 0 6) := rfl
theorem cpL_67_16 (S : wd_W) : f_X2_copyOf_q67_q16 S = some (S.1 1600, S.1 1601, S.1 1607, S.1 1610, S.1 1614, S.1 1615, S.1 1616, S.1 1617, va_cpy (S.2.2.1 17) (S.2.2.1 68) 0 0 13, va_cpy (S.2.2.1 18) (S.2.2.1 69) 0 0 13, va_cpy (S.2.2.1 19) (S.2.2.1 70) 0 0 13, va_cpy (S.2.2.1 20) (S.2.2.1 71) 0 0 13, va_cpy (S.2.2.1 21) (S.2.2.1 72) 0 0 13, va_cpy (S.2.2.1 22) (S.2.2.1 73) 0 0 10, va_cpy (S.2.2.1 23) (S.2.2.1 74) 0 0 10, va_cpy (S.2.2.1 24) (S.2.2.1 75) 0 0 3, va_cpy (S.2.2.1 25) (S.2.2.1 76) 0 0 3, va_cpy (S.2.2.1 26) (S.2.2.1 77) 0 0 3) := rfl
theorem cpT_99_27 (S : wd_W) : f_X6_copyOf_q99_q27 S = some (S.1 2700, S.1 2704, va_cpy (S.2.2.1 28) (S.2.2.1 100) 0 0 9, va_cpy (S.2.2.1 29) (S.2.2.1 101) 0 0 9, va_cpy (S.2.2.1 30) (S.2.2.1 102) 0 0 9, va_cpy (S.2.2.1 31) (S.2.2.1 103) 0 0 6, va_cpy (S.2.2.1 32) (S.2.2.1 104) 0 0 6, va_cpy (S.2.2.1 33) (S.2.2.1 105) 0 0 6) := rfl
theorem cpL_16_67 (S : wd_W) : f_X2_copyOf_q16_q67 S = some (S.1 6700, S.1 6701, S.1 6707, S.1 6710, S.1 6714, S.1 6715, S.1 6716, S.1 6717, va_cpy (S.2.2.1 68) (S.2.2.1 17) 0 0 13, va_cpy (S.2.2.1 69) (S.2.2.1 18) 0 0 13, va_cpy (S.2.2.1 70) (S.2.2.1 19) 0 0 13, va_cpy (S.2.2.1 71) (S.2.2.1 20) 0 0 13, va_cpy (S.2.2.1 72) (S.2.2.1 21) 0 0 13, va_cpy (S.2.2.1 73) (S.2.2.1 22) 0 0 10, va_cpy (S.2.2.1 74) (S.2.2.1 23) 0 0 10, va_cpy (S.2.2.1 75) (S.2.2.1 24) 0 0 3, va_cpy (S.2.2.1 76) (S.2.2.1 25) 0 0 3, va_cpy (S.2.2.1 77) (S.2.2.1 26) 0 0 3) := rfl
theorem cpT_27_99 (S : wd_W) : f_X6_copyOf_q27_q99 S = some (S.1 9900, S.1 9904, va_cpy (S.2.2.1 100) (S.2.2.1 28) 0 0 9, va_cpy (S.2.2.1 101) (S.2.2.1 29) 0 0 9, va_cpy (S.2.2.1 102) (S.2.2.1 30) 0 0 9, va_cpy (S.2.2.1 103) (S.2.2.1 31) 0 0 6, va_cpy (S.2.2.1 104) (S.2.2.1 32) 0 0 6, va_cpy (S.2.2.1 105) (S.2.2.1 33) 0 0 6) := rfl
def imgA (L : Ld) (p : Int32) : Int32 := if inB 0 3 p = true then nI (l_M L) else -1
def imgI (L : Ld) (T : Nt) (I : Nat → Option (Ld × Nt)) (p : Int32) : Nat → Option (Ld × Nt) := if inB 0 3 p = true then upI I p.toNatClampNeg (some (L, T)) else I
theorem x_image {S : wd_W} {st : Sta} {p1 : Int32} (h : XW S st) : Ok (f_X11_image S p1) (fun o => o.1 = imgA st.1 p1 ∧ xW S (st.1, st.2.1, st.2.2.1, imgI st.1 st.2.1 st.2.2.2.1 p1, st.2.2.2.2) o.2 0 0) := by
  obtain ⟨L, T, M, I, t⟩ := st
  have h0 := h
  obtain ⟨⟨hC, k, hk, h7, hn⟩, hm, hi, ht1, ht2, ht3⟩ := h
  dsimp only at hC hn hm hi ht1 ht2 ht3 ⊢
  have hln := hC.1
  obtain ⟨hL, hc3, hT⟩ := hC.1
  have hl : xL S 16 L := hC.2.1
  have hxT : xT S 27 T := hC.2.2.1
  have e3 : inB 0 (((4 : Nat) : Int) - 1) p1 = inB 0 3 p1 := rfl
  unfold f_X11_image imgA imgI
  rw [tst_lt (q := (4 : Int32)) (k := 4) rfl (by omega), e3]
  cases hin : inB 0 3 p1 with
  | false => exact ok_some ⟨rfl, h0, Nat.zero_le _, Nat.le_of_eq (Nat.zero_add _)⟩
  | true =>
  obtain ⟨p, hp, rfl, n1, n2⟩ := inB_t (by omega) hin
  rw [if_pos rfl, if_pos rfl, if_pos rfl, nI_clamp hp]
  rcases (show p = 0 ∨ p = 1 ∨ p = 2 ∨ p = 3 by omega) with rfl | rfl | rfl | rfl
  · rw [if_pos (show nI 0 = (0 : Int32) from rfl), bd_s (cpL_34_16 _)]
    refine ok_lz ?_
    rw [bd_s (cpT_78_27 _)]
    refine ok_lz (ok_lz ?_)
    refine ok_bd (P := fun o => o = nI (l_M L)) (ok_eq (x_things ?_)) ?_
    · exact hl
    rintro _ rfl
    refine ok_some ⟨rfl, ⟨⟨hC, k, hk, h7, fun b hb hbt => ?_⟩, hm, XIm_new (p := 0) hi (by omega) rfl (fun i hi => ?_) (fun i hi => ?_) hln (xL_cp (c0 := 16) hL hc3 hl rfl rfl rfl rfl rfl rfl rfl rfl (fun k hk => (cpy_in hk : va_cpy (S.2.2.1 17) (S.2.2.1 35) 0 0 13 k = S.2.2.1 17 k)) (fun k hk => (cpy_in hk : va_cpy (S.2.2.1 18) (S.2.2.1 36) 0 0 13 k = S.2.2.1 18 k)) (fun k hk => (cpy_in hk : va_cpy (S.2.2.1 19) (S.2.2.1 37) 0 0 13 k = S.2.2.1 19 k)) (fun k hk => (cpy_in hk : va_cpy (S.2.2.1 20) (S.2.2.1 38) 0 0 13 k = S.2.2.1 20 k)) (fun k hk => (cpy_in hk : va_cpy (S.2.2.1 21) (S.2.2.1 39) 0 0 13 k = S.2.2.1 21 k)) (fun k hk => (cpy_in hk : va_cpy (S.2.2.1 22) (S.2.2.1 40) 0 0 10 k = S.2.2.1 22 k)) (fun k hk => (cpy_in hk : va_cpy (S.2.2.1 23) (S.2.2.1 41) 0 0 10 k = S.2.2.1 23 k)) (fun k hk => (cpy_in hk : va_cpy (S.2.2.1 24) (S.2.2.1 42) 0 0 3 k = S.2.2.1 24 k)) (fun k hk => (cpy_in hk : va_cpy (S.2.2.1 25) (S.2.2.1 43) 0 0 3 k = S.2.2.1 25 k)) (fun k hk => (cpy_in hk : va_cpy (S.2.2.1 26) (S.2.2.1 44) 0 0 3 k = S.2.2.1 26 k))) (xT_cp (c0 := 27) hT hxT rfl rfl (fun k hk => (cpy_in hk : va_cpy (S.2.2.1 28) (S.2.2.1 79) 0 0 9 k = S.2.2.1 28 k)) (fun k hk => (cpy_in hk : va_cpy (S.2.2.1 29) (S.2.2.1 80) 0 0 9 k = S.2.2.1 29 k)) (fun k hk => (cpy_in hk : va_cpy (S.2.2.1 30) (S.2.2.1 81) 0 0 9 k = S.2.2.1 30 k)) (fun k hk => (cpy_in hk : va_cpy (S.2.2.1 31) (S.2.2.1 82) 0 0 6 k = S.2.2.1 31 k)) (fun k hk => (cpy_in hk : va_cpy (S.2.2.1 32) (S.2.2.1 83) 0 0 6 k = S.2.2.1 32 k)) (fun k hk => (cpy_in hk : va_cpy (S.2.2.1 33) (S.2.2.1 84) 0 0 6 k = S.2.2.1 33 k))), ht1, ht2, ht3⟩, Nat.zero_le _, Nat.le_of_eq (Nat.zero_add _)⟩
    · have hp := hn b hb hbt
      match b, hp with
      | 0, hp => exact hp
      | 1, hp => exact hp
      | 2, hp => exact hp
      | 3, hp => exact hp
      | 4, hp => exact hp
      | 5, hp => exact hp
      | 6, hp => exact hp
      | 7, hp => exact hp
      | _ + 8, hp => exact hp
    · exact (ov_nin (pB 34 78) hi rfl).trans ((ov_nin (pB 34 78) hi rfl).trans (ov_nin (pB 34 78) hi rfl))
    · exact (ov_nin (pR 34 78) hi rfl).trans (ov_nin (pR 34 78) hi rfl)
  · rw [if_neg (show ¬ nI 1 = (0 : Int32) by decide)]
    rw [if_pos (show nI 1 = (1 : Int32) from rfl), bd_s (cpL_45_16 _)]
    refine ok_lz ?_
    rw [bd_s (cpT_85_27 _)]
    refine ok_lz (ok_lz ?_)
    refine ok_bd (P := fun o => o = nI (l_M L)) (ok_eq (x_things ?_)) ?_
    · exact hl
    rintro _ rfl
    refine ok_some ⟨rfl, ⟨⟨hC, k, hk, h7, fun b hb hbt => ?_⟩, hm, XIm_new (p := 1) hi (by omega) rfl (fun i hi => ?_) (fun i hi => ?_) hln (xL_cp (c0 := 16) hL hc3 hl rfl rfl rfl rfl rfl rfl rfl rfl (fun k hk => (cpy_in hk : va_cpy (S.2.2.1 17) (S.2.2.1 46) 0 0 13 k = S.2.2.1 17 k)) (fun k hk => (cpy_in hk : va_cpy (S.2.2.1 18) (S.2.2.1 47) 0 0 13 k = S.2.2.1 18 k)) (fun k hk => (cpy_in hk : va_cpy (S.2.2.1 19) (S.2.2.1 48) 0 0 13 k = S.2.2.1 19 k)) (fun k hk => (cpy_in hk : va_cpy (S.2.2.1 20) (S.2.2.1 49) 0 0 13 k = S.2.2.1 20 k)) (fun k hk => (cpy_in hk : va_cpy (S.2.2.1 21) (S.2.2.1 50) 0 0 13 k = S.2.2.1 21 k)) (fun k hk => (cpy_in hk : va_cpy (S.2.2.1 22) (S.2.2.1 51) 0 0 10 k = S.2.2.1 22 k)) (fun k hk => (cpy_in hk : va_cpy (S.2.2.1 23) (S.2.2.1 52) 0 0 10 k = S.2.2.1 23 k)) (fun k hk => (cpy_in hk : va_cpy (S.2.2.1 24) (S.2.2.1 53) 0 0 3 k = S.2.2.1 24 k)) (fun k hk => (cpy_in hk : va_cpy (S.2.2.1 25) (S.2.2.1 54) 0 0 3 k = S.2.2.1 25 k)) (fun k hk => (cpy_in hk : va_cpy (S.2.2.1 26) (S.2.2.1 55) 0 0 3 k = S.2.2.1 26 k))) (xT_cp (c0 := 27) hT hxT rfl rfl (fun k hk => (cpy_in hk : va_cpy (S.2.2.1 28) (S.2.2.1 86) 0 0 9 k = S.2.2.1 28 k)) (fun k hk => (cpy_in hk : va_cpy (S.2.2.1 29) (S.2.2.1 87) 0 0 9 k = S.2.2.1 29 k)) (fun k hk => (cpy_in hk : va_cpy (S.2.2.1 30) (S.2.2.1 88) 0 0 9 k = S.2.2.1 30 k)) (fun k hk => (cpy_in hk : va_cpy (S.2.2.1 31) (S.2.2.1 89) 0 0 6 k = S.2.2.1 31 k)) (fun k hk => (cpy_in hk : va_cpy (S.2.2.1 32) (S.2.2.1 90) 0 0 6 k = S.2.2.1 32 k)) (fun k hk => (cpy_in hk : va_cpy (S.2.2.1 33) (S.2.2.1 91) 0 0 6 k = S.2.2.1 33 k))), ht1, ht2, ht3⟩, Nat.zero_le _, Nat.le_of_eq (Nat.zero_add _)⟩
    · have hp := hn b hb hbt
      match b, hp with
      | 0, hp => exact hp
      | 1, hp => exact hp
      | 2, hp => exact hp
      | 3, hp => exact hp
      | 4, hp => exact hp
      | 5, hp => exact hp
      | 6, hp => exact hp
      | 7, hp => exact hp
      | _ + 8, hp => exact hp
    · exact (ov_nin (pB 45 85) hi rfl).trans ((ov_nin (pB 45 85) hi rfl).trans (ov_nin (pB 45 85) hi rfl))
    · exact (ov_nin (pR 45 85) hi rfl).trans (ov_nin (pR 45 85) hi rfl)
  · rw [if_neg (show ¬ nI 2 = (0 : Int32) by decide)]
    rw [if_neg (show ¬ nI 2 = (1 : Int32) by decide)]
    rw [if_pos (show nI 2 = (2 : Int32) from rfl), bd_s (cpL_56_16 _)]
    refine ok_lz ?_
    rw [bd_s (cpT_92_27 _)]
    refine ok_lz (ok_lz ?_)
    refine ok_bd (P := fun o => o = nI (l_M L)) (ok_eq (x_things ?_)) ?_
    · exact hl
    rintro _ rfl
    refine ok_some ⟨rfl, ⟨⟨hC, k, hk, h7, fun b hb hbt => ?_⟩, hm, XIm_new (p := 2) hi (by omega) rfl (fun i hi => ?_) (fun i hi => ?_) hln (xL_cp (c0 := 16) hL hc3 hl rfl rfl rfl rfl rfl rfl rfl rfl (fun k hk => (cpy_in hk : va_cpy (S.2.2.1 17) (S.2.2.1 57) 0 0 13 k = S.2.2.1 17 k)) (fun k hk => (cpy_in hk : va_cpy (S.2.2.1 18) (S.2.2.1 58) 0 0 13 k = S.2.2.1 18 k)) (fun k hk => (cpy_in hk : va_cpy (S.2.2.1 19) (S.2.2.1 59) 0 0 13 k = S.2.2.1 19 k)) (fun k hk => (cpy_in hk : va_cpy (S.2.2.1 20) (S.2.2.1 60) 0 0 13 k = S.2.2.1 20 k)) (fun k hk => (cpy_in hk : va_cpy (S.2.2.1 21) (S.2.2.1 61) 0 0 13 k = S.2.2.1 21 k)) (fun k hk => (cpy_in hk : va_cpy (S.2.2.1 22) (S.2.2.1 62) 0 0 10 k = S.2.2.1 22 k)) (fun k hk => (cpy_in hk : va_cpy (S.2.2.1 23) (S.2.2.1 63) 0 0 10 k = S.2.2.1 23 k)) (fun k hk => (cpy_in hk : va_cpy (S.2.2.1 24) (S.2.2.1 64) 0 0 3 k = S.2.2.1 24 k)) (fun k hk => (cpy_in hk : va_cpy (S.2.2.1 25) (S.2.2.1 65) 0 0 3 k = S.2.2.1 25 k)) (fun k hk => (cpy_in hk : va_cpy (S.2.2.1 26) (S.2.2.1 66) 0 0 3 k = S.2.2.1 26 k))) (xT_cp (c0 := 27) hT hxT rfl rfl (fun k hk => (cpy_in hk : va_cpy (S.2.2.1 28) (S.2.2.1 93) 0 0 9 k = S.2.2.1 28 k)) (fun k hk => (cpy_in hk : va_cpy (S.2.2.1 29) (S.2.2.1 94) 0 0 9 k = S.2.2.1 29 k)) (fun k hk => (cpy_in hk : va_cpy (S.2.2.1 30) (S.2.2.1 95) 0 0 9 k = S.2.2.1 30 k)) (fun k hk => (cpy_in hk : va_cpy (S.2.2.1 31) (S.2.2.1 96) 0 0 6 k = S.2.2.1 31 k)) (fun k hk => (cpy_in hk : va_cpy (S.2.2.1 32) (S.2.2.1 97) 0 0 6 k = S.2.2.1 32 k)) (fun k hk => (cpy_in hk : va_cpy (S.2.2.1 33) (S.2.2.1 98) 0 0 6 k = S.2.2.1 33 k))), ht1, ht2, ht3⟩, Nat.zero_le _, Nat.le_of_eq (Nat.zero_add _)⟩
    · have hp := hn b hb hbt
      match b, hp with
      | 0, hp => exact hp
      | 1, hp => exact hp
      | 2, hp => exact hp
      | 3, hp => exact hp
      | 4, hp => exact hp
      | 5, hp => exact hp
      | 6, hp => exact hp
      | 7, hp => exact hp
      | _ + 8, hp => exact hp
    · exact (ov_nin (pB 56 92) hi rfl).trans ((ov_nin (pB 56 92) hi rfl).trans (ov_nin (pB 56 92) hi rfl))
    · exact (ov_nin (pR 56 92) hi rfl).trans (ov_nin (pR 56 92) hi rfl)
  · rw [if_neg (show ¬ nI 3 = (0 : Int32) by decide)]
    rw [if_neg (show ¬ nI 3 = (1 : Int32) by decide)]
    rw [if_neg (show ¬ nI 3 = (2 : Int32) by decide)]
    rw [if_pos (show nI 3 = (3 : Int32) from rfl), bd_s (cpL_67_16 _)]
    refine ok_lz ?_
    rw [bd_s (cpT_99_27 _)]
    refine ok_lz (ok_lz ?_)
    refine ok_bd (P := fun o => o = nI (l_M L)) (ok_eq (x_things ?_)) ?_
    · exact hl
    rintro _ rfl
    refine ok_some ⟨rfl, ⟨⟨hC, k, hk, h7, fun b hb hbt => ?_⟩, hm, XIm_new (p := 3) hi (by omega) rfl (fun i hi => ?_) (fun i hi => ?_) hln (xL_cp (c0 := 16) hL hc3 hl rfl rfl rfl rfl rfl rfl rfl rfl (fun k hk => (cpy_in hk : va_cpy (S.2.2.1 17) (S.2.2.1 68) 0 0 13 k = S.2.2.1 17 k)) (fun k hk => (cpy_in hk : va_cpy (S.2.2.1 18) (S.2.2.1 69) 0 0 13 k = S.2.2.1 18 k)) (fun k hk => (cpy_in hk : va_cpy (S.2.2.1 19) (S.2.2.1 70) 0 0 13 k = S.2.2.1 19 k)) (fun k hk => (cpy_in hk : va_cpy (S.2.2.1 20) (S.2.2.1 71) 0 0 13 k = S.2.2.1 20 k)) (fun k hk => (cpy_in hk : va_cpy (S.2.2.1 21) (S.2.2.1 72) 0 0 13 k = S.2.2.1 21 k)) (fun k hk => (cpy_in hk : va_cpy (S.2.2.1 22) (S.2.2.1 73) 0 0 10 k = S.2.2.1 22 k)) (fun k hk => (cpy_in hk : va_cpy (S.2.2.1 23) (S.2.2.1 74) 0 0 10 k = S.2.2.1 23 k)) (fun k hk => (cpy_in hk : va_cpy (S.2.2.1 24) (S.2.2.1 75) 0 0 3 k = S.2.2.1 24 k)) (fun k hk => (cpy_in hk : va_cpy (S.2.2.1 25) (S.2.2.1 76) 0 0 3 k = S.2.2.1 25 k)) (fun k hk => (cpy_in hk : va_cpy (S.2.2.1 26) (S.2.2.1 77) 0 0 3 k = S.2.2.1 26 k))) (xT_cp (c0 := 27) hT hxT rfl rfl (fun k hk => (cpy_in hk : va_cpy (S.2.2.1 28) (S.2.2.1 100) 0 0 9 k = S.2.2.1 28 k)) (fun k hk => (cpy_in hk : va_cpy (S.2.2.1 29) (S.2.2.1 101) 0 0 9 k = S.2.2.1 29 k)) (fun k hk => (cpy_in hk : va_cpy (S.2.2.1 30) (S.2.2.1 102) 0 0 9 k = S.2.2.1 30 k)) (fun k hk => (cpy_in hk : va_cpy (S.2.2.1 31) (S.2.2.1 103) 0 0 6 k = S.2.2.1 31 k)) (fun k hk => (cpy_in hk : va_cpy (S.2.2.1 32) (S.2.2.1 104) 0 0 6 k = S.2.2.1 32 k)) (fun k hk => (cpy_in hk : va_cpy (S.2.2.1 33) (S.2.2.1 105) 0 0 6 k = S.2.2.1 33 k))), ht1, ht2, ht3⟩, Nat.zero_le _, Nat.le_of_eq (Nat.zero_add _)⟩
    · have hp := hn b hb hbt
      match b, hp with
      | 0, hp => exact hp
      | 1, hp => exact hp
      | 2, hp => exact hp
      | 3, hp => exact hp
      | 4, hp => exact hp
      | 5, hp => exact hp
      | 6, hp => exact hp
      | 7, hp => exact hp
      | _ + 8, hp => exact hp
    · exact (ov_nin (pB 67 99) hi rfl).trans ((ov_nin (pB 67 99) hi rfl).trans (ov_nin (pB 67 99) hi rfl))
    · exact (ov_nin (pR 67 99) hi rfl).trans (ov_nin (pR 67 99) hi rfl)
def rstS (st : Sta) (p : Int32) : Sta := if inB 0 3 p = true then (match st.2.2.2.1 p.toNatClampNeg with
  | some (L, T) => (L, T, (-1, -1), st.2.2.2.1, st.2.2.2.2)
  | none => st) else st
def rstA (st : Sta) (p : Int32) : Int32 := if inB 0 3 p = true then (match st.2.2.2.1 p.toNatClampNeg with
  | some (L, _) => nI (l_M L)
  | none => -1) else -1
theorem x_restore {S : wd_W} {st : Sta} {p1 : Int32} (h : XW S st) : Ok (f_X11_restore S p1) (fun o => o.1 = rstA st p1 ∧ xW S (rstS st p1) o.2 0 0) := by
  obtain ⟨L, T, M, I, t⟩ := st
  have h0 := h
  obtain ⟨⟨hC, k, hk, h7, hn⟩, hm, hi, ht1, ht2, ht3⟩ := h
  dsimp only at hC hn hm hi ht1 ht2 ht3
  have hi0 := hi
  obtain ⟨m, m1, m2, m3⟩ := hi
  have e3 : inB 0 (((4 : Nat) : Int) - 1) p1 = inB 0 3 p1 := rfl
  unfold f_X11_restore rstA rstS
  rw [tst_ge (q := (4 : Int32)) (k := 4) rfl (by omega), e3]
  cases hin : inB 0 3 p1 with
  | false => exact ok_some ⟨rfl, h0, Nat.zero_le _, Nat.le_of_eq (Nat.zero_add _)⟩
  | true =>
  obtain ⟨p, hp, rfl, n1, n2⟩ := inB_t (by omega) hin
  have ebit : (nI m >>> (nI p &&& 31)) &&& (1 : Int32) = nI (b2n (m.testBit p)) := oI_tb (by omega) (by omega)
  rw [if_pos rfl, if_pos rfl, if_pos rfl, nI_clamp hp, m2, ebit]
  obtain ⟨q1, q2⟩ := m3 p (by omega)
  dsimp only
  refine ok_b (fun z => ?_) (fun z => ?_)
  · rw [z] at q1
    cases hI : I p with
    | some v => rw [hI] at q1; cases q1
    | none => exact ok_some ⟨rfl, h0, Nat.zero_le _, Nat.le_of_eq (Nat.zero_add _)⟩
  rw [z] at q1
  cases hI : I p with
  | none => rw [hI] at q1; cases q1
  | some v =>
  obtain ⟨L', T'⟩ := v
  obtain ⟨hln, hl, hxT⟩ := q2 L' T' hI
  obtain ⟨hL, hc3, hT⟩ := hln
  dsimp only
  rcases (show p = 0 ∨ p = 1 ∨ p = 2 ∨ p = 3 by omega) with rfl | rfl | rfl | rfl
  · rw [if_pos (show nI 0 = (0 : Int32) from rfl), bd_s (cpL_16_34 _)]
    refine ok_lz ?_
    rw [bd_s (cpT_27_78 _)]
    refine ok_lz ?_
    unfold f_X11_forget
    rw [bd_some]
    have hl2 := hl
    refine ok_bd (P := fun o => o = nI (l_M L')) (ok_eq (x_things ?_)) ?_
    · exact (xL_cp (c0 := 34) hL hc3 hl rfl rfl rfl rfl rfl rfl rfl rfl (fun k hk => (cpy_in hk : va_cpy (S.2.2.1 35) (S.2.2.1 17) 0 0 13 k = S.2.2.1 35 k)) (fun k hk => (cpy_in hk : va_cpy (S.2.2.1 36) (S.2.2.1 18) 0 0 13 k = S.2.2.1 36 k)) (fun k hk => (cpy_in hk : va_cpy (S.2.2.1 37) (S.2.2.1 19) 0 0 13 k = S.2.2.1 37 k)) (fun k hk => (cpy_in hk : va_cpy (S.2.2.1 38) (S.2.2.1 20) 0 0 13 k = S.2.2.1 38 k)) (fun k hk => (cpy_in hk : va_cpy (S.2.2.1 39) (S.2.2.1 21) 0 0 13 k = S.2.2.1 39 k)) (fun k hk => (cpy_in hk : va_cpy (S.2.2.1 40) (S.2.2.1 22) 0 0 10 k = S.2.2.1 40 k)) (fun k hk => (cpy_in hk : va_cpy (S.2.2.1 41) (S.2.2.1 23) 0 0 10 k = S.2.2.1 41 k)) (fun k hk => (cpy_in hk : va_cpy (S.2.2.1 42) (S.2.2.1 24) 0 0 3 k = S.2.2.1 42 k)) (fun k hk => (cpy_in hk : va_cpy (S.2.2.1 43) (S.2.2.1 25) 0 0 3 k = S.2.2.1 43 k)) (fun k hk => (cpy_in hk : va_cpy (S.2.2.1 44) (S.2.2.1 26) 0 0 3 k = S.2.2.1 44 k)))
    rintro _ rfl
    refine ok_some ⟨rfl, ⟨⟨⟨⟨hL, hc3, hT⟩, (xL_cp (c0 := 34) hL hc3 hl rfl rfl rfl rfl rfl rfl rfl rfl (fun k hk => (cpy_in hk : va_cpy (S.2.2.1 35) (S.2.2.1 17) 0 0 13 k = S.2.2.1 35 k)) (fun k hk => (cpy_in hk : va_cpy (S.2.2.1 36) (S.2.2.1 18) 0 0 13 k = S.2.2.1 36 k)) (fun k hk => (cpy_in hk : va_cpy (S.2.2.1 37) (S.2.2.1 19) 0 0 13 k = S.2.2.1 37 k)) (fun k hk => (cpy_in hk : va_cpy (S.2.2.1 38) (S.2.2.1 20) 0 0 13 k = S.2.2.1 38 k)) (fun k hk => (cpy_in hk : va_cpy (S.2.2.1 39) (S.2.2.1 21) 0 0 13 k = S.2.2.1 39 k)) (fun k hk => (cpy_in hk : va_cpy (S.2.2.1 40) (S.2.2.1 22) 0 0 10 k = S.2.2.1 40 k)) (fun k hk => (cpy_in hk : va_cpy (S.2.2.1 41) (S.2.2.1 23) 0 0 10 k = S.2.2.1 41 k)) (fun k hk => (cpy_in hk : va_cpy (S.2.2.1 42) (S.2.2.1 24) 0 0 3 k = S.2.2.1 42 k)) (fun k hk => (cpy_in hk : va_cpy (S.2.2.1 43) (S.2.2.1 25) 0 0 3 k = S.2.2.1 43 k)) (fun k hk => (cpy_in hk : va_cpy (S.2.2.1 44) (S.2.2.1 26) 0 0 3 k = S.2.2.1 44 k))), (xT_cp (c0 := 78) hT hxT rfl rfl (fun k hk => (cpy_in hk : va_cpy (S.2.2.1 79) (S.2.2.1 28) 0 0 9 k = S.2.2.1 79 k)) (fun k hk => (cpy_in hk : va_cpy (S.2.2.1 80) (S.2.2.1 29) 0 0 9 k = S.2.2.1 80 k)) (fun k hk => (cpy_in hk : va_cpy (S.2.2.1 81) (S.2.2.1 30) 0 0 9 k = S.2.2.1 81 k)) (fun k hk => (cpy_in hk : va_cpy (S.2.2.1 82) (S.2.2.1 31) 0 0 6 k = S.2.2.1 82 k)) (fun k hk => (cpy_in hk : va_cpy (S.2.2.1 83) (S.2.2.1 32) 0 0 6 k = S.2.2.1 83 k)) (fun k hk => (cpy_in hk : va_cpy (S.2.2.1 84) (S.2.2.1 33) 0 0 6 k = S.2.2.1 84 k))), hC.2.2.2.1, hC.2.2.2.2⟩, 0, by omega, rfl, fun b hb hbt => ?_⟩, ⟨rfl, rfl⟩, XIm_o (XIm_o (XIm_o hi0 rfl rfl) rfl rfl) rfl rfl, ht1, ht2, ht3⟩, Nat.zero_le _, Nat.le_of_eq (Nat.zero_add _)⟩
    rw [Nat.zero_testBit] at hbt
    cases hbt
  · rw [if_neg (show ¬ nI 1 = (0 : Int32) by decide)]
    rw [if_pos (show nI 1 = (1 : Int32) from rfl), bd_s (cpL_16_45 _)]
    refine ok_lz ?_
    rw [bd_s (cpT_27_85 _)]
    refine ok_lz ?_
    unfold f_X11_forget
    rw [bd_some]
    have hl2 := hl
    refine ok_bd (P := fun o => o = nI (l_M L')) (ok_eq (x_things ?_)) ?_
    · exact (xL_cp (c0 := 45) hL hc3 hl rfl rfl rfl rfl rfl rfl rfl rfl (fun k hk => (cpy_in hk : va_cpy (S.2.2.1 46) (S.2.2.1 17) 0 0 13 k = S.2.2.1 46 k)) (fun k hk => (cpy_in hk : va_cpy (S.2.2.1 47) (S.2.2.1 18) 0 0 13 k = S.2.2.1 47 k)) (fun k hk => (cpy_in hk : va_cpy (S.2.2.1 48) (S.2.2.1 19) 0 0 13 k = S.2.2.1 48 k)) (fun k hk => (cpy_in hk : va_cpy (S.2.2.1 49) (S.2.2.1 20) 0 0 13 k = S.2.2.1 49 k)) (fun k hk => (cpy_in hk : va_cpy (S.2.2.1 50) (S.2.2.1 21) 0 0 13 k = S.2.2.1 50 k)) (fun k hk => (cpy_in hk : va_cpy (S.2.2.1 51) (S.2.2.1 22) 0 0 10 k = S.2.2.1 51 k)) (fun k hk => (cpy_in hk : va_cpy (S.2.2.1 52) (S.2.2.1 23) 0 0 10 k = S.2.2.1 52 k)) (fun k hk => (cpy_in hk : va_cpy (S.2.2.1 53) (S.2.2.1 24) 0 0 3 k = S.2.2.1 53 k)) (fun k hk => (cpy_in hk : va_cpy (S.2.2.1 54) (S.2.2.1 25) 0 0 3 k = S.2.2.1 54 k)) (fun k hk => (cpy_in hk : va_cpy (S.2.2.1 55) (S.2.2.1 26) 0 0 3 k = S.2.2.1 55 k)))
    rintro _ rfl
    refine ok_some ⟨rfl, ⟨⟨⟨⟨hL, hc3, hT⟩, (xL_cp (c0 := 45) hL hc3 hl rfl rfl rfl rfl rfl rfl rfl rfl (fun k hk => (cpy_in hk : va_cpy (S.2.2.1 46) (S.2.2.1 17) 0 0 13 k = S.2.2.1 46 k)) (fun k hk => (cpy_in hk : va_cpy (S.2.2.1 47) (S.2.2.1 18) 0 0 13 k = S.2.2.1 47 k)) (fun k hk => (cpy_in hk : va_cpy (S.2.2.1 48) (S.2.2.1 19) 0 0 13 k = S.2.2.1 48 k)) (fun k hk => (cpy_in hk : va_cpy (S.2.2.1 49) (S.2.2.1 20) 0 0 13 k = S.2.2.1 49 k)) (fun k hk => (cpy_in hk : va_cpy (S.2.2.1 50) (S.2.2.1 21) 0 0 13 k = S.2.2.1 50 k)) (fun k hk => (cpy_in hk : va_cpy (S.2.2.1 51) (S.2.2.1 22) 0 0 10 k = S.2.2.1 51 k)) (fun k hk => (cpy_in hk : va_cpy (S.2.2.1 52) (S.2.2.1 23) 0 0 10 k = S.2.2.1 52 k)) (fun k hk => (cpy_in hk : va_cpy (S.2.2.1 53) (S.2.2.1 24) 0 0 3 k = S.2.2.1 53 k)) (fun k hk => (cpy_in hk : va_cpy (S.2.2.1 54) (S.2.2.1 25) 0 0 3 k = S.2.2.1 54 k)) (fun k hk => (cpy_in hk : va_cpy (S.2.2.1 55) (S.2.2.1 26) 0 0 3 k = S.2.2.1 55 k))), (xT_cp (c0 := 85) hT hxT rfl rfl (fun k hk => (cpy_in hk : va_cpy (S.2.2.1 86) (S.2.2.1 28) 0 0 9 k = S.2.2.1 86 k)) (fun k hk => (cpy_in hk : va_cpy (S.2.2.1 87) (S.2.2.1 29) 0 0 9 k = S.2.2.1 87 k)) (fun k hk => (cpy_in hk : va_cpy (S.2.2.1 88) (S.2.2.1 30) 0 0 9 k = S.2.2.1 88 k)) (fun k hk => (cpy_in hk : va_cpy (S.2.2.1 89) (S.2.2.1 31) 0 0 6 k = S.2.2.1 89 k)) (fun k hk => (cpy_in hk : va_cpy (S.2.2.1 90) (S.2.2.1 32) 0 0 6 k = S.2.2.1 90 k)) (fun k hk => (cpy_in hk : va_cpy (S.2.2.1 91) (S.2.2.1 33) 0 0 6 k = S.2.2.1 91 k))), hC.2.2.2.1, hC.2.2.2.2⟩, 0, by omega, rfl, fun b hb hbt => ?_⟩, ⟨rfl, rfl⟩, XIm_o (XIm_o (XIm_o hi0 rfl rfl) rfl rfl) rfl rfl, ht1, ht2, ht3⟩, Nat.zero_le _, Nat.le_of_eq (Nat.zero_add _)⟩
    rw [Nat.zero_testBit] at hbt
    cases hbt
  · rw [if_neg (show ¬ nI 2 = (0 : Int32) by decide)]
    rw [if_neg (show ¬ nI 2 = (1 : Int32) by decide)]
    rw [if_pos (show nI 2 = (2 : Int32) from rfl), bd_s (cpL_16_56 _)]
    refine ok_lz ?_
    rw [bd_s (cpT_27_92 _)]
    refine ok_lz ?_
    unfold f_X11_forget
    rw [bd_some]
    have hl2 := hl
    refine ok_bd (P := fun o => o = nI (l_M L')) (ok_eq (x_things ?_)) ?_
    · exact (xL_cp (c0 := 56) hL hc3 hl rfl rfl rfl rfl rfl rfl rfl rfl (fun k hk => (cpy_in hk : va_cpy (S.2.2.1 57) (S.2.2.1 17) 0 0 13 k = S.2.2.1 57 k)) (fun k hk => (cpy_in hk : va_cpy (S.2.2.1 58) (S.2.2.1 18) 0 0 13 k = S.2.2.1 58 k)) (fun k hk => (cpy_in hk : va_cpy (S.2.2.1 59) (S.2.2.1 19) 0 0 13 k = S.2.2.1 59 k)) (fun k hk => (cpy_in hk : va_cpy (S.2.2.1 60) (S.2.2.1 20) 0 0 13 k = S.2.2.1 60 k)) (fun k hk => (cpy_in hk : va_cpy (S.2.2.1 61) (S.2.2.1 21) 0 0 13 k = S.2.2.1 61 k)) (fun k hk => (cpy_in hk : va_cpy (S.2.2.1 62) (S.2.2.1 22) 0 0 10 k = S.2.2.1 62 k)) (fun k hk => (cpy_in hk : va_cpy (S.2.2.1 63) (S.2.2.1 23) 0 0 10 k = S.2.2.1 63 k)) (fun k hk => (cpy_in hk : va_cpy (S.2.2.1 64) (S.2.2.1 24) 0 0 3 k = S.2.2.1 64 k)) (fun k hk => (cpy_in hk : va_cpy (S.2.2.1 65) (S.2.2.1 25) 0 0 3 k = S.2.2.1 65 k)) (fun k hk => (cpy_in hk : va_cpy (S.2.2.1 66) (S.2.2.1 26) 0 0 3 k = S.2.2.1 66 k)))
    rintro _ rfl
    refine ok_some ⟨rfl, ⟨⟨⟨⟨hL, hc3, hT⟩, (xL_cp (c0 := 56) hL hc3 hl rfl rfl rfl rfl rfl rfl rfl rfl (fun k hk => (cpy_in hk : va_cpy (S.2.2.1 57) (S.2.2.1 17) 0 0 13 k = S.2.2.1 57 k)) (fun k hk => (cpy_in hk : va_cpy (S.2.2.1 58) (S.2.2.1 18) 0 0 13 k = S.2.2.1 58 k)) (fun k hk => (cpy_in hk : va_cpy (S.2.2.1 59) (S.2.2.1 19) 0 0 13 k = S.2.2.1 59 k)) (fun k hk => (cpy_in hk : va_cpy (S.2.2.1 60) (S.2.2.1 20) 0 0 13 k = S.2.2.1 60 k)) (fun k hk => (cpy_in hk : va_cpy (S.2.2.1 61) (S.2.2.1 21) 0 0 13 k = S.2.2.1 61 k)) (fun k hk => (cpy_in hk : va_cpy (S.2.2.1 62) (S.2.2.1 22) 0 0 10 k = S.2.2.1 62 k)) (fun k hk => (cpy_in hk : va_cpy (S.2.2.1 63) (S.2.2.1 23) 0 0 10 k = S.2.2.1 63 k)) (fun k hk => (cpy_in hk : va_cpy (S.2.2.1 64) (S.2.2.1 24) 0 0 3 k = S.2.2.1 64 k)) (fun k hk => (cpy_in hk : va_cpy (S.2.2.1 65) (S.2.2.1 25) 0 0 3 k = S.2.2.1 65 k)) (fun k hk => (cpy_in hk : va_cpy (S.2.2.1 66) (S.2.2.1 26) 0 0 3 k = S.2.2.1 66 k))), (xT_cp (c0 := 92) hT hxT rfl rfl (fun k hk => (cpy_in hk : va_cpy (S.2.2.1 93) (S.2.2.1 28) 0 0 9 k = S.2.2.1 93 k)) (fun k hk => (cpy_in hk : va_cpy (S.2.2.1 94) (S.2.2.1 29) 0 0 9 k = S.2.2.1 94 k)) (fun k hk => (cpy_in hk : va_cpy (S.2.2.1 95) (S.2.2.1 30) 0 0 9 k = S.2.2.1 95 k)) (fun k hk => (cpy_in hk : va_cpy (S.2.2.1 96) (S.2.2.1 31) 0 0 6 k = S.2.2.1 96 k)) (fun k hk => (cpy_in hk : va_cpy (S.2.2.1 97) (S.2.2.1 32) 0 0 6 k = S.2.2.1 97 k)) (fun k hk => (cpy_in hk : va_cpy (S.2.2.1 98) (S.2.2.1 33) 0 0 6 k = S.2.2.1 98 k))), hC.2.2.2.1, hC.2.2.2.2⟩, 0, by omega, rfl, fun b hb hbt => ?_⟩, ⟨rfl, rfl⟩, XIm_o (XIm_o (XIm_o hi0 rfl rfl) rfl rfl) rfl rfl, ht1, ht2, ht3⟩, Nat.zero_le _, Nat.le_of_eq (Nat.zero_add _)⟩
    rw [Nat.zero_testBit] at hbt
    cases hbt
  · rw [if_neg (show ¬ nI 3 = (0 : Int32) by decide)]
    rw [if_neg (show ¬ nI 3 = (1 : Int32) by decide)]
    rw [if_neg (show ¬ nI 3 = (2 : Int32) by decide)]
    rw [if_pos (show nI 3 = (3 : Int32) from rfl), bd_s (cpL_16_67 _)]
    refine ok_lz ?_
    rw [bd_s (cpT_27_99 _)]
    refine ok_lz ?_
    unfold f_X11_forget
    rw [bd_some]
    have hl2 := hl
    refine ok_bd (P := fun o => o = nI (l_M L')) (ok_eq (x_things ?_)) ?_
    · exact (xL_cp (c0 := 67) hL hc3 hl rfl rfl rfl rfl rfl rfl rfl rfl (fun k hk => (cpy_in hk : va_cpy (S.2.2.1 68) (S.2.2.1 17) 0 0 13 k = S.2.2.1 68 k)) (fun k hk => (cpy_in hk : va_cpy (S.2.2.1 69) (S.2.2.1 18) 0 0 13 k = S.2.2.1 69 k)) (fun k hk => (cpy_in hk : va_cpy (S.2.2.1 70) (S.2.2.1 19) 0 0 13 k = S.2.2.1 70 k)) (fun k hk => (cpy_in hk : va_cpy (S.2.2.1 71) (S.2.2.1 20) 0 0 13 k = S.2.2.1 71 k)) (fun k hk => (cpy_in hk : va_cpy (S.2.2.1 72) (S.2.2.1 21) 0 0 13 k = S.2.2.1 72 k)) (fun k hk => (cpy_in hk : va_cpy (S.2.2.1 73) (S.2.2.1 22) 0 0 10 k = S.2.2.1 73 k)) (fun k hk => (cpy_in hk : va_cpy (S.2.2.1 74) (S.2.2.1 23) 0 0 10 k = S.2.2.1 74 k)) (fun k hk => (cpy_in hk : va_cpy (S.2.2.1 75) (S.2.2.1 24) 0 0 3 k = S.2.2.1 75 k)) (fun k hk => (cpy_in hk : va_cpy (S.2.2.1 76) (S.2.2.1 25) 0 0 3 k = S.2.2.1 76 k)) (fun k hk => (cpy_in hk : va_cpy (S.2.2.1 77) (S.2.2.1 26) 0 0 3 k = S.2.2.1 77 k)))
    rintro _ rfl
    refine ok_some ⟨rfl, ⟨⟨⟨⟨hL, hc3, hT⟩, (xL_cp (c0 := 67) hL hc3 hl rfl rfl rfl rfl rfl rfl rfl rfl (fun k hk => (cpy_in hk : va_cpy (S.2.2.1 68) (S.2.2.1 17) 0 0 13 k = S.2.2.1 68 k)) (fun k hk => (cpy_in hk : va_cpy (S.2.2.1 69) (S.2.2.1 18) 0 0 13 k = S.2.2.1 69 k)) (fun k hk => (cpy_in hk : va_cpy (S.2.2.1 70) (S.2.2.1 19) 0 0 13 k = S.2.2.1 70 k)) (fun k hk => (cpy_in hk : va_cpy (S.2.2.1 71) (S.2.2.1 20) 0 0 13 k = S.2.2.1 71 k)) (fun k hk => (cpy_in hk : va_cpy (S.2.2.1 72) (S.2.2.1 21) 0 0 13 k = S.2.2.1 72 k)) (fun k hk => (cpy_in hk : va_cpy (S.2.2.1 73) (S.2.2.1 22) 0 0 10 k = S.2.2.1 73 k)) (fun k hk => (cpy_in hk : va_cpy (S.2.2.1 74) (S.2.2.1 23) 0 0 10 k = S.2.2.1 74 k)) (fun k hk => (cpy_in hk : va_cpy (S.2.2.1 75) (S.2.2.1 24) 0 0 3 k = S.2.2.1 75 k)) (fun k hk => (cpy_in hk : va_cpy (S.2.2.1 76) (S.2.2.1 25) 0 0 3 k = S.2.2.1 76 k)) (fun k hk => (cpy_in hk : va_cpy (S.2.2.1 77) (S.2.2.1 26) 0 0 3 k = S.2.2.1 77 k))), (xT_cp (c0 := 99) hT hxT rfl rfl (fun k hk => (cpy_in hk : va_cpy (S.2.2.1 100) (S.2.2.1 28) 0 0 9 k = S.2.2.1 100 k)) (fun k hk => (cpy_in hk : va_cpy (S.2.2.1 101) (S.2.2.1 29) 0 0 9 k = S.2.2.1 101 k)) (fun k hk => (cpy_in hk : va_cpy (S.2.2.1 102) (S.2.2.1 30) 0 0 9 k = S.2.2.1 102 k)) (fun k hk => (cpy_in hk : va_cpy (S.2.2.1 103) (S.2.2.1 31) 0 0 6 k = S.2.2.1 103 k)) (fun k hk => (cpy_in hk : va_cpy (S.2.2.1 104) (S.2.2.1 32) 0 0 6 k = S.2.2.1 104 k)) (fun k hk => (cpy_in hk : va_cpy (S.2.2.1 105) (S.2.2.1 33) 0 0 6 k = S.2.2.1 105 k))), hC.2.2.2.1, hC.2.2.2.2⟩, 0, by omega, rfl, fun b hb hbt => ?_⟩, ⟨rfl, rfl⟩, XIm_o (XIm_o (XIm_o hi0 rfl rfl) rfl rfl) rfl rfl, ht1, ht2, ht3⟩, Nat.zero_le _, Nat.le_of_eq (Nat.zero_add _)⟩
    rw [Nat.zero_testBit] at hbt
    cases hbt
