/-! looks: numbers of base 3 -/
def dg (t s : Nat) : Nat := s / 3 ^ t % 3
theorem dg_lt (t s : Nat) : dg t s < 3 := Nat.mod_lt _ (by decide)
theorem p3_pos (t : Nat) : 0 < 3 ^ t := Nat.pow_pos (by decide)
theorem dg_le {t s k : Nat} (hk : k ≤ dg t s) : k * 3 ^ t ≤ s := by
  have h1 : dg t s ≤ s / 3 ^ t := Nat.mod_le _ _
  have h2 := Nat.div_mul_le_self s (3 ^ t)
  exact Nat.le_trans (Nat.mul_le_mul_right _ (Nat.le_trans hk h1)) h2
theorem dg_div (t s k : Nat) : (s - k * 3 ^ t) / 3 ^ t = s / 3 ^ t - k := by rw [Nat.mul_comm, Nat.sub_mul_div]
theorem dg_sub_eq {t s k : Nat} (hk : k ≤ dg t s) : dg t (s - k * 3 ^ t) = dg t s - k := by
  unfold dg at hk ⊢
  rw [dg_div]
  generalize s / 3 ^ t = a at hk ⊢
  omega
theorem dg_sub_hi {i t s k : Nat} (hi : t < i) (hk : k ≤ dg t s) : dg i (s - k * 3 ^ t) = dg i s := by
  obtain ⟨m, rfl⟩ : ∃ m, i = t + (m + 1) := ⟨i - t - 1, by omega⟩
  have e : ∀ x, x / 3 ^ (t + (m + 1)) = x / 3 ^ t / 3 / 3 ^ m := fun x => by
    rw [Nat.pow_add, Nat.pow_succ, Nat.mul_comm (3 ^ m), ← Nat.div_div_eq_div_mul, ← Nat.div_div_eq_div_mul]
  unfold dg at hk ⊢
  rw [e, e, dg_div]
  have : (s / 3 ^ t - k) / 3 = s / 3 ^ t / 3 := by
    generalize s / 3 ^ t = a at hk ⊢
    omega
  rw [this]
theorem dg_sub_lo {i t s k : Nat} (hi : i < t) (hk : k * 3 ^ t ≤ s) : dg i (s - k * 3 ^ t) = dg i s := by
  obtain ⟨m, rfl⟩ : ∃ m, t = i + (m + 1) := ⟨t - i - 1, by omega⟩
  have e : k * 3 ^ (i + (m + 1)) = 3 ^ i * (3 * (3 ^ m * k)) := by
    rw [Nat.pow_add, Nat.pow_succ, Nat.mul_comm k, Nat.mul_assoc, Nat.mul_comm (3 ^ m) 3, Nat.mul_assoc]
  rw [e] at hk ⊢
  obtain ⟨u, rfl⟩ : ∃ u, s = u + 3 ^ i * (3 * (3 ^ m * k)) := ⟨s - 3 ^ i * (3 * (3 ^ m * k)), by omega⟩
  unfold dg
  rw [Nat.add_sub_cancel, Nat.add_mul_div_left _ _ (p3_pos i), Nat.add_mul_mod_self_left]
theorem dg_sub {i t s k : Nat} (hk : k ≤ dg t s) : dg i (s - k * 3 ^ t) = if i = t then dg t s - k else dg i s := by
  by_cases e : i = t
  · subst e; rw [if_pos rfl, dg_sub_eq hk]
  · rw [if_neg e]
    rcases Nat.lt_or_gt_of_ne e with h | h
    · exact dg_sub_lo h (dg_le hk)
    · exact dg_sub_hi h hk
theorem dg_neg {t M s : Nat} (ht : t < M) (hs : s < 3 ^ M) : dg t (3 ^ M - 1 - s) = 2 - dg t s := by
  obtain ⟨m, rfl⟩ : ∃ m, M = t + (m + 1) := ⟨M - t - 1, by omega⟩
  have hp : 3 ^ (t + (m + 1)) = 3 ^ t * (3 * 3 ^ m) := by rw [Nat.pow_add, Nat.pow_succ, Nat.mul_comm (3 ^ m)]
  rw [hp] at hs ⊢
  have h1 : s / 3 ^ t < 3 * 3 ^ m := Nat.div_lt_of_lt_mul hs
  have hP := p3_pos t
  have h2 : (3 ^ t * (3 * 3 ^ m) - 1 - s) / 3 ^ t = 3 * 3 ^ m - 1 - s / 3 ^ t := by
    have d1 := Nat.div_add_mod s (3 ^ t)
    have d2 := Nat.mod_lt s hP
    generalize s / 3 ^ t = a at *
    generalize s % 3 ^ t = r at *
    obtain ⟨b, hb⟩ : ∃ b, 3 * 3 ^ m = a + 1 + b := ⟨3 * 3 ^ m - 1 - a, by omega⟩
    rw [hb, Nat.mul_add, Nat.mul_add, Nat.mul_one]
    have e : 3 ^ t * a + 3 ^ t + 3 ^ t * b - 1 - s = (3 ^ t - 1 - r) + 3 ^ t * b := by omega
    rw [e, Nat.add_mul_div_left _ _ hP, Nat.div_eq_of_lt (by omega)]
    omega
  unfold dg
  rw [h2]
  generalize s / 3 ^ t = a at *
  generalize 3 ^ m = q at *
  omega
def hoS (M s : Nat) : Nat := mk (fun t => dg t s == 1) M
def unS (M s : Nat) : Nat := mk (fun t => dg t s == 2) M
theorem hoS_lt (M s : Nat) : hoS M s < 2 ^ M := mk_lt _ _
theorem unS_lt (M s : Nat) : unS M s < 2 ^ M := mk_lt _ _
theorem hoS_1 {M s t : Nat} (ht : t < M) (h : dg t s = 2) : hoS M (s - 3 ^ t) = hoS M s ||| 2 ^ t := by
  have h1 : s - 3 ^ t = s - 1 * 3 ^ t := by rw [Nat.one_mul]
  apply msk_ext (hoS_lt _ _) (or_pow_lt (hoS_lt _ _) ht)
  intro i hi
  rw [or_pow_bit, h1]
  unfold hoS
  rw [mk_bit, mk_bit, dg_sub (by omega)]
  by_cases e : i = t
  · subst e; simp [h, hi]
  · have e2 : ¬ t = i := fun z => e z.symm
    simp [e, e2]
theorem unS_1 {M s t k : Nat} (hk : 1 ≤ k) (hk2 : k ≤ 2) (h : dg t s = 2) : unS M (s - k * 3 ^ t) = ndn (unS M s) (2 ^ t) := by
  apply msk_ext (unS_lt _ _) (ndn_lt (unS_lt _ _))
  intro i hi
  rw [ndn_bit, Nat.testBit_two_pow]
  unfold unS
  rw [mk_bit, mk_bit, dg_sub (by omega)]
  by_cases e : i = t
  · subst e
    have : ¬ 2 - k = 2 := by omega
    simp [h, this]
  · have e2 : ¬ t = i := fun z => e z.symm
    simp [e, e2]
theorem hoS_2 {M s t : Nat} (h : dg t s = 2) : hoS M (s - 2 * 3 ^ t) = hoS M s := by
  apply msk_ext (hoS_lt _ _) (hoS_lt _ _)
  intro i hi
  unfold hoS
  rw [mk_bit, mk_bit, dg_sub (by omega)]
  by_cases e : i = t
  · subst e; simp [h]
  · simp [e]
noncomputable def srB (L : Ld) (s : Nat) : Bool := thB L (hoS (l_M L) s) == thB L (hoS (l_M L) s ||| unS (l_M L) s)
noncomputable def svF (L : Ld) (s : Nat) : Nat := if srB L s = true then b2n (thB L (hoS (l_M L) s)) else 2
theorem svF_step {L : Ld} (hL : lOk L) {s t : Nat} (ht : t < l_M L) (h : dg t s = 2) : svF L s = if svF L (s - 3 ^ t) = svF L (s - 2 * 3 ^ t) then svF L (s - 3 ^ t) else 2 := by
  have h1 : s - 3 ^ t = s - 1 * 3 ^ t := by rw [Nat.one_mul]
  have u1 := unS_1 (M := l_M L) (k := 1) (by omega) (by omega) h
  have u2 := unS_1 (M := l_M L) (k := 2) (by omega) (by omega) h
  rw [← h1] at u1
  have hut : (unS (l_M L) s).testBit t = true := by unfold unS; rw [mk_bit]; simp [ht, h]
  have hall : hoS (l_M L) s ||| 2 ^ t ||| ndn (unS (l_M L) s) (2 ^ t) = hoS (l_M L) s ||| unS (l_M L) s := by
    apply Nat.eq_of_testBit_eq
    intro i
    rw [Nat.testBit_or, or_pow_bit, ndn_bit, Nat.testBit_or, Nat.testBit_two_pow]
    by_cases e : t = i
    · subst e; simp [hut]
    · simp [e]
  unfold svF srB
  rw [hoS_1 ht h, hoS_2 h, u1, u2, hall]
  have m1 : thB L (hoS (l_M L) s) = true → thB L (hoS (l_M L) s ||| 2 ^ t) = true := thB_mono hL (fun i hi => by rw [Nat.testBit_or, hi]; rfl)
  have m2 : thB L (hoS (l_M L) s ||| 2 ^ t) = true → thB L (hoS (l_M L) s ||| unS (l_M L) s) = true := thB_mono hL (fun i hi => by rw [← hall, Nat.testBit_or, hi]; rfl)
  have m3 : thB L (hoS (l_M L) s) = true → thB L (hoS (l_M L) s ||| ndn (unS (l_M L) s) (2 ^ t)) = true := thB_mono hL (fun i hi => by rw [Nat.testBit_or, hi]; rfl)
  have m4 : thB L (hoS (l_M L) s ||| ndn (unS (l_M L) s) (2 ^ t)) = true → thB L (hoS (l_M L) s ||| unS (l_M L) s) = true := thB_mono hL (fun i hi => by
    rw [Nat.testBit_or, Bool.or_eq_true] at hi ⊢
    rcases hi with hi | hi
    · exact Or.inl hi
    · rw [ndn_bit, Bool.and_eq_true] at hi; exact Or.inr hi.1)
  generalize thB L (hoS (l_M L) s) = a at *
  generalize thB L (hoS (l_M L) s ||| 2 ^ t) = b at *
  generalize thB L (hoS (l_M L) s ||| unS (l_M L) s) = c at *
  generalize thB L (hoS (l_M L) s ||| ndn (unS (l_M L) s) (2 ^ t)) = d at *
  cases a <;> cases b <;> cases c <;> cases d <;> simp_all [b2n]
/-- looks by one thing first -/
def lvV (f : Nat → Nat) (t s : Nat) : Nat := 1 + max (f (s - 3 ^ t)) (f (s - 2 * 3 ^ t))
def lvF (f : Nat → Nat) (c s n : Nat) : Nat := itf (fun t x => if dg t s = 2 then min x (lvV f t s) else x) c n
theorem lvV_congr {f g : Nat → Nat} {t s : Nat} (h : ∀ j, j < s → f j = g j) (hd : dg t s = 2) : lvV f t s = lvV g t s := by
  have h1 := dg_le (k := 1) (t := t) (s := s) (by omega)
  have h2 := dg_le (k := 2) (t := t) (s := s) (by omega)
  have h3 := p3_pos t
  unfold lvV
  rw [h _ (by omega), h _ (by omega)]
theorem lvF_congr {f g : Nat → Nat} {c s : Nat} (h : ∀ j, j < s → f j = g j) : ∀ n, lvF f c s n = lvF g c s n
  | 0 => rfl
  | n + 1 => by
    show (if dg n s = 2 then min (lvF f c s n) (lvV f n s) else lvF f c s n) = (if dg n s = 2 then min (lvF g c s n) (lvV g n s) else lvF g c s n)
    rw [lvF_congr h n]
    by_cases e : dg n s = 2
    · rw [if_pos e, if_pos e, lvV_congr h e]
    · rw [if_neg e, if_neg e]
theorem lvF_le {f : Nat → Nat} {c s t : Nat} (hd : dg t s = 2) : ∀ n, t < n → lvF f c s n ≤ lvV f t s
  | 0, h => by omega
  | n + 1, h => by
    show (if dg n s = 2 then min (lvF f c s n) (lvV f n s) else lvF f c s n) ≤ _
    by_cases e : t = n
    · subst e; rw [if_pos hd]; exact Nat.min_le_right _ _
    · have := lvF_le (f := f) (c := c) hd n (by omega)
      split
      · exact Nat.le_trans (Nat.min_le_left _ _) this
      · exact this
noncomputable def lkT (L : Ld) : Nat → Nat → Nat
  | 0 => fun _ => 0
  | n + 1 => upN (lkT L n) n (if srB L n = true then 0 else lvF (lkT L n) (l_M L) n (l_M L))
noncomputable def NL (L : Ld) (s : Nat) : Nat := lkT L (s + 1) s
theorem lkT_at (L : Ld) {s : Nat} : ∀ n, s < n → lkT L n s = NL L s
  | 0, h => by omega
  | n + 1, h => by
    by_cases e : s = n
    · subst e; rfl
    · rw [lkT, upN_n e]; exact lkT_at L n (by omega)
theorem NL_eq (L : Ld) (s : Nat) : NL L s = if srB L s = true then 0 else lvF (NL L) (l_M L) s (l_M L) := by
  unfold NL
  rw [lkT, upN_s, lvF_congr (fun j hj => lkT_at L s hj)]
  rfl
def unc (M s : Nat) : Nat := fb_ct (fun t => dg t s == 2) M
theorem unc_sub {M s t k : Nat} (ht : t < M) (hk : 1 ≤ k) (hk2 : k ≤ 2) (h : dg t s = 2) : unc M (s - k * 3 ^ t) + 1 = unc M s := by
  have := fb_ct_upd (fun i => dg i s == 2) false ht
  have e : (fun i => dg i (s - k * 3 ^ t) == 2) = fun i => if i = t then false else dg i s == 2 := by
    funext i
    rw [dg_sub (by omega)]
    by_cases e : i = t
    · rw [if_pos e, if_pos e, h]
      have : ¬ 2 - k = 2 := by omega
      simp [this]
    · rw [if_neg e, if_neg e]
  unfold unc
  rw [e]
  have hd : (dg t s == 2) = true := by rw [h]; rfl
  simp only [hd] at this
  simpa using this
theorem NL_le (L : Ld) : ∀ n s, s < n → NL L s ≤ unc (l_M L) s := by
  intro n
  induction n with
  | zero => intro s hs; omega
  | succ n ih =>
    intro s hs
    rw [NL_eq]
    split
    · exact Nat.zero_le _
    · rename_i hsr
      have hex : ∃ t, t < l_M L ∧ dg t s = 2 := by
        apply Classical.byContradiction
        intro hno
        apply hsr
        have : unS (l_M L) s = 0 := by
          apply Nat.eq_of_testBit_eq
          intro i
          unfold unS
          rw [mk_bit, Nat.zero_testBit]
          by_cases hi : i < l_M L
          · have : ¬ dg i s = 2 := fun z => hno ⟨i, hi, z⟩
            simp [this]
          · simp [hi]
        unfold srB
        rw [this, Nat.or_zero]
        simp
      obtain ⟨t, ht, hd⟩ := hex
      have h1 := dg_le (k := 1) (t := t) (s := s) (by omega)
      have h2 := dg_le (k := 2) (t := t) (s := s) (by omega)
      have h3 := p3_pos t
      have u1 := unc_sub (k := 1) ht (by omega) (by omega) hd
      have u2 := unc_sub (k := 2) ht (by omega) (by omega) hd
      rw [Nat.one_mul] at u1
      have i1 := ih (s - 3 ^ t) (by omega)
      have i2 := ih (s - 2 * 3 ^ t) (by omega)
      refine Nat.le_trans (lvF_le (f := NL L) hd _ ht) ?_
      unfold lvV
      omega
theorem unc_le (M s : Nat) : unc M s ≤ M := fb_ct_le _ _
theorem NL_leM (L : Ld) (s : Nat) : NL L s ≤ l_M L := Nat.le_trans (NL_le L (s + 1) s (by omega)) (unc_le _ _)
/-- the reference's search: the least, and the first with it -/
def rfS (f : Nat → Nat) (s t : Nat) (x : Nat × Int32) : Nat × Int32 := if dg t s = 2 then (if x.2 < 0 ∨ lvV f t s < x.1 then (lvV f t s, nI t) else x) else x
def rfF (f : Nat → Nat) (s n : Nat) : Nat × Int32 := itf (rfS f s) (0, -1) n
theorem rfF_spec (f : Nat → Nat) (s : Nat) : ∀ n, n ≤ 32 → (rfF f s n = (0, -1) ∧ ∀ t, t < n → dg t s ≠ 2) ∨ ∃ t, t < n ∧ dg t s = 2 ∧ rfF f s n = (lvV f t s, nI t) ∧ (∀ i, i < n → dg i s = 2 → lvV f t s ≤ lvV f i s) ∧ ∀ i, i < t → dg i s = 2 → lvV f t s < lvV f i s
  | 0, _ => Or.inl ⟨rfl, fun t ht => absurd ht (Nat.not_lt_zero t)⟩
  | n + 1, hn => by
    have hs : rfF f s (n + 1) = rfS f s n (rfF f s n) := rfl
    rw [hs]
    unfold rfS
    by_cases d : dg n s = 2
    · rw [if_pos d]
      rcases rfF_spec f s n (by omega) with ⟨h1, h2⟩ | ⟨t, h1, h2, h3, h4, h5⟩
      · rw [h1, if_pos (Or.inl m1_neg)]
        refine Or.inr ⟨n, by omega, d, rfl, fun i hi hd => ?_, fun i hi hd => absurd hd (h2 i hi)⟩
        by_cases e : i = n
        · subst e; exact Nat.le_refl _
        · exact absurd hd (h2 i (by omega))
      · rw [h3]
        have hng : ¬ nI t < 0 := by rw [oI_neg (by omega)]; exact fun z => z
        by_cases c : lvV f n s < lvV f t s
        · rw [if_pos (Or.inr c)]
          refine Or.inr ⟨n, by omega, d, rfl, fun i hi hd => ?_, fun i hi hd => ?_⟩
          · by_cases e : i = n
            · subst e; exact Nat.le_refl _
            · have := h4 i (by omega) hd; omega
          · have := h4 i hi hd; omega
        · rw [if_neg (fun z => by rcases z with z | z; exact hng z; exact c z)]
          refine Or.inr ⟨t, by omega, h2, rfl, fun i hi hd => ?_, h5⟩
          by_cases e : i = n
          · subst e; omega
          · exact h4 i (by omega) hd
    · rw [if_neg d]
      rcases rfF_spec f s n (by omega) with ⟨h1, h2⟩ | ⟨t, h1, h2, h3, h4, h5⟩
      · refine Or.inl ⟨h1, fun t ht => ?_⟩
        by_cases e : t = n
        · subst e; exact d
        · exact h2 t (by omega)
      · refine Or.inr ⟨t, by omega, h2, h3, fun i hi hd => ?_, h5⟩
        by_cases e : i = n
        · subst e; exact absurd hd d
        · exact h4 i (by omega) hd
theorem lvF_spec (f : Nat → Nat) (c s : Nat) : ∀ n, (lvF f c s n = c ∧ ∀ t, t < n → dg t s = 2 → c ≤ lvV f t s) ∨ ∃ t, t < n ∧ dg t s = 2 ∧ lvF f c s n = lvV f t s ∧ lvV f t s ≤ c
  | 0 => Or.inl ⟨rfl, fun t ht => absurd ht (Nat.not_lt_zero t)⟩
  | n + 1 => by
    have hs : lvF f c s (n + 1) = if dg n s = 2 then min (lvF f c s n) (lvV f n s) else lvF f c s n := rfl
    rw [hs]
    by_cases d : dg n s = 2
    · rw [if_pos d]
      rcases lvF_spec f c s n with ⟨h1, h2⟩ | ⟨t, h1, h2, h3, h4⟩
      · rw [h1]
        by_cases e : c ≤ lvV f n s
        · refine Or.inl ⟨Nat.min_eq_left e, fun t ht hd => ?_⟩
          by_cases e2 : t = n
          · subst e2; exact e
          · exact h2 t (by omega) hd
        · exact Or.inr ⟨n, by omega, d, Nat.min_eq_right (by omega), by omega⟩
      · rw [h3]
        by_cases e : lvV f t s ≤ lvV f n s
        · exact Or.inr ⟨t, by omega, h2, Nat.min_eq_left e, h4⟩
        · exact Or.inr ⟨n, by omega, d, Nat.min_eq_right (by omega), by omega⟩
    · rw [if_neg d]
      rcases lvF_spec f c s n with ⟨h1, h2⟩ | ⟨t, h1, h2, h3, h4⟩
      · refine Or.inl ⟨h1, fun t ht hd => ?_⟩
        by_cases e : t = n
        · subst e; exact absurd hd d
        · exact h2 t (by omega) hd
      · exact Or.inr ⟨t, by omega, h2, h3, h4⟩
/-- where it is not sure, both searches find the same -/
theorem NL_first {L : Ld} (hL : lOk L) {s : Nat} (hs : srB L s = false) : ∃ t, t < l_M L ∧ dg t s = 2 ∧ rfF (NL L) s (l_M L) = (NL L s, nI t) ∧ NL L s = lvV (NL L) t s ∧ ∀ i, i < t → dg i s = 2 → NL L s < lvV (NL L) i s := by
  have hM := lM_15 hL
  have hle := NL_le L (s + 1) s (by omega)
  have hN := NL_eq L s
  rw [hs, if_neg (by decide)] at hN
  rcases rfF_spec (NL L) s (l_M L) (by omega) with ⟨h1, h2⟩ | ⟨t, h1, h2, h3, h4, h5⟩
  · exfalso
    have : unc (l_M L) s = 0 := fb_ct_zero.mpr (fun k hk => by have := h2 k hk; simp [this])
    have hu : unS (l_M L) s = 0 := by
      apply Nat.eq_of_testBit_eq
      intro i
      unfold unS
      rw [mk_bit, Nat.zero_testBit]
      by_cases hi : i < l_M L
      · have : ¬ dg i s = 2 := h2 i hi
        simp [this]
      · simp [hi]
    unfold srB at hs
    rw [hu, Nat.or_zero] at hs
    simp at hs
  · have hb : lvV (NL L) t s ≤ l_M L := by
      have u1 := unc_sub (k := 1) h1 (by omega) (by omega) h2
      have u2 := unc_sub (k := 2) h1 (by omega) (by omega) h2
      rw [Nat.one_mul] at u1
      have i1 := NL_le L (s - 3 ^ t + 1) (s - 3 ^ t) (by omega)
      have i2 := NL_le L (s - 2 * 3 ^ t + 1) (s - 2 * 3 ^ t) (by omega)
      have := unc_le (l_M L) s
      unfold lvV
      omega
    have he : NL L s = lvV (NL L) t s := by
      rw [hN]
      have l1 := lvF_le (f := NL L) (c := l_M L) h2 (l_M L) h1
      rcases lvF_spec (NL L) (l_M L) s (l_M L) with ⟨q1, q2⟩ | ⟨t2, q1, q2, q3, q4⟩
      · omega
      · have := h4 t2 q1 q2
        omega
    exact ⟨t, h1, h2, by rw [h3, he], he, fun i hi hd => by rw [he]; exact h5 i hi hd⟩
