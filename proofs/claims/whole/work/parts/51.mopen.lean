/-! the reference's land, and what is open -/
def orF (f : Nat → Nat) : Nat → Nat
  | 0 => 0
  | n + 1 => orF f n ||| f n
theorem orF_bit (f : Nat → Nat) (n i : Nat) : (orF f n).testBit i = true ↔ ∃ c, c < n ∧ (f c).testBit i = true := by
  induction n with
  | zero => simp [orF]
  | succ n ih =>
    rw [orF, Nat.testBit_or, Bool.or_eq_true, ih]
    constructor
    · rintro (⟨c, hc, h⟩ | h)
      · exact ⟨c, by omega, h⟩
      · exact ⟨n, by omega, h⟩
    · rintro ⟨c, hc, h⟩
      by_cases e : c = n
      · subst e; exact Or.inr h
      · exact Or.inl ⟨c, by omega, h⟩
theorem orF_lt {f : Nat → Nat} {n k : Nat} (h : ∀ c, c < n → f c < 2 ^ k) : orF f n < 2 ^ k := by
  induction n with
  | zero => exact Nat.two_pow_pos k
  | succ n ih => exact Nat.or_lt_two_pow (ih (fun c hc => h c (by omega))) (h n (by omega))
/-- the causes that name a line, a place, as things -/
def lcm (L : Ld) (k : Nat) : Nat := orF (fun c => if (l_X L c).testBit k = true then 2 ^ (l_n L + l_k L + c) else 0) (l_c L)
def pcm (L : Ld) (p : Nat) : Nat := orF (fun c => if (l_Y L c).testBit p = true then 2 ^ (l_n L + l_k L + c) else 0) (l_c L)
def kpF (P : Nat → Nat) (base p : Nat) : Nat → Int32
  | 0 => -1
  | n + 1 => if P n = p then nI (base + n) else kpF P base p n
def kpr (L : Ld) (p : Nat) : Int32 := kpF (l_P L) (l_n L) p (l_k L)
theorem kpF_cases (P : Nat → Nat) (base p : Nat) : ∀ n, (kpF P base p n = -1 ∧ ∀ j, j < n → P j ≠ p) ∨ ∃ j, j < n ∧ P j = p ∧ kpF P base p n = nI (base + j)
  | 0 => Or.inl ⟨rfl, fun j hj => absurd hj (Nat.not_lt_zero j)⟩
  | n + 1 => by
    by_cases e : P n = p
    · exact Or.inr ⟨n, by omega, e, by simp [kpF, e]⟩
    · rcases kpF_cases P base p n with ⟨h1, h2⟩ | ⟨j, h1, h2, h3⟩
      · left
        refine ⟨by simp [kpF, e, h1], fun j hj => ?_⟩
        by_cases q : j = n
        · subst q; exact e
        · exact h2 j (by omega)
      · exact Or.inr ⟨j, by omega, h2, by simp [kpF, e, h3]⟩
/-- the chance of a thing -/
def cha (L : Ld) (t : Nat) : Nat := if t < l_n L then l_C L t else if t < l_n L + l_k L then l_Q L (t - l_n L) else l_R L (t - l_n L - l_k L)
def mL (S : wd_W) (L : Ld) : Prop :=
  (S.1 20 = nI (l_N L) ∧ S.1 21 = nI (l_n L) ∧ S.1 30 = nI (l_k L) ∧ True ∧ S.1 32 = nI (l_M L) ∧ S.1 34 = nI (l_w L) ∧ S.1 35 = nI (l_m L) ∧ S.1 36 = nI (l_a L) ∧ S.1 37 = nI (l_b L)) ∧
  (∀ k, k < l_n L → S.2.2.1 8 k = nI (l_A L k) ∧ S.2.2.1 9 k = nI (l_B L k) ∧ S.2.2.1 10 k = nI (l_C L k) ∧ S.2.2.1 11 k = nI (l_O L k) ∧ S.2.2.1 12 k = nI (l_D L k) ∧ S.2.2.1 13 k = nI (lcm L k)) ∧
  (∀ p, p < 10 → S.2.2.1 14 p = nI (pcm L p) ∧ S.2.2.1 15 p = kpr L p) ∧
  (∀ t, t < l_M L → S.2.2.1 16 t = nI (cha L t))
/-- the new line behind the others, when it is asked for -/
def mNew (S : wd_W) (L : Ld) (mo : Bool) : Prop := mo = true → l_n L < 12 ∧ S.2.2.1 8 (l_n L) = nI (l_A L (l_n L)) ∧ S.2.2.1 9 (l_n L) = nI (l_B L (l_n L)) ∧ S.2.2.1 11 (l_n L) = nI (l_O L (l_n L)) ∧ S.2.2.1 12 (l_n L) = nI (l_D L (l_n L)) ∧ l_A L (l_n L) < l_N L ∧ l_B L (l_n L) < l_N L ∧ l_A L (l_n L) ≠ l_B L (l_n L) ∧ l_O L (l_n L) ≤ 1 ∧ 1 ≤ l_D L (l_n L) ∧ l_D L (l_n L) ≤ 9
theorem ndn_0 {a b : Nat} : ndn a b = 0 ↔ ∀ i, a.testBit i = true → b.testBit i = true := by
  constructor
  · intro h i hi
    have := ndn_bit a b i
    rw [h, hi, Nat.zero_testBit] at this
    cases hb : b.testBit i with
    | true => rfl
    | false => rw [hb] at this; cases this
  · intro h
    apply Nat.eq_of_testBit_eq
    intro i
    rw [ndn_bit, Nat.zero_testBit]
    cases ha : a.testBit i with
    | false => rfl
    | true => rw [h i ha]; rfl
theorem orF_sub {F : Nat → Bool} {base n s : Nat} : (∀ i, (orF (fun c => if F c = true then 2 ^ (base + c) else 0) n).testBit i = true → s.testBit i = true) ↔ alls (fun c => !F c || s.testBit (base + c)) n = true := by
  rw [alls_iff]
  constructor
  · intro h c hc
    cases hF : F c with
    | false => rfl
    | true =>
      rw [h (base + c) ((orF_bit _ _ _).mpr ⟨c, hc, by simp [hF, Nat.testBit_two_pow]⟩)]
      rfl
  · intro h i hi
    obtain ⟨c, hc, q⟩ := (orF_bit _ _ _).mp hi
    have := h c hc
    cases hF : F c with
    | false => rw [hF] at q; simp at q
    | true =>
      rw [hF, if_pos rfl, Nat.testBit_two_pow, decide_eq_true_eq] at q
      subst q
      simpa [hF] using this
theorem lcm_lt {L : Ld} (hL : lOk L) (k : Nat) : lcm L k < 32768 := by
  have h := hL.1.2.2.2.2.2
  have : lcm L k < 2 ^ 15 := by
    apply orF_lt
    intro c hc
    split
    · unfold l_M at h; exact Nat.pow_lt_pow_right (by decide) (by omega)
    · omega
  omega
theorem pcm_lt {L : Ld} (hL : lOk L) (k : Nat) : pcm L k < 32768 := by
  have h := hL.1.2.2.2.2.2
  have : pcm L k < 2 ^ 15 := by
    apply orF_lt
    intro c hc
    split
    · unfold l_M at h; exact Nat.pow_lt_pow_right (by decide) (by omega)
    · omega
  omega
theorem ndn_lt {a b n : Nat} (h : a < 2 ^ n) : ndn a b < 2 ^ n := by
  apply Nat.lt_pow_two_of_testBit
  intro i hi
  rw [ndn_bit, tb_lt h hi]; rfl
/-- a keeper's part of standing -/
theorem kpr_st {L : Ld} (hL : lOk L) (s p : Nat) : (kpr L p = -1 ∧ alls (fun j => !(l_P L j == p) || s.testBit (l_n L + j)) (l_k L) = true) ∨ ∃ j, j < l_k L ∧ kpr L p = nI (l_n L + j) ∧ alls (fun j => !(l_P L j == p) || s.testBit (l_n L + j)) (l_k L) = s.testBit (l_n L + j) := by
  rcases kpF_cases (l_P L) (l_n L) p (l_k L) with ⟨h1, h2⟩ | ⟨j, h1, h2, h3⟩
  · left
    refine ⟨h1, alls_iff.mpr (fun i hi => ?_)⟩
    have := h2 i hi
    simp [this]
  · right
    refine ⟨j, h1, h3, ?_⟩
    cases hb : s.testBit (l_n L + j) with
    | true =>
      apply alls_iff.mpr
      intro i hi
      by_cases e : l_P L i = p
      · have : i = j := hL.2.2.2.1 i j hi h1 (by rw [e, h2])
        subst this
        simp [hb]
      · simp [e]
    | false =>
      cases ha : alls (fun j => !(l_P L j == p) || s.testBit (l_n L + j)) (l_k L) with
      | false => rfl
      | true =>
        have := alls_iff.mp ha j h1
        simp [h2, hb] at this
theorem m_isBetween {S : wd_W} {st k a b : Nat} (h38 : S.1 38 = nI st) (hst : st < 2 ^ 31) (hk : k < 13) (h8 : S.2.2.1 8 k = nI a) (h9 : S.2.2.1 9 k = nI b) (ha : a < 32) (hb : b < 32) :
    f_X12_isBetween S (nI k) = some (nI (b2n (st.testBit a && st.testBit b))) := by
  unfold f_X12_isBetween
  simp (disch := omega) only [li_1, gd_in, nI_clamp, h38, h8, h9, oI_tb, oI_b1]
  cases st.testBit a <;> cases st.testBit b <;> rfl
theorem mk_step {f : Nat → Bool} {i : Nat} : mk f i ||| (if f i = true then 2 ^ i else 0) = mk f (i + 1) := rfl
theorem or_0 (a : Nat) : a ||| 0 = a := Nat.or_zero a
theorem m_opens {S : wd_W} {L : Ld} {s : Nat} {mo : Bool} (hL : lOk L) (h : mL S L) (hn : mNew S L mo) (hs : s < 32768) :
    f_X12_opens S (nI s) (nI (b2n mo)) = some (nI (stM L s), nI (opM L s mo)) := by
  obtain ⟨⟨h20, h21, h30, h31, h32, h34, h35, h36, h37⟩, hk, hp, ht⟩ := h
  obtain ⟨⟨g1, g2, g3, g4, g5, g6⟩, gk, gj, gu, gc, gw⟩ := hL
  have hL : lOk L := ⟨⟨g1, g2, g3, g4, g5, g6⟩, gk, gj, gu, gc, gw⟩
  have hM : l_n L + l_k L + l_c L ≤ 15 := g6
  unfold f_X12_opens
  refine Eq.trans (eq_for0 (W := fun n i => it2 (f_X12_opens_L7 S (nI s) _) n (nI i) (nI (mk (stB L s) i))) (e := l_N L) (x := some (nI (stM L s), nI (opM L s mo))) (by omega) ?_ ?_) rfl
  · intro n
    show f_X12_opens_L7 S (nI s) _ _ (nI (l_N L)) (nI (stM L s)) = _
    unfold f_X12_opens_L7
    rw [h20, if_pos (nI_le (Nat.le_refl _) (by omega))]
    have hst := lt31_10 (stM_lt L s) (by omega)
    refine Eq.trans (eq_for0 (W := fun n i => it2 (f_X12_opens_L92 S (nI s) (nI (stM L s)) _) n (nI i) (nI (mk (opB L s) i))) (e := l_n L) (x := some (nI (stM L s), nI (opM L s mo))) (by omega) ?_ ?_) rfl
    · intro n
      show f_X12_opens_L92 S (nI s) _ _ _ (nI (l_n L)) (nI (mk (opB L s) (l_n L))) = _
      unfold f_X12_opens_L92
      rw [h21, if_pos (nI_le (Nat.le_refl _) (by omega))]
      simp only [lk]
      cases hmo : mo with
      | false =>
        rw [if_pos (by rfl)]
        unfold opM; simp
      | true =>
        obtain ⟨n1, n2, n3, n4, n5, n6, n7, n8, n9, n10, n11⟩ := hn hmo
        rw [if_neg (by decide), bd_s (m_isBetween (S := wd_o S [(38, nI (stM L s)), (39, nI (mk (opB L s) (l_n L)))] [] [] [] []) (st := stM L s) rfl (by omega) (by omega) n2 n3 (by omega) (by omega))]
        have e : ((stM L s).testBit (l_A L (l_n L)) && (stM L s).testBit (l_B L (l_n L))) = (stB L s (l_A L (l_n L)) && stB L s (l_B L (l_n L))) := by
          unfold stM
          rw [mk_bit, mk_bit]; simp [n6, n7]
        rw [e]
        unfold opM
        cases hz : (stB L s (l_A L (l_n L)) && stB L s (l_B L (l_n L))) with
        | false => rw [if_pos (by rfl)]; simp
        | true =>
          rw [if_neg (by decide)]
          simp only [lz]
          rw [oI_pow (by omega), oI_or]; simp
    · intro n i hi
      show f_X12_opens_L92 S (nI s) _ _ (it2 _ n) (nI i) (nI (mk (opB L s) i)) = it2 _ n (nI (i + 1)) (nI (mk (opB L s) (i + 1)))
      generalize it2 (f_X12_opens_L92 S (nI s) (nI (stM L s)) _) n = r
      unfold f_X12_opens_L92
      obtain ⟨k8, k9, k10, k11, k12, k13⟩ := hk i hi
      obtain ⟨a1, a2, a3, a4, a5, a6, a7⟩ := gk i hi
      have hop := lt31_10 (mk_lt (opB L s) i) (by omega)
      have hlc := lcm_lt hL i
      have hnd : ndn (lcm L i) s < 32768 := ndn_lt (n := 15) hlc
      rw [h21, if_neg (nI_ge hi (by omega))]
      have e : ((stM L s).testBit (l_A L i) && (stM L s).testBit (l_B L i)) = (stB L s (l_A L i) && stB L s (l_B L i)) := by
        unfold stM
        rw [mk_bit, mk_bit]; simp [a1, a2]
      have e2 : (ndn (lcm L i) s = 0) ↔ alls (fun c => !(l_X L c).testBit i || s.testBit (l_n L + l_k L + c)) (l_c L) = true := by
        rw [ndn_0]; exact orF_sub (F := fun c => (l_X L c).testBit i)
      rw [← mk_step]
      simp (disch := omega) only [lk, lz, nI_1, oI_bit1, gd_in, nI_clamp, k13, oI_ndn, oI_z, oI_pow, oI_or, opB]
      rw [bd_s (m_isBetween (S := wd_o S [(38, nI (stM L s)), (39, nI (mk (opB L s) i))] [] [] [] []) (st := stM L s) rfl (by omega) (by omega) k8 k9 (by omega) (by omega)), e]
      by_cases c1 : s.testBit i = true
      · by_cases c2 : alls (fun c => !(l_X L c).testBit i || s.testBit (l_n L + l_k L + c)) (l_c L) = true
        · have d2 := e2.mpr c2
          have n1 : ¬ nI 1 = 0 := by decide
          by_cases c3 : stB L s (l_A L i) = true
          · by_cases c4 : stB L s (l_B L i) = true
            · simp [c1, c2, d2, c3, c4, opB, b2n, n1]
            · simp [c1, c2, d2, c3, c4, opB, b2n, nI_0]
          · simp [c1, c2, d2, c3, opB, b2n, nI_0]
        · have d2 : ¬ ndn (lcm L i) s = 0 := fun z => c2 (e2.mp z)
          simp [c1, c2, d2, opB]
      · simp [c1, opB]
  · intro n i hi
    show f_X12_opens_L7 S (nI s) _ (it2 _ n) (nI i) (nI (mk (stB L s) i)) = it2 _ n (nI (i + 1)) (nI (mk (stB L s) (i + 1)))
    generalize it2 (f_X12_opens_L7 S (nI s) _) n = r
    unfold f_X12_opens_L7
    obtain ⟨p14, p15⟩ := hp i (by omega)
    have hmk := lt31_10 (mk_lt (stB L s) i) (by omega)
    have hpc := pcm_lt hL i
    have hnd : ndn (pcm L i) s < 32768 := ndn_lt (n := 15) hpc
    have e2 : (ndn (pcm L i) s = 0) ↔ alls (fun c => !(l_Y L c).testBit i || s.testBit (l_n L + l_k L + c)) (l_c L) = true := by
      rw [ndn_0]; exact orF_sub (F := fun c => (l_Y L c).testBit i)
    rw [h20, if_neg (nI_ge hi (by omega)), ← mk_step]
    have ez : nI (mk (stB L s) i) ||| (0 : Int32) = nI (mk (stB L s) i) := by
      show nI _ ||| nI 0 = _
      rw [oI_or, or_0]
    simp (disch := omega) only [lk, lz, nI_1, gd_in, nI_clamp, p14, p15, oI_ndn, oI_z, oI_pow, oI_or, ez]
    rcases kpr_st hL s i with ⟨k1, k2⟩ | ⟨j, k1, k2, k3⟩
    · by_cases c2 : alls (fun c => !(l_Y L c).testBit i || s.testBit (l_n L + l_k L + c)) (l_c L) = true
      · have d2 := e2.mpr c2
        simp [k1, k2, c2, d2, stB]
      · have d2 : ¬ ndn (pcm L i) s = 0 := fun z => c2 (e2.mp z)
        simp [k1, k2, c2, d2, stB]
    · rw [k2]
      simp (disch := omega) only [oI_neg, oI_bit1]
      by_cases c1 : s.testBit (l_n L + j) = true
      · by_cases c2 : alls (fun c => !(l_Y L c).testBit i || s.testBit (l_n L + l_k L + c)) (l_c L) = true
        · have d2 := e2.mpr c2
          simp [k3, c1, c2, d2, stB]
        · have d2 : ¬ ndn (pcm L i) s = 0 := fun z => c2 (e2.mp z)
          simp [k3, c1, c2, d2, stB]
      · simp [k3, c1, stB]
