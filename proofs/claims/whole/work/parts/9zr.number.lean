/-! numbers on the tape -/
def nE (t : Nat → Nat) (n p : Nat) : Nat := run (isDg t) n (wB t n p)
def dv (t : Nat → Nat) (q : Nat) : Nat → Nat
  | 0 => 0
  | k + 1 => dv t q k * 10 + (t (q + k) - 48)
def numV (t : Nat → Nat) (n p : Nat) : Nat := dv t (wB t n p) (nE t n p - wB t n p)
/-- the fault of a number from lo to below hx; 0 without -/
def numF (t : Nat → Nat) (n p lo hx : Nat) : Nat := if nE t n p = wB t n p then flt (wB t n p) 0 else if 2 < nE t n p - wB t n p ∨ numV t n p < lo ∨ hx ≤ numV t n p then flt (wB t n p) 1 else 0
/-- a fault that stays -/
def fstF (f g : Nat) : Nat := if f = 0 then g else f
theorem wB_ge (t : Nat → Nat) (n p : Nat) : p ≤ wB t n p := run_ge _ _ _
theorem wB_le {t : Nat → Nat} {n p : Nat} (h : p ≤ n) : wB t n p ≤ n := run_le h
theorem nE_ge (t : Nat → Nat) (n p : Nat) : wB t n p ≤ nE t n p := run_ge _ _ _
theorem nE_le {t : Nat → Nat} {n p : Nat} (h : p ≤ n) : nE t n p ≤ n := run_le (run_le h)
theorem wE_ge (t : Nat → Nat) (n p : Nat) : wB t n p ≤ wE t n p := run_ge _ _ _
theorem wE_le {t : Nat → Nat} {n p : Nat} (h : p ≤ n) : wE t n p ≤ n := run_le (run_le h)
theorem dv_le {t : Nat → Nat} {q : Nat} : ∀ k, (∀ j, j < k → t (q + j) ≤ 57) → k ≤ 2 → dv t q k ≤ 99
  | 0, _, _ => Nat.zero_le _
  | 1, hk, _ => by
    have a := hk 0 (by omega)
    show 0 * 10 + (t (q + 0) - 48) ≤ 99
    omega
  | 2, hk, _ => by
    have a := hk 0 (by omega)
    have b := hk 1 (by omega)
    show (0 * 10 + (t (q + 0) - 48)) * 10 + (t (q + 1) - 48) ≤ 99
    omega
  | n + 3, _, h => by omega
theorem numV_le {t : Nat → Nat} {n p : Nat} (h : nE t n p - wB t n p ≤ 2) : numV t n p ≤ 99 :=
  dv_le _ (fun j hj => (of_decide_eq_true (run_in (c := isDg t) (n := n) (p := wB t n p) (i := wB t n p + j) (by omega) (by show wB t n p + j < nE t n p; omega))).2) h
theorem numF_0 {t : Nat → Nat} {n p lo hx : Nat} (h : numF t n p lo hx = 0) : lo ≤ numV t n p ∧ numV t n p < hx ∧ nE t n p - wB t n p ≤ 2 ∧ wB t n p < nE t n p ∧ numV t n p ≤ 99 := by
  have g := nE_ge t n p
  unfold numF flt at h
  by_cases c : nE t n p = wB t n p
  · rw [if_pos c] at h; omega
  · rw [if_neg c] at h
    by_cases d : 2 < nE t n p - wB t n p ∨ numV t n p < lo ∨ hx ≤ numV t n p
    · rw [if_pos d] at h; omega
    · exact ⟨by omega, by omega, by omega, by omega, numV_le (by omega)⟩
theorem numF_lt {t : Nat → Nat} {n p lo hx : Nat} (h : p ≤ n) (h4 : n ≤ 400) : numF t n p lo hx < 2 ^ 16 := by
  have := wB_le (t := t) h
  unfold numF flt
  split
  · omega
  · split <;> omega
/-- the developers' number, its loop alone -/
theorem x_digits {S : wd_W} {n q : Nat} {t : Nat → Nat} {Q : o_X9_readNumber_q14 → Prop} (ht : XTa S n t) (hq : q ≤ n) (K : Int32 → Int32 → Option o_X9_readNumber_q14) (hK : ∀ v, v ≤ 1000 → (run (isDg t) n q - q ≤ 2 → v = dv t q (run (isDg t) n q - q)) → Ok (K (nI v) (nI (run (isDg t) n q))) Q) : Ok (it2 (f_X9_readNumber_q14_L14 S K) fuel (nI 0) (nI q)) Q := by
  obtain ⟨h0, h4, hr⟩ := ht
  refine ok_up (W := fun m i (x : Int32) => it2 (f_X9_readNumber_q14_L14 S K) m x (nI i)) (I := fun i x => q ≤ i ∧ run (isDg t) n q = run (isDg t) n i ∧ ∃ v, v ≤ 1000 ∧ x = nI v ∧ (i - q ≤ 2 → v = dv t q (i - q))) (e := n) ?_ ?_ fuel q (nI 0) hq ⟨Nat.le_refl _, rfl, 0, by omega, rfl, fun _ => by rw [Nat.sub_self]; rfl⟩ (by unfold fuel; omega)
  · rintro m x ⟨hqi, hI, v, v1, rfl, v3⟩
    show Ok (f_X9_readNumber_q14_L14 S K _ (nI v) (nI n)) _
    unfold f_X9_readNumber_q14_L14
    rw [h0, if_pos (nI_le (Nat.le_refl _) (by omega))]
    have e : run (isDg t) n q = n := by rw [hI, run_eq, if_neg (fun z => by omega)]
    rw [e] at hK
    exact hK v v1 v3
  · rintro m i x hi ⟨hqi, hI, v, v1, rfl, v3⟩ ih
    show Ok (f_X9_readNumber_q14_L14 S K (it2 _ m) (nI v) (nI i)) _
    generalize it2 (f_X9_readNumber_q14_L14 S K) m = r at ih
    have hb := (hr i hi).1
    have stop : ¬ isDg t i = true → Ok (K (nI v) (nI i)) Q := fun z => by
      have e := hI
      rw [run_eq (isDg t) n i, if_neg (fun y => z y.2)] at e
      rw [e] at hK
      exact hK v v1 v3
    unfold f_X9_readNumber_q14_L14
    rw [h0, if_neg (nI_ge hi (by omega)), gd_in (by omega) (by omega), gd_in (by omega) (by omega), gd_in (by omega) (by omega), nI_clamp (by omega), (hr i hi).2, li_48, li_57, nI_1]
    refine ok_ite (fun c => stop (fun z => ?_)) (fun c => ok_ite (fun d => stop (fun z => ?_)) (fun d => ?_))
    · rw [nI_ltI (by omega) (by omega)] at c
      have := of_decide_eq_true z
      omega
    · rw [nI_ltI (by omega) (by omega)] at d
      have := of_decide_eq_true z
      omega
    · rw [nI_ltI (by omega) (by omega)] at c d
      have hd : isDg t i = true := decide_eq_true ⟨by omega, by omega⟩
      have hrun : run (isDg t) n q = run (isDg t) n (i + 1) := by
        rw [hI, run_eq (isDg t) n i, if_pos ⟨hi, hd⟩]
      have e : nI v * (10 : Int32) + nI (t i) - nI 48 = nI (v * 10 + (t i - 48)) := by
        rw [li_10, nI_mulR, nI_add, pk_sub (by omega)]
        congr 1
        omega
      rw [e, li_1000]
      have hnew : i + 1 - q ≤ 2 → v * 10 + (t i - 48) = dv t q (i + 1 - q) := fun y => by
        rw [show i + 1 - q = (i - q) + 1 by omega, dv, v3 (by omega), show q + (i - q) = i by omega]
      have hv99 : i + 1 - q ≤ 2 → dv t q (i + 1 - q) ≤ 99 := fun y => dv_le _ (fun j hj => by
        have hin := run_in (c := isDg t) (n := n) (p := q) (i := q + j) (by omega) (by
          have := run_ge (isDg t) n (i + 1)
          omega)
        exact (of_decide_eq_true hin).2) y
      refine ok_lz ?_
      refine ok_lz ?_
      by_cases c3 : v * 10 + (t i - 48) < 1000
      · rw [if_pos (nI_lt c3 (by omega))]
        exact ih _ ⟨by omega, hrun, _, by omega, rfl, hnew⟩
      · rw [if_neg (by rw [nI_ltI (by omega) (by omega)]; exact c3)]
        refine ih _ ⟨by omega, hrun, 1000, by omega, rfl, fun y => ?_⟩
        have := hnew y
        have := hv99 y
        omega
