/-! words -/
def rwd (t : Nat → Nat) (q : Nat) : Nat → List Nat
  | 0 => []
  | k + 1 => t (q + k) :: rwd t q k
theorem rwd_len (t : Nat → Nat) (q : Nat) : ∀ k, (rwd t q k).length = k
  | 0 => rfl
  | k + 1 => by rw [rwd, List.length_cons, rwd_len t q k]
theorem rwd_eq {t c : Nat → Nat} {q : Nat} : ∀ k, rwd t q k = rwd c 0 k ↔ ∀ j, j < k → t (q + j) = c j
  | 0 => ⟨fun _ j hj => absurd hj (Nat.not_lt_zero j), fun _ => rfl⟩
  | k + 1 => by
    rw [rwd, rwd, List.cons.injEq, rwd_eq k, Nat.zero_add]
    constructor
    · rintro ⟨h1, h2⟩ j hj
      by_cases e : j = k
      · subst e; exact h1
      · exact h2 j (by omega)
    · intro h
      exact ⟨h k (by omega), fun j hj => h j (by omega)⟩
theorem rwd_is {t c : Nat → Nat} {q k m : Nat} : rwd t q k = rwd c 0 m ↔ k = m ∧ ∀ j, j < m → t (q + j) = c j := by
  constructor
  · intro h
    have e : k = m := by rw [← rwd_len t q k, h, rwd_len]
    subst e
    exact ⟨rfl, (rwd_eq k).mp h⟩
  · rintro ⟨rfl, h⟩
    exact (rwd_eq k).mpr h
/-- a word as a number: as the reference tells words apart -/
def wcd : List Nat → Nat
  | [] => 0
  | x :: r => wcd r * 256 + x
theorem wcd_inj : ∀ l m : List Nat, (∀ x, x ∈ l → 1 ≤ x ∧ x < 256) → (∀ x, x ∈ m → 1 ≤ x ∧ x < 256) → wcd l = wcd m → l = m
  | [], [], _, _, _ => rfl
  | [], x :: r, _, h2, h => by
    have := h2 x (List.mem_cons_self ..)
    rw [wcd, wcd] at h
    omega
  | x :: r, [], h1, _, h => by
    have := h1 x (List.mem_cons_self ..)
    rw [wcd, wcd] at h
    omega
  | x :: r, y :: s, h1, h2, h => by
    have a := h1 x (List.mem_cons_self ..)
    have b := h2 y (List.mem_cons_self ..)
    rw [wcd, wcd] at h
    have e : x = y := by omega
    have e2 : wcd r = wcd s := by omega
    rw [e, wcd_inj r s (fun z hz => h1 z (List.mem_cons_of_mem _ hz)) (fun z hz => h2 z (List.mem_cons_of_mem _ hz)) e2]
def cW0 (j : Nat) : Nat := [112, 108, 97, 99, 101, 115].getD j 0
theorem cW0_ch : ∀ j, j < 6 → st_ch 0 (nI j) = nI (cW0 j) := by decide +kernel
theorem x_isW0 {S : wd_W} {n q e : Nat} {t : Nat → Nat} (ht : XTa S n t) (h2 : S.1 1402 = nI e) (h3 : S.1 1403 = nI q) (hqe : q ≤ e) (hen : e ≤ n) : f_X9_isWord_q14_str0 S = some (nI (b2n (decide (rwd t q (e - q) = rwd cW0 0 6)))) := by
  obtain ⟨h0, h4, hr⟩ := ht
  apply ok_e
  unfold f_X9_isWord_q14_str0
  rw [h2, h3, pk_sub hqe, show (6 : Int32) = nI 6 from rfl]
  refine ok_ite (fun c => ?_) (fun c => ?_)
  · rw [nI_eq (by omega) (by omega)] at c
    rw [li_0]
    refine ok_for0 (W := fun m i (_ : Unit) => it1 (f_X9_isWord_q14_str0_L20 S) m (nI i)) (I := fun i _ => ∀ j, j < i → t (q + j) = cW0 j) (e := 6) (s := ()) (by omega) (fun j hj => absurd hj (Nat.not_lt_zero j)) ?_ ?_
    · intro m _ hI
      show Ok (f_X9_isWord_q14_str0_L20 S _ (nI 6)) _
      unfold f_X9_isWord_q14_str0_L20
      rw [if_pos (show (6 : Int32) ≤ nI 6 by decide), decide_eq_true (rwd_is.mpr ⟨c, hI⟩)]
      exact ok_some rfl
    · intro m i _ hi hI ih
      show Ok (f_X9_isWord_q14_str0_L20 S (it1 _ m) (nI i)) _
      generalize it1 (f_X9_isWord_q14_str0_L20 S) m = r at ih
      have hb := (hr (q + i) (by omega)).1
      have hc : cW0 i < 256 := by
        have : ∀ j, j < 6 → cW0 j < 256 := by decide
        exact this i hi
      unfold f_X9_isWord_q14_str0_L20
      rw [show (6 : Int32) = nI 6 from rfl, if_neg (nI_ge hi (by omega)), h3, nI_add, gd_in (by omega) (by omega), gd_in (by omega) (by omega), nI_clamp (by omega), (hr (q + i) (by omega)).2, cW0_ch i hi, nI_1]
      refine ok_ite (fun d => ?_) (fun d => ?_)
      · rw [nI_eq (by omega) (by omega)] at d
        refine ih () (fun j hj => ?_)
        by_cases e : j = i
        · subst e; exact d
        · exact hI j (by omega)
      · rw [nI_eq (by omega) (by omega)] at d
        rw [decide_eq_false (fun z => d ((rwd_is.mp z).2 i hi))]
        exact ok_some rfl
  · rw [nI_eq (by omega) (by omega)] at c
    rw [decide_eq_false (fun z => c (rwd_is.mp z).1)]
    exact ok_some rfl
def cW1 (j : Nat) : Nat := [108, 105, 110, 101].getD j 0
theorem cW1_ch : ∀ j, j < 4 → st_ch 1 (nI j) = nI (cW1 j) := by decide +kernel
theorem x_isW1 {S : wd_W} {n q e : Nat} {t : Nat → Nat} (ht : XTa S n t) (h2 : S.1 1402 = nI e) (h3 : S.1 1403 = nI q) (hqe : q ≤ e) (hen : e ≤ n) : f_X9_isWord_q14_str1 S = some (nI (b2n (decide (rwd t q (e - q) = rwd cW1 0 4)))) := by
  obtain ⟨h0, h4, hr⟩ := ht
  apply ok_e
  unfold f_X9_isWord_q14_str1
  rw [h2, h3, pk_sub hqe, show (4 : Int32) = nI 4 from rfl]
  refine ok_ite (fun c => ?_) (fun c => ?_)
  · rw [nI_eq (by omega) (by omega)] at c
    rw [li_0]
    refine ok_for0 (W := fun m i (_ : Unit) => it1 (f_X9_isWord_q14_str1_L20 S) m (nI i)) (I := fun i _ => ∀ j, j < i → t (q + j) = cW1 j) (e := 4) (s := ()) (by omega) (fun j hj => absurd hj (Nat.not_lt_zero j)) ?_ ?_
    · intro m _ hI
      show Ok (f_X9_isWord_q14_str1_L20 S _ (nI 4)) _
      unfold f_X9_isWord_q14_str1_L20
      rw [if_pos (show (4 : Int32) ≤ nI 4 by decide), decide_eq_true (rwd_is.mpr ⟨c, hI⟩)]
      exact ok_some rfl
    · intro m i _ hi hI ih
      show Ok (f_X9_isWord_q14_str1_L20 S (it1 _ m) (nI i)) _
      generalize it1 (f_X9_isWord_q14_str1_L20 S) m = r at ih
      have hb := (hr (q + i) (by omega)).1
      have hc : cW1 i < 256 := by
        have : ∀ j, j < 4 → cW1 j < 256 := by decide
        exact this i hi
      unfold f_X9_isWord_q14_str1_L20
      rw [show (4 : Int32) = nI 4 from rfl, if_neg (nI_ge hi (by omega)), h3, nI_add, gd_in (by omega) (by omega), gd_in (by omega) (by omega), nI_clamp (by omega), (hr (q + i) (by omega)).2, cW1_ch i hi, nI_1]
      refine ok_ite (fun d => ?_) (fun d => ?_)
      · rw [nI_eq (by omega) (by omega)] at d
        refine ih () (fun j hj => ?_)
        by_cases e : j = i
        · subst e; exact d
        · exact hI j (by omega)
      · rw [nI_eq (by omega) (by omega)] at d
        rw [decide_eq_false (fun z => d ((rwd_is.mp z).2 i hi))]
        exact ok_some rfl
  · rw [nI_eq (by omega) (by omega)] at c
    rw [decide_eq_false (fun z => c (rwd_is.mp z).1)]
    exact ok_some rfl
def cW2 (j : Nat) : Nat := [111, 110, 101].getD j 0
theorem cW2_ch : ∀ j, j < 3 → st_ch 2 (nI j) = nI (cW2 j) := by decide +kernel
theorem x_isW2 {S : wd_W} {n q e : Nat} {t : Nat → Nat} (ht : XTa S n t) (h2 : S.1 1402 = nI e) (h3 : S.1 1403 = nI q) (hqe : q ≤ e) (hen : e ≤ n) : f_X9_isWord_q14_str2 S = some (nI (b2n (decide (rwd t q (e - q) = rwd cW2 0 3)))) := by
  obtain ⟨h0, h4, hr⟩ := ht
  apply ok_e
  unfold f_X9_isWord_q14_str2
  rw [h2, h3, pk_sub hqe, show (3 : Int32) = nI 3 from rfl]
  refine ok_ite (fun c => ?_) (fun c => ?_)
  · rw [nI_eq (by omega) (by omega)] at c
    rw [li_0]
    refine ok_for0 (W := fun m i (_ : Unit) => it1 (f_X9_isWord_q14_str2_L20 S) m (nI i)) (I := fun i _ => ∀ j, j < i → t (q + j) = cW2 j) (e := 3) (s := ()) (by omega) (fun j hj => absurd hj (Nat.not_lt_zero j)) ?_ ?_
    · intro m _ hI
      show Ok (f_X9_isWord_q14_str2_L20 S _ (nI 3)) _
      unfold f_X9_isWord_q14_str2_L20
      rw [if_pos (show (3 : Int32) ≤ nI 3 by decide), decide_eq_true (rwd_is.mpr ⟨c, hI⟩)]
      exact ok_some rfl
    · intro m i _ hi hI ih
      show Ok (f_X9_isWord_q14_str2_L20 S (it1 _ m) (nI i)) _
      generalize it1 (f_X9_isWord_q14_str2_L20 S) m = r at ih
      have hb := (hr (q + i) (by omega)).1
      have hc : cW2 i < 256 := by
        have : ∀ j, j < 3 → cW2 j < 256 := by decide
        exact this i hi
      unfold f_X9_isWord_q14_str2_L20
      rw [show (3 : Int32) = nI 3 from rfl, if_neg (nI_ge hi (by omega)), h3, nI_add, gd_in (by omega) (by omega), gd_in (by omega) (by omega), nI_clamp (by omega), (hr (q + i) (by omega)).2, cW2_ch i hi, nI_1]
      refine ok_ite (fun d => ?_) (fun d => ?_)
      · rw [nI_eq (by omega) (by omega)] at d
        refine ih () (fun j hj => ?_)
        by_cases e : j = i
        · subst e; exact d
        · exact hI j (by omega)
      · rw [nI_eq (by omega) (by omega)] at d
        rw [decide_eq_false (fun z => d ((rwd_is.mp z).2 i hi))]
        exact ok_some rfl
  · rw [nI_eq (by omega) (by omega)] at c
    rw [decide_eq_false (fun z => c (rwd_is.mp z).1)]
    exact ok_some rfl
def cW3 (j : Nat) : Nat := [100, 97, 121, 115].getD j 0
theorem cW3_ch : ∀ j, j < 4 → st_ch 3 (nI j) = nI (cW3 j) := by decide +kernel
theorem x_isW3 {S : wd_W} {n q e : Nat} {t : Nat → Nat} (ht : XTa S n t) (h2 : S.1 1402 = nI e) (h3 : S.1 1403 = nI q) (hqe : q ≤ e) (hen : e ≤ n) : f_X9_isWord_q14_str3 S = some (nI (b2n (decide (rwd t q (e - q) = rwd cW3 0 4)))) := by
  obtain ⟨h0, h4, hr⟩ := ht
  apply ok_e
  unfold f_X9_isWord_q14_str3
  rw [h2, h3, pk_sub hqe, show (4 : Int32) = nI 4 from rfl]
  refine ok_ite (fun c => ?_) (fun c => ?_)
  · rw [nI_eq (by omega) (by omega)] at c
    rw [li_0]
    refine ok_for0 (W := fun m i (_ : Unit) => it1 (f_X9_isWord_q14_str3_L20 S) m (nI i)) (I := fun i _ => ∀ j, j < i → t (q + j) = cW3 j) (e := 4) (s := ()) (by omega) (fun j hj => absurd hj (Nat.not_lt_zero j)) ?_ ?_
    · intro m _ hI
      show Ok (f_X9_isWord_q14_str3_L20 S _ (nI 4)) _
      unfold f_X9_isWord_q14_str3_L20
      rw [if_pos (show (4 : Int32) ≤ nI 4 by decide), decide_eq_true (rwd_is.mpr ⟨c, hI⟩)]
      exact ok_some rfl
    · intro m i _ hi hI ih
      show Ok (f_X9_isWord_q14_str3_L20 S (it1 _ m) (nI i)) _
      generalize it1 (f_X9_isWord_q14_str3_L20 S) m = r at ih
      have hb := (hr (q + i) (by omega)).1
      have hc : cW3 i < 256 := by
        have : ∀ j, j < 4 → cW3 j < 256 := by decide
        exact this i hi
      unfold f_X9_isWord_q14_str3_L20
      rw [show (4 : Int32) = nI 4 from rfl, if_neg (nI_ge hi (by omega)), h3, nI_add, gd_in (by omega) (by omega), gd_in (by omega) (by omega), nI_clamp (by omega), (hr (q + i) (by omega)).2, cW3_ch i hi, nI_1]
      refine ok_ite (fun d => ?_) (fun d => ?_)
      · rw [nI_eq (by omega) (by omega)] at d
        refine ih () (fun j hj => ?_)
        by_cases e : j = i
        · subst e; exact d
        · exact hI j (by omega)
      · rw [nI_eq (by omega) (by omega)] at d
        rw [decide_eq_false (fun z => d ((rwd_is.mp z).2 i hi))]
        exact ok_some rfl
  · rw [nI_eq (by omega) (by omega)] at c
    rw [decide_eq_false (fun z => c (rwd_is.mp z).1)]
    exact ok_some rfl
def cW4 (j : Nat) : Nat := [107, 101, 101, 112].getD j 0
theorem cW4_ch : ∀ j, j < 4 → st_ch 4 (nI j) = nI (cW4 j) := by decide +kernel
theorem x_isW4 {S : wd_W} {n q e : Nat} {t : Nat → Nat} (ht : XTa S n t) (h2 : S.1 1402 = nI e) (h3 : S.1 1403 = nI q) (hqe : q ≤ e) (hen : e ≤ n) : f_X9_isWord_q14_str4 S = some (nI (b2n (decide (rwd t q (e - q) = rwd cW4 0 4)))) := by
  obtain ⟨h0, h4, hr⟩ := ht
  apply ok_e
  unfold f_X9_isWord_q14_str4
  rw [h2, h3, pk_sub hqe, show (4 : Int32) = nI 4 from rfl]
  refine ok_ite (fun c => ?_) (fun c => ?_)
  · rw [nI_eq (by omega) (by omega)] at c
    rw [li_0]
    refine ok_for0 (W := fun m i (_ : Unit) => it1 (f_X9_isWord_q14_str4_L20 S) m (nI i)) (I := fun i _ => ∀ j, j < i → t (q + j) = cW4 j) (e := 4) (s := ()) (by omega) (fun j hj => absurd hj (Nat.not_lt_zero j)) ?_ ?_
    · intro m _ hI
      show Ok (f_X9_isWord_q14_str4_L20 S _ (nI 4)) _
      unfold f_X9_isWord_q14_str4_L20
      rw [if_pos (show (4 : Int32) ≤ nI 4 by decide), decide_eq_true (rwd_is.mpr ⟨c, hI⟩)]
      exact ok_some rfl
    · intro m i _ hi hI ih
      show Ok (f_X9_isWord_q14_str4_L20 S (it1 _ m) (nI i)) _
      generalize it1 (f_X9_isWord_q14_str4_L20 S) m = r at ih
      have hb := (hr (q + i) (by omega)).1
      have hc : cW4 i < 256 := by
        have : ∀ j, j < 4 → cW4 j < 256 := by decide
        exact this i hi
      unfold f_X9_isWord_q14_str4_L20
      rw [show (4 : Int32) = nI 4 from rfl, if_neg (nI_ge hi (by omega)), h3, nI_add, gd_in (by omega) (by omega), gd_in (by omega) (by omega), nI_clamp (by omega), (hr (q + i) (by omega)).2, cW4_ch i hi, nI_1]
      refine ok_ite (fun d => ?_) (fun d => ?_)
      · rw [nI_eq (by omega) (by omega)] at d
        refine ih () (fun j hj => ?_)
        by_cases e : j = i
        · subst e; exact d
        · exact hI j (by omega)
      · rw [nI_eq (by omega) (by omega)] at d
        rw [decide_eq_false (fun z => d ((rwd_is.mp z).2 i hi))]
        exact ok_some rfl
  · rw [nI_eq (by omega) (by omega)] at c
    rw [decide_eq_false (fun z => c (rwd_is.mp z).1)]
    exact ok_some rfl
def cW5 (j : Nat) : Nat := [99, 97, 117, 115, 101].getD j 0
theorem cW5_ch : ∀ j, j < 5 → st_ch 5 (nI j) = nI (cW5 j) := by decide +kernel
theorem x_isW5 {S : wd_W} {n q e : Nat} {t : Nat → Nat} (ht : XTa S n t) (h2 : S.1 1402 = nI e) (h3 : S.1 1403 = nI q) (hqe : q ≤ e) (hen : e ≤ n) : f_X9_isWord_q14_str5 S = some (nI (b2n (decide (rwd t q (e - q) = rwd cW5 0 5)))) := by
  obtain ⟨h0, h4, hr⟩ := ht
  apply ok_e
  unfold f_X9_isWord_q14_str5
  rw [h2, h3, pk_sub hqe, show (5 : Int32) = nI 5 from rfl]
  refine ok_ite (fun c => ?_) (fun c => ?_)
  · rw [nI_eq (by omega) (by omega)] at c
    rw [li_0]
    refine ok_for0 (W := fun m i (_ : Unit) => it1 (f_X9_isWord_q14_str5_L20 S) m (nI i)) (I := fun i _ => ∀ j, j < i → t (q + j) = cW5 j) (e := 5) (s := ()) (by omega) (fun j hj => absurd hj (Nat.not_lt_zero j)) ?_ ?_
    · intro m _ hI
      show Ok (f_X9_isWord_q14_str5_L20 S _ (nI 5)) _
      unfold f_X9_isWord_q14_str5_L20
      rw [if_pos (show (5 : Int32) ≤ nI 5 by decide), decide_eq_true (rwd_is.mpr ⟨c, hI⟩)]
      exact ok_some rfl
    · intro m i _ hi hI ih
      show Ok (f_X9_isWord_q14_str5_L20 S (it1 _ m) (nI i)) _
      generalize it1 (f_X9_isWord_q14_str5_L20 S) m = r at ih
      have hb := (hr (q + i) (by omega)).1
      have hc : cW5 i < 256 := by
        have : ∀ j, j < 5 → cW5 j < 256 := by decide
        exact this i hi
      unfold f_X9_isWord_q14_str5_L20
      rw [show (5 : Int32) = nI 5 from rfl, if_neg (nI_ge hi (by omega)), h3, nI_add, gd_in (by omega) (by omega), gd_in (by omega) (by omega), nI_clamp (by omega), (hr (q + i) (by omega)).2, cW5_ch i hi, nI_1]
      refine ok_ite (fun d => ?_) (fun d => ?_)
      · rw [nI_eq (by omega) (by omega)] at d
        refine ih () (fun j hj => ?_)
        by_cases e : j = i
        · subst e; exact d
        · exact hI j (by omega)
      · rw [nI_eq (by omega) (by omega)] at d
        rw [decide_eq_false (fun z => d ((rwd_is.mp z).2 i hi))]
        exact ok_some rfl
  · rw [nI_eq (by omega) (by omega)] at c
    rw [decide_eq_false (fun z => c (rwd_is.mp z).1)]
    exact ok_some rfl
def cW6 (j : Nat) : Nat := [112, 108, 97, 99, 101].getD j 0
theorem cW6_ch : ∀ j, j < 5 → st_ch 6 (nI j) = nI (cW6 j) := by decide +kernel
theorem x_isW6 {S : wd_W} {n q e : Nat} {t : Nat → Nat} (ht : XTa S n t) (h2 : S.1 1402 = nI e) (h3 : S.1 1403 = nI q) (hqe : q ≤ e) (hen : e ≤ n) : f_X9_isWord_q14_str6 S = some (nI (b2n (decide (rwd t q (e - q) = rwd cW6 0 5)))) := by
  obtain ⟨h0, h4, hr⟩ := ht
  apply ok_e
  unfold f_X9_isWord_q14_str6
  rw [h2, h3, pk_sub hqe, show (5 : Int32) = nI 5 from rfl]
  refine ok_ite (fun c => ?_) (fun c => ?_)
  · rw [nI_eq (by omega) (by omega)] at c
    rw [li_0]
    refine ok_for0 (W := fun m i (_ : Unit) => it1 (f_X9_isWord_q14_str6_L20 S) m (nI i)) (I := fun i _ => ∀ j, j < i → t (q + j) = cW6 j) (e := 5) (s := ()) (by omega) (fun j hj => absurd hj (Nat.not_lt_zero j)) ?_ ?_
    · intro m _ hI
      show Ok (f_X9_isWord_q14_str6_L20 S _ (nI 5)) _
      unfold f_X9_isWord_q14_str6_L20
      rw [if_pos (show (5 : Int32) ≤ nI 5 by decide), decide_eq_true (rwd_is.mpr ⟨c, hI⟩)]
      exact ok_some rfl
    · intro m i _ hi hI ih
      show Ok (f_X9_isWord_q14_str6_L20 S (it1 _ m) (nI i)) _
      generalize it1 (f_X9_isWord_q14_str6_L20 S) m = r at ih
      have hb := (hr (q + i) (by omega)).1
      have hc : cW6 i < 256 := by
        have : ∀ j, j < 5 → cW6 j < 256 := by decide
        exact this i hi
      unfold f_X9_isWord_q14_str6_L20
      rw [show (5 : Int32) = nI 5 from rfl, if_neg (nI_ge hi (by omega)), h3, nI_add, gd_in (by omega) (by omega), gd_in (by omega) (by omega), nI_clamp (by omega), (hr (q + i) (by omega)).2, cW6_ch i hi, nI_1]
      refine ok_ite (fun d => ?_) (fun d => ?_)
      · rw [nI_eq (by omega) (by omega)] at d
        refine ih () (fun j hj => ?_)
        by_cases e : j = i
        · subst e; exact d
        · exact hI j (by omega)
      · rw [nI_eq (by omega) (by omega)] at d
        rw [decide_eq_false (fun z => d ((rwd_is.mp z).2 i hi))]
        exact ok_some rfl
  · rw [nI_eq (by omega) (by omega)] at c
    rw [decide_eq_false (fun z => c (rwd_is.mp z).1)]
    exact ok_some rfl
def cW7 (j : Nat) : Nat := [116, 104, 114, 111, 117, 103, 104].getD j 0
theorem cW7_ch : ∀ j, j < 7 → st_ch 7 (nI j) = nI (cW7 j) := by decide +kernel
theorem x_isW7 {S : wd_W} {n q e : Nat} {t : Nat → Nat} (ht : XTa S n t) (h2 : S.1 1402 = nI e) (h3 : S.1 1403 = nI q) (hqe : q ≤ e) (hen : e ≤ n) : f_X9_isWord_q14_str7 S = some (nI (b2n (decide (rwd t q (e - q) = rwd cW7 0 7)))) := by
  obtain ⟨h0, h4, hr⟩ := ht
  apply ok_e
  unfold f_X9_isWord_q14_str7
  rw [h2, h3, pk_sub hqe, show (7 : Int32) = nI 7 from rfl]
  refine ok_ite (fun c => ?_) (fun c => ?_)
  · rw [nI_eq (by omega) (by omega)] at c
    rw [li_0]
    refine ok_for0 (W := fun m i (_ : Unit) => it1 (f_X9_isWord_q14_str7_L20 S) m (nI i)) (I := fun i _ => ∀ j, j < i → t (q + j) = cW7 j) (e := 7) (s := ()) (by omega) (fun j hj => absurd hj (Nat.not_lt_zero j)) ?_ ?_
    · intro m _ hI
      show Ok (f_X9_isWord_q14_str7_L20 S _ (nI 7)) _
      unfold f_X9_isWord_q14_str7_L20
      rw [if_pos (show (7 : Int32) ≤ nI 7 by decide), decide_eq_true (rwd_is.mpr ⟨c, hI⟩)]
      exact ok_some rfl
    · intro m i _ hi hI ih
      show Ok (f_X9_isWord_q14_str7_L20 S (it1 _ m) (nI i)) _
      generalize it1 (f_X9_isWord_q14_str7_L20 S) m = r at ih
      have hb := (hr (q + i) (by omega)).1
      have hc : cW7 i < 256 := by
        have : ∀ j, j < 7 → cW7 j < 256 := by decide
        exact this i hi
      unfold f_X9_isWord_q14_str7_L20
      rw [show (7 : Int32) = nI 7 from rfl, if_neg (nI_ge hi (by omega)), h3, nI_add, gd_in (by omega) (by omega), gd_in (by omega) (by omega), nI_clamp (by omega), (hr (q + i) (by omega)).2, cW7_ch i hi, nI_1]
      refine ok_ite (fun d => ?_) (fun d => ?_)
      · rw [nI_eq (by omega) (by omega)] at d
        refine ih () (fun j hj => ?_)
        by_cases e : j = i
        · subst e; exact d
        · exact hI j (by omega)
      · rw [nI_eq (by omega) (by omega)] at d
        rw [decide_eq_false (fun z => d ((rwd_is.mp z).2 i hi))]
        exact ok_some rfl
  · rw [nI_eq (by omega) (by omega)] at c
    rw [decide_eq_false (fun z => c (rwd_is.mp z).1)]
    exact ok_some rfl
def cW8 (j : Nat) : Nat := [115, 111, 109, 101].getD j 0
theorem cW8_ch : ∀ j, j < 4 → st_ch 8 (nI j) = nI (cW8 j) := by decide +kernel
theorem x_isW8 {S : wd_W} {n q e : Nat} {t : Nat → Nat} (ht : XTa S n t) (h2 : S.1 1402 = nI e) (h3 : S.1 1403 = nI q) (hqe : q ≤ e) (hen : e ≤ n) : f_X9_isWord_q14_str8 S = some (nI (b2n (decide (rwd t q (e - q) = rwd cW8 0 4)))) := by
  obtain ⟨h0, h4, hr⟩ := ht
  apply ok_e
  unfold f_X9_isWord_q14_str8
  rw [h2, h3, pk_sub hqe, show (4 : Int32) = nI 4 from rfl]
  refine ok_ite (fun c => ?_) (fun c => ?_)
  · rw [nI_eq (by omega) (by omega)] at c
    rw [li_0]
    refine ok_for0 (W := fun m i (_ : Unit) => it1 (f_X9_isWord_q14_str8_L20 S) m (nI i)) (I := fun i _ => ∀ j, j < i → t (q + j) = cW8 j) (e := 4) (s := ()) (by omega) (fun j hj => absurd hj (Nat.not_lt_zero j)) ?_ ?_
    · intro m _ hI
      show Ok (f_X9_isWord_q14_str8_L20 S _ (nI 4)) _
      unfold f_X9_isWord_q14_str8_L20
      rw [if_pos (show (4 : Int32) ≤ nI 4 by decide), decide_eq_true (rwd_is.mpr ⟨c, hI⟩)]
      exact ok_some rfl
    · intro m i _ hi hI ih
      show Ok (f_X9_isWord_q14_str8_L20 S (it1 _ m) (nI i)) _
      generalize it1 (f_X9_isWord_q14_str8_L20 S) m = r at ih
      have hb := (hr (q + i) (by omega)).1
      have hc : cW8 i < 256 := by
        have : ∀ j, j < 4 → cW8 j < 256 := by decide
        exact this i hi
      unfold f_X9_isWord_q14_str8_L20
      rw [show (4 : Int32) = nI 4 from rfl, if_neg (nI_ge hi (by omega)), h3, nI_add, gd_in (by omega) (by omega), gd_in (by omega) (by omega), nI_clamp (by omega), (hr (q + i) (by omega)).2, cW8_ch i hi, nI_1]
      refine ok_ite (fun d => ?_) (fun d => ?_)
      · rw [nI_eq (by omega) (by omega)] at d
        refine ih () (fun j hj => ?_)
        by_cases e : j = i
        · subst e; exact d
        · exact hI j (by omega)
      · rw [nI_eq (by omega) (by omega)] at d
        rw [decide_eq_false (fun z => d ((rwd_is.mp z).2 i hi))]
        exact ok_some rfl
  · rw [nI_eq (by omega) (by omega)] at c
    rw [decide_eq_false (fun z => c (rwd_is.mp z).1)]
    exact ok_some rfl
def cW9 (j : Nat) : Nat := [116, 119, 111].getD j 0
theorem cW9_ch : ∀ j, j < 3 → st_ch 9 (nI j) = nI (cW9 j) := by decide +kernel
theorem x_isW9 {S : wd_W} {n q e : Nat} {t : Nat → Nat} (ht : XTa S n t) (h2 : S.1 1402 = nI e) (h3 : S.1 1403 = nI q) (hqe : q ≤ e) (hen : e ≤ n) : f_X9_isWord_q14_str9 S = some (nI (b2n (decide (rwd t q (e - q) = rwd cW9 0 3)))) := by
  obtain ⟨h0, h4, hr⟩ := ht
  apply ok_e
  unfold f_X9_isWord_q14_str9
  rw [h2, h3, pk_sub hqe, show (3 : Int32) = nI 3 from rfl]
  refine ok_ite (fun c => ?_) (fun c => ?_)
  · rw [nI_eq (by omega) (by omega)] at c
    rw [li_0]
    refine ok_for0 (W := fun m i (_ : Unit) => it1 (f_X9_isWord_q14_str9_L20 S) m (nI i)) (I := fun i _ => ∀ j, j < i → t (q + j) = cW9 j) (e := 3) (s := ()) (by omega) (fun j hj => absurd hj (Nat.not_lt_zero j)) ?_ ?_
    · intro m _ hI
      show Ok (f_X9_isWord_q14_str9_L20 S _ (nI 3)) _
      unfold f_X9_isWord_q14_str9_L20
      rw [if_pos (show (3 : Int32) ≤ nI 3 by decide), decide_eq_true (rwd_is.mpr ⟨c, hI⟩)]
      exact ok_some rfl
    · intro m i _ hi hI ih
      show Ok (f_X9_isWord_q14_str9_L20 S (it1 _ m) (nI i)) _
      generalize it1 (f_X9_isWord_q14_str9_L20 S) m = r at ih
      have hb := (hr (q + i) (by omega)).1
      have hc : cW9 i < 256 := by
        have : ∀ j, j < 3 → cW9 j < 256 := by decide
        exact this i hi
      unfold f_X9_isWord_q14_str9_L20
      rw [show (3 : Int32) = nI 3 from rfl, if_neg (nI_ge hi (by omega)), h3, nI_add, gd_in (by omega) (by omega), gd_in (by omega) (by omega), nI_clamp (by omega), (hr (q + i) (by omega)).2, cW9_ch i hi, nI_1]
      refine ok_ite (fun d => ?_) (fun d => ?_)
      · rw [nI_eq (by omega) (by omega)] at d
        refine ih () (fun j hj => ?_)
        by_cases e : j = i
        · subst e; exact d
        · exact hI j (by omega)
      · rw [nI_eq (by omega) (by omega)] at d
        rw [decide_eq_false (fun z => d ((rwd_is.mp z).2 i hi))]
        exact ok_some rfl
  · rw [nI_eq (by omega) (by omega)] at c
    rw [decide_eq_false (fun z => c (rwd_is.mp z).1)]
    exact ok_some rfl
def cW10 (j : Nat) : Nat := [97, 108, 108].getD j 0
theorem cW10_ch : ∀ j, j < 3 → st_ch 10 (nI j) = nI (cW10 j) := by decide +kernel
theorem x_isW10 {S : wd_W} {n q e : Nat} {t : Nat → Nat} (ht : XTa S n t) (h2 : S.1 1402 = nI e) (h3 : S.1 1403 = nI q) (hqe : q ≤ e) (hen : e ≤ n) : f_X9_isWord_q14_str10 S = some (nI (b2n (decide (rwd t q (e - q) = rwd cW10 0 3)))) := by
  obtain ⟨h0, h4, hr⟩ := ht
  apply ok_e
  unfold f_X9_isWord_q14_str10
  rw [h2, h3, pk_sub hqe, show (3 : Int32) = nI 3 from rfl]
  refine ok_ite (fun c => ?_) (fun c => ?_)
  · rw [nI_eq (by omega) (by omega)] at c
    rw [li_0]
    refine ok_for0 (W := fun m i (_ : Unit) => it1 (f_X9_isWord_q14_str10_L20 S) m (nI i)) (I := fun i _ => ∀ j, j < i → t (q + j) = cW10 j) (e := 3) (s := ()) (by omega) (fun j hj => absurd hj (Nat.not_lt_zero j)) ?_ ?_
    · intro m _ hI
      show Ok (f_X9_isWord_q14_str10_L20 S _ (nI 3)) _
      unfold f_X9_isWord_q14_str10_L20
      rw [if_pos (show (3 : Int32) ≤ nI 3 by decide), decide_eq_true (rwd_is.mpr ⟨c, hI⟩)]
      exact ok_some rfl
    · intro m i _ hi hI ih
      show Ok (f_X9_isWord_q14_str10_L20 S (it1 _ m) (nI i)) _
      generalize it1 (f_X9_isWord_q14_str10_L20 S) m = r at ih
      have hb := (hr (q + i) (by omega)).1
      have hc : cW10 i < 256 := by
        have : ∀ j, j < 3 → cW10 j < 256 := by decide
        exact this i hi
      unfold f_X9_isWord_q14_str10_L20
      rw [show (3 : Int32) = nI 3 from rfl, if_neg (nI_ge hi (by omega)), h3, nI_add, gd_in (by omega) (by omega), gd_in (by omega) (by omega), nI_clamp (by omega), (hr (q + i) (by omega)).2, cW10_ch i hi, nI_1]
      refine ok_ite (fun d => ?_) (fun d => ?_)
      · rw [nI_eq (by omega) (by omega)] at d
        refine ih () (fun j hj => ?_)
        by_cases e : j = i
        · subst e; exact d
        · exact hI j (by omega)
      · rw [nI_eq (by omega) (by omega)] at d
        rw [decide_eq_false (fun z => d ((rwd_is.mp z).2 i hi))]
        exact ok_some rfl
  · rw [nI_eq (by omega) (by omega)] at c
    rw [decide_eq_false (fun z => c (rwd_is.mp z).1)]
    exact ok_some rfl
