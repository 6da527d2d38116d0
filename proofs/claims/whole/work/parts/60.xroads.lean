/-! the developers' ways -/
def xL (S : wd_W) (c : Nat) (L : Ld) : Prop :=
  (S.1 (100 * c) = nI (l_N L) ∧ S.1 (100 * c + 1) = nI (l_n L) ∧ S.1 (100 * c + 7) = nI (l_k L) ∧ S.1 (100 * c + 10) = nI (l_c L) ∧ S.1 (100 * c + 14) = nI (l_w L) ∧ S.1 (100 * c + 15) = nI (l_m L) ∧ S.1 (100 * c + 16) = nI (l_a L) ∧ S.1 (100 * c + 17) = nI (l_b L)) ∧
  (∀ k, k < l_n L → S.2.2.1 (c + 1) k = nI (l_A L k) ∧ S.2.2.1 (c + 2) k = nI (l_B L k) ∧ S.2.2.1 (c + 3) k = nI (l_C L k) ∧ S.2.2.1 (c + 4) k = nI (1 - l_O L k) ∧ S.2.2.1 (c + 5) k = nI (l_D L k)) ∧
  (∀ j, j < l_k L → S.2.2.1 (c + 6) j = nI (l_P L j) ∧ S.2.2.1 (c + 7) j = nI (l_Q L j)) ∧
  (∀ j, j < l_c L → S.2.2.1 (c + 8) j = nI (l_R L j) ∧ S.2.2.1 (c + 9) j = nI (l_X L j) ∧ S.2.2.1 (c + 10) j = nI (l_Y L j))
/-- the roads follow the land -/
def xR (S : wd_W) (r : Nat) (L : Ld) : Prop :=
  (S.1 (100 * r) = nI (l_n L) ∧ S.1 (100 * r + 1) = nI (2 ^ l_N L - 1) ∧ S.1 (100 * r + 2) = nI (neM L) ∧ S.1 (100 * r + 3) = nI (l_N L)) ∧
  ∀ k, k < l_n L → S.2.2.1 (r + 1) k = nI (tM L k) ∧ S.2.2.1 (r + 2) k = nI (ouM L k) ∧ S.2.2.1 (r + 3) k = nI (inM L k)
/-- what of a land the roads want; n lines, 13 at most -/
def lOr (L : Ld) : Prop :=
  (2 ≤ l_N L ∧ l_N L ≤ 10 ∧ l_n L ≤ 13) ∧ (∀ k, k < l_n L → l_A L k < l_N L ∧ l_B L k < l_N L ∧ l_A L k ≠ l_B L k ∧ l_O L k ≤ 1 ∧ 1 ≤ l_D L k ∧ l_D L k ≤ 9) ∧
  (l_w L ≤ 4 ∧ l_m L ≤ 99 ∧ l_a L < l_N L ∧ l_b L < l_N L)
theorem lOk_r {L : Ld} (h : lOk L) : lOr L := by
  obtain ⟨⟨g1, g2, g3, g4, g5, g6⟩, gk, gj, gu, gc, gw1, gw2, gw3, gw4, gw5, gw6⟩ := h
  exact ⟨⟨g1, g2, by omega⟩, fun k hk => by
    obtain ⟨a1, a2, a3, a4, a5, a6, a7⟩ := gk k hk
    exact ⟨a1, a2, a3, a5, a6, a7⟩, gw1, gw2, gw3, gw4⟩
theorem lt_1024 {m N : Nat} (h : m < 2 ^ N) (hN : N ≤ 10) : m < 1024 := Nat.lt_of_lt_of_le h (pow_le_k (n := 10) hN)
theorem tM_lt {L : Ld} (h : lOr L) {k : Nat} (hk : k < l_n L) : tM L k < 2 ^ l_N L ∧ ouM L k < 2 ^ l_N L ∧ inM L k < 2 ^ l_N L := by
  obtain ⟨a1, a2, _⟩ := h.2.1 k hk
  have p1 : 2 ^ l_A L k < 2 ^ l_N L := Nat.pow_lt_pow_right (by decide) a1
  have p2 : 2 ^ l_B L k < 2 ^ l_N L := Nat.pow_lt_pow_right (by decide) a2
  refine ⟨Nat.or_lt_two_pow p1 p2, ?_, ?_⟩
  · unfold ouM; split
    · exact p1
    · exact Nat.or_lt_two_pow p1 p2
  · unfold inM; split
    · exact p2
    · exact Nat.or_lt_two_pow p1 p2
theorem neM_lt {L : Ld} (h : lOr L) : neM L < 2 ^ l_N L := by
  have p1 : 2 ^ l_a L < 2 ^ l_N L := Nat.pow_lt_pow_right (by decide) h.2.2.2.2.1
  have p2 : 2 ^ l_b L < 2 ^ l_N L := Nat.pow_lt_pow_right (by decide) h.2.2.2.2.2
  unfold neM
  split
  · have := Nat.two_pow_pos (l_N L); omega
  · split
    · exact p1
    · exact Nat.or_lt_two_pow p1 p2
theorem l_dG {L : Ld} (h : lOr L) {op : Nat} (hop : op < 2 ^ l_n L) : dG (l_A L) (l_B L) (l_D L) op (l_N L) := by
  intro k hk
  obtain ⟨a1, a2, a3, a4, a5, a6⟩ := h.2.1 k (tb_in hop hk)
  exact ⟨a1, a2, a3, a5, a6⟩
theorem x_need_q111 {S : wd_W} {L : Ld} (hL : lOr L) (h14 : S.1 1614 = nI (l_w L)) (h16 : S.1 1616 = nI (l_a L)) (h17 : S.1 1617 = nI (l_b L)) (h1 : S.1 11101 = nI (2 ^ l_N L - 1)) : f_X7_neededPlaces_q111 S = some (nI (neM L)) := by
  obtain ⟨⟨g1, g2, g3⟩, gk, w1, w2, w3, w4⟩ := hL
  unfold f_X7_neededPlaces_q111
  rw [h14, h16, h17, h1]
  simp (disch := omega) only [li_1, li_2, nI_eq, oI_p2, oI_or]
  unfold neM
  by_cases c1 : l_w L = 1
  · simp [c1]
  · by_cases c2 : l_w L = 2
    · simp [c2]
    · simp [c1, c2]
theorem x_follow_q111 {S : wd_W} {L : Ld} (hL : lOr L) (h : xL S 16 L) :
    f_X7_follow_q111 S = some (nI (l_n L), nI (2 ^ l_N L - 1), nI (neM L), nI (l_N L), fil (fun k => nI (tM L k)) (S.2.2.1 112) (l_n L), fil (fun k => nI (ouM L k)) (S.2.2.1 113) (l_n L), fil (fun k => nI (inM L k)) (S.2.2.1 114) (l_n L)) := by
  have hL0 := hL
  obtain ⟨⟨g1, g2, g3⟩, gk, w1, w2, w3, w4⟩ := hL
  simp only [xL, Nat.reduceMul, Nat.reduceAdd] at h
  obtain ⟨⟨h0, h1, h7, h10, h14, h15, h16, h17⟩, hk, hj, hc⟩ := h
  have h2N := Nat.two_pow_pos (l_N L)
  unfold f_X7_follow_q111
  simp only [lz]
  have e3 : (1 : Int32) <<< (S.1 1600 &&& 31) - (1 : Int32) = nI (2 ^ l_N L - 1) := by
    rw [h0, oI_pow (by omega), li_1, oI_sub1 h2N]
  rw [e3, bd_s (x_need_q111 (S := wd_o S [(11100, (S.1 1601)), (11101, nI (2 ^ l_N L - 1)), (11102, (S.1 11102)), (11103, (S.1 1600))] [] [(112, (S.2.2.1 112)), (113, (S.2.2.1 113)), (114, (S.2.2.1 114))] [] []) hL0 h14 h16 h17 rfl)]
  refine Eq.trans ?_ (eq_for0 (W := fun n i => it4 (f_X7_follow_q111_L44 S (S.1 1600) (S.1 1601) (nI (2 ^ l_N L - 1)) (nI (neM L))) n (nI i) (fil (fun k => nI (tM L k)) (S.2.2.1 112) i) (fil (fun k => nI (ouM L k)) (S.2.2.1 113) i) (fil (fun k => nI (inM L k)) (S.2.2.1 114) i)) (e := l_n L) (by omega) ?_ ?_)
  · show it4 _ fuel (nI 0) _ _ _ = it4 _ fuel (nI 0) (fil _ _ 0) (fil _ _ 0) (fil _ _ 0)
    rw [fil_0, fil_0, fil_0]
  · intro n
    show f_X7_follow_q111_L44 S _ _ _ _ _ (nI (l_n L)) _ _ _ = _
    unfold f_X7_follow_q111_L44
    rw [h1, h0, if_pos (nI_le (Nat.le_refl _) (by omega))]
  · intro n i hi
    show f_X7_follow_q111_L44 S _ _ _ _ (it4 _ n) (nI i) _ _ _ = _
    unfold f_X7_follow_q111_L44
    obtain ⟨k1, k2, k3, k4, k5⟩ := hk i hi
    obtain ⟨a1, a2, a3, a4, a5, a6⟩ := gk i hi
    rw [h1, if_neg (nI_ge hi (by omega)), ← fil_upd, ← fil_upd, ← fil_upd]
    simp (disch := omega) only [lz, nI_1, gd_in, nI_clamp, k1, k2, k4, oI_pow, oI_or]
    unfold tM ouM inM
    by_cases c : l_O L i = 0
    · have c1 : nI (1 - l_O L i) = nI 1 := by rw [c]
      have n1 : ¬ nI 1 = 0 := by decide
      rw [c1]
      simp only [lk, if_neg n1, c, if_true]
      simp (disch := omega) only [gd_in, nI_clamp]
    · have c1 : nI (1 - l_O L i) = 0 := by rw [show 1 - l_O L i = 0 by omega]; rfl
      rw [c1]
      simp only [lk, c, if_true, if_false]
      simp (disch := omega) only [gd_in, nI_clamp]
theorem x_reached_q111_q113 {S : wd_W} {nl N op a : Nat} {g t : Nat → Nat} (h0 : S.1 11100 = nI nl) (h3 : S.1 11103 = nI N) (hN : N ≤ 10) (hnl : nl ≤ 13) (ha : a < N) (hop : op < 2 ^ nl)
    (hk : ∀ k, k < nl → S.2.2.1 113 k = nI (g k) ∧ g k < 2 ^ N ∧ S.2.2.1 112 k = nI (t k) ∧ t k < 2 ^ N) : f_X7_reached_q111_q113 S (nI a) (nI op) = some (nI (rchM g t op nl N a)) := by
  have hop2 := lt31_10 hop (by omega)
  have hlt : ∀ m, m < 2 ^ N → ∀ i, itf (rS g t op) m i < 2 ^ N := fun m hm i => itf_ind (P := fun _ x => x < 2 ^ N) hm (fun _ _ _ h => rS_lt (fun k h2 => (hk k (tb_in hop h2)).2.2.2) h)
  have hpass : ∀ (k : Int32 → Option Int32) (m : Nat), m < 2 ^ N → it2 (f_X7_reached_q111_q113_L24 S (nI op) k) fuel (nI m) 0 = k (nI (rP g t op nl m)) := by
    intro k m hm
    refine Eq.trans ?_ (eq_for0 (W := fun n i => it2 (f_X7_reached_q111_q113_L24 S (nI op) k) n (nI (itf (rS g t op) m i)) (nI i)) (e := nl) (x := k (nI (rP g t op nl m))) (by omega) ?_ ?_)
    · rfl
    · intro n
      show f_X7_reached_q111_q113_L24 S (nI op) k _ _ (nI nl) = _
      unfold f_X7_reached_q111_q113_L24
      rw [h0, if_pos (nI_le (Nat.le_refl _) (by omega))]
      rfl
    · intro n i hi
      show f_X7_reached_q111_q113_L24 S (nI op) k (it2 _ n) (nI (itf (rS g t op) m i)) (nI i) = it2 _ n (nI (rS g t op i (itf (rS g t op) m i))) (nI (i + 1))
      generalize it2 (f_X7_reached_q111_q113_L24 S (nI op) k) n = r
      have hx := lt_1024 (hlt m hm i) hN
      generalize itf (rS g t op) m i = x at hx
      obtain ⟨k1, k2, k3, k4⟩ := hk i hi
      have hand : x &&& g i ≤ x := Nat.and_le_left
      unfold f_X7_reached_q111_q113_L24 rS
      rw [h0, if_neg (nI_ge hi (by omega))]
      simp (disch := omega) only [nI_1, gd_in, nI_clamp, k1, k3, oI_and, oI_or, oI_z, oI_bit0]
      by_cases c1 : op.testBit i = true
      · by_cases c2 : x &&& g i = 0
        · simp [lk, c1, c2]
        · simp [lk, lz, c1, c2]
      · simp [lk, c1]
  have h0a : 2 ^ a < 2 ^ N := Nat.pow_lt_pow_right (by decide) ha
  have hrlt : ∀ n, rep (rP g t op nl) (2 ^ a) n < 2 ^ N := by
    intro n
    induction n with
    | zero => exact h0a
    | succ n ih => exact hlt _ ih nl
  unfold f_X7_reached_q111_q113
  refine Eq.trans (b := it2 (f_X7_reached_q111_q113_L8 S (nI op)) fuel (nI (2 ^ a)) (nI 1)) (by simp only [lz]; rw [oI_pow (by omega)]; rfl) ?_
  apply ok_e
  refine ok_up (W := fun n i m => it2 (f_X7_reached_q111_q113_L8 S (nI op)) n (nI m) (nI i)) (I := fun i m => 1 ≤ i ∧ m = rep (rP g t op nl) (2 ^ a) (i - 1)) (e := N) ?_ ?_ fuel 1 (2 ^ a) (by omega) ⟨Nat.le_refl _, rfl⟩ (by unfold fuel; omega)
  · rintro n m ⟨hi1, hI⟩
    show Ok (f_X7_reached_q111_q113_L8 S (nI op) _ (nI m) (nI N)) _
    unfold f_X7_reached_q111_q113_L8
    rw [h3, if_pos (nI_le (Nat.le_refl _) (by omega)), hI]
    exact ok_some rfl
  · rintro n i m hi ⟨hi1, hI⟩ ih
    show Ok (f_X7_reached_q111_q113_L8 S (nI op) (it2 _ n) (nI m) (nI i)) _
    generalize it2 (f_X7_reached_q111_q113_L8 S (nI op)) n = r at ih
    unfold f_X7_reached_q111_q113_L8
    rw [h3, if_neg (nI_ge hi (by omega))]
    refine ok_lk ?_
    have hm : m < 2 ^ N := by rw [hI]; exact hrlt _
    rw [hpass _ m hm]
    have b1 := lt_1024 (hlt m hm nl) hN
    have b2 := lt_1024 hm hN
    change rP g t op nl m < 1024 at b1
    simp (disch := omega) only [nI_eq, nI_1]
    refine ok_ite (fun e => ok_some ?_) (fun e => ?_)
    · rw [e]
      unfold rchM
      obtain ⟨d, hd⟩ : ∃ d, N - 1 = i - 1 + d := ⟨N - i, by omega⟩
      have hadd : ∀ d, rep (rP g t op nl) (2 ^ a) (i - 1 + d) = rep (rP g t op nl) (rep (rP g t op nl) (2 ^ a) (i - 1)) d := by
        intro d
        induction d with
        | zero => rfl
        | succ d ih => show rP g t op nl (rep (rP g t op nl) (2 ^ a) (i - 1 + d)) = rP g t op nl _; rw [ih]
      rw [hd, hadd, ← hI, rep_fix e]
    · refine ih _ ⟨by omega, ?_⟩
      rw [hI, show i + 1 - 1 = (i - 1) + 1 by omega]; rfl
theorem x_reached_q111_q114 {S : wd_W} {nl N op a : Nat} {g t : Nat → Nat} (h0 : S.1 11100 = nI nl) (h3 : S.1 11103 = nI N) (hN : N ≤ 10) (hnl : nl ≤ 13) (ha : a < N) (hop : op < 2 ^ nl)
    (hk : ∀ k, k < nl → S.2.2.1 114 k = nI (g k) ∧ g k < 2 ^ N ∧ S.2.2.1 112 k = nI (t k) ∧ t k < 2 ^ N) : f_X7_reached_q111_q114 S (nI a) (nI op) = some (nI (rchM g t op nl N a)) := by
  have hop2 := lt31_10 hop (by omega)
  have hlt : ∀ m, m < 2 ^ N → ∀ i, itf (rS g t op) m i < 2 ^ N := fun m hm i => itf_ind (P := fun _ x => x < 2 ^ N) hm (fun _ _ _ h => rS_lt (fun k h2 => (hk k (tb_in hop h2)).2.2.2) h)
  have hpass : ∀ (k : Int32 → Option Int32) (m : Nat), m < 2 ^ N → it2 (f_X7_reached_q111_q114_L24 S (nI op) k) fuel (nI m) 0 = k (nI (rP g t op nl m)) := by
    intro k m hm
    refine Eq.trans ?_ (eq_for0 (W := fun n i => it2 (f_X7_reached_q111_q114_L24 S (nI op) k) n (nI (itf (rS g t op) m i)) (nI i)) (e := nl) (x := k (nI (rP g t op nl m))) (by omega) ?_ ?_)
    · rfl
    · intro n
      show f_X7_reached_q111_q114_L24 S (nI op) k _ _ (nI nl) = _
      unfold f_X7_reached_q111_q114_L24
      rw [h0, if_pos (nI_le (Nat.le_refl _) (by omega))]
      rfl
    · intro n i hi
      show f_X7_reached_q111_q114_L24 S (nI op) k (it2 _ n) (nI (itf (rS g t op) m i)) (nI i) = it2 _ n (nI (rS g t op i (itf (rS g t op) m i))) (nI (i + 1))
      generalize it2 (f_X7_reached_q111_q114_L24 S (nI op) k) n = r
      have hx := lt_1024 (hlt m hm i) hN
      generalize itf (rS g t op) m i = x at hx
      obtain ⟨k1, k2, k3, k4⟩ := hk i hi
      have hand : x &&& g i ≤ x := Nat.and_le_left
      unfold f_X7_reached_q111_q114_L24 rS
      rw [h0, if_neg (nI_ge hi (by omega))]
      simp (disch := omega) only [nI_1, gd_in, nI_clamp, k1, k3, oI_and, oI_or, oI_z, oI_bit0]
      by_cases c1 : op.testBit i = true
      · by_cases c2 : x &&& g i = 0
        · simp [lk, c1, c2]
        · simp [lk, lz, c1, c2]
      · simp [lk, c1]
  have h0a : 2 ^ a < 2 ^ N := Nat.pow_lt_pow_right (by decide) ha
  have hrlt : ∀ n, rep (rP g t op nl) (2 ^ a) n < 2 ^ N := by
    intro n
    induction n with
    | zero => exact h0a
    | succ n ih => exact hlt _ ih nl
  unfold f_X7_reached_q111_q114
  refine Eq.trans (b := it2 (f_X7_reached_q111_q114_L8 S (nI op)) fuel (nI (2 ^ a)) (nI 1)) (by simp only [lz]; rw [oI_pow (by omega)]; rfl) ?_
  apply ok_e
  refine ok_up (W := fun n i m => it2 (f_X7_reached_q111_q114_L8 S (nI op)) n (nI m) (nI i)) (I := fun i m => 1 ≤ i ∧ m = rep (rP g t op nl) (2 ^ a) (i - 1)) (e := N) ?_ ?_ fuel 1 (2 ^ a) (by omega) ⟨Nat.le_refl _, rfl⟩ (by unfold fuel; omega)
  · rintro n m ⟨hi1, hI⟩
    show Ok (f_X7_reached_q111_q114_L8 S (nI op) _ (nI m) (nI N)) _
    unfold f_X7_reached_q111_q114_L8
    rw [h3, if_pos (nI_le (Nat.le_refl _) (by omega)), hI]
    exact ok_some rfl
  · rintro n i m hi ⟨hi1, hI⟩ ih
    show Ok (f_X7_reached_q111_q114_L8 S (nI op) (it2 _ n) (nI m) (nI i)) _
    generalize it2 (f_X7_reached_q111_q114_L8 S (nI op)) n = r at ih
    unfold f_X7_reached_q111_q114_L8
    rw [h3, if_neg (nI_ge hi (by omega))]
    refine ok_lk ?_
    have hm : m < 2 ^ N := by rw [hI]; exact hrlt _
    rw [hpass _ m hm]
    have b1 := lt_1024 (hlt m hm nl) hN
    have b2 := lt_1024 hm hN
    change rP g t op nl m < 1024 at b1
    simp (disch := omega) only [nI_eq, nI_1]
    refine ok_ite (fun e => ok_some ?_) (fun e => ?_)
    · rw [e]
      unfold rchM
      obtain ⟨d, hd⟩ : ∃ d, N - 1 = i - 1 + d := ⟨N - i, by omega⟩
      have hadd : ∀ d, rep (rP g t op nl) (2 ^ a) (i - 1 + d) = rep (rP g t op nl) (rep (rP g t op nl) (2 ^ a) (i - 1)) d := by
        intro d
        induction d with
        | zero => rfl
        | succ d ih => show rP g t op nl (rep (rP g t op nl) (2 ^ a) (i - 1 + d)) = rP g t op nl _; rw [ih]
      rw [hd, hadd, ← hI, rep_fix e]
    · refine ih _ ⟨by omega, ?_⟩
      rw [hI, show i + 1 - 1 = (i - 1) + 1 by omega]; rfl
theorem x_reached_q111_q112 {S : wd_W} {nl N op a : Nat} {g t : Nat → Nat} (h0 : S.1 11100 = nI nl) (h3 : S.1 11103 = nI N) (hN : N ≤ 10) (hnl : nl ≤ 13) (ha : a < N) (hop : op < 2 ^ nl)
    (hk : ∀ k, k < nl → S.2.2.1 112 k = nI (g k) ∧ g k < 2 ^ N ∧ S.2.2.1 112 k = nI (t k) ∧ t k < 2 ^ N) : f_X7_reached_q111_q112 S (nI a) (nI op) = some (nI (rchM g t op nl N a)) := by
  have hop2 := lt31_10 hop (by omega)
  have hlt : ∀ m, m < 2 ^ N → ∀ i, itf (rS g t op) m i < 2 ^ N := fun m hm i => itf_ind (P := fun _ x => x < 2 ^ N) hm (fun _ _ _ h => rS_lt (fun k h2 => (hk k (tb_in hop h2)).2.2.2) h)
  have hpass : ∀ (k : Int32 → Option Int32) (m : Nat), m < 2 ^ N → it2 (f_X7_reached_q111_q112_L24 S (nI op) k) fuel (nI m) 0 = k (nI (rP g t op nl m)) := by
    intro k m hm
    refine Eq.trans ?_ (eq_for0 (W := fun n i => it2 (f_X7_reached_q111_q112_L24 S (nI op) k) n (nI (itf (rS g t op) m i)) (nI i)) (e := nl) (x := k (nI (rP g t op nl m))) (by omega) ?_ ?_)
    · rfl
    · intro n
      show f_X7_reached_q111_q112_L24 S (nI op) k _ _ (nI nl) = _
      unfold f_X7_reached_q111_q112_L24
      rw [h0, if_pos (nI_le (Nat.le_refl _) (by omega))]
      rfl
    · intro n i hi
      show f_X7_reached_q111_q112_L24 S (nI op) k (it2 _ n) (nI (itf (rS g t op) m i)) (nI i) = it2 _ n (nI (rS g t op i (itf (rS g t op) m i))) (nI (i + 1))
      generalize it2 (f_X7_reached_q111_q112_L24 S (nI op) k) n = r
      have hx := lt_1024 (hlt m hm i) hN
      generalize itf (rS g t op) m i = x at hx
      obtain ⟨k1, k2, k3, k4⟩ := hk i hi
      have hand : x &&& g i ≤ x := Nat.and_le_left
      unfold f_X7_reached_q111_q112_L24 rS
      rw [h0, if_neg (nI_ge hi (by omega))]
      simp (disch := omega) only [nI_1, gd_in, nI_clamp, k1, k3, oI_and, oI_or, oI_z, oI_bit0]
      by_cases c1 : op.testBit i = true
      · by_cases c2 : x &&& g i = 0
        · simp [lk, c1, c2]
        · simp [lk, lz, c1, c2]
          have e := k1.symm.trans k3
          have b1 := lt_1024 k2 hN
          have b2 := lt_1024 k4 hN
          rw [nI_eq (by omega) (by omega)] at e
          rw [e]
      · simp [lk, c1]
  have h0a : 2 ^ a < 2 ^ N := Nat.pow_lt_pow_right (by decide) ha
  have hrlt : ∀ n, rep (rP g t op nl) (2 ^ a) n < 2 ^ N := by
    intro n
    induction n with
    | zero => exact h0a
    | succ n ih => exact hlt _ ih nl
  unfold f_X7_reached_q111_q112
  refine Eq.trans (b := it2 (f_X7_reached_q111_q112_L8 S (nI op)) fuel (nI (2 ^ a)) (nI 1)) (by simp only [lz]; rw [oI_pow (by omega)]; rfl) ?_
  apply ok_e
  refine ok_up (W := fun n i m => it2 (f_X7_reached_q111_q112_L8 S (nI op)) n (nI m) (nI i)) (I := fun i m => 1 ≤ i ∧ m = rep (rP g t op nl) (2 ^ a) (i - 1)) (e := N) ?_ ?_ fuel 1 (2 ^ a) (by omega) ⟨Nat.le_refl _, rfl⟩ (by unfold fuel; omega)
  · rintro n m ⟨hi1, hI⟩
    show Ok (f_X7_reached_q111_q112_L8 S (nI op) _ (nI m) (nI N)) _
    unfold f_X7_reached_q111_q112_L8
    rw [h3, if_pos (nI_le (Nat.le_refl _) (by omega)), hI]
    exact ok_some rfl
  · rintro n i m hi ⟨hi1, hI⟩ ih
    show Ok (f_X7_reached_q111_q112_L8 S (nI op) (it2 _ n) (nI m) (nI i)) _
    generalize it2 (f_X7_reached_q111_q112_L8 S (nI op)) n = r at ih
    unfold f_X7_reached_q111_q112_L8
    rw [h3, if_neg (nI_ge hi (by omega))]
    refine ok_lk ?_
    have hm : m < 2 ^ N := by rw [hI]; exact hrlt _
    rw [hpass _ m hm]
    have b1 := lt_1024 (hlt m hm nl) hN
    have b2 := lt_1024 hm hN
    change rP g t op nl m < 1024 at b1
    simp (disch := omega) only [nI_eq, nI_1]
    refine ok_ite (fun e => ok_some ?_) (fun e => ?_)
    · rw [e]
      unfold rchM
      obtain ⟨d, hd⟩ : ∃ d, N - 1 = i - 1 + d := ⟨N - i, by omega⟩
      have hadd : ∀ d, rep (rP g t op nl) (2 ^ a) (i - 1 + d) = rep (rP g t op nl) (rep (rP g t op nl) (2 ^ a) (i - 1)) d := by
        intro d
        induction d with
        | zero => rfl
        | succ d ih => show rP g t op nl (rep (rP g t op nl) (2 ^ a) (i - 1 + d)) = rP g t op nl _; rw [ih]
      rw [hd, hadd, ← hI, rep_fix e]
    · refine ih _ ⟨by omega, ?_⟩
      rw [hI, show i + 1 - 1 = (i - 1) + 1 by omega]; rfl
