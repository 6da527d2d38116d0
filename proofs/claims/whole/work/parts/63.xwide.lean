/-! the same for the land with a line more -/
theorem x_need_q153 {S : wd_W} {L : Ld} (hL : lOr L) (h14 : S.1 14214 = nI (l_w L)) (h16 : S.1 14216 = nI (l_a L)) (h17 : S.1 14217 = nI (l_b L)) (h1 : S.1 15301 = nI (2 ^ l_N L - 1)) : f_X7_neededPlaces_q153 S = some (nI (neM L)) := by
  obtain ⟨⟨g1, g2, g3⟩, gk, w1, w2, w3, w4⟩ := hL
  unfold f_X7_neededPlaces_q153
  rw [h14, h16, h17, h1]
  simp (disch := omega) only [li_1, li_2, nI_eq, oI_p2, oI_or]
  unfold neM
  by_cases c1 : l_w L = 1
  · simp [c1]
  · by_cases c2 : l_w L = 2
    · simp [c2]
    · simp [c1, c2]
theorem x_follow_q153 {S : wd_W} {L : Ld} (hL : lOr L) (h : xL S 142 L) :
    f_X7_follow_q153 S = some (nI (l_n L), nI (2 ^ l_N L - 1), nI (neM L), nI (l_N L), fil (fun k => nI (tM L k)) (S.2.2.1 154) (l_n L), fil (fun k => nI (ouM L k)) (S.2.2.1 155) (l_n L), fil (fun k => nI (inM L k)) (S.2.2.1 156) (l_n L)) := by
  have hL0 := hL
  obtain ⟨⟨g1, g2, g3⟩, gk, w1, w2, w3, w4⟩ := hL
  simp only [xL, Nat.reduceMul, Nat.reduceAdd] at h
  obtain ⟨⟨h0, h1, h7, h10, h14, h15, h16, h17⟩, hk, hj, hc⟩ := h
  have h2N := Nat.two_pow_pos (l_N L)
  unfold f_X7_follow_q153
  simp only [lz]
  have e3 : (1 : Int32) <<< (S.1 14200 &&& 31) - (1 : Int32) = nI (2 ^ l_N L - 1) := by
    rw [h0, oI_pow (by omega), li_1, oI_sub1 h2N]
  rw [e3, bd_s (x_need_q153 (S := wd_o S [(15300, (S.1 14201)), (15301, nI (2 ^ l_N L - 1)), (15302, (S.1 15302)), (15303, (S.1 14200))] [] [(154, (S.2.2.1 154)), (155, (S.2.2.1 155)), (156, (S.2.2.1 156))] [] []) hL0 h14 h16 h17 rfl)]
  refine Eq.trans ?_ (eq_for0 (W := fun n i => it4 (f_X7_follow_q153_L44 S (S.1 14200) (S.1 14201) (nI (2 ^ l_N L - 1)) (nI (neM L))) n (nI i) (fil (fun k => nI (tM L k)) (S.2.2.1 154) i) (fil (fun k => nI (ouM L k)) (S.2.2.1 155) i) (fil (fun k => nI (inM L k)) (S.2.2.1 156) i)) (e := l_n L) (by omega) ?_ ?_)
  · show it4 _ fuel (nI 0) _ _ _ = it4 _ fuel (nI 0) (fil _ _ 0) (fil _ _ 0) (fil _ _ 0)
    rw [fil_0, fil_0, fil_0]
  · intro n
    show f_X7_follow_q153_L44 S _ _ _ _ _ (nI (l_n L)) _ _ _ = _
    unfold f_X7_follow_q153_L44
    rw [h1, h0, if_pos (nI_le (Nat.le_refl _) (by omega))]
  · intro n i hi
    show f_X7_follow_q153_L44 S _ _ _ _ (it4 _ n) (nI i) _ _ _ = _
    unfold f_X7_follow_q153_L44
    obtain ⟨k1, k2, k3, k4, k5⟩ := hk i hi
    obtain ⟨a1, a2, a3, a4, a5, a6⟩ := gk i hi
    rw [h1, if_neg (nI_ge hi (by omega)), ← fil_upd, ← fil_upd, ← fil_upd]
    simp (disch := omega) only [lz, nI_1, gd_in, nI_clamp, k1, k2, k4, oI_pow, oI_or]
    unfold tM ouM inM
    by_cases c : l_O L i = 0
    · have c1 : nI (1 - l_O L i) = nI 1 := by rw [c]
      have n1 : ¬ nI 1 = 0 := by decide
      rw [c1]
      simp only [lk, if_neg n1, c, if_true]
      simp (disch := omega) only [gd_in, nI_clamp]
    · have c1 : nI (1 - l_O L i) = 0 := by rw [show 1 - l_O L i = 0 by omega]; rfl
      rw [c1]
      simp only [lk, c, if_true, if_false]
      simp (disch := omega) only [gd_in, nI_clamp]
theorem x_reached_q153_q155 {S : wd_W} {nl N op a : Nat} {g t : Nat → Nat} (h0 : S.1 15300 = nI nl) (h3 : S.1 15303 = nI N) (hN : N ≤ 10) (hnl : nl ≤ 13) (ha : a < N) (hop : op < 2 ^ nl)
    (hk : ∀ k, k < nl → S.2.2.1 155 k = nI (g k) ∧ g k < 2 ^ N ∧ S.2.2.1 154 k = nI (t k) ∧ t k < 2 ^ N) : f_X7_reached_q153_q155 S (nI a) (nI op) = some (nI (rchM g t op nl N a)) := by
  have hop2 := lt31_10 hop (by omega)
  have hlt : ∀ m, m < 2 ^ N → ∀ i, itf (rS g t op) m i < 2 ^ N := fun m hm i => itf_ind (P := fun _ x => x < 2 ^ N) hm (fun _ _ _ h => rS_lt (fun k h2 => (hk k (tb_in hop h2)).2.2.2) h)
  have hpass : ∀ (k : Int32 → Option Int32) (m : Nat), m < 2 ^ N → it2 (f_X7_reached_q153_q155_L24 S (nI op) k) fuel (nI m) 0 = k (nI (rP g t op nl m)) := by
    intro k m hm
    refine Eq.trans ?_ (eq_for0 (W := fun n i => it2 (f_X7_reached_q153_q155_L24 S (nI op) k) n (nI (itf (rS g t op) m i)) (nI i)) (e := nl) (x := k (nI (rP g t op nl m))) (by omega) ?_ ?_)
    · rfl
    · intro n
      show f_X7_reached_q153_q155_L24 S (nI op) k _ _ (nI nl) = _
      unfold f_X7_reached_q153_q155_L24
      rw [h0, if_pos (nI_le (Nat.le_refl _) (by omega))]
      rfl
    · intro n i hi
      show f_X7_reached_q153_q155_L24 S (nI op) k (it2 _ n) (nI (itf (rS g t op) m i)) (nI i) = it2 _ n (nI (rS g t op i (itf (rS g t op) m i))) (nI (i + 1))
      generalize it2 (f_X7_reached_q153_q155_L24 S (nI op) k) n = r
      have hx := lt_1024 (hlt m hm i) hN
      generalize itf (rS g t op) m i = x at hx
      obtain ⟨k1, k2, k3, k4⟩ := hk i hi
      have hand : x &&& g i ≤ x := Nat.and_le_left
      unfold f_X7_reached_q153_q155_L24 rS
      rw [h0, if_neg (nI_ge hi (by omega))]
      simp (disch := omega) only [nI_1, gd_in, nI_clamp, k1, k3, oI_and, oI_or, oI_z, oI_bit0]
      by_cases c1 : op.testBit i = true
      · by_cases c2 : x &&& g i = 0
        · simp [lk, c1, c2]
        · simp [lk, lz, c1, c2]
      · simp [lk, c1]
  have h0a : 2 ^ a < 2 ^ N := Nat.pow_lt_pow_right (by decide) ha
  have hrlt : ∀ n, rep (rP g t op nl) (2 ^ a) n < 2 ^ N := by
    intro n
    induction n with
    | zero => exact h0a
    | succ n ih => exact hlt _ ih nl
  unfold f_X7_reached_q153_q155
  refine Eq.trans (b := it2 (f_X7_reached_q153_q155_L8 S (nI op)) fuel (nI (2 ^ a)) (nI 1)) (by simp only [lz]; rw [oI_pow (by omega)]; rfl) ?_
  apply ok_e
  refine ok_up (W := fun n i m => it2 (f_X7_reached_q153_q155_L8 S (nI op)) n (nI m) (nI i)) (I := fun i m => 1 ≤ i ∧ m = rep (rP g t op nl) (2 ^ a) (i - 1)) (e := N) ?_ ?_ fuel 1 (2 ^ a) (by omega) ⟨Nat.le_refl _, rfl⟩ (by unfold fuel; omega)
  · rintro n m ⟨hi1, hI⟩
    show Ok (f_X7_reached_q153_q155_L8 S (nI op) _ (nI m) (nI N)) _
    unfold f_X7_reached_q153_q155_L8
    rw [h3, if_pos (nI_le (Nat.le_refl _) (by omega)), hI]
    exact ok_some rfl
  · rintro n i m hi ⟨hi1, hI⟩ ih
    show Ok (f_X7_reached_q153_q155_L8 S (nI op) (it2 _ n) (nI m) (nI i)) _
    generalize it2 (f_X7_reached_q153_q155_L8 S (nI op)) n = r at ih
    unfold f_X7_reached_q153_q155_L8
    rw [h3, if_neg (nI_ge hi (by omega))]
    refine ok_lk ?_
    have hm : m < 2 ^ N := by rw [hI]; exact hrlt _
    rw [hpass _ m hm]
    have b1 := lt_1024 (hlt m hm nl) hN
    have b2 := lt_1024 hm hN
    change rP g t op nl m < 1024 at b1
    simp (disch := omega) only [nI_eq, nI_1]
    refine ok_ite (fun e => ok_some ?_) (fun e => ?_)
    · rw [e]
      unfold rchM
      obtain ⟨d, hd⟩ : ∃ d, N - 1 = i - 1 + d := ⟨N - i, by omega⟩
      have hadd : ∀ d, rep (rP g t op nl) (2 ^ a) (i - 1 + d) = rep (rP g t op nl) (rep (rP g t op nl) (2 ^ a) (i - 1)) d := by
        intro d
        induction d with
        | zero => rfl
        | succ d ih => show rP g t op nl (rep (rP g t op nl) (2 ^ a) (i - 1 + d)) = rP g t op nl _; rw [ih]
      rw [hd, hadd, ← hI, rep_fix e]
    · refine ih _ ⟨by omega, ?_⟩
      rw [hI, show i + 1 - 1 = (i - 1) + 1 by omega]; rfl
theorem x_reached_q153_q156 {S : wd_W} {nl N op a : Nat} {g t : Nat → Nat} (h0 : S.1 15300 = nI nl) (h3 : S.1 15303 = nI N) (hN : N ≤ 10) (hnl : nl ≤ 13) (ha : a < N) (hop : op < 2 ^ nl)
    (hk : ∀ k, k < nl → S.2.2.1 156 k = nI (g k) ∧ g k < 2 ^ N ∧ S.2.2.1 154 k = nI (t k) ∧ t k < 2 ^ N) : f_X7_reached_q153_q156 S (nI a) (nI op) = some (nI (rchM g t op nl N a)) := by
  have hop2 := lt31_10 hop (by omega)
  have hlt : ∀ m, m < 2 ^ N → ∀ i, itf (rS g t op) m i < 2 ^ N := fun m hm i => itf_ind (P := fun _ x => x < 2 ^ N) hm (fun _ _ _ h => rS_lt (fun k h2 => (hk k (tb_in hop h2)).2.2.2) h)
  have hpass : ∀ (k : Int32 → Option Int32) (m : Nat), m < 2 ^ N → it2 (f_X7_reached_q153_q156_L24 S (nI op) k) fuel (nI m) 0 = k (nI (rP g t op nl m)) := by
    intro k m hm
    refine Eq.trans ?_ (eq_for0 (W := fun n i => it2 (f_X7_reached_q153_q156_L24 S (nI op) k) n (nI (itf (rS g t op) m i)) (nI i)) (e := nl) (x := k (nI (rP g t op nl m))) (by omega) ?_ ?_)
    · rfl
    · intro n
      show f_X7_reached_q153_q156_L24 S (nI op) k _ _ (nI nl) = _
      unfold f_X7_reached_q153_q156_L24
      rw [h0, if_pos (nI_le (Nat.le_refl _) (by omega))]
      rfl
    · intro n i hi
      show f_X7_reached_q153_q156_L24 S (nI op) k (it2 _ n) (nI (itf (rS g t op) m i)) (nI i) = it2 _ n (nI (rS g t op i (itf (rS g t op) m i))) (nI (i + 1))
      generalize it2 (f_X7_reached_q153_q156_L24 S (nI op) k) n = r
      have hx := lt_1024 (hlt m hm i) hN
      generalize itf (rS g t op) m i = x at hx
      obtain ⟨k1, k2, k3, k4⟩ := hk i hi
      have hand : x &&& g i ≤ x := Nat.and_le_left
      unfold f_X7_reached_q153_q156_L24 rS
      rw [h0, if_neg (nI_ge hi (by omega))]
      simp (disch := omega) only [nI_1, gd_in, nI_clamp, k1, k3, oI_and, oI_or, oI_z, oI_bit0]
      by_cases c1 : op.testBit i = true
      · by_cases c2 : x &&& g i = 0
        · simp [lk, c1, c2]
        · simp [lk, lz, c1, c2]
      · simp [lk, c1]
  have h0a : 2 ^ a < 2 ^ N := Nat.pow_lt_pow_right (by decide) ha
  have hrlt : ∀ n, rep (rP g t op nl) (2 ^ a) n < 2 ^ N := by
    intro n
    induction n with
    | zero => exact h0a
    | succ n ih => exact hlt _ ih nl
  unfold f_X7_reached_q153_q156
  refine Eq.trans (b := it2 (f_X7_reached_q153_q156_L8 S (nI op)) fuel (nI (2 ^ a)) (nI 1)) (by simp only [lz]; rw [oI_pow (by omega)]; rfl) ?_
  apply ok_e
  refine ok_up (W := fun n i m => it2 (f_X7_reached_q153_q156_L8 S (nI op)) n (nI m) (nI i)) (I := fun i m => 1 ≤ i ∧ m = rep (rP g t op nl) (2 ^ a) (i - 1)) (e := N) ?_ ?_ fuel 1 (2 ^ a) (by omega) ⟨Nat.le_refl _, rfl⟩ (by unfold fuel; omega)
  · rintro n m ⟨hi1, hI⟩
    show Ok (f_X7_reached_q153_q156_L8 S (nI op) _ (nI m) (nI N)) _
    unfold f_X7_reached_q153_q156_L8
    rw [h3, if_pos (nI_le (Nat.le_refl _) (by omega)), hI]
    exact ok_some rfl
  · rintro n i m hi ⟨hi1, hI⟩ ih
    show Ok (f_X7_reached_q153_q156_L8 S (nI op) (it2 _ n) (nI m) (nI i)) _
    generalize it2 (f_X7_reached_q153_q156_L8 S (nI op)) n = r at ih
    unfold f_X7_reached_q153_q156_L8
    rw [h3, if_neg (nI_ge hi (by omega))]
    refine ok_lk ?_
    have hm : m < 2 ^ N := by rw [hI]; exact hrlt _
    rw [hpass _ m hm]
    have b1 := lt_1024 (hlt m hm nl) hN
    have b2 := lt_1024 hm hN
    change rP g t op nl m < 1024 at b1
    simp (disch := omega) only [nI_eq, nI_1]
    refine ok_ite (fun e => ok_some ?_) (fun e => ?_)
    · rw [e]
      unfold rchM
      obtain ⟨d, hd⟩ : ∃ d, N - 1 = i - 1 + d := ⟨N - i, by omega⟩
      have hadd : ∀ d, rep (rP g t op nl) (2 ^ a) (i - 1 + d) = rep (rP g t op nl) (rep (rP g t op nl) (2 ^ a) (i - 1)) d := by
        intro d
        induction d with
        | zero => rfl
        | succ d ih => show rP g t op nl (rep (rP g t op nl) (2 ^ a) (i - 1 + d)) = rP g t op nl _; rw [ih]
      rw [hd, hadd, ← hI, rep_fix e]
    · refine ih _ ⟨by omega, ?_⟩
      rw [hI, show i + 1 - 1 = (i - 1) + 1 by omega]; rfl
theorem x_leads_q153 {S : wd_W} {L : Ld} {op a b : Nat} (hL : lOr L) (h : xR S 153 L) (ha : a < l_N L) (hb : b < l_N L) (hop : op < 2 ^ l_n L) :
    f_X7_leads_q153 S (nI a) (nI b) (nI op) = some (nI (b2n ((rchM (ouM L) (tM L) op (l_n L) (l_N L) a).testBit b))) ∧ ((rchM (ouM L) (tM L) op (l_n L) (l_N L) a).testBit b = true ↔ rch (l_E L op) a b) := by
  have hL0 := hL
  obtain ⟨⟨g1, g2, g3⟩, gk, w1, w2, w3, w4⟩ := hL
  simp only [xR, Nat.reduceMul, Nat.reduceAdd] at h
  obtain ⟨⟨h0, h1, h2, h3⟩, hk⟩ := h
  have hr := rchM_ok (g := ouM L) (t := tM L) hop (fun k hk' => (tM_lt hL0 (tb_in hop hk')).1) ha
  constructor
  · unfold f_X7_leads_q153
    rw [bd_s (x_reached_q153_q155 (S := wd_o S [] [] [] [] []) (g := ouM L) (t := tM L) h0 h3 g2 g3 ha hop (fun k hk' => ⟨(hk k hk').2.1, (tM_lt hL0 hk').2.1, (hk k hk').1, (tM_lt hL0 hk').1⟩))]
    have hb2 := lt_1024 hr.1 g2
    generalize rchM (ouM L) (tM L) op (l_n L) (l_N L) a = m at hb2
    simp (disch := omega) only [li_1, li_0, oI_tb, oI_b0]
    cases m.testBit b <;> rfl
  · rw [hr.2, rch_out]
theorem x_goAlong_q153 {S : wd_W} {L : Ld} {k : Nat} {far : Nat → Nat} {g : Nat → Int32} (hL : lOr L) (h17 : S.2.2.1 143 k = nI (l_A L k)) (h18 : S.2.2.1 144 k = nI (l_B L k)) (h20 : S.2.2.1 146 k = nI (1 - l_O L k)) (h21 : S.2.2.1 147 k = nI (l_D L k)) (h115 : S.2.2.1 157 = awN far g 10) (hf : ∀ v, far v ≤ 1000) (hk : k < l_n L) {op : Nat} (ho : op.testBit k = true) :
    f_X7_goAlong_q153 S (nI k) = some (nI (dS2 (l_A L) (l_B L) (l_O L) (l_D L) op k (0, far)).1, awN (dS2 (l_A L) (l_B L) (l_O L) (l_D L) op k (0, far)).2 g 10) := by
  obtain ⟨⟨g1, g2, g3⟩, gk, w1, w2, w3, w4⟩ := hL
  obtain ⟨a1, a2, a3, a4, a5, a6⟩ := gk k hk
  have fA := hf (l_A L k)
  have fB := hf (l_B L k)
  unfold f_X7_goAlong_q153 dS2
  rw [if_pos ho]
  have hO : S.2.2.1 146 k = 0 ↔ l_O L k ≠ 0 := by
    rw [h20, oI_z (by omega)]; omega
  simp (disch := omega) only [lz, gd_in, nI_clamp, h17, h18, h21, h115, awN_at, awN_upd, nI_add, nI_leI, hO]
  by_cases c1 : far (l_A L k) + l_D L k < far (l_B L k)
  · have c1' : ¬ far (l_B L k) ≤ far (l_A L k) + l_D L k := by omega
    rw [if_neg c1', if_pos c1]; rfl
  · have c1' : far (l_B L k) ≤ far (l_A L k) + l_D L k := by omega
    rw [if_pos c1', if_neg c1]
    by_cases c2 : l_O L k = 0
    · rw [if_neg (fun z => z c2), if_neg (fun z => z.1 c2)]; rfl
    · rw [if_pos c2]
      by_cases c3 : far (l_B L k) + l_D L k < far (l_A L k)
      · rw [if_neg (by omega), if_pos ⟨c2, c3⟩]; rfl
      · rw [if_pos (by omega), if_neg (fun z => c3 z.2)]; rfl
theorem x_fill_q157 {S : wd_W} {v : Nat} : f_J7_fill_53178_q157 S (nI v) = some (awN (fun _ => v) (S.2.2.1 157) 10) := by
  unfold f_J7_fill_53178_q157
  refine Eq.trans ?_ (eq_for0 (W := fun n i => it2 (f_J7_fill_53178_q157_L5 (nI v)) n (nI i) (awN (fun _ => v) (S.2.2.1 157) i)) (e := 10) (by omega) ?_ ?_)
  · show it2 _ fuel (nI 0) _ = it2 _ fuel (nI 0) (fil _ _ 0)
    rw [fil_0]
  · intro n
    show f_J7_fill_53178_q157_L5 (nI v) _ (nI 10) _ = _
    unfold f_J7_fill_53178_q157_L5
    rw [if_pos (by decide)]
  · intro n i hi
    show f_J7_fill_53178_q157_L5 (nI v) (it2 _ n) (nI i) _ = _
    unfold f_J7_fill_53178_q157_L5
    rw [li_10, if_neg (nI_ge hi (by omega))]
    unfold awN
    rw [← fil_upd]
    simp (disch := omega) only [lz, nI_1, gd_in, nI_clamp]
theorem x_days_q153 {S : wd_W} {L : Ld} {op a b : Nat} (hL : lOr L) (hl : xL S 142 L) (h : xR S 153 L) (ha : a < l_N L) (hb : b < l_N L) (hop : op < 2 ^ l_n L) :
    f_X7_daysBetween_q153 S (nI a) (nI b) (nI op) = some (nI (repF (dP (l_A L) (l_B L) (l_O L) (l_D L) op (l_n L)) (far0 a) (l_N L - 1) b), awN (repF (dP (l_A L) (l_B L) (l_O L) (l_D L) op (l_n L)) (far0 a) (l_N L - 1)) (S.2.2.1 157) 10) := by
  have hL0 := hL
  have hdG := l_dG hL hop
  obtain ⟨⟨g1, g2, g3⟩, gk, w1, w2, w3, w4⟩ := hL
  simp only [xL, Nat.reduceMul, Nat.reduceAdd] at hl
  obtain ⟨_, hlk, _, _⟩ := hl
  simp only [xR, Nat.reduceMul, Nat.reduceAdd] at h
  obtain ⟨⟨h0, h1, h2, h3⟩, hk⟩ := h
  have hop2 := lt31_10 hop (by omega)
  unfold f_X7_daysBetween_q153
  rw [li_1000, bd_s x_fill_q157, gd_in (by omega) (by omega)]
  refine Eq.trans (b := it2 (f_X7_daysBetween_q153_L20 S (nI op) (fun a4 => gd (okx (nI b) 10) <| some (a4 (nI b).toNatClampNeg, a4)) (fun a7 => gd (okx (nI b) 10) <| some (a7 (nI b).toNatClampNeg, a7))) fuel (nI 1) (awN (far0 a) (S.2.2.1 157) 10)) ?_ ?_
  · have e : upd (awN (fun _ => 1000) (S.2.2.1 157) 10) (nI a).toNatClampNeg (0 : Int32) = awN (far0 a) (S.2.2.1 157) 10 := by
      rw [nI_clamp (by omega), li_0, awN_upd (by omega)]
      rfl
    show it2 _ fuel (nI 1) (upd (awN (fun _ => 1000) (S.2.2.1 157) 10) (nI a).toNatClampNeg (0 : Int32)) = _
    rw [e]
  generalize S.2.2.1 157 = g
  have hle : ∀ n v, repF (dP (l_A L) (l_B L) (l_O L) (l_D L) op (l_n L)) (far0 a) n v ≤ 1000 := by
    intro n v
    have := repF_le (A := l_A L) (B := l_B L) (bo := l_O L) (dy := l_D L) (op := op) (K := l_n L) (far0 a) v 0 n
    rw [Nat.zero_add] at this
    exact Nat.le_trans this (far0_le a v)
  have hK : ∀ far : Nat → Nat, (∀ v, far v ≤ 1000) → ∀ i v, (itf (dS2 (l_A L) (l_B L) (l_O L) (l_D L) op) (0, far) i).2 v ≤ 1000 := by
    intro far hf i v
    rw [dP2_2]
    exact Nat.le_trans (itf_dS_le (n := 0) far v i (Nat.zero_le _)) (hf v)
  have hfl1 : ∀ (far : Nat → Nat) i, (itf (dS2 (l_A L) (l_B L) (l_O L) (l_D L) op) (0, far) i).1 ≤ 1 := by
    intro far i
    rcases dP2_flag (bo := l_O L) hdG far i with ⟨q, _⟩ | ⟨q, _⟩ <;> omega
  have hpass : ∀ (k : Int32 → (Nat → Int32) → Option o_X7_daysBetween_q153) (far : Nat → Nat), (∀ v, far v ≤ 1000) → it3 (f_X7_daysBetween_q153_L35 S (nI op) k) fuel (nI 0) (nI 0) (awN far g 10) = k (nI (itf (dS2 (l_A L) (l_B L) (l_O L) (l_D L) op) (0, far) (l_n L)).1) (awN (dP (l_A L) (l_B L) (l_O L) (l_D L) op (l_n L) far) g 10) := by
    intro k far hf
    refine Eq.trans ?_ (eq_for0 (W := fun n i => it3 (f_X7_daysBetween_q153_L35 S (nI op) k) n (nI (itf (dS2 (l_A L) (l_B L) (l_O L) (l_D L) op) (0, far) i).1) (nI i) (awN (itf (dS2 (l_A L) (l_B L) (l_O L) (l_D L) op) (0, far) i).2 g 10)) (e := l_n L) (by omega) ?_ ?_)
    · rfl
    · intro n
      show f_X7_daysBetween_q153_L35 S (nI op) k _ _ (nI (l_n L)) _ = _
      unfold f_X7_daysBetween_q153_L35
      rw [h0, if_pos (nI_le (Nat.le_refl _) (by omega))]
      rw [show (itf (dS2 (l_A L) (l_B L) (l_O L) (l_D L) op) (0, far) (l_n L)).2 = dP (l_A L) (l_B L) (l_O L) (l_D L) op (l_n L) far from dP2_2 _ _ _ _ _ _ _]
    · intro n i hi
      have hfi := hK far hf i
      have hfl := hfl1 far i
      show f_X7_daysBetween_q153_L35 S (nI op) k (it3 _ n) (nI (itf (dS2 (l_A L) (l_B L) (l_O L) (l_D L) op) (0, far) i).1) (nI i) _ = it3 _ n (nI (dS2 (l_A L) (l_B L) (l_O L) (l_D L) op i (itf (dS2 (l_A L) (l_B L) (l_O L) (l_D L) op) (0, far) i)).1) (nI (i + 1)) (awN (dS2 (l_A L) (l_B L) (l_O L) (l_D L) op i (itf (dS2 (l_A L) (l_B L) (l_O L) (l_D L) op) (0, far) i)).2 g 10)
      generalize it3 (f_X7_daysBetween_q153_L35 S (nI op) k) n = r
      generalize itf (dS2 (l_A L) (l_B L) (l_O L) (l_D L) op) (0, far) i = s at hfi hfl
      obtain ⟨fl, f⟩ := s
      dsimp only at hfi hfl ⊢
      obtain ⟨k1, k2, k3, k4, k5⟩ := hlk i hi
      unfold f_X7_daysBetween_q153_L35
      rw [h0, if_neg (nI_ge hi (by omega))]
      refine Eq.trans (b := if op.testBit i = false then r (nI fl) (nI (i + 1)) (awN f g 10) else _) (by simp (disch := omega) only [lk, nI_1, oI_bit0]; rfl) ?_
      by_cases c : op.testBit i = true
      · rw [if_neg (by rw [c]; decide), bd_s (x_goAlong_q153 (S := wd_o S [] [] [(157, awN f g 10)] [] []) (far := f) (g := g) hL0 k1 k2 k4 k5 rfl hfi hi c)]
        simp only [lz]
        rw [oI_or]
        unfold dS2
        rw [if_pos c, if_pos c]
        dsimp only
        by_cases c1 : f (l_A L i) + l_D L i < f (l_B L i)
        · rw [if_pos c1, if_pos c1]
          have : fl ||| 1 = 1 := by rcases (show fl = 0 ∨ fl = 1 by omega) with e | e <;> subst e <;> rfl
          dsimp only
          rw [this]
        · rw [if_neg c1, if_neg c1]
          by_cases c2 : l_O L i ≠ 0 ∧ f (l_B L i) + l_D L i < f (l_A L i)
          · rw [if_pos c2, if_pos c2]
            have : fl ||| 1 = 1 := by rcases (show fl = 0 ∨ fl = 1 by omega) with e | e <;> subst e <;> rfl
            dsimp only
            rw [this]
          · rw [if_neg c2, if_neg c2]
            dsimp only
            rw [or_0]
      · have c' : op.testBit i = false := by simpa using c
        rw [if_pos c']
        unfold dS2
        rw [if_neg c]
  have hfin : ∀ f : Nat → Nat, (gd (okx (nI b) 10) <| some ((awN f g 10) (nI b).toNatClampNeg, awN f g 10)) = some (nI (f b), awN f g 10) := by
    intro f
    rw [gd_in (by omega) (by omega), nI_clamp (by omega), awN_at (by omega)]
  apply ok_e
  refine ok_up (W := fun n i (f : Nat → Nat) => it2 (f_X7_daysBetween_q153_L20 S (nI op) (fun a4 => gd (okx (nI b) 10) <| some (a4 (nI b).toNatClampNeg, a4)) (fun a7 => gd (okx (nI b) 10) <| some (a7 (nI b).toNatClampNeg, a7))) n (nI i) (awN f g 10)) (I := fun i f => 1 ≤ i ∧ f = repF (dP (l_A L) (l_B L) (l_O L) (l_D L) op (l_n L)) (far0 a) (i - 1)) (e := l_N L) ?_ ?_ fuel 1 (far0 a) (by omega) ⟨Nat.le_refl _, rfl⟩ (by unfold fuel; omega)
  · rintro n f ⟨hi1, hI⟩
    show Ok (f_X7_daysBetween_q153_L20 S (nI op) _ _ _ (nI (l_N L)) _) _
    unfold f_X7_daysBetween_q153_L20
    rw [h3, if_pos (nI_le (Nat.le_refl _) (by omega))]
    refine ok_of (hfin f) ?_
    rw [hI]
  · rintro n i f hi ⟨hi1, hI⟩ ih
    show Ok (f_X7_daysBetween_q153_L20 S (nI op) _ _ (it2 _ n) (nI i) _) _
    generalize it2 (f_X7_daysBetween_q153_L20 S (nI op) (fun a4 => gd (okx (nI b) 10) <| some (a4 (nI b).toNatClampNeg, a4)) (fun a7 => gd (okx (nI b) 10) <| some (a7 (nI b).toNatClampNeg, a7))) n = r at ih
    unfold f_X7_daysBetween_q153_L20
    rw [h3, if_neg (nI_ge hi (by omega))]
    refine ok_lk ?_
    rw [li_0, hpass _ f (fun v => by rw [hI]; exact hle _ v)]
    have hfl := hfl1 f (l_n L)
    have hfl2 := dP2_flag (bo := l_O L) hdG f (l_n L)
    rw [← li_0]
    simp (disch := omega) only [oI_z, nI_1]
    refine ok_ite (fun e => ?_) (fun e => ?_)
    · have hfx : dP (l_A L) (l_B L) (l_O L) (l_D L) op (l_n L) f = f := by
        rcases hfl2 with ⟨_, q⟩ | ⟨q, _⟩
        · exact q
        · omega
      rw [hfx]
      refine ok_of (hfin f) ?_
      obtain ⟨d, hd⟩ : ∃ d, l_N L - 1 = i - 1 + d := ⟨l_N L - i, by omega⟩
      rw [hd, repF_add, ← hI, repF_fix hfx]
    · refine ih _ ⟨by omega, ?_⟩
      rw [hI, show i + 1 - 1 = (i - 1) + 1 by omega]; rfl
theorem x_without_q153 {S : wd_W} {L : Ld} {op a b : Nat} (hL : lOr L) (h : xR S 153 L) (ha : a < l_N L) (hb : b < l_N L) (hop : op < 2 ^ l_n L) :
    Ok (f_X7_leadsWithoutAny_q153 S (nI a) (nI b) (nI op)) (fun o => ∃ x : Bool, o = nI (b2n x) ∧ (x = true ↔ noCut (l_A L) (l_B L) (l_O L) op a b)) := by
  have hL0 := hL
  obtain ⟨⟨g1, g2, g3⟩, gk, w1, w2, w3, w4⟩ := hL
  simp only [xR, Nat.reduceMul, Nat.reduceAdd] at h
  obtain ⟨⟨h0, h1, h2, h3⟩, hk⟩ := h
  have hop2 := lt31_10 hop (by omega)
  unfold f_X7_leadsWithoutAny_q153
  refine ok_for0 (W := fun n i (_ : Unit) => it1 (f_X7_leadsWithoutAny_q153_L3 S (nI a) (nI b) (nI op)) n (nI i)) (I := fun i _ => ∀ j, j < i → op.testBit j = true → rch (l_E L (op ^^^ 2 ^ j)) a b) (e := l_n L) (s := ()) (by omega) (fun j hj => by omega) ?_ ?_
  · intro n _ hI
    show Ok (f_X7_leadsWithoutAny_q153_L3 S _ _ _ _ (nI (l_n L))) _
    unfold f_X7_leadsWithoutAny_q153_L3
    rw [h0, if_pos (nI_le (Nat.le_refl _) (by omega))]
    refine ok_some ⟨true, rfl, ?_⟩
    simp only [true_iff]
    intro i hi
    exact hI i (tb_in hop hi) hi
  · intro n i _ hi hI ih
    show Ok (f_X7_leadsWithoutAny_q153_L3 S _ _ _ (it1 _ n) (nI i)) _
    generalize it1 (f_X7_leadsWithoutAny_q153_L3 S (nI a) (nI b) (nI op)) n = r at ih
    unfold f_X7_leadsWithoutAny_q153_L3
    rw [h0, if_neg (nI_ge hi (by omega))]
    refine ok_lk ?_
    rw [oI_pow (by omega), oI_xor, nI_1]
    simp (disch := omega) only [oI_bit0]
    refine ok_if0 (fun c => ?_) (fun c => ?_)
    · refine ih () (fun j hj ho => ?_)
      by_cases e : j = i
      · subst e; rw [c] at ho; cases ho
      · exact hI j (by omega) ho
    · have hx : op ^^^ 2 ^ i < 2 ^ l_n L := Nat.xor_lt_two_pow hop (Nat.pow_lt_pow_right (by decide) hi)
      have hr := rchM_ok (g := ouM L) (t := tM L) hx (fun k hk' => (tM_lt hL0 (tb_in hx hk')).1) ha
      rw [bd_s (x_reached_q153_q155 (S := wd_o S [] [] [] [] []) (g := ouM L) (t := tM L) h0 h3 g2 g3 ha hx (fun k hk' => ⟨(hk k hk').2.1, (tM_lt hL0 hk').2.1, (hk k hk').1, (tM_lt hL0 hk').1⟩))]
      have hb2 := lt_1024 hr.1 g2
      have hiff := hr.2 b
      rw [rch_out] at hiff
      generalize rchM (ouM L) (tM L) (op ^^^ 2 ^ i) (l_n L) (l_N L) a = m at hb2 hiff
      simp (disch := omega) only [oI_bit0]
      refine ok_if0 (fun d => ok_some ⟨false, rfl, ?_⟩) (fun d => ?_)
      · constructor
        · intro z; cases z
        · intro z
          have := hiff.mpr (z i c)
          rw [d] at this; cases this
      · refine ih () (fun j hj ho => ?_)
        by_cases e : j = i
        · subst e; exact hiff.mp d
        · exact hI j (by omega) ho
theorem x_carries_q153 {S : wd_W} {L : Ld} {op : Nat} (hL : lOr L) (hl : xL S 142 L) (h : xR S 153 L) (hop : op < 2 ^ l_n L) :
    Ok (f_X7_carries_q153 S (nI op)) (fun o => ∃ x : Bool, o.1 = nI (b2n x) ∧ (x = true ↔ car L op)) := by
  have hL0 := hL
  have hl0 := hl
  have hR := h
  obtain ⟨⟨g1, g2, g3⟩, gk, w1, w2, w3, w4⟩ := hL
  simp only [xL, Nat.reduceMul, Nat.reduceAdd] at hl
  obtain ⟨⟨l0, l1, l7, l10, l14, l15, l16, l17⟩, hlk, _, _⟩ := hl
  simp only [xR, Nat.reduceMul, Nat.reduceAdd] at h
  obtain ⟨⟨h0, h1, h2, h3⟩, hk⟩ := h
  have hk1 : ∀ k, k < l_n L → S.2.2.1 155 k = nI (ouM L k) ∧ ouM L k < 2 ^ l_N L ∧ S.2.2.1 154 k = nI (tM L k) ∧ tM L k < 2 ^ l_N L := fun k hk' => ⟨(hk k hk').2.1, (tM_lt hL0 hk').2.1, (hk k hk').1, (tM_lt hL0 hk').1⟩
  have hk2 : ∀ k, k < l_n L → S.2.2.1 156 k = nI (inM L k) ∧ inM L k < 2 ^ l_N L ∧ S.2.2.1 154 k = nI (tM L k) ∧ tM L k < 2 ^ l_N L := fun k hk' => ⟨(hk k hk').2.2, (tM_lt hL0 hk').2.2, (hk k hk').1, (tM_lt hL0 hk').1⟩
  have hr := fun {a : Nat} (ha : a < l_N L) => rchM_ok (g := ouM L) (t := tM L) hop (fun k hk' => (tM_lt hL0 (tb_in hop hk')).1) ha
  have hri := fun {a : Nat} (ha : a < l_N L) => rchM_ok (g := inM L) (t := tM L) hop (fun k hk' => (tM_lt hL0 (tb_in hop hk')).1) ha
  have h2N := Nat.two_pow_pos (l_N L)
  have h2N2 : 2 ^ l_N L ≤ 2 ^ 10 := pow_le_k g2
  unfold f_X7_carries_q153
  refine ok_lz (ok_lz ?_)
  rw [l14, l16, l17]
  simp (disch := omega) only [li_0, li_1, li_2, li_3, nI_eq]
  refine ok_ite (fun c0 => ?_) (fun c0 => ?_)
  · obtain ⟨e1, e2⟩ := x_leads_q153 (S := wd_o S [] [] [(157, (S.2.2.1 157))] [] []) hL0 hR w3 w4 hop
    rw [bd_s e1]
    generalize (rchM (ouM L) (tM L) op (l_n L) (l_N L) (l_a L)).testBit (l_b L) = x at e2
    refine ok_gd (by cases x <;> rfl) (ok_some ⟨x, rfl, ?_⟩)
    rw [e2]
    unfold car
    constructor
    · intro q; exact Or.inl ⟨c0, q⟩
    · intro q; rcases q with q | q | q | q | q <;> first | exact q.2 | omega
  refine ok_ite (fun c1 => ?_) (fun c1 => ?_)
  · rw [bd_s (x_reached_q153_q155 (S := wd_o S [] [] [(157, (S.2.2.1 157))] [] []) (g := ouM L) (t := tM L) (a := 0) h0 h3 g2 g3 (by omega) hop hk1), h1]
    have q1 := hr (a := 0) (by omega)
    have q2 := hri (a := 0) (by omega)
    have b1 := lt_1024 q1.1 g2
    have b2 := lt_1024 q2.1 g2
    have hcar : car L op ↔ rchM (ouM L) (tM L) op (l_n L) (l_N L) 0 = 2 ^ l_N L - 1 ∧ rchM (inM L) (tM L) op (l_n L) (l_N L) 0 = 2 ^ l_N L - 1 := by
      rw [eq_all q1.1, eq_all q2.1]
      unfold car
      constructor
      · intro q
        rcases q with q | q | q | q | q <;> first | omega | skip
        exact ⟨fun p hp => (q1.2 p).mpr ((rch_out L op 0 p).mpr (q.2 p hp).1), fun p hp => (q2.2 p).mpr ((rch_in L op 0 p).mpr (q.2 p hp).2)⟩
      · rintro ⟨z1, z2⟩
        exact Or.inr (Or.inl ⟨c1, fun p hp => ⟨(rch_out L op 0 p).mp ((q1.2 p).mp (z1 p hp)), (rch_in L op 0 p).mp ((q2.2 p).mp (z2 p hp))⟩⟩)
    rw [hcar]
    simp (disch := omega) only [nI_eq]
    refine ok_ite (fun d => ?_) (fun d => ok_some ⟨false, rfl, by simp [d]⟩)
    rw [bd_s (x_reached_q153_q156 (S := wd_o S [] [] [(157, (S.2.2.1 157))] [] []) (g := inM L) (t := tM L) (a := 0) h0 h3 g2 g3 (by omega) hop hk2)]
    simp (disch := omega) only [nI_eq]
    exact ok_ite (fun d2 => ok_some ⟨true, rfl, by simp [d, d2]⟩) (fun d2 => ok_some ⟨false, rfl, by simp [d2]⟩)
  refine ok_ite (fun c2 => ?_) (fun c2 => ?_)
  · rw [bd_s (x_reached_q153_q155 (S := wd_o S [] [] [(157, (S.2.2.1 157))] [] []) (g := ouM L) (t := tM L) h0 h3 g2 g3 w3 hop hk1)]
    have q1 := hr w3
    have hm4 : rchM (ouM L) (tM L) op (l_n L) (l_N L) (l_a L) < 4096 := Nat.lt_of_lt_of_le q1.1 (pow_le_k (n := 12) (by omega))
    rw [bd_s (x_bitCount hm4), l15]
    have hc := cnt_le (rchM (ouM L) (tM L) op (l_n L) (l_N L) (l_a L)) 12
    simp (disch := omega) only [nI_ltI]
    rw [cnt_ext q1.1 12 (by omega)]
    have hcar : car L op ↔ l_m L ≤ cnt (rchM (ouM L) (tM L) op (l_n L) (l_N L) (l_a L)) (l_N L) := by
      unfold car
      constructor
      · intro q
        rcases q with q | q | q | q | q <;> first | omega | skip
        obtain ⟨_, m', hm', hp', hc'⟩ := q
        have : rchM (ouM L) (tM L) op (l_n L) (l_N L) (l_a L) = m' := by
          apply msk_ext q1.1 hm'
          intro i _
          rw [Bool.eq_iff_iff, q1.2 i, rch_out, hp' i]
        rw [this]; exact hc'
      · intro q
        exact Or.inr (Or.inr (Or.inl ⟨c2, _, q1.1, fun p => by rw [q1.2 p, rch_out], q⟩))
    rw [hcar]
    exact ok_ite (fun d => ok_some ⟨false, rfl, by simp; omega⟩) (fun d => ok_some ⟨true, rfl, by simp; omega⟩)
  refine ok_ite (fun c3 => ?_) (fun c3 => ?_)
  · rw [bd_s (x_days_q153 (S := wd_o S [] [] [(157, (S.2.2.1 157))] [] []) hL0 hl0 hR w3 w4 hop), l15]
    have hdG := l_dG hL0 hop
    have hen := dP_enough (bo := l_O L) hdG hop w3 (far0_sup (l_A L) (l_B L) (l_O L) (l_D L) op (l_a L)) (far0_le (l_a L))
    have hD : isD L op (l_a L) (repF (dP (l_A L) (l_B L) (l_O L) (l_D L) op (l_n L)) (far0 (l_a L)) (l_N L - 1)) := ⟨l_N L - 1, by rw [dP_K13 hop (by omega)], by rw [dP_K13 hop (by omega)]; exact hen⟩
    have hb := isD_le hD (l_b L)
    generalize repF (dP (l_A L) (l_B L) (l_O L) (l_D L) op (l_n L)) (far0 (l_a L)) (l_N L - 1) = D at hD hb
    have hcar : car L op ↔ D (l_b L) ≤ l_m L := by
      unfold car
      constructor
      · intro q
        rcases q with q | q | q | q | q <;> first | omega | skip
        obtain ⟨_, D', d1, d2⟩ := q
        rw [isD_one hD d1]; exact d2
      · intro q
        exact Or.inr (Or.inr (Or.inr (Or.inl ⟨c3, D, hD, q⟩)))
    rw [hcar]
    simp (disch := omega) only [nI_ltI]
    exact ok_ite (fun d => ok_some ⟨false, rfl, by simp; omega⟩) (fun d => ok_some ⟨true, rfl, by simp; omega⟩)
  · obtain ⟨e1, e2⟩ := x_leads_q153 (S := wd_o S [] [] [(157, (S.2.2.1 157))] [] []) hL0 hR w3 w4 hop
    rw [bd_s e1]
    generalize (rchM (ouM L) (tM L) op (l_n L) (l_N L) (l_a L)).testBit (l_b L) = x at e2
    have hcar : car L op ↔ rch (l_E L op) (l_a L) (l_b L) ∧ noCut (l_A L) (l_B L) (l_O L) op (l_a L) (l_b L) := by
      unfold car
      constructor
      · intro q; rcases q with q | q | q | q | q <;> first | exact q.2 | omega
      · intro q; exact Or.inr (Or.inr (Or.inr (Or.inr ⟨by omega, q⟩)))
    rw [hcar, ← e2]
    cases x with
    | false => exact ok_ite (fun _ => ok_some ⟨false, rfl, by simp⟩) (fun h => absurd rfl h)
    | true =>
      refine ok_ite (fun h => absurd h (by decide)) (fun _ => ?_)
      refine ok_bd (x_without_q153 (S := wd_o S [] [] [(157, (S.2.2.1 157))] [] []) hL0 hR w3 w4 hop) ?_
      rintro _ ⟨y, rfl, hy⟩
      rw [← hy]
      cases y with
      | false => exact ok_ite (fun _ => ok_some ⟨false, rfl, by simp⟩) (fun h => absurd rfl h)
      | true => exact ok_ite (fun h => absurd h (by decide)) (fun _ => ok_some ⟨true, rfl, by simp⟩)
