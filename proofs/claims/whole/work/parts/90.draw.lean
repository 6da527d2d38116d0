/-! draws -/
theorem thr_new {L : Ld} {s : Nat} (hL : lOk L) (hn : l_n L < 12) (hl : l_A L (l_n L) < l_N L ∧ l_B L (l_n L) < l_N L ∧ l_A L (l_n L) ≠ l_B L (l_n L) ∧ 1 ≤ l_D L (l_n L) ∧ l_D L (l_n L) ≤ 9) (ht : thr L s false) : thr L s true := by
  obtain ⟨q1, q2⟩ := ht
  have hR := lOk_r hL
  have ho := opM_lt L s true
  refine ⟨q1, car_mono (fun k hk => ?_) (Nat.lt_of_lt_of_le ho (pow_le_k (by omega))) hR.2.2.2.2.1 (opM_mono (fun _ z => z) (fun z => by cases z)) q2⟩
  rcases (opM_bit L s true k).mp hk with ⟨z, _⟩ | ⟨z, _⟩
  · obtain ⟨a1, a2, a3, a4, a5, a6⟩ := hR.2.1 k z
    exact ⟨a1, a2, a3, a5, a6⟩
  · rw [z]; exact hl
def dwE (x : Int64) : Int64 := ((x * (1103515245 : Int64)) + (12345 : Int64)) - ((x * (1103515245 : Int64)) + (12345 : Int64)) / (2147483648 : Int64) * (2147483648 : Int64)
def dwB (x : Int64) : Int64 := (x / (65536 : Int64)) - (x / (65536 : Int64)) / (16 : Int64) * (16 : Int64)
def dwS (ch : Nat → Nat) (t : Nat) (x : Int64 × Nat) : Int64 × Nat := (dwE x.1, if lN (ch t) ≤ dwB (dwE x.1) then x.2 else x.2 ||| 2 ^ t)
def dwI (L : Ld) (x : Int64) (t : Nat) : Int64 × Nat := itf (dwS (cha L)) (x, 0) t
noncomputable def dwO (L : Ld) (_ : Nat) (x : Int64 × Nat) : Int64 × Nat := ((dwI L x.1 (l_M L)).1, x.2 + b2n (thB L (dwI L x.1 (l_M L)).2))
noncomputable def dwF (L : Ld) (x : Int64) (n : Nat) : Int64 × Nat := itf (dwO L) (x, 0) n
theorem dwI_lt (L : Ld) (x : Int64) (t : Nat) : (dwI L x t).2 < 2 ^ t := by
  unfold dwI
  refine itf_ind (P := fun i (y : Int64 × Nat) => y.2 < 2 ^ i) (Nat.one_pos) ?_
  intro i y _ hy
  unfold dwS
  dsimp only
  have := pow_dbl i
  split
  · omega
  · exact or_pow_lt (by omega) (by omega)
theorem dwF_le (L : Ld) (x : Int64) (n : Nat) : (dwF L x n).2 ≤ n := by
  unfold dwF
  refine itf_ind (P := fun i (y : Int64 × Nat) => y.2 ≤ i) (Nat.le_refl 0) ?_
  intro i y _ hy
  unfold dwO
  have := b2n_le (thB L (dwI L y.1 (l_M L)).2)
  dsimp only
  omega
theorem x_drawn {S : wd_W} {L : Ld} {p1 : Int32} {n : Nat} (hL : lOk L) (h : xS S L) (hN : xN S) (hn : n ≤ 1000) : f_X8_drawn_q106 S p1 (nI n) = some (nI (dwF L p1.toInt64 n).2) := by
  have hM := lM_15 hL
  have pM := pow_le15 hM
  have h4 := h.2.2.2.1
  have hin : ∀ (K : Int64 → Int32 → Option o_X8_drawn_q106) (x : Int64), it3 (f_X8_drawn_q106_L21 S K) fuel x (nI 0) (nI 0) = K (dwI L x (l_M L)).1 (nI (dwI L x (l_M L)).2) := by
    intro K x
    refine Eq.trans ?_ (eq_for0 (W := fun m i => it3 (f_X8_drawn_q106_L21 S K) m (dwI L x i).1 (nI (dwI L x i).2) (nI i)) (e := l_M L) (by omega) ?_ ?_)
    · rfl
    · intro m
      show f_X8_drawn_q106_L21 S K _ _ _ (nI (l_M L)) = _
      unfold f_X8_drawn_q106_L21
      rw [h4, if_pos (nI_le (Nat.le_refl _) (by omega))]
    · intro m i hi
      show f_X8_drawn_q106_L21 S K (it3 (f_X8_drawn_q106_L21 S K) m) (dwI L x i).1 (nI (dwI L x i).2) (nI i) = it3 (f_X8_drawn_q106_L21 S K) m (dwS (cha L) i (dwI L x i)).1 (nI (dwS (cha L) i (dwI L x i)).2) (nI (i + 1))
      generalize it3 (f_X8_drawn_q106_L21 S K) m = r
      generalize dwI L x i = y
      obtain ⟨y1, y2⟩ := y
      have hc := cha_le hL hi
      unfold f_X8_drawn_q106_L21 dwS
      rw [h4, if_neg (nI_ge hi (by omega)), lz_eq, gd_in (by omega) (by omega), lk_eq, nI_clamp (by omega), (h.2.2.2.2.1 i hi).1, nI_l (by omega), lz_eq, oI_pow (by omega), oI_or, nI_1]
      show (if lN (cha L i) ≤ dwB (dwE y1) then r (dwE y1) (nI y2) (nI (i + 1)) else r (dwE y1) (nI (y2 ||| 2 ^ i)) (nI (i + 1))) = r (dwE y1) (nI (if lN (cha L i) ≤ dwB (dwE y1) then y2 else y2 ||| 2 ^ i)) (nI (i + 1))
      split <;> rfl
  unfold f_X8_drawn_q106
  rw [lz_eq, li_0]
  refine Eq.trans ?_ (eq_for0 (W := fun m i => it3 (f_X8_drawn_q106_L9 S (nI n)) m (dwF L p1.toInt64 i).1 (nI (dwF L p1.toInt64 i).2) (nI i)) (e := n) (by omega) ?_ ?_)
  · rfl
  · intro m
    show f_X8_drawn_q106_L9 S (nI n) _ _ _ (nI n) = _
    unfold f_X8_drawn_q106_L9
    rw [if_pos (nI_le (Nat.le_refl _) (by omega))]
  · intro m i hi
    show f_X8_drawn_q106_L9 S (nI n) (it3 (f_X8_drawn_q106_L9 S (nI n)) m) (dwF L p1.toInt64 i).1 (nI (dwF L p1.toInt64 i).2) (nI i) = it3 (f_X8_drawn_q106_L9 S (nI n)) m (dwO L i (dwF L p1.toInt64 i)).1 (nI (dwO L i (dwF L p1.toInt64 i)).2) (nI (i + 1))
    generalize it3 (f_X8_drawn_q106_L9 S (nI n)) m = r
    generalize dwF L p1.toInt64 i = y
    obtain ⟨y1, y2⟩ := y
    unfold f_X8_drawn_q106_L9 dwO
    have hlt := dwI_lt L y1 (l_M L)
    rw [if_neg (nI_ge hi (by omega)), lk_eq, li_0, hin, bd_s (x_isThrough (S := wd_o S [] [] [] [] []) hL h hN hlt), lk_eq, nI_1, nI_1]
    cases thB L (dwI L y1 (l_M L)).2 with
    | true => rw [if_neg (show ¬ nI (b2n true) = nI 0 from n1_ne)]; rfl
    | false => rw [if_pos (show nI (b2n false) = nI 0 from rfl)]; rfl
