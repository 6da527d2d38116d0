/-! within, soon, mean: the reference whole, the developers' inner methods -/
theorem sm_one {i n v : Nat} (h : i < n) : fb_sm (fun k => if k = i then v else 0) n = v := by
  have := fb_sm_upd (fun _ => 0) v h
  rw [fb_sm_const] at this
  omega
theorem sm_below (o w : Nat → Nat) (m : Nat) : ∀ J, fb_sm (fun j => fb_sm (fun s => if o s = j then w s else 0) m) J = fb_sm (fun s => if o s < J then w s else 0) m
  | 0 => by
    rw [sm_zero (f := fun s => if o s < 0 then w s else 0) (fun k _ => if_neg (by omega))]
    rfl
  | J + 1 => by
    rw [fb_sm_succ, sm_below o w m J, ← sm_add]
    apply fb_sm_cong
    intro s _
    by_cases c : o s < J
    · rw [if_pos c, if_neg (by omega), if_pos (by omega), Nat.add_zero]
    · rw [if_neg c]
      by_cases d : o s = J
      · rw [if_pos d, if_pos (by omega), Nat.zero_add]
      · rw [if_neg d, if_neg (by omega)]
theorem sm_swap {P : Nat → Bool} {o w : Nat → Nat} {J : Nat} : ∀ m, (∀ s, s < m → o s < J) → fb_sm (fun j => if P j = true then fb_sm (fun s => if o s = j then w s else 0) m else 0) J = fb_sm (fun s => if P (o s) = true then w s else 0) m
  | 0, _ => by
    rw [sm_zero (f := fun j => if P j = true then fb_sm (fun s => if o s = j then w s else 0) 0 else 0) (fun k _ => by split <;> rfl)]
    rfl
  | m + 1, h => by
    rw [fb_sm_succ (fun s => if P (o s) = true then w s else 0), ← sm_swap m (fun s hs => h s (by omega))]
    rw [← sm_one (i := o m) (n := J) (v := if P (o m) = true then w m else 0) (h m (by omega)), ← sm_add]
    apply fb_sm_cong
    intro j _
    rw [fb_sm_succ (fun s => if o s = j then w s else 0)]
    by_cases p : P j = true
    · rw [if_pos p, if_pos p]
      by_cases e : o m = j
      · rw [if_pos e, if_pos e.symm, e, if_pos p]
      · rw [if_neg e, if_neg (fun z => e z.symm)]
    · rw [if_neg p, if_neg p, Nat.zero_add]
      by_cases e : j = o m
      · rw [if_pos e, ← e, if_neg p]
      · rw [if_neg e]
def wiD (L : Ld) (a b d : Nat) : Nat := fb_sm (byD L a b) (d + 1)
theorem wiD_eq (L : Ld) (a b d : Nat) : wiD L a b d = fb_sm (fun s => if dayN L (opM L s false) a b < d + 1 then wt L s else 0) (2 ^ l_M L) := sm_below _ _ _ _
theorem wiD_le {L : Ld} (hL : lOk L) (a b d : Nat) : wiD L a b d ≤ 16 ^ l_M L := by
  rw [wiD_eq, ← sm_wt16 hL]
  apply fb_sm_le
  intro k _
  split
  · exact Nat.le_refl _
  · exact Nat.zero_le _
def witA (L : Ld) (p1 p2 p3 : Int32) : Int64 := if (prB (l_N L) p1 p2 && inB 0 99 p3) = true then lN (wiD L p1.toNatClampNeg p2.toNatClampNeg p3.toNatClampNeg) else -1
theorem m_within {S : wd_W} {L : Ld} {p1 p2 p3 : Int32} (hL : lOk L) (h : mL S L) : Ok (f_X12_within S p1 p2 p3) (fun o => o.1 = witA L p1 p2 p3) := by
  have h20 : S.1 20 = nI (l_N L) := h.1.1
  have g2 := hL.1.2.1
  unfold f_X12_within witA
  rw [bd_s (m_areEndsB (S := wd_o S [(38, (S.1 38)), (39, (S.1 39))] [] [(17, (S.2.2.1 17)), (22, (S.2.2.1 22)), (23, (S.2.2.1 23))] [(21, (S.2.2.2.1 21)), (36, (S.2.2.2.1 36))] []) h20 (by omega))]
  refine ok_b (fun z => ok_some (by rw [z]; rfl)) (fun z => ?_)
  obtain ⟨a, b, rfl, rfl, ha, hb, hab⟩ := prB_t z
  rw [z, lN_0, show (99 : Int64) = lN 99 from rfl, bd_s (m_inN (by omega) (by omega))]
  refine ok_b (fun y => ok_some (by rw [show inB 0 99 p3 = false from y]; rfl)) (fun y => ?_)
  have y : inB 0 99 p3 = true := y
  obtain ⟨n, n1, rfl, n2, n3⟩ := inB_t (by omega) y
  rw [y, if_pos (show (true && true) = true from rfl), nI_clamp (by omega), nI_clamp (by omega), nI_clamp (by omega)]
  refine ok_bd (m_daysOf (S := wd_o S [(38, (S.1 38)), (39, (S.1 39))] [] [(17, (S.2.2.1 17)), (22, (S.2.2.1 22)), (23, (S.2.2.1 23))] [(21, (S.2.2.2.1 21)), (36, (S.2.2.2.1 36))] []) hL h ha hb hab) ?_
  intro o3 hd
  rw [li_0]
  refine ok_for0 (W := fun m i (v : Int64) => it2 (f_X12_within_L37 (nI n) o3) m v (nI i)) (I := fun i v => v = lN (fb_sm (byD L a b) i)) (e := n + 1) (by omega) rfl ?_ ?_
  · intro m v hI
    show Ok (f_X12_within_L37 (nI n) o3 _ v (nI (n + 1))) _
    unfold f_X12_within_L37
    rw [if_pos (nI_lt (by omega) (by omega))]
    exact ok_some hI
  · intro m i v hi hI ih
    show Ok (f_X12_within_L37 (nI n) o3 (it2 (f_X12_within_L37 (nI n) o3) m) v (nI i)) _
    generalize it2 (f_X12_within_L37 (nI n) o3) m = r at ih
    unfold f_X12_within_L37
    rw [if_neg (nI_nlt (by omega) (by omega)), gd_in (by omega) (by omega), lz_eq, nI_clamp (by omega), nI_1, hd i (by omega), hI, lN_add]
    exact ih _ (by rw [fb_sm_succ])
def fstD (P : Nat → Bool) : Nat → Nat → Int32
  | 0, _ => -2
  | n + 1, d => if P d = true then nI d else fstD P n (d + 1)
def soA (L : Ld) (p1 p2 p3 : Int32) : Int32 := if (prB (l_N L) p1 p2 && inB 0 16 p3) = true then fstD (fun d => atL (l_M L) (wiD L p1.toNatClampNeg p2.toNatClampNeg d) p3.toNatClampNeg) 99 1 else -1
theorem m_soon {S : wd_W} {L : Ld} {p1 p2 p3 : Int32} (hL : lOk L) (h : mL S L) : Ok (f_X12_soon S p1 p2 p3) (fun o => o.1 = soA L p1 p2 p3) := by
  have h20 : S.1 20 = nI (l_N L) := h.1.1
  have h32 : S.1 32 = nI (l_M L) := h.1.2.2.2.2.1
  have g2 := hL.1.2.1
  have hM := lM_15 hL
  unfold f_X12_soon soA
  rw [bd_s (m_areEndsB (S := wd_o S [(38, (S.1 38)), (39, (S.1 39))] [] [(17, (S.2.2.1 17)), (22, (S.2.2.1 22)), (23, (S.2.2.1 23))] [(21, (S.2.2.2.1 21)), (36, (S.2.2.2.1 36))] []) h20 (by omega))]
  refine ok_b (fun z => ok_some (by rw [z]; rfl)) (fun z => ?_)
  obtain ⟨a, b, rfl, rfl, ha, hb, hab⟩ := prB_t z
  rw [z, lN_0, show (16 : Int64) = lN 16 from rfl, bd_s (m_inN (by omega) (by omega))]
  refine ok_b (fun y => ok_some (by rw [show inB 0 16 p3 = false from y]; rfl)) (fun y => ?_)
  have y : inB 0 16 p3 = true := y
  obtain ⟨n, n1, rfl, n2, n3⟩ := inB_t (by omega) y
  rw [y, if_pos (show (true && true) = true from rfl), nI_clamp (by omega), nI_clamp (by omega), nI_clamp (by omega)]
  refine ok_bd (m_daysOf (S := wd_o S [(38, (S.1 38)), (39, (S.1 39))] [] [(17, (S.2.2.1 17)), (22, (S.2.2.1 22)), (23, (S.2.2.1 23))] [(21, (S.2.2.2.1 21)), (36, (S.2.2.2.1 36))] []) hL h ha hb hab) ?_
  intro o3 hd
  rw [li_0, gd_in (by omega) (by omega), lz_eq, nI_clamp (by omega), hd 0 (by omega), li_1]
  refine ok_up (W := fun m i (v : Int64) => it2 (f_X12_soon_L40 S (nI n) o3) m v (nI i)) (I := fun i v => v = lN (fb_sm (byD L a b) i) ∧ fstD (fun d => atL (l_M L) (wiD L a b d) n) 99 1 = fstD (fun d => atL (l_M L) (wiD L a b d) n) (100 - i) i) (e := 100) ?_ ?_ fuel 1 _ (by omega) ⟨by rw [fb_sm_succ]; exact congrArg lN (Nat.zero_add _).symm, rfl⟩ (by unfold fuel; omega)
  · intro m v hI
    show Ok (f_X12_soon_L40 S (nI n) o3 _ v (nI 100)) _
    unfold f_X12_soon_L40
    rw [if_pos (show (99 : Int32) < nI 100 by decide)]
    exact ok_some (by rw [hI.2]; rfl)
  · intro m i v hi hI ih
    show Ok (f_X12_soon_L40 S (nI n) o3 (it2 (f_X12_soon_L40 S (nI n) o3) m) v (nI i)) _
    generalize it2 (f_X12_soon_L40 S (nI n) o3) m = r at ih
    obtain ⟨hI1, hI2⟩ := hI
    have hv : lN (fb_sm (byD L a b) i) + lN (byD L a b i) = lN (wiD L a b i) := by rw [lN_add]; unfold wiD; rw [fb_sm_succ]
    unfold f_X12_soon_L40
    rw [if_neg (by rw [li_99, pI_ltN (by omega), nI_toInt (by omega)]; omega), gd_in (by omega) (by omega), lz_eq, nI_clamp (by omega), nI_1, hd i (by omega), hI1, hv, bd_s (m_isAtLeast (S := wd_o S [(38, o3.1), (39, o3.2.1)] [] [(17, o3.2.2.1), (22, o3.2.2.2.1), (23, o3.2.2.2.2.1)] [(21, o3.2.2.2.2.2.1), (36, o3.2.2.2.2.2.2)] []) h32 hM (wiD_le hL a b i) (by omega))]
    have hst : fstD (fun d => atL (l_M L) (wiD L a b d) n) (100 - i) i = if atL (l_M L) (wiD L a b i) n = true then nI i else fstD (fun d => atL (l_M L) (wiD L a b d) n) (100 - (i + 1)) (i + 1) := by
      rw [show 100 - i = (100 - (i + 1)) + 1 by omega]; rfl
    rw [hst] at hI2
    refine ok_b (fun w => ih _ ⟨rfl, ?_⟩) (fun w => ok_some ?_)
    · rw [hI2, w]; rfl
    · rw [hI2, w]; rfl
def meA (L : Ld) (p1 p2 p3 : Int32) : Int64 := if (prB (l_N L) p1 p2 && inB 0 1 p3) = true then (if p3 = 0 then lN (fb_sm (fun k => (k + 1) * byD L p1.toNatClampNeg p2.toNatClampNeg (k + 1)) 99) else lN (fb_sm (fun k => byD L p1.toNatClampNeg p2.toNatClampNeg (k + 1)) 99)) else -1
theorem m_mean {S : wd_W} {L : Ld} {p1 p2 p3 : Int32} (hL : lOk L) (h : mL S L) : Ok (f_X12_mean S p1 p2 p3) (fun o => o.1 = meA L p1 p2 p3) := by
  have h20 : S.1 20 = nI (l_N L) := h.1.1
  have g2 := hL.1.2.1
  unfold f_X12_mean meA
  rw [bd_s (m_areEndsB (S := wd_o S [(38, (S.1 38)), (39, (S.1 39))] [] [(17, (S.2.2.1 17)), (22, (S.2.2.1 22)), (23, (S.2.2.1 23))] [(21, (S.2.2.2.1 21)), (36, (S.2.2.2.1 36))] []) h20 (by omega))]
  refine ok_b (fun z => ok_some (by rw [z]; rfl)) (fun z => ?_)
  obtain ⟨a, b, rfl, rfl, ha, hb, hab⟩ := prB_t z
  rw [z, lN_0, show (1 : Int64) = lN 1 from rfl, bd_s (m_inN (by omega) (by omega))]
  refine ok_b (fun y => ok_some (by rw [show inB 0 1 p3 = false from y]; rfl)) (fun y => ?_)
  have y : inB 0 1 p3 = true := y
  rw [y, if_pos (show (true && true) = true from rfl), nI_clamp (by omega), nI_clamp (by omega)]
  refine ok_bd (m_daysOf (S := wd_o S [(38, (S.1 38)), (39, (S.1 39))] [] [(17, (S.2.2.1 17)), (22, (S.2.2.1 22)), (23, (S.2.2.1 23))] [(21, (S.2.2.2.1 21)), (36, (S.2.2.2.1 36))] []) hL h ha hb hab) ?_
  intro o3 hd
  rw [li_1]
  refine ok_for0 (W := fun m i (v : Int64) => it2 (f_X12_mean_L35 p3 o3) m v (nI (i + 1))) (I := fun i v => v = (if p3 = 0 then lN (fb_sm (fun k => (k + 1) * byD L a b (k + 1)) i) else lN (fb_sm (fun k => byD L a b (k + 1)) i))) (e := 99) (by omega) (by split <;> rfl) ?_ ?_
  · intro m v hI
    show Ok (f_X12_mean_L35 p3 o3 _ v (nI (99 + 1))) _
    unfold f_X12_mean_L35
    rw [if_pos (show (99 : Int32) < nI (99 + 1) by decide)]
    exact ok_some hI
  · intro m i v hi hI ih
    show Ok (f_X12_mean_L35 p3 o3 (it2 (f_X12_mean_L35 p3 o3) m) v (nI (i + 1))) _
    generalize it2 (f_X12_mean_L35 p3 o3) m = r at ih
    unfold f_X12_mean_L35
    rw [if_neg (by rw [li_99, pI_ltN (by omega), nI_toInt (by omega)]; omega), nI_1, nI_clamp (by omega), hd (i + 1) (by omega)]
    refine ok_lk (ok_ite (fun w => ?_) (fun w => ?_))
    · rw [gd_in (by omega) (by omega)]
      dsimp only
      rw [lz_eq, nI_l (by omega), lN_mul, hI, if_pos w, lN_add]
      exact ih _ (by rw [if_pos w, fb_sm_succ])
    · rw [gd_in (by omega) (by omega)]
      dsimp only
      rw [lz_eq, hI, if_neg w, lN_add]
      exact ih _ (by rw [if_neg w, fb_sm_succ])
/-! the developers' -/
def xDy (S : wd_W) (L : Ld) (a b : Nat) : Prop := ∀ d, d < 100 → S.2.2.2.1 139 d = lN (byD L a b d)
theorem x_cameWithin {S : wd_W} {L : Ld} {a b n : Nat} (ht : xDy S L a b) (hn : n ≤ 99) : f_X5_cameWithin_q137 S (nI n) = some (lN (wiD L a b n)) := by
  apply ok_e
  unfold f_X5_cameWithin_q137
  rw [li_0, lN_0]
  refine ok_for0 (W := fun m i (v : Int64) => it2 (f_X5_cameWithin_q137_L5 S (nI n)) m v (nI i)) (I := fun i v => v = lN (fb_sm (byD L a b) i)) (e := n + 1) (by omega) rfl ?_ ?_
  · intro m v hI
    show Ok (f_X5_cameWithin_q137_L5 S (nI n) _ v (nI (n + 1))) _
    unfold f_X5_cameWithin_q137_L5
    rw [if_pos (nI_lt (by omega) (by omega))]
    exact ok_some hI
  · intro m i v hi hI ih
    show Ok (f_X5_cameWithin_q137_L5 S (nI n) (it2 (f_X5_cameWithin_q137_L5 S (nI n)) m) v (nI i)) _
    generalize it2 (f_X5_cameWithin_q137_L5 S (nI n)) m = r at ih
    unfold f_X5_cameWithin_q137_L5
    rw [if_neg (nI_nlt (by omega) (by omega)), if_neg (by rw [li_99, pI_ltN (by omega), nI_toInt (by omega)]; omega), gd_in (by omega) (by omega), lz_eq, nI_clamp (by omega), nI_1, ht i (by omega), hI, lN_add]
    exact ih _ (by rw [fb_sm_succ])
theorem x_daysTogether {S : wd_W} {L : Ld} {a b : Nat} (ht : xDy S L a b) : f_X5_daysTogether_q137 S = some (lN (fb_sm (fun k => (k + 1) * byD L a b (k + 1)) 99)) := by
  apply ok_e
  unfold f_X5_daysTogether_q137
  rw [li_1, lN_0]
  refine ok_for0 (W := fun m i (v : Int64) => it2 (f_X5_daysTogether_q137_L4 S) m v (nI (i + 1))) (I := fun i v => v = lN (fb_sm (fun k => (k + 1) * byD L a b (k + 1)) i)) (e := 99) (by omega) rfl ?_ ?_
  · intro m v hI
    show Ok (f_X5_daysTogether_q137_L4 S _ v (nI (99 + 1))) _
    unfold f_X5_daysTogether_q137_L4
    rw [if_pos (show (99 : Int32) < nI (99 + 1) by decide)]
    exact ok_some hI
  · intro m i v hi hI ih
    show Ok (f_X5_daysTogether_q137_L4 S (it2 (f_X5_daysTogether_q137_L4 S) m) v (nI (i + 1))) _
    generalize it2 (f_X5_daysTogether_q137_L4 S) m = r at ih
    unfold f_X5_daysTogether_q137_L4
    rw [if_neg (by rw [li_99, pI_ltN (by omega), nI_toInt (by omega)]; omega), nI_1, nI_clamp (by omega), ht (i + 1) (by omega), gd_in (by omega) (by omega), lz_eq, nI_l (by omega), lN_mul, hI, lN_add]
    exact ih _ (by rw [fb_sm_succ])
theorem wiD_99 {L : Ld} (hL : lOk L) {a b : Nat} (ha : a < l_N L) (hab : a ≠ b) : wiD L a b 99 = fb_sm (fun k => byD L a b (k + 1)) 99 := by
  unfold wiD
  rw [show 99 + 1 = 1 + 99 from rfl, fb_sm_split]
  have : fb_sm (byD L a b) 1 = 0 := by
    rw [fb_sm_succ]
    have : byD L a b 0 = 0 := sm_zero (fun s _ => if_neg (day_pos (lOk_r hL) (opM_lt0 L s) ha hab))
    rw [this]; rfl
  rw [this, Nat.zero_add]
  apply fb_sm_cong
  intro k _
  rw [Nat.add_comm]
theorem x_fill_q139 {S : wd_W} : f_J7_fill_d0a16_q139 S 0 = some (fil (fun _ => 0) (S.2.2.2.1 139) 100) := by
  unfold f_J7_fill_d0a16_q139
  refine Eq.trans ?_ (eq_for0 (W := fun m i => it2 (f_J7_fill_d0a16_q139_L6 0) m (nI i) (fil (fun _ => 0) (S.2.2.2.1 139) i)) (e := 100) (by omega) ?_ ?_)
  · show it2 _ fuel (nI 0) _ = it2 _ fuel (nI 0) (fil _ _ 0)
    rw [fil_0]
  · intro m
    show f_J7_fill_d0a16_q139_L6 0 _ (nI 100) _ = _
    unfold f_J7_fill_d0a16_q139_L6
    rw [li_100, if_pos (nI_le (Nat.le_refl _) (by omega))]
  · intro m i hi
    show f_J7_fill_d0a16_q139_L6 0 (it2 _ m) (nI i) _ = it2 (f_J7_fill_d0a16_q139_L6 0) m (nI (i + 1)) _
    generalize it2 (f_J7_fill_d0a16_q139_L6 0) m = r
    unfold f_J7_fill_d0a16_q139_L6
    rw [li_100, if_neg (nI_ge hi (by omega)), ← fil_updL, gd_in (by omega) (by omega), lz_eq, nI_clamp (by omega), nI_1]
theorem x_travel {S : wd_W} {L : Ld} {a b : Nat} (hL : lOk L) (hl : xL S 16 L) (h : xS S L) (hN : xN S) (ha : a < l_N L) (hb : b < l_N L) :
    Ok (f_X5_travel_q137 S (nI a) (nI b)) (fun o => o.1 = nI a ∧ o.2.1 = nI b ∧ ∀ d, d < 100 → o.2.2.2 d = lN (byD L a b d)) := by
  have hR := lOk_r hL
  have g3 : l_n L ≤ 12 := hL.1.2.2.1
  have p3 : 2 ^ l_n L ≤ 4096 := pow_le_k (n := 12) g3
  have p0 := Nat.two_pow_pos (l_n L)
  obtain ⟨e, f, he, hf, n7, n9, n8, n10⟩ := hN
  have pf : 2 ^ f ≤ 4096 := pow_le_k (n := 12) hf
  obtain ⟨hxR, h2, h3, h4, ht, hs, hj, l7, l9, l8, l10⟩ := h
  unfold f_X5_travel_q137
  rw [bd_s (x_fill_q139 (S := wd_o S [(13703, nI a), (13704, nI b)] [] [(115, (S.2.2.1 115))] [(139, (S.2.2.2.1 139))] [])), li_0]
  refine ok_for0 (W := fun m i (x : (Nat → Int32) × (Nat → Int64)) => it3 (f_X5_travel_q137_L20 S (nI a) (nI b)) m (nI i) x.1 x.2) (I := fun i x => ∀ d, d < 100 → x.2 d = lN (fb_sm (fun j => if dayN L j a b = d then opw L j else 0) i)) (e := 2 ^ l_n L) (s := (S.2.2.1 115, fil (fun _ => 0) (S.2.2.2.1 139) 100)) (by omega) (fun d hd => by dsimp only; rw [fil_in hd]; rfl) ?_ ?_
  · rintro m ⟨a3, a4⟩ hI
    dsimp only at hI
    show Ok (f_X5_travel_q137_L20 S (nI a) (nI b) _ (nI (2 ^ l_n L)) a3 a4) _
    unfold f_X5_travel_q137_L20
    rw [h3, if_pos (nI_lt (by omega) (by omega))]
    refine ok_some ⟨rfl, rfl, fun d hd => ?_⟩
    show a4 d = _
    rw [hI d hd]
    congr 1
    have := sm_swap (P := fun j => decide (dayN L j a b = d)) (o := fun s => opM L s false) (w := wt L) (J := 2 ^ l_n L) (2 ^ l_M L) (fun s _ => opM_lt0 L s)
    simp only [decide_eq_true_eq] at this
    exact this
  · rintro m i ⟨a3, a4⟩ hi hI ih
    dsimp only at hI
    show Ok (f_X5_travel_q137_L20 S (nI a) (nI b) (it3 (f_X5_travel_q137_L20 S (nI a) (nI b)) m) (nI i) a3 a4) _
    generalize it3 (f_X5_travel_q137_L20 S (nI a) (nI b)) m = r at ih
    have hdl := day_le hR hi ha b
    obtain ⟨ar, ed⟩ : ∃ ar, f_X7_daysBetween_q111 (wd_o S [(13703, nI a), (13704, nI b)] [] [(115, a3)] [(139, a4)] []) (nI a) (nI b) (nI i) = some (nI (dayN L i a b), ar) := ⟨_, x_days_q111 (S := wd_o S [(13703, nI a), (13704, nI b)] [] [(115, a3)] [(139, a4)] []) hR hl hxR ha hb hi⟩
    unfold f_X5_travel_q137_L20
    rw [h3, if_neg (nI_nlt (by omega) (by omega)), bd_s ed, nI_1]
    refine ok_lk ?_
    dsimp only
    refine ok_ite (fun y => ?_) (fun y => ?_)
    · rw [li_99, pI_ltN (by omega), nI_toInt (show dayN L i a b < 2 ^ 31 by omega)] at y
      refine ih (ar, a4) (fun d hd => ?_)
      dsimp only
      rw [fb_sm_succ, hI d hd, if_neg (by omega), Nat.add_zero]
    · rw [li_99, pI_ltN (by omega), nI_toInt (show dayN L i a b < 2 ^ 31 by omega)] at y
      rw [gd_in (show dayN L i a b < 100 by omega) (by omega), gd_in (by omega) (by omega), nI_clamp (show dayN L i a b < 2 ^ 31 by omega), nI_clamp (by omega), lz_eq, gd_in (show dayN L i a b < 100 by omega) (by omega), lz_eq, (hj i hi).2, hI _ (show dayN L i a b < 100 by omega), lN_add]
      refine ih (ar, vp_updL a4 (dayN L i a b) (lN (fb_sm (fun j => if dayN L j a b = dayN L i a b then opw L j else 0) i + opw L i))) (fun d hd => ?_)
      dsimp only
      rw [fb_sm_succ]
      by_cases e : d = dayN L i a b
      · subst e; rw [if_pos rfl, pk_uLs]
      · rw [if_neg (fun z => e z.symm), Nat.add_zero, ← hI d hd, pk_uLn e]
