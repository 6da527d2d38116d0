/-! a new line: the reference, whole; and the two ways to count, compared -/
noncomputable def addA (L : Ld) (p1 p2 : Int32) : Int64 := if (inB 0 16 p1 && (inB 0 2 p2 && (decide (l_M L ≤ 10) && decide (l_n L < 12)))) = true then
  (if p2 = 0 then lN ((brF (nwV L p1.toNatClampNeg) (l_N L) (l_N L)).1 - 1) else if p2 = 1 then lN (brF (nwV L p1.toNatClampNeg) (l_N L) (l_N L)).2.1 else lN (brF (nwV L p1.toNatClampNeg) (l_N L) (l_N L)).2.2) else -1
theorem nwV_le {L : Ld} (hL : lOk L) {c : Nat} (hc : c ≤ 16) (a b : Nat) : nwV L c a b ≤ 16 * 16 ^ l_M L := by
  have hN1 := nwS_le hL a b
  have hT1 := totS_le hL
  unfold nwV
  have e1 : c * nwS L a b ≤ c * 16 ^ l_M L := Nat.mul_le_mul_left _ hN1
  have e2 : (16 - c) * totS L ≤ (16 - c) * 16 ^ l_M L := Nat.mul_le_mul_left _ hT1
  have e3 : c * 16 ^ l_M L + (16 - c) * 16 ^ l_M L = 16 * 16 ^ l_M L := by rw [← Nat.add_mul]; congr 1; omega
  omega
theorem brI_le {V : Nat → Nat → Nat} {K : Nat} (h : ∀ a b, V a b ≤ K) {a : Nat} {x : Nat × Nat × Nat} (hx : x.1 ≤ K + 1) (d : Nat) : (brI V a x d).1 ≤ K + 1 :=
  itf_ind (P := fun _ (x : Nat × Nat × Nat) => x.1 ≤ K + 1) hx (fun _ _ _ hy => brS_le (h _ _) hy)
theorem brF_le {V : Nat → Nat → Nat} {K : Nat} (h : ∀ a b, V a b ≤ K) (N m : Nat) : (brF V N m).1 ≤ K + 1 :=
  itf_ind (P := fun _ (x : Nat × Nat × Nat) => x.1 ≤ K + 1) (Nat.zero_le _) (fun _ _ _ hy => brI_le h hy _)
/-- after the first pair there is a best -/
def brP (N : Nat) (x : Nat × Nat × Nat) : Prop := x.1 ≠ 0 → x.2.1 < N ∧ x.2.2 < N
theorem brS_P {V : Nat → Nat → Nat} {N a b : Nat} {x : Nat × Nat × Nat} (ha : a < N) (hb : b < N) (h : brP N x) : brP N (brS V a b x) := by
  unfold brS
  split
  · exact fun _ => ⟨ha, hb⟩
  · exact h
theorem brI_P {V : Nat → Nat → Nat} {N a : Nat} {x : Nat × Nat × Nat} (ha : a < N) (h : brP N x) (d : Nat) (hd : d ≤ N - (a + 1)) : brP N (brI V a x d) :=
  itf_ind (P := fun _ (x : Nat × Nat × Nat) => brP N x) h (fun i _ hi hy => brS_P ha (by omega) hy)
theorem brF_P (V : Nat → Nat → Nat) (N : Nat) {m : Nat} (hm : m ≤ N) : brP N (brF V N m) :=
  itf_ind (P := fun _ (x : Nat × Nat × Nat) => brP N x) (fun z => absurd rfl z) (fun i _ hi hy => brI_P (by omega) hy _ (Nat.le_refl _))
theorem brS_pos {V : Nat → Nat → Nat} {a b : Nat} {x : Nat × Nat × Nat} (h : x.1 ≠ 0) : (brS V a b x).1 ≠ 0 := by
  unfold brS
  split
  · exact Nat.succ_ne_zero _
  · exact h
theorem brI_pos {V : Nat → Nat → Nat} {a d : Nat} {x : Nat × Nat × Nat} (h : x.1 ≠ 0 ∨ 0 < d) : (brI V a x d).1 ≠ 0 := by
  cases d with
  | zero => exact h.resolve_right (by omega)
  | succ d =>
    show (brS V a (a + 1 + d) (brI V a x d)).1 ≠ 0
    by_cases e : (brI V a x d).1 = 0
    · unfold brS
      rw [e, if_pos (Nat.zero_le _)]
      exact Nat.succ_ne_zero _
    · exact brS_pos e
theorem brF_pos {V : Nat → Nat → Nat} {N : Nat} (hN : 2 ≤ N) : ∀ m, 1 ≤ m → (brF V N m).1 ≠ 0
  | 0, h => by omega
  | m + 1, _ => by
    show (brI V m (brF V N m) (N - (m + 1))).1 ≠ 0
    by_cases e : m = 0
    · subst e; exact brI_pos (Or.inr (by omega))
    · exact brI_pos (Or.inl (brF_pos hN m (by omega)))
/-- the same pair by any rising way to count -/
def brR (f : Nat → Nat) (x y : Nat × Nat × Nat) : Prop := (x.1 = 0 ∧ y.1 = 0) ∨ (∃ v, x.1 = v + 1 ∧ y.1 = f v + 1 ∧ y.2 = x.2)
theorem brS_R {V : Nat → Nat → Nat} {f : Nat → Nat} (hf : ∀ u v, u < v → f u < f v) {a b : Nat} {x y : Nat × Nat × Nat} (h : brR f x y) : brR f (brS V a b x) (brS (fun a b => f (V a b)) a b y) := by
  unfold brS
  rcases h with ⟨h1, h2⟩ | ⟨v, h1, h2, h3⟩
  · rw [h1, h2, if_pos (Nat.zero_le _), if_pos (Nat.zero_le _)]
    exact Or.inr ⟨V a b, rfl, rfl, rfl⟩
  · rw [h1, h2]
    dsimp only
    by_cases c : v + 1 ≤ V a b
    · rw [if_pos c, if_pos (show f v + 1 ≤ f (V a b) from hf _ _ c)]
      exact Or.inr ⟨V a b, rfl, rfl, rfl⟩
    · have : ¬ f v + 1 ≤ f (V a b) := by
        intro q
        by_cases e : V a b = v
        · rw [e] at q; omega
        · have := hf (V a b) v (by omega); omega
      rw [if_neg c, if_neg this]
      exact Or.inr ⟨v, h1, h2, h3⟩
theorem brI_R {V : Nat → Nat → Nat} {f : Nat → Nat} (hf : ∀ u v, u < v → f u < f v) {a : Nat} {x y : Nat × Nat × Nat} (h : brR f x y) : ∀ d, brR f (brI V a x d) (brI (fun a b => f (V a b)) a y d)
  | 0 => h
  | d + 1 => brS_R hf (brI_R hf h d)
theorem brF_R {V : Nat → Nat → Nat} {f : Nat → Nat} (hf : ∀ u v, u < v → f u < f v) (N : Nat) : ∀ m, brR f (brF V N m) (brF (fun a b => f (V a b)) N m)
  | 0 => Or.inl ⟨rfl, rfl⟩
  | m + 1 => brI_R hf (brF_R hf N m) _
/-- all pairs alike: the first -/
theorem brI_C {k a : Nat} {x : Nat × Nat × Nat} (h : x.1 = k + 1) : ∀ d, brI (fun _ _ => k) a x d = x
  | 0 => rfl
  | d + 1 => by
    show brS (fun _ _ => k) a (a + 1 + d) (brI (fun _ _ => k) a x d) = x
    rw [brI_C h d]
    unfold brS
    dsimp only
    rw [if_neg (by omega)]
theorem brI_C0 {k a : Nat} : ∀ d, 0 < d → brI (fun _ _ => k) a (0, 0, 0) d = (k + 1, a, a + 1)
  | 0, h => by omega
  | d + 1, _ => by
    by_cases e : d = 0
    · subst e; rfl
    · show brS (fun _ _ => k) a (a + 1 + d) (brI (fun _ _ => k) a (0, 0, 0) d) = _
      rw [brI_C0 d (by omega)]
      unfold brS
      rw [if_neg (by dsimp only; omega)]
theorem brF_C {k N : Nat} (hN : 2 ≤ N) : ∀ m, 1 ≤ m → brF (fun _ _ => k) N m = (k + 1, 0, 1)
  | 0, h => by omega
  | m + 1, _ => by
    show brI (fun _ _ => k) m (brF (fun _ _ => k) N m) (N - (m + 1)) = _
    by_cases e : m = 0
    · subst e; exact brI_C0 _ (by omega)
    · rw [brF_C hN m (by omega)]; exact brI_C rfl _
theorem m_add {S : wd_W} {L : Ld} {p1 p2 : Int32} (hL : lOk L) (h : mL S L) (hla : mLaid S L) :
    Ok (f_X12_add S p1 p2) (fun o => o.1 = addA L p1 p2 ∧ mLd L o.2.2.2.1 o.2.2.2.2.2.2.2.2.2.2.2.1 ∧ ∀ k, k < l_n L → o.2.2.2.2.1 k = S.2.2.1 8 k ∧ o.2.2.2.2.2.1 k = S.2.2.1 9 k ∧ o.2.2.2.2.2.2.1 k = S.2.2.1 11 k ∧ o.2.2.2.2.2.2.2.1 k = S.2.2.1 12 k) := by
  have hM := lM_15 hL
  have g1 := hL.1.1
  have g2 := hL.1.2.1
  have g3 := hL.1.2.2.1
  have h32 : S.1 32 = nI (l_M L) := h.1.2.2.2.2.1
  have h21 : S.1 21 = nI (l_n L) := h.1.2.1
  have h20 : S.1 20 = nI (l_N L) := h.1.1
  unfold f_X12_add addA
  rw [lN_0, show (16 : Int64) = lN 16 from rfl, bd_s (m_inN (by omega) (by omega))]
  refine ok_b (fun z => ok_some ⟨by rw [show inB 0 16 p1 = false from z]; rfl, hla, fun k hk => ⟨rfl, rfl, rfl, rfl⟩⟩) (fun z => ?_)
  have z : inB 0 16 p1 = true := z
  rw [show (2 : Int64) = lN 2 from rfl, bd_s (m_inN (by omega) (by omega)), z]
  refine ok_b (fun y => ok_some ⟨by rw [show inB 0 2 p2 = false from y]; rfl, hla, fun k hk => ⟨rfl, rfl, rfl, rfl⟩⟩) (fun y => ?_)
  have y : inB 0 2 p2 = true := y
  rw [y, h32, h21, li_10, li_12]
  refine ok_ite (fun w => ?_) (fun w => ?_)
  · rw [nI_ltI (by omega) (by omega)] at w
    exact ok_some ⟨by rw [decide_eq_false (show ¬ l_M L ≤ 10 by omega)]; rfl, hla, fun k hk => ⟨rfl, rfl, rfl, rfl⟩⟩
  rw [nI_ltI (by omega) (by omega)] at w
  have hM10 : l_M L ≤ 10 := by omega
  have pw := pow16_10 hM10
  refine ok_ite (fun w2 => ?_) (fun w2 => ?_)
  · rw [nI_eq (by omega) (by omega)] at w2
    exact ok_some ⟨by rw [decide_eq_false (show ¬ l_n L < 12 by omega), Bool.and_false, Bool.and_false, Bool.and_false]; rfl, hla, fun k hk => ⟨rfl, rfl, rfl, rfl⟩⟩
  rw [nI_eq (by omega) (by omega)] at w2
  have hn12 : l_n L < 12 := by omega
  rw [decide_eq_true hM10, decide_eq_true hn12, if_pos (show (true && (true && (true && true))) = true from rfl)]
  obtain ⟨c, c1, rfl, c2, c3⟩ := inB_t (by omega) z
  obtain ⟨wh, wh1, rfl, wh2, wh3⟩ := inB_t (by omega) y
  rw [nI_clamp (by omega)]
  have hc16 : c ≤ 16 := by omega
  have hVb := nwV_le hL hc16
  refine ok_bd (m_lays (S := wd_o S [(38, (S.1 38)), (39, (S.1 39)), (44, (S.1 44))] [] [(8, (S.2.2.1 8)), (9, (S.2.2.1 9)), (11, (S.2.2.1 11)), (12, (S.2.2.1 12)), (17, (S.2.2.1 17)), (18, (S.2.2.1 18)), (19, (S.2.2.1 19)), (20, (S.2.2.1 20)), (22, (S.2.2.1 22)), (23, (S.2.2.1 23))] [(21, (S.2.2.2.1 21)), (30, (S.2.2.2.1 30))] []) hL h hla) ?_
  rintro ⟨u1, u2, u3, u4, u5, u6, u7⟩ ⟨e1, e2⟩
  dsimp only at e1 e2
  refine ok_bd (m_plain (S := wd_o S [(38, u1), (39, u2), (44, u3)] [] [(8, (S.2.2.1 8)), (9, (S.2.2.1 9)), (11, (S.2.2.1 11)), (12, (S.2.2.1 12)), (17, u4), (18, u5), (19, u6), (20, u7), (22, (S.2.2.1 22)), (23, (S.2.2.1 23))] [(21, (S.2.2.2.1 21)), (30, (S.2.2.2.1 30))] []) hL h32 h.2.2.2) ?_
  rintro ⟨d1, d2⟩ ⟨f1, f2⟩
  dsimp only at f1 f2
  refine ok_bd (P := fun o => ∀ s, s < 2 ^ l_M L → o s = lN (wt L s)) (ok_of (m_weighs (S := wd_o S [(38, u1), (39, u2), (44, u3)] [] [(8, (S.2.2.1 8)), (9, (S.2.2.1 9)), (11, (S.2.2.1 11)), (12, (S.2.2.1 12)), (17, u4), (18, u5), (19, u6), (20, u7), (22, d1), (23, d2)] [(21, (S.2.2.2.1 21)), (30, (S.2.2.2.1 30))] []) (M := l_M L) (h := cha L) (f := fun t => 16 - cha L t) hM h32 (fun t ht => ⟨f1 t ht, f2 t ht, cha_le hL ht, by omega⟩)) (fun s hs => fil_in (f := fun s => lN (wtF (cha L) (fun t => 16 - cha L t) (l_M L) s)) hs)) ?_
  intro o5 hwt
  rw [li_0, gd_in (by omega) (by omega), lz_eq, nI_clamp (by omega)]
  refine ok_lk ?_
  let rowsOk : (Nat → Int32) → (Nat → Int32) → (Nat → Int32) → (Nat → Int32) → Prop := fun a8 a9 a11 a12 => ∀ k, k < l_n L → a8 k = S.2.2.1 8 k ∧ a9 k = S.2.2.1 9 k ∧ a11 k = S.2.2.1 11 k ∧ a12 k = S.2.2.1 12 k
  have hmL : ∀ (x38 x39 : Int32) (a8 a9 a11 a12 a17 a18 a19 : Nat → Int32) (g30 : Nat → Int64), rowsOk a8 a9 a11 a12 → mL (wd_o S [(38, x38), (39, x39), (44, u3)] [] [(8, a8), (9, a9), (11, a11), (12, a12), (17, a17), (18, a18), (19, a19), (20, u7), (22, d1), (23, d2)] [(21, o5), (30, g30)] []) L := by
    intro x38 x39 a8 a9 a11 a12 a17 a18 a19 g30 hr
    obtain ⟨h0, hk, hp, htt⟩ := h
    refine ⟨h0, fun k hk' => ?_, hp, htt⟩
    obtain ⟨r1, r2, r3, r4⟩ := hr k hk'
    obtain ⟨b1, b2, b3, b4, b5, b6⟩ := hk k hk'
    exact ⟨r1.trans b1, r2.trans b2, b3, r3.trans b4, r4.trans b5, b6⟩
  refine ok_for0 (W := fun m a (y : Int32 × Int32 × (Nat → Int32) × (Nat → Int32) × (Nat → Int32) × (Nat → Int32) × (Nat → Int32) × (Nat → Int32) × (Nat → Int32) × (Nat → Int64)) => it11 (f_X12_add_L69 S (nI c) (u1, u2, u3, u4, u5, u6, u7) (d1, d2) o5 _) m (nI a) y.1 y.2.1 y.2.2.1 y.2.2.2.1 y.2.2.2.2.1 y.2.2.2.2.2.1 y.2.2.2.2.2.2.1 y.2.2.2.2.2.2.2.1 y.2.2.2.2.2.2.2.2.1 y.2.2.2.2.2.2.2.2.2)
    (I := fun a y => rowsOk y.2.2.1 y.2.2.2.1 y.2.2.2.2.1 y.2.2.2.2.2.1 ∧ mBe y.2.2.2.2.2.2.2.2.2 (brF (nwV L c) (l_N L) a)) (e := l_N L) (s := (u1, u2, S.2.2.1 8, S.2.2.1 9, S.2.2.1 11, S.2.2.1 12, u4, u5, u6, vp_updL (S.2.2.2.1 30) 0 (-1))) (by omega) ⟨fun k _ => ⟨rfl, rfl, rfl, rfl⟩, ⟨by show vp_updL (S.2.2.2.1 30) 0 (-1) 0 = _; rw [pk_uLs]; rfl, fun z => absurd rfl z⟩⟩ ?_ ?_
  · rintro m ⟨x38, x39, a8, a9, a11, a12, a17, a18, a19, g30⟩ ⟨i1, i2⟩
    dsimp only at i1 i2
    show Ok (f_X12_add_L69 S (nI c) (u1, u2, u3, u4, u5, u6, u7) (d1, d2) o5 _ _ (nI (l_N L)) x38 x39 a8 a9 a11 a12 a17 a18 a19 g30) _
    unfold f_X12_add_L69
    rw [h20, if_pos (nI_le (Nat.le_refl _) (by omega))]
    dsimp only
    rw [gd_in (by omega) (by omega), nI_clamp (by omega)]
    refine ok_some ⟨?_, Or.inr ⟨e1, e2⟩, i1⟩
    have hpos := brF_pos (V := nwV L c) (N := l_N L) g1 (l_N L) (by omega)
    obtain ⟨b0, b1⟩ := i2
    obtain ⟨b1, b2⟩ := b1 hpos
    show g30 wh = _
    by_cases c0 : wh = 0
    · subst c0
      rw [b0, if_pos rfl]
      unfold enc
      rw [if_neg hpos]
    · rw [if_neg (fun q => c0 ((nI_eq (by omega) (by omega)).mp q))]
      by_cases c1' : wh = 1
      · subst c1'
        rw [b1, if_pos (show nI 1 = 1 from rfl)]
      · have : wh = 2 := by omega
        subst this
        rw [b2, if_neg (by decide)]
  · rintro m a ⟨x38, x39, a8, a9, a11, a12, a17, a18, a19, g30⟩ ha ⟨i1, i2⟩ ih
    dsimp only at i1 i2
    show Ok (f_X12_add_L69 S (nI c) (u1, u2, u3, u4, u5, u6, u7) (d1, d2) o5 _ (it11 _ m) (nI a) x38 x39 a8 a9 a11 a12 a17 a18 a19 g30) _
    generalize it11 (f_X12_add_L69 S (nI c) (u1, u2, u3, u4, u5, u6, u7) (d1, d2) o5 _) m = r at ih
    unfold f_X12_add_L69
    rw [h20, if_neg (nI_ge ha (by omega)), nI_1, lz_eq]
    refine ok_lk ?_
    show Ok (it11 (f_X12_add_L82 S (nI c) (u1, u2, u3, u4, u5, u6, u7) (d1, d2) o5 (nI a) _) fuel (nI (a + 1 + 0)) x38 x39 a8 a9 a11 a12 a17 a18 a19 g30) _
    refine ok_for0 (W := fun m d (y : Int32 × Int32 × (Nat → Int32) × (Nat → Int32) × (Nat → Int32) × (Nat → Int32) × (Nat → Int32) × (Nat → Int32) × (Nat → Int32) × (Nat → Int64)) => it11 (f_X12_add_L82 S (nI c) (u1, u2, u3, u4, u5, u6, u7) (d1, d2) o5 (nI a) _) m (nI (a + 1 + d)) y.1 y.2.1 y.2.2.1 y.2.2.2.1 y.2.2.2.2.1 y.2.2.2.2.2.1 y.2.2.2.2.2.2.1 y.2.2.2.2.2.2.2.1 y.2.2.2.2.2.2.2.2.1 y.2.2.2.2.2.2.2.2.2)
      (I := fun d y => rowsOk y.2.2.1 y.2.2.2.1 y.2.2.2.2.1 y.2.2.2.2.2.1 ∧ mBe y.2.2.2.2.2.2.2.2.2 (brI (nwV L c) a (brF (nwV L c) (l_N L) a) d)) (e := l_N L - (a + 1)) (s := (x38, x39, a8, a9, a11, a12, a17, a18, a19, g30)) (by omega) ⟨i1, i2⟩ ?_ ?_
    · rintro m ⟨x38, x39, a8, a9, a11, a12, a17, a18, a19, g30⟩ ⟨j1, j2⟩
      dsimp only at j1 j2
      show Ok (f_X12_add_L82 S (nI c) (u1, u2, u3, u4, u5, u6, u7) (d1, d2) o5 (nI a) _ _ (nI (a + 1 + (l_N L - (a + 1)))) x38 x39 a8 a9 a11 a12 a17 a18 a19 g30) _
      unfold f_X12_add_L82
      rw [h20, if_pos (nI_le (by omega) (by omega))]
      exact ih (x38, x39, a8, a9, a11, a12, a17, a18, a19, g30) ⟨j1, j2⟩
    · rintro m d ⟨x38, x39, a8, a9, a11, a12, a17, a18, a19, g30⟩ hd ⟨j1, j2⟩ ih2
      dsimp only at j1 j2
      show Ok (f_X12_add_L82 S (nI c) (u1, u2, u3, u4, u5, u6, u7) (d1, d2) o5 (nI a) _ (it11 _ m) (nI (a + 1 + d)) x38 x39 a8 a9 a11 a12 a17 a18 a19 g30) _
      generalize it11 (f_X12_add_L82 S (nI c) (u1, u2, u3, u4, u5, u6, u7) (d1, d2) o5 (nI a) _) m = r2 at ih2
      unfold f_X12_add_L82
      rw [h20, if_neg (nI_ge (show a + 1 + d < l_N L by omega) (by omega)), nI_1]
      refine ok_bd (m_tries (S := wd_o S [(38, x38), (39, x39), (44, u3)] [] [(8, a8), (9, a9), (11, a11), (12, a12), (17, a17), (18, a18), (19, a19), (20, u7), (22, d1), (23, d2)] [(21, o5), (30, g30)] []) (x := brI (nwV L c) a (brF (nwV L c) (l_N L) a) d) hL (hmL _ _ _ _ _ _ _ _ _ _ j1) hM10 hn12 e2 hwt (by omega) (show a + 1 + d < l_N L by omega) (by omega) hc16 j2 (brI_le hVb (brF_le hVb _ _) _)) ?_
      rintro ⟨y38, y39, b8, b9, b11, b12, b17, b18, b19, h30⟩ ⟨k1, k2⟩
      dsimp only at k1 k2
      refine ih2 (y38, y39, b8, b9, b11, b12, b17, b18, b19, h30) ⟨fun k hk => ?_, k2⟩
      obtain ⟨z1, z2, z3, z4⟩ := k1 k hk
      obtain ⟨w1, w2, w3, w4⟩ := j1 k hk
      exact ⟨z1.trans w1, z2.trans w2, z3.trans w3, z4.trans w4⟩
