/-! each item with a cause of its own -/
abbrev Ap : Type := Nat × (Nat → Nat) × (Nat → Nat) × (Nat → Nat)
def apI (ch ls ps : Nat) (b : Bool) (x : Ap) : Ap := if b = true then (x.1 + 1, upN x.2.1 x.1 ch, upN x.2.2.1 x.1 ls, upN x.2.2.2 x.1 ps) else x
def apX (L : Ld) (c : Nat) (x : Ap) (n : Nat) : Ap := itf (fun k x => apI (l_R L c) (2 ^ k) 0 ((l_X L c).testBit k) x) x n
def apY (L : Ld) (c : Nat) (x : Ap) (n : Nat) : Ap := itf (fun p x => apI (l_R L c) 0 (2 ^ p) ((l_Y L c).testBit p) x) x n
def apC (L : Ld) (c : Nat) (x : Ap) : Ap := apY L c (apX L c x (l_n L)) (l_N L)
def apF (L : Ld) (m : Nat) : Ap := itf (fun c x => apC L c x) (0, fun _ => 0, fun _ => 0, fun _ => 0) m
def apq (L : Ld) : Nat := (apF L (l_c L)).1
def apL (L : Ld) : Ld := fun f => if f = 10 then (fun _ => apq L) else if f = 11 then (apF L (l_c L)).2.1 else if f = 12 then (apF L (l_c L)).2.2.1 else if f = 13 then (apF L (l_c L)).2.2.2 else L f
def apG (L : Ld) (x : Ap) : Prop := ∀ c, c < x.1 → x.2.1 c ≤ 16 ∧ x.2.2.1 c < 2 ^ l_n L ∧ x.2.2.2 c < 2 ^ l_N L
theorem apI_good {L : Ld} {ch ls ps : Nat} {b : Bool} {x : Ap} (h1 : ch ≤ 16) (h2 : ls < 2 ^ l_n L) (h3 : ps < 2 ^ l_N L) (h : apG L x) : apG L (apI ch ls ps b x) := by
  unfold apI
  split
  · intro c hc
    dsimp only at hc ⊢
    by_cases e : c = x.1
    · subst e; rw [upN_s, upN_s, upN_s]; exact ⟨h1, h2, h3⟩
    · rw [upN_n e, upN_n e, upN_n e]; exact h c (by omega)
  · exact h
theorem apX_good {L : Ld} {c m : Nat} {x : Ap} (hL : lOk L) (hc : c < l_c L) (hm : m ≤ l_n L) (h : apG L x) : apG L (apX L c x m) :=
  itf_ind (P := fun _ (x : Ap) => apG L x) h (fun i y hi hy => apI_good (hL.2.2.2.2.1 c hc).1 (Nat.pow_lt_pow_right (by decide) (by omega)) (Nat.two_pow_pos _) hy)
theorem apY_good {L : Ld} {c m : Nat} {x : Ap} (hL : lOk L) (hc : c < l_c L) (hm : m ≤ l_N L) (h : apG L x) : apG L (apY L c x m) :=
  itf_ind (P := fun _ (x : Ap) => apG L x) h (fun i y hi hy => apI_good (hL.2.2.2.2.1 c hc).1 (Nat.two_pow_pos _) (Nat.pow_lt_pow_right (by decide) (by omega)) hy)
theorem apF_good {L : Ld} (hL : lOk L) {m : Nat} (hm : m ≤ l_c L) : apG L (apF L m) :=
  itf_ind (P := fun _ (x : Ap) => apG L x) (fun c hc => absurd hc (Nat.not_lt_zero c)) (fun i y hi hy => apY_good hL (by omega) (Nat.le_refl _) (apX_good hL (by omega) (Nat.le_refl _) hy))
theorem apI_1 (ch ls ps : Nat) (b : Bool) (x : Ap) : (apI ch ls ps b x).1 = x.1 + (if b = true then 1 else 0) := by
  unfold apI
  split <;> rfl
theorem apX_1 (L : Ld) (c : Nat) (x : Ap) : ∀ m, (apX L c x m).1 = x.1 + cnt (l_X L c) m
  | 0 => rfl
  | m + 1 => by
    show (apI _ _ _ _ (apX L c x m)).1 = _
    rw [apI_1, apX_1 L c x m]
    unfold cnt
    rw [fb_ct_succ]
    omega
theorem apY_1 (L : Ld) (c : Nat) (x : Ap) : ∀ m, (apY L c x m).1 = x.1 + cnt (l_Y L c) m
  | 0 => rfl
  | m + 1 => by
    show (apI _ _ _ _ (apY L c x m)).1 = _
    rw [apI_1, apY_1 L c x m]
    unfold cnt
    rw [fb_ct_succ]
    omega
theorem apF_1 {L : Ld} (hL : lOk L) : ∀ m, m ≤ l_c L → (apF L m).1 = fb_sm (fun c => cnt (l_X L c) 12 + cnt (l_Y L c) 12) m
  | 0, _ => rfl
  | m + 1, hm => by
    have g2 := hL.1.2.1
    have g3 := hL.1.2.2.1
    obtain ⟨_, q1, q2⟩ := hL.2.2.2.2.1 m (by omega)
    show (apY L m (apX L m (apF L m) (l_n L)) (l_N L)).1 = _
    rw [apY_1, apX_1, fb_sm_succ, apF_1 hL m (by omega), cnt_ext q1 12 g3, cnt_ext q2 12 (by omega)]
    omega
theorem apF_le {L : Ld} (hL : lOk L) {m : Nat} (hm : m ≤ l_c L) : (apF L m).1 ≤ m * 24 := by
  rw [apF_1 hL m hm]
  exact fb_sm_bound (fun k _ => by have := cnt_le (l_X L k) 12; have := cnt_le (l_Y L k) 12; omega)
theorem apL_ok {L : Ld} (hL : lOk L) (hq : l_n L + l_k L + apq L ≤ 15) : lOk (apL L) := by
  have hg := apF_good hL (Nat.le_refl _)
  obtain ⟨⟨g1, g2, g3, g4, g5, g6⟩, gk, gj, gu, gc, gw⟩ := hL
  exact ⟨⟨g1, g2, g3, g4, by show apq L ≤ 15; omega, hq⟩, gk, gj, gu, fun c hc => hg c hc, gw⟩
theorem apL_M (L : Ld) : l_M (apL L) = l_n L + l_k L + apq L := rfl
theorem orF_congr {f g : Nat → Nat} : ∀ n, (∀ c, c < n → f c = g c) → orF f n = orF g n
  | 0, _ => rfl
  | n + 1, h => by rw [orF, orF, orF_congr n (fun c hc => h c (by omega)), h n (by omega)]
/-- the masks of own causes -/
def apM (X : Nat → Nat) (b q i : Nat) : Nat := orF (fun c => if (X c).testBit i = true then 2 ^ (b + c) else 0) q
theorem apM_up {X : Nat → Nat} {b q i v : Nat} : apM (upN X q v) b (q + 1) i = apM X b q i ||| (if v.testBit i = true then 2 ^ (b + q) else 0) := by
  unfold apM
  rw [orF]
  congr 1
  · exact orF_congr q (fun c hc => by rw [upN_n (by omega)])
  · rw [upN_s]
theorem lcm_bit {L : Ld} {k c : Nat} (hc : c < l_c L) : (lcm L k).testBit (l_n L + l_k L + c) = (l_X L c).testBit k := by
  rw [Bool.eq_iff_iff]
  unfold lcm
  rw [orF_bit]
  constructor
  · rintro ⟨c', h1, h2⟩
    split at h2
    · rename_i h3
      rw [pow_bit] at h2
      have : c' = c := by omega
      rw [← this]; exact h3
    · simp at h2
  · intro h
    exact ⟨c, hc, by rw [if_pos h, pow_bit]⟩
theorem pcm_bit {L : Ld} {p c : Nat} (hc : c < l_c L) : (pcm L p).testBit (l_n L + l_k L + c) = (l_Y L c).testBit p := by
  rw [Bool.eq_iff_iff]
  unfold pcm
  rw [orF_bit]
  constructor
  · rintro ⟨c', h1, h2⟩
    split at h2
    · rename_i h3
      rw [pow_bit] at h2
      have : c' = c := by omega
      rw [← this]; exact h3
    · simp at h2
  · intro h
    exact ⟨c, hc, by rw [if_pos h, pow_bit]⟩
theorem pcm_out {L : Ld} {p : Nat} (h : ∀ c, c < l_c L → l_Y L c < 2 ^ l_N L) (hp : l_N L ≤ p) : pcm L p = 0 := by
  apply Nat.eq_of_testBit_eq
  intro i
  rw [Nat.zero_testBit]
  cases hb : (pcm L p).testBit i with
  | false => rfl
  | true =>
    obtain ⟨c, h1, h2⟩ := (orF_bit _ _ _).mp hb
    rw [tb_lt (h c h1) hp] at h2
    simp at h2
/-- the reference's rows while it parts them -/
def mAp (L : Ld) (x : Ap) (v : Int32) (a13 a14 a16 : Nat → Int32) : Prop :=
  v = nI (l_n L + l_k L + x.1) ∧ (l_n L + l_k L + x.1 ≤ 15 →
   (∀ k, k < l_n L → a13 k = nI (apM x.2.2.1 (l_n L + l_k L) x.1 k)) ∧ (∀ p, p < l_N L → a14 p = nI (apM x.2.2.2 (l_n L + l_k L) x.1 p)) ∧
   (∀ t, t < l_n L + l_k L → a16 t = nI (cha L t)) ∧ ∀ c, c < x.1 → a16 (l_n L + l_k L + c) = nI (x.2.1 c))
theorem m_own {S : wd_W} {b t : Nat} (h72 : S.1 72 = nI b) (hb : b < 1000) (ht : t < 15) : f_X12_own S (nI t) = some (if b < 15 then nI (2 ^ b) else 0, nI (b + 1), if b < 15 then upd (S.2.2.1 16) b (S.2.2.1 41 t) else S.2.2.1 16) := by
  unfold f_X12_own
  rw [h72, lk_eq, li_15]
  by_cases c : b < 15
  · rw [if_neg (nI_ge c (by omega)), gd_in ht (by omega), lz_eq, gd_in c (by omega), lz_eq]
    dsimp only
    rw [lz_eq, nI_1, if_neg (nI_nlt (by omega) (by omega)), if_pos c, if_pos c, nI_clamp (by omega), nI_clamp (by omega), li_1, oI_sub1 (by omega), show b + 1 - 1 = b by omega, oI_p2 (by omega)]
  · rw [if_pos (nI_le (by omega) (by omega))]
    dsimp only
    rw [lz_eq, nI_1, if_pos (nI_lt (by omega) (by omega)), if_neg c, if_neg c]
theorem mAp_line {L : Ld} {x : Ap} {v : Int32} {a13 a14 a16 : Nat → Int32} {k ch : Nat} (h : mAp L x v a13 a14 a16) :
    mAp L (apI ch (2 ^ k) 0 true x) (nI (l_n L + l_k L + x.1 + 1)) (upd a13 k (a13 k ||| (if l_n L + l_k L + x.1 < 15 then nI (2 ^ (l_n L + l_k L + x.1)) else 0))) a14 (if l_n L + l_k L + x.1 < 15 then upd a16 (l_n L + l_k L + x.1) (nI ch) else a16) := by
  obtain ⟨h1, h2⟩ := h
  refine ⟨rfl, fun hb => ?_⟩
  have hb : l_n L + l_k L + (x.1 + 1) ≤ 15 := hb
  obtain ⟨q1, q2, q3, q4⟩ := h2 (by omega)
  rw [if_pos (by omega), if_pos (by omega)]
  refine ⟨fun i hi => ?_, fun p hp => ?_, fun t ht => ?_, fun c hc => ?_⟩
  · show _ = nI (apM (upN x.2.2.1 x.1 (2 ^ k)) (l_n L + l_k L) (x.1 + 1) i)
    rw [apM_up, Nat.testBit_two_pow]
    by_cases e : i = k
    · subst e; rw [pk_us, q1 i hi, oI_or]; simp
    · rw [pk_un e, q1 i hi]; simp [Ne.symm e]
  · show _ = nI (apM (upN x.2.2.2 x.1 0) (l_n L + l_k L) (x.1 + 1) p)
    rw [apM_up, Nat.zero_testBit, q2 p hp]; simp
  · rw [pk_un (by omega)]; exact q3 t ht
  · have hc : c < x.1 + 1 := hc
    show _ = nI (upN x.2.1 x.1 ch c)
    by_cases e : c = x.1
    · subst e; rw [pk_us, upN_s]
    · rw [pk_un (by omega), upN_n e]; exact q4 c (by omega)
theorem mAp_place {L : Ld} {x : Ap} {v : Int32} {a13 a14 a16 : Nat → Int32} {k ch : Nat} (h : mAp L x v a13 a14 a16) :
    mAp L (apI ch 0 (2 ^ k) true x) (nI (l_n L + l_k L + x.1 + 1)) a13 (upd a14 k (a14 k ||| (if l_n L + l_k L + x.1 < 15 then nI (2 ^ (l_n L + l_k L + x.1)) else 0))) (if l_n L + l_k L + x.1 < 15 then upd a16 (l_n L + l_k L + x.1) (nI ch) else a16) := by
  obtain ⟨h1, h2⟩ := h
  refine ⟨rfl, fun hb => ?_⟩
  have hb : l_n L + l_k L + (x.1 + 1) ≤ 15 := hb
  obtain ⟨q1, q2, q3, q4⟩ := h2 (by omega)
  rw [if_pos (by omega), if_pos (by omega)]
  refine ⟨fun i hi => ?_, fun p hp => ?_, fun t ht => ?_, fun c hc => ?_⟩
  · show _ = nI (apM (upN x.2.2.1 x.1 0) (l_n L + l_k L) (x.1 + 1) i)
    rw [apM_up, Nat.zero_testBit, q1 i hi]; simp
  · show _ = nI (apM (upN x.2.2.2 x.1 (2 ^ k)) (l_n L + l_k L) (x.1 + 1) p)
    rw [apM_up, Nat.testBit_two_pow]
    by_cases e : p = k
    · subst e; rw [pk_us, q2 p hp, oI_or]; simp
    · rw [pk_un e, q2 p hp]; simp [Ne.symm e]
  · rw [pk_un (by omega)]; exact q3 t ht
  · have hc : c < x.1 + 1 := hc
    show _ = nI (upN x.2.1 x.1 ch c)
    by_cases e : c = x.1
    · subst e; rw [pk_us, upN_s]
    · rw [pk_un (by omega), upN_n e]; exact q4 c (by omega)
