/-! along the tape -/
def runF (c : Nat → Bool) (n : Nat) : Nat → Nat → Nat
  | 0, p => p
  | f + 1, p => if p < n ∧ c p = true then runF c n f (p + 1) else p
def run (c : Nat → Bool) (n p : Nat) : Nat := runF c n (n - p) p
theorem run_eq (c : Nat → Bool) (n p : Nat) : run c n p = if p < n ∧ c p = true then run c n (p + 1) else p := by
  unfold run
  by_cases h : p < n
  · rw [show n - p = (n - (p + 1)) + 1 by omega]; rfl
  · rw [show n - p = 0 by omega, if_neg (fun z => h z.1)]; rfl
theorem runF_ge (c : Nat → Bool) (n : Nat) : ∀ f p, p ≤ runF c n f p
  | 0, _ => Nat.le_refl _
  | f + 1, p => by
    rw [runF]
    split
    · exact Nat.le_trans (Nat.le_succ p) (runF_ge c n f (p + 1))
    · exact Nat.le_refl _
theorem run_ge (c : Nat → Bool) (n p : Nat) : p ≤ run c n p := runF_ge c n _ p
theorem runF_le (c : Nat → Bool) (n : Nat) : ∀ f p, p ≤ n → runF c n f p ≤ n
  | 0, _, h => h
  | f + 1, p, h => by
    rw [runF]
    split
    · rename_i z
      exact runF_le c n f (p + 1) (by omega)
    · exact h
theorem run_le {c : Nat → Bool} {n p : Nat} (h : p ≤ n) : run c n p ≤ n := runF_le c n _ p h
theorem runF_in (c : Nat → Bool) (n : Nat) : ∀ f p i, p ≤ i → i < runF c n f p → c i = true
  | 0, p, i, h, h2 => absurd h2 (by rw [runF]; omega)
  | f + 1, p, i, h, h2 => by
    rw [runF] at h2
    split at h2
    · rename_i z
      by_cases e : i = p
      · subst e; exact z.2
      · exact runF_in c n f (p + 1) i (by omega) h2
    · omega
theorem run_in {c : Nat → Bool} {n p i : Nat} (h : p ≤ i) (h2 : i < run c n p) : c i = true := runF_in c n _ p i h h2
def isBl (t : Nat → Nat) (i : Nat) : Bool := decide (t i = 32)
def isLt (t : Nat → Nat) (i : Nat) : Bool := decide (97 ≤ t i ∧ t i ≤ 122)
def isDg (t : Nat → Nat) (i : Nat) : Bool := decide (48 ≤ t i ∧ t i ≤ 57)
/-- the developers' tape -/
def XTa (S : wd_W) (n : Nat) (t : Nat → Nat) : Prop := S.1 1400 = nI n ∧ n ≤ 400 ∧ ∀ i, i < n → t i < 256 ∧ S.2.2.1 15 i = nI (t i)
theorem x_skip {S : wd_W} {n p : Nat} {t : Nat → Nat} (ht : XTa S n t) (h : S.1 1402 = nI p) (hp : p ≤ n) : f_X9_skipBlanks_q14 S = some (nI (run (isBl t) n p)) := by
  obtain ⟨h0, h4, hr⟩ := ht
  apply ok_e
  unfold f_X9_skipBlanks_q14
  rw [h]
  refine ok_up (W := fun m i (_ : Unit) => it1 (f_X9_skipBlanks_q14_L0 S) m (nI i)) (I := fun i _ => run (isBl t) n p = run (isBl t) n i) (e := n) ?_ ?_ fuel p () hp rfl (by unfold fuel; omega)
  · intro m _ hI
    show Ok (f_X9_skipBlanks_q14_L0 S _ (nI n)) _
    unfold f_X9_skipBlanks_q14_L0
    rw [h0, if_pos (nI_le (Nat.le_refl _) (by omega))]
    refine ok_some ?_
    rw [hI, run_eq, if_neg (fun z => Nat.lt_irrefl n z.1)]
  · intro m i _ hi hI ih
    show Ok (f_X9_skipBlanks_q14_L0 S (it1 _ m) (nI i)) _
    generalize it1 (f_X9_skipBlanks_q14_L0 S) m = r at ih
    have hb := (hr i hi).1
    unfold f_X9_skipBlanks_q14_L0
    rw [h0, if_neg (nI_ge hi (by omega)), gd_in (by omega) (by omega), nI_clamp (by omega), (hr i hi).2, show (32 : Int32) = nI 32 from rfl, nI_1]
    rw [run_eq (isBl t) n i] at hI
    refine ok_ite (fun c => ?_) (fun c => ?_)
    · rw [nI_eq (by omega) (by omega)] at c
      rw [if_pos ⟨hi, decide_eq_true c⟩] at hI
      exact ok_lz (ih () hI)
    · rw [nI_eq (by omega) (by omega)] at c
      rw [if_neg (fun z => c (of_decide_eq_true z.2))] at hI
      exact ok_some (by rw [hI])
/-- where a word begins, and where it ends -/
def wB (t : Nat → Nat) (n p : Nat) : Nat := run (isBl t) n p
def wE (t : Nat → Nat) (n p : Nat) : Nat := run (isLt t) n (wB t n p)
theorem x_word {S : wd_W} {n p : Nat} {t : Nat → Nat} (ht : XTa S n t) (h : S.1 1402 = nI p) (hp : p ≤ n) : f_X9_readWord_q14 S = some (nI (wE t n p), nI (wB t n p)) := by
  have hq : run (isBl t) n p ≤ n := run_le hp
  apply ok_e
  unfold f_X9_readWord_q14
  rw [bd_s (x_skip (S := wd_o S [(1402, (S.1 1402)), (1403, (S.1 1403))] [] [] [] []) ht h hp)]
  obtain ⟨h0, h4, hr⟩ := ht
  unfold wE wB
  generalize run (isBl t) n p = q at hq
  refine ok_up (W := fun m i (_ : Unit) => it1 (f_X9_readWord_q14_L12 S (nI q)) m (nI i)) (I := fun i _ => run (isLt t) n q = run (isLt t) n i) (e := n) ?_ ?_ fuel q () hq rfl (by unfold fuel; omega)
  · intro m _ hI
    show Ok (f_X9_readWord_q14_L12 S (nI q) _ (nI n)) _
    unfold f_X9_readWord_q14_L12
    rw [h0, if_pos (nI_le (Nat.le_refl _) (by omega))]
    refine ok_some ?_
    rw [hI, run_eq, if_neg (fun z => Nat.lt_irrefl n z.1)]
  · intro m i _ hi hI ih
    show Ok (f_X9_readWord_q14_L12 S (nI q) (it1 _ m) (nI i)) _
    generalize it1 (f_X9_readWord_q14_L12 S (nI q)) m = r at ih
    have hb := (hr i hi).1
    unfold f_X9_readWord_q14_L12
    rw [h0, if_neg (nI_ge hi (by omega)), gd_in (by omega) (by omega), gd_in (by omega) (by omega), nI_clamp (by omega), (hr i hi).2, li_97, li_122, nI_1]
    rw [run_eq (isLt t) n i] at hI
    refine ok_ite (fun c => ?_) (fun c => ok_ite (fun d => ?_) (fun d => ?_))
    · rw [nI_ltI (by omega) (by omega)] at c
      rw [if_neg (fun z => by have := of_decide_eq_true z.2; omega)] at hI
      exact ok_some (by rw [hI])
    · rw [nI_ltI (by omega) (by omega)] at d
      rw [if_neg (fun z => by have := of_decide_eq_true z.2; omega)] at hI
      exact ok_some (by rw [hI])
    · rw [nI_ltI (by omega) (by omega)] at c d
      rw [if_pos ⟨hi, decide_eq_true (by omega)⟩] at hI
      exact ok_lz (ih () hI)
/-- what digits say, 1000 at most -/
def dgV (t : Nat → Nat) : Nat → Nat → Nat → Nat
  | 0, _, v => v
  | f + 1, p, v => dgV t f (p + 1) (min (v * 10 + t p - 48) 1000)
def flt (q k : Nat) : Nat := 1 + 8 * q + k
theorem x_blame {S : wd_W} {q k f : Nat} {p2 : Int32} (hq : q ≤ 400) (hk : k ≤ 3) (h2 : p2 = nI k) (hf : S.1 1404 = nI f) (hf2 : f < 2 ^ 20) : f_X9_blame_q14 S (nI q) p2 = some (nI (if f = 0 then flt q k else f)) := by
  subst h2
  apply ok_e
  unfold f_X9_blame_q14
  rw [hf]
  refine ok_ite (fun c => ?_) (fun c => ?_)
  · rw [oI_z (by omega)] at c
    rw [if_pos c, li_1, li_8, nI_mulR, nI_add, nI_add, lz_eq]
    exact ok_some rfl
  · rw [oI_z (by omega)] at c
    rw [if_neg c]
    exact ok_some rfl
