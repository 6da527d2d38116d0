/-! joined: places with at most two neighbours go; the end does not hang on the order -/
abbrev Adj : Type := Nat → Nat → Bool
def jE (p : Nat) (x : Adj) : Adj := fun u v => !(u == p) && (!(v == p) && (!(u == v) && (x u v || (x u p && x p v))))
def jD (x : Adj) (p N : Nat) : Nat := fb_ct (x p) N
def jT (x : Adj) (N : Nat) : Nat := fb_sm (fun p => jD x p N) N
def jG (N : Nat) (x : Adj) : Prop := (∀ u v, x u v = x v u) ∧ (∀ u, x u u = false) ∧ ∀ u v, x u v = true → u < N ∧ v < N
/-- p may go -/
def jO (a b N p : Nat) (x : Adj) : Prop := p < N ∧ p ≠ a ∧ p ≠ b ∧ jD x p N ≤ 2
def jN (a b N : Nat) (x : Adj) : Prop := ∀ p, jO a b N p x → jE p x = x
def jS (a b N : Nat) : Nat → Adj → Adj → Prop
  | 0 => fun x y => x = y
  | k + 1 => fun x y => ∃ p, jO a b N p x ∧ jS a b N k (jE p x) y
theorem ct_or_le {p q : Nat → Bool} : ∀ n, fb_ct (fun k => p k || q k) n ≤ fb_ct p n + fb_ct q n
  | 0 => Nat.le_refl 0
  | n + 1 => by
    have h := ct_or_le (p := p) (q := q) n
    rw [fb_ct_succ, fb_ct_succ, fb_ct_succ]
    cases p n <;> cases q n <;> simp <;> omega
theorem ct_without (p : Nat → Bool) {i n : Nat} (hi : i < n) (h : p i = true) : fb_ct (fun k => !(k == i) && p k) n + 1 = fb_ct p n := by
  have e := fb_ct_upd p false hi
  rw [h] at e
  have e2 : fb_ct (fun k => !(k == i) && p k) n = fb_ct (fun k => if k = i then false else p k) n := by
    apply fb_ct_cong
    intro k _
    by_cases q : k = i <;> simp [q]
  rw [e2]
  simpa using e
theorem jE_good {N p : Nat} {x : Adj} (h : jG N x) : jG N (jE p x) := by
  obtain ⟨h1, h2, h3⟩ := h
  refine ⟨fun u v => ?_, fun u => ?_, fun u v e => ?_⟩
  · unfold jE
    rw [h1 u v, h1 u p, h1 p v]
    have : (u == v) = (v == u) := by
      by_cases q : u = v
      · subst q; rfl
      · have q2 : ¬ v = u := fun e => q e.symm
        rw [beq_eq_false_iff_ne.mpr q, beq_eq_false_iff_ne.mpr q2]
    rw [this]
    cases (u == p) <;> cases (v == p) <;> cases (v == u) <;> cases x v u <;> cases x p u <;> cases x v p <;> rfl
  · simp [jE]
  · simp only [jE, Bool.and_eq_true, Bool.or_eq_true] at e
    obtain ⟨_, _, _, e⟩ := e
    rcases e with e | ⟨e1, e2⟩
    · exact h3 u v e
    · exact ⟨(h3 _ _ e1).1, (h3 _ _ e2).2⟩
theorem jE_comm {N p q : Nat} {x : Adj} (h : jG N x) (hpq : p ≠ q) : jE p (jE q x) = jE q (jE p x) := by
  obtain ⟨h1, h2, h3⟩ := h
  funext u v
  have e1 : (p == q) = false := by simp [hpq]
  have e2 : (q == p) = false := by simp [Ne.symm hpq]
  unfold jE
  rw [h1 q p, e1, e2]
  by_cases a1 : u = p
  · subst a1; simp
  by_cases a2 : u = q
  · subst a2; simp
  by_cases a3 : v = p
  · subst a3; simp
  by_cases a4 : v = q
  · subst a4; simp
  by_cases a5 : u = v
  · subst a5; simp
  have b1 : (u == p) = false := by simp [a1]
  have b2 : (u == q) = false := by simp [a2]
  have b3 : (v == p) = false := by simp [a3]
  have b4 : (v == q) = false := by simp [a4]
  have b5 : (u == v) = false := by simp [a5]
  have b6 : (p == v) = false := by simp [Ne.symm a3]
  have b7 : (q == v) = false := by simp [Ne.symm a4]
  rw [b1, b2, b3, b4, b5, b6, b7]
  cases x u v <;> cases x u p <;> cases x u q <;> cases x p v <;> cases x q v <;> cases x p q <;> rfl
theorem jD_le {N p q : Nat} {x : Adj} (h : jG N x) (hpq : p ≠ q) (hq : jD x q N ≤ 2) : jD (jE q x) p N ≤ jD x p N := by
  obtain ⟨h1, h2, h3⟩ := h
  by_cases hx : x p q = true
  · have hpN := (h3 _ _ hx).1
    have hqN := (h3 _ _ hx).2
    have c1 := ct_without (x p) hqN hx
    have c2 := ct_without (x q) hpN (by rw [h1]; exact hx)
    have c3 : jD (jE q x) p N ≤ fb_ct (fun v => (!(v == q) && x p v) || (!(v == p) && x q v)) N := by
      apply fb_ct_sub
      intro k _ hk
      simp only [jE, Bool.and_eq_true, Bool.or_eq_true] at hk ⊢
      obtain ⟨_, k2, k3, k4⟩ := hk
      have k3' : (!(k == p)) = true := by
        by_cases e : k = p
        · subst e; simp at k3
        · simp [e]
      rcases k4 with e | ⟨_, e⟩
      · exact Or.inl ⟨k2, e⟩
      · exact Or.inr ⟨k3', e⟩
    have c4 := ct_or_le (p := fun v => !(v == q) && x p v) (q := fun v => !(v == p) && x q v) N
    unfold jD at hq c3 ⊢
    omega
  · apply fb_ct_sub
    intro k _ hk
    simp only [jE, Bool.and_eq_true, Bool.or_eq_true] at hk
    obtain ⟨_, _, _, e⟩ := hk
    rcases e with e | ⟨e, _⟩
    · exact e
    · exact absurd e hx
theorem jO_stay {a b N p q : Nat} {x : Adj} (h : jG N x) (hpq : p ≠ q) (hp : jO a b N p x) (hq : jO a b N q x) : jO a b N p (jE q x) :=
  ⟨hp.1, hp.2.1, hp.2.2.1, Nat.le_trans (jD_le h hpq hq.2.2.2) hp.2.2.2⟩
theorem jS_strip {a b N : Nat} : ∀ (k : Nat) (x y : Adj) (p : Nat), jG N x → jS a b N k x y → jN a b N y → jO a b N p x → ∃ k', jS a b N k' (jE p x) y := by
  intro k
  induction k with
  | zero =>
    intro x y p _ hs hn ho
    have hs : x = y := hs
    subst hs
    exact ⟨0, hn p ho⟩
  | succ k ih =>
    intro x y p hg hs hn ho
    obtain ⟨q, hq, hs⟩ := hs
    by_cases e : p = q
    · subst e; exact ⟨k, hs⟩
    · obtain ⟨k', h'⟩ := ih (jE q x) y p (jE_good hg) hs hn (jO_stay hg e ho hq)
      rw [jE_comm hg e] at h'
      exact ⟨k' + 1, q, jO_stay hg (Ne.symm e) hq ho, h'⟩
theorem jS_norm {a b N : Nat} : ∀ (k : Nat) (x y : Adj), jN a b N x → jS a b N k x y → x = y := by
  intro k
  induction k with
  | zero => intro x y _ h; exact h
  | succ k ih =>
    intro x y hn h
    obtain ⟨p, hp, hs⟩ := h
    rw [hn p hp] at hs
    exact ih x y hn hs
theorem jS_one {a b N : Nat} : ∀ (k : Nat) (x y1 : Adj), jG N x → jS a b N k x y1 → jN a b N y1 → ∀ k2 y2, jS a b N k2 x y2 → jN a b N y2 → y1 = y2 := by
  intro k
  induction k with
  | zero =>
    intro x y1 hg h hn k2 y2 h2 hn2
    have h : x = y1 := h
    subst h
    exact jS_norm k2 x y2 hn h2
  | succ k ih =>
    intro x y1 hg h hn k2 y2 h2 hn2
    obtain ⟨p, hp, hs⟩ := h
    obtain ⟨k', h'⟩ := jS_strip k2 x y2 p hg h2 hn2 hp
    exact ih _ y1 (jE_good hg) hs hn k' y2 h' hn2
theorem jS_snoc {a b N : Nat} : ∀ (k : Nat) (x y : Adj) (p : Nat), jS a b N k x y → jO a b N p y → jS a b N (k + 1) x (jE p y) := by
  intro k
  induction k with
  | zero => intro x y p h ho; have h : x = y := h; subst h; exact ⟨p, ho, rfl⟩
  | succ k ih => intro x y p h ho; obtain ⟨q, hq, hs⟩ := h; exact ⟨q, hq, ih _ y p hs ho⟩
theorem jE_none {N p : Nat} {x : Adj} (h : jG N x) (h0 : jD x p N = 0) : jE p x = x := by
  obtain ⟨h1, h2, h3⟩ := h
  have hz : ∀ v, x p v = false := by
    intro v
    cases e : x p v with
    | false => rfl
    | true => have := fb_ct_zero.mp h0 v (h3 p v e).2; rw [e] at this; cases this
  funext u v
  unfold jE
  by_cases a1 : u = p
  · subst a1; rw [hz v]; simp
  by_cases a2 : v = p
  · subst a2; rw [h1 u v, hz u]; simp
  by_cases a3 : u = v
  · subst a3; rw [h2]; simp [hz]
  · rw [hz v, beq_eq_false_iff_ne.mpr a1, beq_eq_false_iff_ne.mpr a2, beq_eq_false_iff_ne.mpr a3]; simp
theorem sm_less2 {f g : Nat → Nat} {n i j : Nat} (hi : i < n) (hj : j < n) (hij : i ≠ j) (h : ∀ k, k < n → g k ≤ f k) (h1 : g i + 1 ≤ f i) (h2 : g j + 1 ≤ f j) : fb_sm g n + 2 ≤ fb_sm f n := by
  have e1 := fb_sm_upd g (g i + 1) hi
  have e2 := fb_sm_upd (fun k => if k = i then g i + 1 else g k) (g j + 1) hj
  have e3 : fb_sm (fun k => if k = j then g j + 1 else if k = i then g i + 1 else g k) n ≤ fb_sm f n := by
    apply fb_sm_le
    intro k hk
    by_cases q : k = j
    · simp only [if_pos q]; rw [q]; exact h2
    · simp only [if_neg q]
      by_cases q2 : k = i
      · simp only [if_pos q2]; rw [q2]; exact h1
      · simp only [if_neg q2]; exact h k hk
  have e4 : (if j = i then g i + 1 else g j) = g j := if_neg (Ne.symm hij)
  rw [e4] at e2
  omega
theorem sm_less_by {f g : Nat → Nat} {n i d : Nat} (hi : i < n) (h : ∀ k, k < n → g k ≤ f k) (h1 : g i + d ≤ f i) : fb_sm g n + d ≤ fb_sm f n := by
  have e1 := fb_sm_upd g (g i + d) hi
  have e3 : fb_sm (fun k => if k = i then g i + d else g k) n ≤ fb_sm f n := by
    apply fb_sm_le
    intro k hk
    by_cases q : k = i
    · simp only [if_pos q]; rw [q]; exact h1
    · simp only [if_neg q]; exact h k hk
  omega
/-- whoever goes takes one line at least with it -/
theorem jT_less {a b N p : Nat} {x : Adj} (hg : jG N x) (ho : jO a b N p x) (hne : 1 ≤ jD x p N) : jT (jE p x) N + 2 ≤ jT x N := by
  have hpz : jD (jE p x) p N = 0 := fb_ct_zero.mpr (fun k _ => by simp [jE])
  have hle : ∀ k, k < N → jD (jE p x) k N ≤ jD x k N := by
    intro k _
    by_cases e : k = p
    · subst e; omega
    · exact jD_le hg e ho.2.2.2
  by_cases h2 : jD x p N = 2
  · exact sm_less_by ho.1 hle (by omega)
  · obtain ⟨q, hq, hxq⟩ := fb_ct_pos.mp (show 0 < fb_ct (x p) N from hne)
    have hqp : q ≠ p := by intro e; subst e; rw [hg.2.1] at hxq; cases hxq
    have honly : ∀ v, x p v = true → v = q := by
      intro v hv
      apply Classical.byContradiction
      intro hvq
      have c1 := ct_without (x p) hq hxq
      have c2 : 0 < fb_ct (fun k => !(k == q) && x p k) N := fb_ct_pos.mpr ⟨v, (hg.2.2 p v hv).2, by simp [hvq, hv]⟩
      have c3 := ho.2.2.2
      unfold jD at hne h2 c3
      omega
    refine sm_less2 ho.1 hq (Ne.symm hqp) hle (by omega) ?_
    have c1 := ct_without (x q) ho.1 (by rw [hg.1]; exact hxq)
    have c2 : jD (jE p x) q N ≤ fb_ct (fun k => !(k == p) && x q k) N := by
      apply fb_ct_sub
      intro k _ hk
      simp only [jE, Bool.and_eq_true, Bool.or_eq_true] at hk ⊢
      obtain ⟨_, k2, k3, k4⟩ := hk
      refine ⟨k2, ?_⟩
      rcases k4 with e | ⟨_, e⟩
      · exact e
      · have := honly k e; subst this; simp at k3
    unfold jD at c2 ⊢
    omega
/-- the neighbours by a list of pieces -/
def jL (A B : Nat → Nat) : Nat → Adj
  | 0 => fun _ _ => false
  | n + 1 => fun u v => jL A B n u v || (!(u == v) && ((A n == u && B n == v) || (A n == v && B n == u)))
theorem jL_iff {A B : Nat → Nat} {n u v : Nat} : jL A B n u v = true ↔ u ≠ v ∧ ∃ k, k < n ∧ ((A k = u ∧ B k = v) ∨ (A k = v ∧ B k = u)) := by
  induction n with
  | zero => simp [jL]
  | succ n ih =>
    simp only [jL, Bool.or_eq_true, ih, Bool.and_eq_true, Bool.not_eq_true', beq_eq_false_iff_ne, beq_iff_eq]
    constructor
    · rintro (⟨h1, k, hk, h2⟩ | ⟨h1, h2⟩)
      · exact ⟨h1, k, by omega, h2⟩
      · exact ⟨h1, n, by omega, h2⟩
    · rintro ⟨h1, k, hk, h2⟩
      by_cases e : k = n
      · subst e; exact Or.inr ⟨h1, h2⟩
      · exact Or.inl ⟨h1, k, by omega, h2⟩
theorem jL_good {A B : Nat → Nat} {n N : Nat} (h : ∀ k, k < n → A k < N ∧ B k < N) : jG N (jL A B n) := by
  refine ⟨fun u v => ?_, fun u => ?_, fun u v e => ?_⟩
  · have : jL A B n u v = true ↔ jL A B n v u = true := by
      rw [jL_iff, jL_iff]
      constructor
      · rintro ⟨h1, k, hk, h2⟩; exact ⟨Ne.symm h1, k, hk, h2.symm⟩
      · rintro ⟨h1, k, hk, h2⟩; exact ⟨Ne.symm h1, k, hk, h2.symm⟩
    cases q1 : jL A B n u v <;> cases q2 : jL A B n v u <;> simp_all
  · cases e : jL A B n u u with
    | false => rfl
    | true => exact absurd rfl (jL_iff.mp e).1
  · obtain ⟨_, k, hk, h2⟩ := jL_iff.mp e
    obtain ⟨a, b⟩ := h k hk
    rcases h2 with ⟨q1, q2⟩ | ⟨q1, q2⟩ <;> omega
/-- no piece comes back, no two between the same places -/
def jSim (A B : Nat → Nat) (n : Nat) : Prop := ∀ k, k < n → A k ≠ B k ∧ jL A B k (A k) (B k) = false
theorem jD_succ {A B : Nat → Nat} {n N p : Nat} (hN : A n < N ∧ B n < N) (hne : A n ≠ B n) (hnew : jL A B n (A n) (B n) = false) (hg : jG N (jL A B n)) : jD (jL A B (n + 1)) p N = jD (jL A B n) p N + (if A n = p ∨ B n = p then 1 else 0) := by
  unfold jD
  have one : ∀ (q : Nat), q < N → jL A B n p q = false → (∀ v, jL A B (n + 1) p v = if v = q then true else jL A B n p v) → fb_ct (jL A B (n + 1) p) N = fb_ct (jL A B n p) N + 1 := by
    intro q hq h0 h1
    have e := fb_ct_upd (jL A B n p) true hq
    rw [h0] at e
    rw [fb_ct_cong (p := jL A B (n + 1) p) (q := fun v => if v = q then true else jL A B n p v) (fun v _ => h1 v)]
    simpa using e
  by_cases h1 : A n = p
  · rw [if_pos (Or.inl h1)]
    subst h1
    refine one (B n) hN.2 hnew (fun v => ?_)
    simp only [jL]
    by_cases e : v = B n
    · subst e; simp [hne]
    · have e2 : ¬ B n = v := fun z => e z.symm
      rw [if_neg e]
      simp [e2, Ne.symm hne]
  · by_cases h2 : B n = p
    · rw [if_pos (Or.inr h2)]
      subst h2
      refine one (A n) hN.1 (by rw [hg.1]; exact hnew) (fun v => ?_)
      simp only [jL]
      by_cases e : v = A n
      · subst e; simp [Ne.symm hne]
      · have e2 : ¬ A n = v := fun z => e z.symm
        rw [if_neg e]
        simp [e2, hne]
    · rw [if_neg (by intro h; rcases h with h | h; exact h1 h; exact h2 h)]
      apply fb_ct_cong
      intro v _
      simp [jL, h1, h2]
theorem jSim_deg {A B : Nat → Nat} {N p : Nat} : ∀ n, (∀ k, k < n → A k < N ∧ B k < N) → jSim A B n → jD (jL A B n) p N = fb_ct (fun k => A k == p || B k == p) n
  | 0 => fun _ _ => fb_ct_zero.mpr (fun _ _ => rfl)
  | n + 1 => fun h hs => by
    rw [jD_succ (h n (by omega)) (hs n (by omega)).1 (hs n (by omega)).2 (jL_good (fun k hk => h k (by omega))), jSim_deg n (fun k hk => h k (by omega)) (fun k hk => hs k (by omega)), fb_ct_succ]
    congr 1
    by_cases h1 : A n = p <;> by_cases h2 : B n = p <;> simp [h1, h2]
theorem sm_if2 {f : Nat → Nat} {a b n : Nat} (ha : a < n) (hb : b < n) (hab : a ≠ b) : fb_sm (fun k => f k + (if a = k ∨ b = k then 1 else 0)) n = fb_sm f n + 2 := by
  have e1 := fb_sm_upd f (f a + 1) ha
  have e2 := fb_sm_upd (fun k => if k = a then f a + 1 else f k) (f b + 1) hb
  have e4 : (if b = a then f a + 1 else f b) = f b := if_neg (Ne.symm hab)
  rw [e4] at e2
  have e3 : fb_sm (fun k => f k + (if a = k ∨ b = k then 1 else 0)) n = fb_sm (fun k => if k = b then f b + 1 else if k = a then f a + 1 else f k) n := by
    apply fb_sm_cong
    intro k _
    by_cases q : k = b
    · subst q; simp
    · by_cases q2 : k = a
      · subst q2; simp [hab]
      · have q3 : ¬ b = k := fun e => q e.symm
        have q4 : ¬ a = k := fun e => q2 e.symm
        simp [q, q2, q3, q4]
  rw [e3]
  omega
theorem jT_succ {A B : Nat → Nat} {n N : Nat} (h : ∀ k, k < n + 1 → A k < N ∧ B k < N) (hne : A n ≠ B n) (hnew : jL A B n (A n) (B n) = false) : jT (jL A B (n + 1)) N = jT (jL A B n) N + 2 := by
  unfold jT
  rw [fb_sm_cong (f := fun p => jD (jL A B (n + 1)) p N) (g := fun p => jD (jL A B n) p N + (if A n = p ∨ B n = p then 1 else 0)) (fun p _ => jD_succ (h n (by omega)) hne hnew (jL_good (fun k hk => h k (by omega))))]
  exact sm_if2 (h n (by omega)).1 (h n (by omega)).2 hne
theorem jL_same {A B : Nat → Nat} {n : Nat} (h : A n = B n ∨ jL A B n (A n) (B n) = true) : jL A B (n + 1) = jL A B n := by
  funext u v
  have : jL A B (n + 1) u v = true ↔ jL A B n u v = true := by
    rw [jL_iff, jL_iff]
    constructor
    · rintro ⟨h1, k, hk, h2⟩
      by_cases e : k = n
      · subst e
        rcases h with h | h
        · rcases h2 with ⟨q1, q2⟩ | ⟨q1, q2⟩
          · exact absurd (by omega) h1
          · exact absurd (by omega) h1
        · obtain ⟨h3, j, hj, h4⟩ := jL_iff.mp h
          refine ⟨h1, j, hj, ?_⟩
          rcases h2 with ⟨q1, q2⟩ | ⟨q1, q2⟩
          · rw [← q1, ← q2]; exact h4
          · rw [← q1, ← q2]; exact h4.symm
      · exact ⟨h1, k, by omega, h2⟩
    · rintro ⟨h1, k, hk, h2⟩; exact ⟨h1, k, by omega, h2⟩
  cases q1 : jL A B (n + 1) u v <;> cases q2 : jL A B n u v <;> simp_all
theorem jT_le {A B : Nat → Nat} {N : Nat} : ∀ n, (∀ k, k < n → A k < N ∧ B k < N) → jT (jL A B n) N ≤ 2 * n
  | 0 => fun _ => by
    have : jT (jL A B 0) N = fb_sm (fun _ => 0) N := fb_sm_cong (fun p _ => fb_ct_zero.mpr (fun _ _ => rfl))
    rw [this, fb_sm_const]; omega
  | n + 1 => fun h => by
    have ih := jT_le n (fun k hk => h k (by omega))
    by_cases hne : A n = B n
    · rw [jL_same (Or.inl hne)]; omega
    · cases hnew : jL A B n (A n) (B n) with
      | true => rw [jL_same (Or.inr hnew)]; omega
      | false => rw [jT_succ h hne hnew]; omega
theorem jT_sim {A B : Nat → Nat} {N : Nat} : ∀ n, (∀ k, k < n → A k < N ∧ B k < N) → jSim A B n → jT (jL A B n) N = 2 * n
  | 0 => fun _ _ => by
    have : jT (jL A B 0) N = fb_sm (fun _ => 0) N := fb_sm_cong (fun p _ => fb_ct_zero.mpr (fun _ _ => rfl))
    rw [this, fb_sm_const]; omega
  | n + 1 => fun h hs => by
    rw [jT_succ h (hs n (by omega)).1 (hs n (by omega)).2, jT_sim n (fun k hk => h k (by omega)) (fun k hk => hs k (by omega))]; omega
