/-! the fewest days -/
def upN (f : Nat → Nat) (k x : Nat) : Nat → Nat := fun j => if j = k then x else f j
theorem upN_s (f : Nat → Nat) (k x : Nat) : upN f k x k = x := by simp [upN]
theorem upN_n {f : Nat → Nat} {k x j : Nat} (h : j ≠ k) : upN f k x j = f j := by simp [upN, h]
def dS (A B bo dy : Nat → Nat) (op : Nat) (k : Nat) (far : Nat → Nat) : Nat → Nat :=
  if op.testBit k = true then (if far (A k) + dy k < far (B k) then upN far (B k) (far (A k) + dy k) else if bo k ≠ 0 ∧ far (B k) + dy k < far (A k) then upN far (A k) (far (B k) + dy k) else far) else far
def dP (A B bo dy : Nat → Nat) (op K : Nat) (far : Nat → Nat) : Nat → Nat := itf (dS A B bo dy op) far K
def repF (f : (Nat → Nat) → Nat → Nat) (m : Nat → Nat) : Nat → Nat → Nat
  | 0 => m
  | n + 1 => f (repF f m n)
theorem repF_fix {f : (Nat → Nat) → Nat → Nat} {m : Nat → Nat} (h : f m = m) : ∀ n, repF f m n = m
  | 0 => rfl
  | n + 1 => by rw [repF, repF_fix h n, h]
theorem repF_add (f : (Nat → Nat) → Nat → Nat) (m : Nat → Nat) (i : Nat) : ∀ j, repF f m (i + j) = repF f (repF f m i) j
  | 0 => rfl
  | j + 1 => by show f (repF f m (i + j)) = f (repF f (repF f m i) j); rw [repF_add f m i j]
theorem repF_one {f : (Nat → Nat) → Nat → Nat} {m : Nat → Nat} {i j : Nat} (hi : f (repF f m i) = repF f m i) (hj : f (repF f m j) = repF f m j) : repF f m i = repF f m j := by
  rcases Nat.le_total i j with h | h
  · obtain ⟨d, rfl⟩ : ∃ d, j = i + d := ⟨j - i, by omega⟩
    rw [repF_add, repF_fix hi]
  · obtain ⟨d, rfl⟩ : ∃ d, i = j + d := ⟨i - j, by omega⟩
    rw [repF_add, repF_fix hj]
/-- the days of the graph are good -/
def dG (A B dy : Nat → Nat) (op N : Nat) : Prop := ∀ k, op.testBit k = true → A k < N ∧ B k < N ∧ A k ≠ B k ∧ 1 ≤ dy k ∧ dy k ≤ 9
section DAYS
variable {A B bo dy : Nat → Nat} {op N K : Nat}
theorem dS_le (k : Nat) (far : Nat → Nat) (v : Nat) : dS A B bo dy op k far v ≤ far v := by
  unfold dS
  split
  · split
    · by_cases h : v = B k
      · subst h; rw [upN_s]; omega
      · rw [upN_n h]; omega
    · split
      · by_cases h : v = A k
        · subst h; rw [upN_s]; omega
        · rw [upN_n h]; omega
      · exact Nat.le_refl _
  · exact Nat.le_refl _
theorem dS_out (hG : dG A B dy op N) (k : Nat) (far : Nat → Nat) {v : Nat} (hv : N ≤ v) : dS A B bo dy op k far v = far v := by
  unfold dS
  split
  · rename_i h
    obtain ⟨h1, h2, _⟩ := hG k h
    split
    · exact upN_n (by omega)
    · split
      · exact upN_n (by omega)
      · rfl
  · rfl
theorem itf_dS_le (far : Nat → Nat) (v : Nat) {n : Nat} : ∀ m, n ≤ m → itf (dS A B bo dy op) far m v ≤ itf (dS A B bo dy op) far n v := by
  intro m
  induction m with
  | zero => intro h; have : n = 0 := by omega
            subst this; exact Nat.le_refl _
  | succ m ih =>
    intro h
    by_cases e : n = m + 1
    · subst e; exact Nat.le_refl _
    · exact Nat.le_trans (dS_le m _ v) (ih (by omega))
theorem dP_le (far : Nat → Nat) (v : Nat) : dP A B bo dy op K far v ≤ far v := itf_dS_le (n := 0) far v K (Nat.zero_le _)
theorem repF_le (far : Nat → Nat) (v i : Nat) : ∀ j, repF (dP A B bo dy op K) far (i + j) v ≤ repF (dP A B bo dy op K) far i v
  | 0 => Nat.le_refl _
  | j + 1 => Nat.le_trans (dP_le _ v) (repF_le far v i j)
/-- a pass that changes nothing: no line is worth going along -/
theorem dP_tri {far : Nat → Nat} (hf : dP A B bo dy op K far = far) (hK : op < 2 ^ K) {k : Nat} (hk : op.testBit k = true) : far (B k) ≤ far (A k) + dy k ∧ (bo k ≠ 0 → far (A k) ≤ far (B k) + dy k) := by
  have hkK := tb_in hK hk
  have key : ∀ i, i ≤ K → itf (dS A B bo dy op) far i = far := by
    intro i hi
    funext v
    have a := itf_dS_le (A := A) (B := B) (bo := bo) (dy := dy) (op := op) (n := 0) far v i (Nat.zero_le _)
    have b := itf_dS_le (A := A) (B := B) (bo := bo) (dy := dy) (op := op) far v K hi
    have c : itf (dS A B bo dy op) far K v = far v := congrFun hf v
    change itf (dS A B bo dy op) far i v ≤ far v at a
    omega
  have a := key k (by omega)
  have b := key (k + 1) (by omega)
  change dS A B bo dy op k (itf (dS A B bo dy op) far k) = far at b
  rw [a] at b
  unfold dS at b
  rw [if_pos hk] at b
  by_cases q : far (A k) + dy k < far (B k)
  · rw [if_pos q] at b
    have := congrFun b (B k)
    rw [upN_s] at this
    omega
  · rw [if_neg q] at b
    refine ⟨by omega, fun hb => ?_⟩
    by_cases q2 : far (B k) + dy k < far (A k)
    · rw [if_pos ⟨hb, q2⟩] at b
      have := congrFun b (A k)
      rw [upN_s] at this
      omega
    · omega
/-- what is near has somebody nearer, by an open line -/
def dSup (A B bo dy : Nat → Nat) (op a : Nat) (far : Nat → Nat) : Prop := far a = 0 ∧ ∀ v, v ≠ a → far v < 1000 → ∃ k, op.testBit k = true ∧ ((B k = v ∧ far (A k) + dy k ≤ far v) ∨ (bo k ≠ 0 ∧ A k = v ∧ far (B k) + dy k ≤ far v))
theorem dSup_S (hG : dG A B dy op N) {a : Nat} {far : Nat → Nat} (h : dSup A B bo dy op a far) (k : Nat) : dSup A B bo dy op a (dS A B bo dy op k far) := by
  obtain ⟨h0, h1⟩ := h
  refine ⟨by have := dS_le (A := A) (B := B) (bo := bo) (dy := dy) (op := op) k far a; omega, ?_⟩
  intro v hva hv
  by_cases e : dS A B bo dy op k far v = far v
  · rw [e] at hv ⊢
    obtain ⟨j, hj, q⟩ := h1 v hva hv
    refine ⟨j, hj, ?_⟩
    have l1 := dS_le (A := A) (B := B) (bo := bo) (dy := dy) (op := op) k far (A j)
    have l2 := dS_le (A := A) (B := B) (bo := bo) (dy := dy) (op := op) k far (B j)
    rcases q with ⟨q1, q2⟩ | ⟨q1, q2, q3⟩
    · exact Or.inl ⟨q1, by omega⟩
    · exact Or.inr ⟨q1, q2, by omega⟩
  · refine ⟨k, ?_⟩
    unfold dS at e hv ⊢
    by_cases hk : op.testBit k = true
    · obtain ⟨g1, g2, g3, g4, g5⟩ := hG k hk
      rw [if_pos hk] at e hv ⊢
      refine ⟨hk, ?_⟩
      by_cases q : far (A k) + dy k < far (B k)
      · rw [if_pos q] at e hv ⊢
        by_cases hvB : v = B k
        · subst hvB
          left
          rw [upN_s, upN_n g3]
          exact ⟨rfl, Nat.le_refl _⟩
        · rw [upN_n hvB] at e; exact absurd rfl e
      · rw [if_neg q] at e hv ⊢
        by_cases q2 : bo k ≠ 0 ∧ far (B k) + dy k < far (A k)
        · rw [if_pos q2] at e hv ⊢
          by_cases hvA : v = A k
          · subst hvA
            right
            rw [upN_s, upN_n (Ne.symm g3)]
            exact ⟨q2.1, rfl, Nat.le_refl _⟩
          · rw [upN_n hvA] at e; exact absurd rfl e
        · rw [if_neg q2] at e; exact absurd rfl e
    · rw [if_neg hk] at e; exact absurd rfl e
theorem dSup_P (hG : dG A B dy op N) {a : Nat} {far : Nat → Nat} (h : dSup A B bo dy op a far) : dSup A B bo dy op a (dP A B bo dy op K far) :=
  itf_ind (P := fun _ f => dSup A B bo dy op a f) h (fun i b _ hb => dSup_S hG hb i)
theorem dSup_rep (hG : dG A B dy op N) {a : Nat} {far : Nat → Nat} (h : dSup A B bo dy op a far) : ∀ n, dSup A B bo dy op a (repF (dP A B bo dy op K) far n)
  | 0 => h
  | n + 1 => dSup_P hG (dSup_rep hG h n)
/-- a pass comes to rest -/
theorem dP_rest (hG : dG A B dy op N) (far : Nat → Nat) : ∃ n, dP A B bo dy op K (repF (dP A B bo dy op K) far n) = repF (dP A B bo dy op K) far n := by
  have key : ∀ s (f : Nat → Nat), fb_sm f N ≤ s → ∃ n, dP A B bo dy op K (repF (dP A B bo dy op K) f n) = repF (dP A B bo dy op K) f n := by
    intro s
    induction s with
    | zero =>
      intro f hs
      refine ⟨0, ?_⟩
      funext v
      show dP A B bo dy op K f v = f v
      rcases Nat.lt_or_ge v N with hv | hv
      · have := fb_sm_part f hv
        have h2 := dP_le (A := A) (B := B) (bo := bo) (dy := dy) (op := op) (K := K) f v
        omega
      · exact itf_ind (st := dS A B bo dy op) (P := fun _ g => g v = f v) rfl (fun i b _ hb => by rw [dS_out hG i b hv]; exact hb)
    | succ s ih =>
      intro f hs
      by_cases e : dP A B bo dy op K f = f
      · exact ⟨0, e⟩
      · have hlt : fb_sm (dP A B bo dy op K f) N < fb_sm f N := by
          rcases Nat.lt_or_ge (fb_sm (dP A B bo dy op K f) N) (fb_sm f N) with q | q
          · exact q
          · exfalso
            apply e
            have hle : ∀ n, n ≤ N → fb_sm (dP A B bo dy op K f) n = fb_sm f n := by
              intro n hn
              obtain ⟨d, rfl⟩ : ∃ d, N = n + d := ⟨N - n, by omega⟩
              have e1 := fb_sm_split (dP A B bo dy op K f) n d
              have e2 := fb_sm_split f n d
              have l1 : fb_sm (dP A B bo dy op K f) n ≤ fb_sm f n := fb_sm_le (fun k _ => dP_le f k)
              have l2 : fb_sm (fun k => dP A B bo dy op K f (n + k)) d ≤ fb_sm (fun k => f (n + k)) d := fb_sm_le (fun k _ => dP_le f (n + k))
              omega
            funext v
            rcases Nat.lt_or_ge v N with hv | hv
            · have a := hle v (by omega)
              have b := hle (v + 1) (by omega)
              rw [fb_sm_succ, fb_sm_succ] at b
              omega
            · exact itf_ind (st := dS A B bo dy op) (P := fun _ g => g v = f v) rfl (fun i b _ hb => by rw [dS_out hG i b hv]; exact hb)
        obtain ⟨n, hn⟩ := ih (dP A B bo dy op K f) (by omega)
        refine ⟨1 + n, ?_⟩
        rw [repF_add]
        exact hn
  exact key _ far (Nat.le_refl _)
theorem repF_out (hG : dG A B dy op N) (far : Nat → Nat) {v : Nat} (hv : N ≤ v) : ∀ n, repF (dP A B bo dy op K) far n v = far v
  | 0 => rfl
  | n + 1 => by
    show itf (dS A B bo dy op) (repF (dP A B bo dy op K) far n) K v = far v
    exact itf_ind (st := dS A B bo dy op) (P := fun _ g => g v = far v) (repF_out hG far hv n) (fun i b _ hb => by rw [dS_out hG i b hv]; exact hb)
/-- one pass makes right whoever is nearest of those that are wrong -/
theorem dP_near (hK : op < 2 ^ K) {D far : Nat → Nat} {k u v : Nat} (hle : ∀ x, D x ≤ dP A B bo dy op K far x) (hk : op.testBit k = true) (hu : far u = D u) (hv : D u + dy k = D v) (hD : ∀ x, D x ≤ far x)
    (h : (B k = v ∧ A k = u) ∨ (bo k ≠ 0 ∧ A k = v ∧ B k = u)) : dP A B bo dy op K far v = D v := by
  have hkK := tb_in hK hk
  have c1 := itf_dS_le (A := A) (B := B) (bo := bo) (dy := dy) (op := op) far v K (show k + 1 ≤ K by omega)
  have c2 := itf_dS_le (A := A) (B := B) (bo := bo) (dy := dy) (op := op) far u k (Nat.zero_le k)
  have c3 := itf_dS_le (A := A) (B := B) (bo := bo) (dy := dy) (op := op) far u K (show k ≤ K by omega)
  have c4 := hle u
  have c5 := hle v
  have c6 := itf_dS_le (A := A) (B := B) (bo := bo) (dy := dy) (op := op) far v K (show k ≤ K by omega)
  unfold dP at c4 c5 ⊢
  change itf (dS A B bo dy op) far k u ≤ far u at c2
  have hgu : itf (dS A B bo dy op) far k u = D u := by omega
  have c7 : itf (dS A B bo dy op) far (k + 1) v ≤ D v := by
    show dS A B bo dy op k (itf (dS A B bo dy op) far k) v ≤ D v
    have c8 : D v ≤ itf (dS A B bo dy op) far k v := by omega
    generalize itf (dS A B bo dy op) far k = g at hgu c8
    unfold dS
    rw [if_pos hk]
    rcases h with ⟨q1, q2⟩ | ⟨q0, q1, q2⟩
    · subst q1; subst q2
      by_cases z : g (A k) + dy k < g (B k)
      · rw [if_pos z, upN_s]; omega
      · rw [if_neg z]
        split
        · rename_i z2
          by_cases e : B k = A k
          · exfalso; have := z2.2; rw [e] at this; omega
          · rw [upN_n e]; omega
        · omega
    · subst q1; subst q2
      by_cases z : g (A k) + dy k < g (B k)
      · rw [if_pos z]; exfalso; omega
      · rw [if_neg z]
        by_cases z2 : g (B k) + dy k < g (A k)
        · rw [if_pos ⟨q0, z2⟩, upN_s]; omega
        · rw [if_neg (fun h => z2 h.2)]; omega
  omega
theorem dP_enough (hG : dG A B dy op N) (hK : op < 2 ^ K) {a : Nat} (ha : a < N) {far : Nat → Nat} (h0 : dSup A B bo dy op a far) (hb : ∀ v, far v ≤ 1000) :
    dP A B bo dy op K (repF (dP A B bo dy op K) far (N - 1)) = repF (dP A B bo dy op K) far (N - 1) := by
  obtain ⟨n, hn⟩ := dP_rest (bo := bo) (K := K) hG far
  generalize hDe : repF (dP A B bo dy op K) far n = D at hn
  have hDsup : dSup A B bo dy op a D := by rw [← hDe]; exact dSup_rep hG h0 n
  have hDle : ∀ r v, D v ≤ repF (dP A B bo dy op K) far r v := by
    intro r v
    rcases Nat.le_total r n with q | q
    · obtain ⟨d, rfl⟩ : ∃ d, n = r + d := ⟨n - r, by omega⟩
      rw [← hDe]; exact repF_le far v r d
    · obtain ⟨d, rfl⟩ : ∃ d, r = n + d := ⟨r - n, by omega⟩
      rw [repF_add, hDe, repF_fix hn]; exact Nat.le_refl _
  have hD1000 : ∀ v, D v ≤ 1000 := fun v => Nat.le_trans (hDle 0 v) (hb v)
  have hDtri := fun {k : Nat} (hk : op.testBit k = true) => dP_tri hn hK hk
  have key : ∀ r, (repF (dP A B bo dy op K) far r = D) ∨ r + 1 ≤ fb_ct (fun v => repF (dP A B bo dy op K) far r v == D v) N := by
    intro r
    induction r with
    | zero =>
      right
      apply fb_ct_pos.mpr
      refine ⟨a, ha, ?_⟩
      have h1 := h0.1
      have h2 := hDsup.1
      show (far a == D a) = true
      rw [h1, h2]; rfl
    | succ r ih =>
      rcases ih with e | e
      · left; show dP A B bo dy op K (repF (dP A B bo dy op K) far r) = D; rw [e]; exact hn
      · by_cases hall : repF (dP A B bo dy op K) far r = D
        · left; show dP A B bo dy op K (repF (dP A B bo dy op K) far r) = D; rw [hall]; exact hn
        · right
          have hstay : ∀ v, repF (dP A B bo dy op K) far r v = D v → repF (dP A B bo dy op K) far (r + 1) v = D v := by
            intro v hv
            have q1 := dP_le (A := A) (B := B) (bo := bo) (dy := dy) (op := op) (K := K) (repF (dP A B bo dy op K) far r) v
            have q2 := hDle (r + 1) v
            show dP A B bo dy op K (repF (dP A B bo dy op K) far r) v = D v
            change D v ≤ dP A B bo dy op K (repF (dP A B bo dy op K) far r) v at q2
            omega
          -- the nearest wrong one
          have hex : ∃ v, v < N ∧ repF (dP A B bo dy op K) far r v ≠ D v := by
            apply Classical.byContradiction
            intro hno
            apply hall
            funext v
            rcases Nat.lt_or_ge v N with hv | hv
            · exact Classical.byContradiction (fun z => hno ⟨v, hv, z⟩)
            · rw [repF_out hG far hv, ← hDe, repF_out hG far hv]
          have hmin : ∀ d v, D v ≤ d → v < N → repF (dP A B bo dy op K) far r v ≠ D v → ∃ v, v < N ∧ repF (dP A B bo dy op K) far r v ≠ D v ∧ repF (dP A B bo dy op K) far (r + 1) v = D v := by
            intro d
            induction d with
            | zero =>
              intro v hd hv hne
              exfalso
              have hva : v ≠ a := by
                intro e2; subst e2
                have := (dSup_rep (K := K) hG h0 r).1
                have h2 := hDsup.1
                omega
              obtain ⟨k, hk, q⟩ := hDsup.2 v hva (by omega)
              obtain ⟨g1, g2, g3, g4, g5⟩ := hG k hk
              rcases q with ⟨q1, q2⟩ | ⟨q1, q2, q3⟩ <;> omega
            | succ d ihd =>
              intro v hd hv hne
              have hva : v ≠ a := by
                intro e2; subst e2
                have := (dSup_rep (K := K) hG h0 r).1
                have h2 := hDsup.1
                omega
              have hlt : D v < 1000 := by
                have q1 := hDle r v
                have q2 : repF (dP A B bo dy op K) far r v ≤ 1000 := Nat.le_trans (by have := repF_le (A := A) (B := B) (bo := bo) (dy := dy) (op := op) (K := K) far v 0 r; rw [Nat.zero_add] at this; exact this) (hb v)
                omega
              obtain ⟨k, hk, q⟩ := hDsup.2 v hva hlt
              obtain ⟨g1, g2, g3, g4, g5⟩ := hG k hk
              obtain ⟨t1, t2⟩ := hDtri hk
              rcases q with ⟨q1, q2⟩ | ⟨q0, q1, q2⟩
              · subst q1
                by_cases z : repF (dP A B bo dy op K) far r (A k) = D (A k)
                · exact ⟨B k, hv, hne, dP_near hK (fun x => hDle (r + 1) x) hk z (by omega) (fun x => hDle r x) (Or.inl ⟨rfl, rfl⟩)⟩
                · exact ihd (A k) (by omega) g1 z
              · subst q1
                have t3 := t2 q0
                by_cases z : repF (dP A B bo dy op K) far r (B k) = D (B k)
                · exact ⟨A k, hv, hne, dP_near hK (fun x => hDle (r + 1) x) hk z (by omega) (fun x => hDle r x) (Or.inr ⟨q0, rfl, rfl⟩)⟩
                · exact ihd (B k) (by omega) g2 z
          obtain ⟨v0, hv0, hne0⟩ := hex
          obtain ⟨w, hw, hne, heq⟩ := hmin (D v0) v0 (Nat.le_refl _) hv0 hne0
          have c1 := fb_ct_upd (fun v => repF (dP A B bo dy op K) far r v == D v) true hw
          have c2 : fb_ct (fun k => if k = w then true else (repF (dP A B bo dy op K) far r k == D k)) N ≤ fb_ct (fun v => repF (dP A B bo dy op K) far (r + 1) v == D v) N := by
            apply fb_ct_sub
            intro k _ hk
            by_cases e2 : k = w
            · subst e2; rw [heq]; exact beq_self_eq_true _
            · rw [if_neg e2] at hk
              have := hstay k (eq_of_beq hk)
              rw [this]; exact beq_self_eq_true _
          have hne' : (repF (dP A B bo dy op K) far r w == D w) = false := by
            rw [beq_eq_false_iff_ne]; exact hne
          simp only [hne', if_true, Bool.false_eq_true, if_false] at c1
          omega
  rcases key (N - 1) with e | e
  · rw [e]; exact hn
  · have hle := fb_ct_le (fun v => repF (dP A B bo dy op K) far (N - 1) v == D v) N
    have hfull : fb_ct (fun v => repF (dP A B bo dy op K) far (N - 1) v == D v) N = N := by omega
    have hall := fb_ct_all.mp hfull
    have : repF (dP A B bo dy op K) far (N - 1) = D := by
      funext v
      rcases Nat.lt_or_ge v N with hv | hv
      · exact eq_of_beq (hall v hv)
      · rw [repF_out hG far hv, ← hDe, repF_out hG far hv]
    rw [this]; exact hn
/-- more lines open: no more days -/
theorem dP_mono {op' : Nat} {D D' : Nat → Nat} {a : Nat} (hG : dG A B dy op N) (hK : op' < 2 ^ K) (hsub : ∀ k, op.testBit k = true → op'.testBit k = true) (hD : dSup A B bo dy op a D) (hD' : dP A B bo dy op' K D' = D') (ha : D' a = 0) (hb : ∀ v, D' v ≤ 1000) : ∀ v, D' v ≤ D v := by
  have key : ∀ d v, D v ≤ d → D' v ≤ D v := by
    intro d
    induction d with
    | zero =>
      intro v hd
      by_cases hva : v = a
      · subst hva; omega
      · obtain ⟨k, hk, q⟩ := hD.2 v hva (by omega)
        obtain ⟨g1, g2, g3, g4, g5⟩ := hG k hk
        rcases q with ⟨q1, q2⟩ | ⟨q1, q2, q3⟩ <;> omega
    | succ d ih =>
      intro v hd
      by_cases hva : v = a
      · subst hva; omega
      · by_cases hlt : D v < 1000
        · obtain ⟨k, hk, q⟩ := hD.2 v hva hlt
          obtain ⟨g1, g2, g3, g4, g5⟩ := hG k hk
          obtain ⟨t1, t2⟩ := dP_tri hD' hK (hsub k hk)
          rcases q with ⟨q1, q2⟩ | ⟨q0, q1, q2⟩
          · subst q1
            have := ih (A k) (by omega)
            omega
          · subst q1
            have := ih (B k) (by omega)
            have := t2 q0
            omega
        · have := hb v; omega
  intro v
  exact key (D v) v (Nat.le_refl _)
end DAYS
