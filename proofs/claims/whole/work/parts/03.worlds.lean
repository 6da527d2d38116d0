/-! worlds by a layout: a state of numbers, and where its cells lie -/
abbrev wd_W : Type := (Nat → Int32) × (Nat → Int64) × (Nat → Nat → Int32) × (Nat → Nat → Int64) × (Nat → Nat)
abbrev wd_E : Type := (Nat × List (Nat × Nat)) ⊕ (Nat × Nat × Nat × Nat)
def wd_fv (q g : Nat → Nat) (S : wd_W) (i : Nat) (f : Nat × Nat) : Value := match f.1 with
  | 0 => .int (S.1 i)
  | 1 => .long (S.2.1 i)
  | 2 => .ref (q f.2)
  | 3 => .ref (g f.2)
  | _ => .null
def wd_fvs (q g : Nat → Nat) (S : wd_W) : Nat → List (Nat × Nat) → List Value
  | _, [] => []
  | i, f :: t => wd_fv q g S i f :: wd_fvs q g S (i + 1) t
def wd_len (S : wd_W) (c : Nat) (a : Nat × Nat × Nat × Nat) : Nat := bif Nat.beq a.2.1 1 then S.2.2.2.2 c else a.2.2.1
def wd_arr (q : Nat → Nat) (cy : Nat → ClassId) (S : wd_W) (c : Nat) (a : Nat × Nat × Nat × Nat) : va_E :=
  .inl (cy a.1, wd_len S c a, bif Nat.beq a.1 3 then .inr (.inl (S.2.2.2.1 c)) else bif Nat.ble 4 a.1 then .inr (.inr (.inr (.inr (fun j => some (q (a.2.2.2 + (a.2.1 - 2) * j)))))) else .inl (S.2.2.1 c))
def wd_ent (q g : Nat → Nat) (cy : Nat → ClassId) (S : wd_W) (c : Nat) : wd_E → Nat × va_E
  | .inl o => (q c, .inr (o.1, wd_fvs q g S (100 * c) o.2))
  | .inr a => ((bif Nat.beq a.2.1 1 then g c else q c), wd_arr q cy S c a)
def wd_ws (q g : Nat → Nat) (cy : Nat → ClassId) (S : wd_W) : Nat → List wd_E → va_W
  | _, [] => []
  | c, e :: t => wd_ent q g cy S c e :: wd_ws q g cy S (c + 1) t
theorem wd_ws_at (q g : Nat → Nat) (cy : Nat → ClassId) (S : wd_W) : ∀ (lay : List wd_E) (c k : Nat), (wd_ws q g cy S c lay)[k]? = (lay[k]?).map (wd_ent q g cy S (c + k)) := by
  intro lay
  induction lay with
  | nil => intro c k; simp [wd_ws]
  | cons e t ih =>
    intro c k
    cases k with
    | zero => simp [wd_ws]
    | succ k => simp only [wd_ws, List.getElem?_cons_succ, ih]; rw [show c + 1 + k = c + (k + 1) by omega]
theorem wd_ws_get {q g : Nat → Nat} {cy : Nat → ClassId} {S : wd_W} {lay : List wd_E} {k : Nat} {e : wd_E} (h : lay[k]? = some e) : (wd_ws q g cy S 0 lay)[k]? = some (wd_ent q g cy S k e) := by
  rw [wd_ws_at, h]; simp
theorem wd_fvs_at (q g : Nat → Nat) (S : wd_W) : ∀ (fs : List (Nat × Nat)) (i k : Nat), (wd_fvs q g S i fs)[k]? = (fs[k]?).map (wd_fv q g S (i + k)) := by
  intro fs
  induction fs with
  | nil => intro i k; simp [wd_fvs]
  | cons f t ih =>
    intro i k
    cases k with
    | zero => simp [wd_fvs]
    | succ k => simp only [wd_fvs, List.getElem?_cons_succ, ih]; rw [show i + 1 + k = i + (k + 1) by omega]
theorem wd_fvs_len (q g : Nat → Nat) (S : wd_W) : ∀ (fs : List (Nat × Nat)) (i : Nat), (wd_fvs q g S i fs).length = fs.length := by
  intro fs
  induction fs with
  | nil => intro i; rfl
  | cons f t ih => intro i; simp [wd_fvs, ih]
def wd_set {α : Type} (f : Nat → α) (i : Nat) (v : α) : Nat → α := fun j => bif Nat.beq j i then v else f j
theorem wd_set_ne {α : Type} {f : Nat → α} {i j : Nat} {v : α} (h : j ≠ i) : wd_set f i v j = f j := by
  unfold wd_set
  have : Nat.beq j i = false := by
    cases h2 : Nat.beq j i with
    | false => rfl
    | true => exact absurd (Nat.eq_of_beq_eq_true h2) h
  rw [this]; rfl
theorem wd_set_eq {α : Type} {f : Nat → α} {i : Nat} {v : α} : wd_set f i v i = v := by
  unfold wd_set
  rw [show Nat.beq i i = true from Nat.beq_refl i]; rfl
def wd_sI (S : wd_W) (i : Nat) (v : Int32) : wd_W := (wd_set S.1 i v, S.2)
def wd_sL (S : wd_W) (i : Nat) (v : Int64) : wd_W := (S.1, wd_set S.2.1 i v, S.2.2)
def wd_sA (S : wd_W) (c : Nat) (f : Nat → Int32) : wd_W := (S.1, S.2.1, wd_set S.2.2.1 c f, S.2.2.2)
def wd_sB (S : wd_W) (c : Nat) (f : Nat → Int64) : wd_W := (S.1, S.2.1, S.2.2.1, wd_set S.2.2.2.1 c f, S.2.2.2.2)
def wd_sN (S : wd_W) (c : Nat) (n : Nat) : wd_W := (S.1, S.2.1, S.2.2.1, S.2.2.2.1, wd_set S.2.2.2.2 c n)
/-- no object has more than a hundred fields -/
def wd_ok (lay : List wd_E) : Bool := lay.all (fun e => match e with | .inl o => Nat.ble o.2.length 100 | .inr _ => true)
theorem wd_ok_at {lay : List wd_E} (h : wd_ok lay = true) {c : Nat} {o : Nat × List (Nat × Nat)} (hc : lay[c]? = some (.inl o)) : o.2.length ≤ 100 := by
  have h1 := List.all_eq_true.mp h _ (List.mem_of_getElem? hc)
  exact Nat.le_of_ble_eq_true h1
theorem wd_fv_ne {q g : Nat → Nat} {S S' : wd_W} {i : Nat} {f : Nat × Nat} (h1 : S'.1 i = S.1 i) (h2 : S'.2.1 i = S.2.1 i) : wd_fv q g S' i f = wd_fv q g S i f := by
  obtain ⟨a, b⟩ := f
  match a with
  | 0 => simp [wd_fv, h1]
  | 1 => simp [wd_fv, h2]
  | 2 => rfl
  | 3 => rfl
  | n + 4 => rfl
theorem wd_fvs_ne {q g : Nat → Nat} {S S' : wd_W} : ∀ (fs : List (Nat × Nat)) (i : Nat), (∀ k, k < fs.length → S'.1 (i + k) = S.1 (i + k) ∧ S'.2.1 (i + k) = S.2.1 (i + k)) → wd_fvs q g S' i fs = wd_fvs q g S i fs := by
  intro fs
  induction fs with
  | nil => intro i h; rfl
  | cons f t ih =>
    intro i h
    have h0 := h 0 (by simp)
    rw [Nat.add_zero] at h0
    show wd_fv q g S' i f :: wd_fvs q g S' (i + 1) t = wd_fv q g S i f :: wd_fvs q g S (i + 1) t
    rw [wd_fv_ne h0.1 h0.2, ih (i + 1) (fun k hk => by rw [show i + 1 + k = i + (k + 1) by omega]; exact h (k + 1) (by simp; omega))]
/-- the entry of one cell put anew: the others are as they were -/
theorem wd_ws_put {q g g' : Nat → Nat} {cy : Nat → ClassId} {S S' : wd_W} {lay : List wd_E} {c : Nat} {e : wd_E} {x : Nat × va_E} (hc : lay[c]? = some e) (hx : wd_ent q g' cy S' c e = x)
    (hne : ∀ (j : Nat) (e' : wd_E), j ≠ c → lay[j]? = some e' → wd_ent q g' cy S' j e' = wd_ent q g cy S j e') : (wd_ws q g cy S 0 lay).set c x = wd_ws q g' cy S' 0 lay := by
  apply List.ext_getElem?
  intro j
  by_cases hj : j = c
  · subst hj
    rw [wd_ws_get hc, hx]
    have := wd_ws_get (q := q) (g := g) (cy := cy) (S := S) hc
    rw [List.getElem?_set_self (List.getElem?_eq_some_iff.mp this).1]
  · rw [List.getElem?_set_ne (Ne.symm hj), wd_ws_at, wd_ws_at]
    cases he : lay[j]? with
    | none => rfl
    | some e' => simp only [Option.map_some, Nat.zero_add]; rw [hne j e' hj he]
theorem wd_ent_scalar {q g : Nat → Nat} {cy : Nat → ClassId} {S S' : wd_W} {lay : List wd_E} (hok : wd_ok lay = true) {c k : Nat} (hk : k < 100) (h1 : ∀ i, i ≠ 100 * c + k → S'.1 i = S.1 i ∧ S'.2.1 i = S.2.1 i) (h2 : S'.2.2 = S.2.2) {j : Nat} {e : wd_E} (hj : j ≠ c) (he : lay[j]? = some e) : wd_ent q g cy S' j e = wd_ent q g cy S j e := by
  cases e with
  | inl o =>
    have hl := wd_ok_at hok he
    show (q j, Sum.inr (o.1, wd_fvs q g S' (100 * j) o.2)) = (q j, Sum.inr (o.1, wd_fvs q g S (100 * j) o.2))
    rw [wd_fvs_ne (S := S) (S' := S') o.2 (100 * j) (fun k' hk' => h1 _ (by omega))]
  | inr a =>
    obtain ⟨s1, s2, s3⟩ := S
    obtain ⟨s1', s2', s3'⟩ := S'
    dsimp only at h2
    subst h2
    rfl
theorem wd_fvs_setI {q g : Nat → Nat} {S : wd_W} {fs : List (Nat × Nat)} {i k x : Nat} {v : Int32} (h : fs[k]? = some (0, x)) : wd_fvs q g (wd_sI S (i + k) v) i fs = (wd_fvs q g S i fs).set k (.int v) := by
  apply List.ext_getElem?
  intro j
  by_cases hj : j = k
  · subst hj
    have hl : j < (wd_fvs q g S i fs).length := by rw [wd_fvs_len]; exact (List.getElem?_eq_some_iff.mp h).1
    rw [List.getElem?_set_self hl, wd_fvs_at, h]
    simp [wd_fv, wd_sI, wd_set_eq]
  · rw [List.getElem?_set_ne (Ne.symm hj), wd_fvs_at, wd_fvs_at]
    cases he : fs[j]? with
    | none => rfl
    | some f => simp only [Option.map_some]; rw [wd_fv_ne (S := S) (S' := wd_sI S (i + k) v) (wd_set_ne (by omega)) rfl]
theorem wd_fvs_setL {q g : Nat → Nat} {S : wd_W} {fs : List (Nat × Nat)} {i k x : Nat} {v : Int64} (h : fs[k]? = some (1, x)) : wd_fvs q g (wd_sL S (i + k) v) i fs = (wd_fvs q g S i fs).set k (.long v) := by
  apply List.ext_getElem?
  intro j
  by_cases hj : j = k
  · subst hj
    have hl : j < (wd_fvs q g S i fs).length := by rw [wd_fvs_len]; exact (List.getElem?_eq_some_iff.mp h).1
    rw [List.getElem?_set_self hl, wd_fvs_at, h]
    simp [wd_fv, wd_sL, wd_set_eq]
  · rw [List.getElem?_set_ne (Ne.symm hj), wd_fvs_at, wd_fvs_at]
    cases he : fs[j]? with
    | none => rfl
    | some f => simp only [Option.map_some]; rw [wd_fv_ne (S := S) (S' := wd_sL S (i + k) v) rfl (wd_set_ne (by omega))]
theorem wd_ws_I {q g : Nat → Nat} {cy : Nat → ClassId} {S : wd_W} {lay : List wd_E} (hok : wd_ok lay = true) {c ci k x : Nat} {fs : List (Nat × Nat)} {v : Int32} (hc : lay[c]? = some (.inl (ci, fs))) (hk : fs[k]? = some (0, x)) :
    (wd_ws q g cy S 0 lay).set c (q c, .inr (ci, (wd_fvs q g S (100 * c) fs).set k (.int v))) = wd_ws q g cy (wd_sI S (100 * c + k) v) 0 lay := by
  have hl := wd_ok_at hok hc
  have hk2 : k < fs.length := (List.getElem?_eq_some_iff.mp hk).1
  refine wd_ws_put hc ?_ (fun j e hj he => wd_ent_scalar (S := S) (S' := wd_sI S (100 * c + k) v) hok (c := c) (k := k) (by dsimp only at hl; omega) (fun i hi => ⟨wd_set_ne hi, rfl⟩) rfl hj he)
  show (q c, Sum.inr (ci, wd_fvs q g _ (100 * c) fs)) = _
  rw [wd_fvs_setI hk]
theorem wd_ws_L {q g : Nat → Nat} {cy : Nat → ClassId} {S : wd_W} {lay : List wd_E} (hok : wd_ok lay = true) {c ci k x : Nat} {fs : List (Nat × Nat)} {v : Int64} (hc : lay[c]? = some (.inl (ci, fs))) (hk : fs[k]? = some (1, x)) :
    (wd_ws q g cy S 0 lay).set c (q c, .inr (ci, (wd_fvs q g S (100 * c) fs).set k (.long v))) = wd_ws q g cy (wd_sL S (100 * c + k) v) 0 lay := by
  have hl := wd_ok_at hok hc
  have hk2 : k < fs.length := (List.getElem?_eq_some_iff.mp hk).1
  refine wd_ws_put hc ?_ (fun j e hj he => wd_ent_scalar (S := S) (S' := wd_sL S (100 * c + k) v) hok (c := c) (k := k) (by dsimp only at hl; omega) (fun i hi => ⟨rfl, wd_set_ne hi⟩) rfl hj he)
  show (q c, Sum.inr (ci, wd_fvs q g _ (100 * c) fs)) = _
  rw [wd_fvs_setL hk]
theorem wd_ent_array {q g : Nat → Nat} {cy : Nat → ClassId} {S S' : wd_W} {c j : Nat} {e : wd_E} (h1 : S'.1 = S.1) (h2 : S'.2.1 = S.2.1) (h3 : S'.2.2.1 j = S.2.2.1 j) (h4 : S'.2.2.2.1 j = S.2.2.2.1 j) (h5 : S'.2.2.2.2 j = S.2.2.2.2 j) : wd_ent q g cy S' j e = wd_ent q g cy S j e := by
  cases e with
  | inl o =>
    show (q j, Sum.inr (o.1, wd_fvs q g S' (100 * j) o.2)) = (q j, Sum.inr (o.1, wd_fvs q g S (100 * j) o.2))
    rw [wd_fvs_ne (S := S) (S' := S') o.2 (100 * j) (fun k' hk' => ⟨by rw [h1], by rw [h2]⟩)]
  | inr a => simp only [wd_ent, wd_arr, wd_len, h3, h4, h5]
theorem wd_ws_A {q g : Nat → Nat} {cy : Nat → ClassId} {S : wd_W} {lay : List wd_E} {c : Nat} {a : Nat × Nat × Nat × Nat} {f : Nat → Int32} (hc : lay[c]? = some (.inr a)) (ht : Nat.ble a.1 2 = true) :
    (wd_ws q g cy S 0 lay).set c ((bif Nat.beq a.2.1 1 then g c else q c), .inl (cy a.1, wd_len S c a, .inl f)) = wd_ws q g cy (wd_sA S c f) 0 lay := by
  refine wd_ws_put hc ?_ (fun j e hj he => wd_ent_array (c := c) rfl rfl (wd_set_ne hj) rfl rfl)
  obtain ⟨t, a2⟩ := a
  have ht2 : t ≤ 2 := Nat.le_of_ble_eq_true ht
  match t, ht2 with
  | 0, _ => simp [wd_ent, wd_arr, wd_len, wd_sA, wd_set_eq]; rfl
  | 1, _ => simp [wd_ent, wd_arr, wd_len, wd_sA, wd_set_eq]; rfl
  | 2, _ => simp [wd_ent, wd_arr, wd_len, wd_sA, wd_set_eq]; rfl
theorem wd_ws_B {q g : Nat → Nat} {cy : Nat → ClassId} {S : wd_W} {lay : List wd_E} {c : Nat} {a : Nat × Nat × Nat} {f : Nat → Int64} (hc : lay[c]? = some (.inr (3, a))) :
    (wd_ws q g cy S 0 lay).set c ((bif Nat.beq a.1 1 then g c else q c), .inl (cy 3, wd_len S c (3, a), .inr (.inl f))) = wd_ws q g cy (wd_sB S c f) 0 lay := by
  refine wd_ws_put hc ?_ (fun j e hj he => wd_ent_array (c := c) rfl rfl rfl (wd_set_ne hj) rfl)
  simp [wd_ent, wd_arr, wd_len, wd_sB, wd_set_eq]
/-! overlays: the numbers that a method may change, by their keys -/
def wd_lk {α : Type} : List (Nat × α) → Nat → Option α
  | [], _ => none
  | e :: t, i => bif Nat.beq i e.1 then some e.2 else wd_lk t i
def wd_sl {α : Type} : List (Nat × α) → Nat → α → List (Nat × α)
  | [], _, _ => []
  | e :: t, i, v => bif Nat.beq i e.1 then (e.1, v) :: t else e :: wd_sl t i v
def wd_ov {α : Type} (f : Nat → α) (L : List (Nat × α)) (i : Nat) : α := match wd_lk L i with
  | some v => v
  | none => f i
theorem wd_lk_sl {α : Type} {v : α} {i : Nat} : ∀ (L : List (Nat × α)), (wd_lk L i).isSome = true → ∀ j, wd_lk (wd_sl L i v) j = bif Nat.beq j i then some v else wd_lk L j := by
  intro L
  induction L with
  | nil => intro h; simp [wd_lk] at h
  | cons e t ih =>
    intro h j
    simp only [wd_lk, wd_sl] at h ⊢
    cases h1 : Nat.beq i e.1 with
    | true =>
      have he : i = e.1 := Nat.eq_of_beq_eq_true h1
      simp only [cond_true, wd_lk]
      rw [he]
      cases h2 : Nat.beq j e.1 <;> simp
    | false =>
      rw [h1] at h
      simp only [cond_false] at h ⊢
      simp only [wd_lk]
      rw [ih h j]
      cases h2 : Nat.beq j e.1 with
      | false => simp
      | true =>
        have he : j = e.1 := Nat.eq_of_beq_eq_true h2
        cases h3 : Nat.beq j i with
        | false => simp
        | true =>
          have : j = i := Nat.eq_of_beq_eq_true h3
          rw [← this, he] at h1
          rw [show Nat.beq e.1 e.1 = true from Nat.beq_refl _] at h1
          cases h1
theorem wd_ov_sl {α : Type} {f : Nat → α} {L : List (Nat × α)} {i : Nat} {v : α} (h : (wd_lk L i).isSome = true) : wd_set (wd_ov f L) i v = wd_ov f (wd_sl L i v) := by
  funext j
  simp only [wd_set, wd_ov, wd_lk_sl L h j]
  cases Nat.beq j i <;> rfl
def wd_o (S : wd_W) (L1 : List (Nat × Int32)) (L2 : List (Nat × Int64)) (L3 : List (Nat × (Nat → Int32))) (L4 : List (Nat × (Nat → Int64))) (L5 : List (Nat × Nat)) : wd_W :=
  (wd_ov S.1 L1, wd_ov S.2.1 L2, wd_ov S.2.2.1 L3, wd_ov S.2.2.2.1 L4, wd_ov S.2.2.2.2 L5)
theorem wd_ov_nil {α : Type} (f : Nat → α) : wd_ov f [] = f := rfl
/-- an overlay that changes nothing: each key with its own value -/
def wd_idl {α : Type} (f : Nat → α) : List Nat → List (Nat × α)
  | [] => []
  | k :: t => (k, f k) :: wd_idl f t
theorem wd_ov_idl {α : Type} (f : Nat → α) (ks : List Nat) : wd_ov f (wd_idl f ks) = f := by
  have h : ∀ (ks : List Nat) (i : Nat) (v : α), wd_lk (wd_idl f ks) i = some v → v = f i := by
    intro ks
    induction ks with
    | nil => intro i v h; simp [wd_idl, wd_lk] at h
    | cons k t ih =>
      intro i v h
      simp only [wd_idl, wd_lk] at h
      cases h1 : Nat.beq i k with
      | true =>
        rw [h1] at h
        have := Nat.eq_of_beq_eq_true h1
        simp at h
        rw [← h, this]
      | false => rw [h1] at h; exact ih i v h
  funext i
  unfold wd_ov
  cases hl : wd_lk (wd_idl f ks) i with
  | none => rfl
  | some v => exact h ks i v hl
theorem wd_o_idl (S : wd_W) (k1 k2 k3 k4 k5 : List Nat) : wd_o S (wd_idl S.1 k1) (wd_idl S.2.1 k2) (wd_idl S.2.2.1 k3) (wd_idl S.2.2.2.1 k4) (wd_idl S.2.2.2.2 k5) = S := by
  unfold wd_o
  rw [wd_ov_idl, wd_ov_idl, wd_ov_idl, wd_ov_idl, wd_ov_idl]
/-- an overlay over an overlay: the second's keys are all among the first's -/
def wd_sls {α : Type} (L : List (Nat × α)) : List (Nat × α) → List (Nat × α)
  | [] => L
  | e :: t => wd_sl (wd_sls L t) e.1 e.2
def wd_in {α : Type} (L : List (Nat × α)) : List (Nat × α) → Bool
  | [] => true
  | e :: t => (wd_lk L e.1).isSome && wd_in L t
theorem wd_lk_some_sl {α : Type} {v : α} {i j : Nat} {L : List (Nat × α)} (hi : (wd_lk L i).isSome = true) (hj : (wd_lk L j).isSome = true) : (wd_lk (wd_sl L i v) j).isSome = true := by
  rw [wd_lk_sl L hi j]
  cases Nat.beq j i <;> simp [hj]
theorem wd_lk_some_sls {α : Type} {L : List (Nat × α)} : ∀ (M : List (Nat × α)), wd_in L M = true → ∀ j, (wd_lk L j).isSome = true → (wd_lk (wd_sls L M) j).isSome = true := by
  intro M
  induction M with
  | nil => intro _ j hj; exact hj
  | cons e t ih =>
    intro h j hj
    simp only [wd_in, Bool.and_eq_true] at h
    exact wd_lk_some_sl (ih h.2 _ h.1) (ih h.2 j hj)
theorem wd_ov_ov {α : Type} {f : Nat → α} {L : List (Nat × α)} : ∀ (M : List (Nat × α)), wd_in L M = true → wd_ov (wd_ov f L) M = wd_ov f (wd_sls L M) := by
  intro M
  induction M with
  | nil => intro _; rfl
  | cons e t ih =>
    intro h
    simp only [wd_in, Bool.and_eq_true] at h
    have h1 := ih h.2
    show _ = wd_ov f (wd_sl (wd_sls L t) e.1 e.2)
    rw [← wd_ov_sl (wd_lk_some_sls t h.2 _ h.1), ← h1]
    funext j
    simp only [wd_ov, wd_lk, wd_set]
    cases Nat.beq j e.1 <;> rfl
section LCX
def lc_cl (b : Bool) (i : Nat) (q : Nat × Value) : Bool := bif b then (!(q.1 == i) && (!(q.1 == i + 1) && !(q.1 + 1 == i && q.2.category == 2))) else (!(q.1 == i) && !(q.1 + 1 == i && q.2.category == 2))
def lc_put : List (Nat × Value) → Nat → Value → List (Nat × Value)
  | [], i, v => [(i, v)]
  | e :: t, i, v => bif Nat.blt i e.1 then (i, v) :: e :: t else e :: lc_put t i v
theorem lc_put_mem {x : Nat × Value} {i : Nat} {v : Value} : ∀ (L : List (Nat × Value)), x ∈ lc_put L i v → x = (i, v) ∨ x ∈ L := by
  intro L
  induction L with
  | nil => intro h; simp [lc_put] at h; exact Or.inl h
  | cons e t ih =>
    intro h
    simp only [lc_put] at h
    cases hb : Nat.blt i e.1 with
    | true => rw [hb] at h; simp at h; simp; exact h
    | false =>
      rw [hb] at h
      simp only [cond_false, List.mem_cons] at h
      rcases h with h | h
      · exact Or.inr (by rw [h]; exact List.mem_cons_self)
      · rcases ih h with h | h
        · exact Or.inl h
        · exact Or.inr (List.mem_cons_of_mem _ h)
theorem lc_mem {α : Type} {i : Nat} {v : α} : ∀ (L : List (Nat × α)), wd_lk L i = some v → (i, v) ∈ L := by
  intro L
  induction L with
  | nil => intro h; simp [wd_lk] at h
  | cons e t ih =>
    intro h
    simp only [wd_lk] at h
    cases hb : Nat.beq i e.1 with
    | true =>
      rw [hb] at h
      simp only [cond_true, Option.some.injEq] at h
      have := Nat.eq_of_beq_eq_true hb
      obtain ⟨a, b⟩ := e
      dsimp only at this h
      subst this; subst h
      exact List.mem_cons_self
    | false => rw [hb] at h; exact List.mem_cons_of_mem _ (ih h)
theorem lc_at {ls : Array Slot} {nL : Nat} {lc : List (Nat × Value)} {i : Nat} {v : Value} (h : lv_has ls nL lc) (hi : wd_lk lc i = some v) : ls[i]? = some (.val v) := h.2.2 (i, v) (lc_mem lc hi)
theorem lc_place {lc : List (Nat × Value)} {i : Nat} {v : Value} (hi : wd_lk lc i = some v) : ∃ k : Nat, lc[k]? = some (i, v) := List.getElem?_of_mem (lc_mem lc hi)
theorem lc_got {ls : Array Slot} {nL : Nat} {lc lc' : List (Nat × Value)} {i : Nat} {v : Value} {P P' : Nat × Value → Bool} (h : lv_has ls nL ((i, v) :: lc.filter P)) (hl : lc_put (lc.filter P') i v = lc') (hP : P = P') : lv_has ls nL lc' := by
  subst hP; subst hl
  refine ⟨h.1, h.2.1, fun x hx => h.2.2 x ?_⟩
  rcases lc_put_mem _ hx with e | e
  · rw [e]; exact List.mem_cons_self
  · exact List.mem_cons_of_mem _ e
def lc_sel {α : Type} (lc : List (Nat × α)) : List Nat → List (Nat × α)
  | [] => []
  | i :: t => match wd_lk lc i with
    | some v => (i, v) :: lc_sel lc t
    | none => lc_sel lc t
theorem lc_sel_mem {α : Type} {lc : List (Nat × α)} {x : Nat × α} : ∀ (ks : List Nat), x ∈ lc_sel lc ks → x ∈ lc := by
  intro ks
  induction ks with
  | nil => intro h; simp [lc_sel] at h
  | cons i t ih =>
    intro h
    simp only [lc_sel] at h
    cases hl : wd_lk lc i with
    | none => rw [hl] at h; exact ih h
    | some v =>
      rw [hl] at h
      rcases List.mem_cons.mp h with e | e
      · rw [e]; exact lc_mem lc hl
      · exact ih e
theorem wd_o_sI {S : wd_W} {L1 : List (Nat × Int32)} {L2 : List (Nat × Int64)} {L3 : List (Nat × (Nat → Int32))} {L4 : List (Nat × (Nat → Int64))} {L5 : List (Nat × Nat)} {i : Nat} {v : Int32} (h : (wd_lk L1 i).isSome = true) : wd_sI (wd_o S L1 L2 L3 L4 L5) i v = wd_o S (wd_sl L1 i v) L2 L3 L4 L5 := by
  unfold wd_sI wd_o
  rw [← wd_ov_sl h]
theorem wd_o_sL {S : wd_W} {L1 : List (Nat × Int32)} {L2 : List (Nat × Int64)} {L3 : List (Nat × (Nat → Int32))} {L4 : List (Nat × (Nat → Int64))} {L5 : List (Nat × Nat)} {i : Nat} {v : Int64} (h : (wd_lk L2 i).isSome = true) : wd_sL (wd_o S L1 L2 L3 L4 L5) i v = wd_o S L1 (wd_sl L2 i v) L3 L4 L5 := by
  unfold wd_sL wd_o
  rw [← wd_ov_sl h]
theorem wd_o_sA {S : wd_W} {L1 : List (Nat × Int32)} {L2 : List (Nat × Int64)} {L3 : List (Nat × (Nat → Int32))} {L4 : List (Nat × (Nat → Int64))} {L5 : List (Nat × Nat)} {i : Nat} {v : Nat → Int32} (h : (wd_lk L3 i).isSome = true) : wd_sA (wd_o S L1 L2 L3 L4 L5) i v = wd_o S L1 L2 (wd_sl L3 i v) L4 L5 := by
  unfold wd_sA wd_o
  rw [← wd_ov_sl h]
theorem wd_o_sB {S : wd_W} {L1 : List (Nat × Int32)} {L2 : List (Nat × Int64)} {L3 : List (Nat × (Nat → Int32))} {L4 : List (Nat × (Nat → Int64))} {L5 : List (Nat × Nat)} {i : Nat} {v : Nat → Int64} (h : (wd_lk L4 i).isSome = true) : wd_sB (wd_o S L1 L2 L3 L4 L5) i v = wd_o S L1 L2 L3 (wd_sl L4 i v) L5 := by
  unfold wd_sB wd_o
  rw [← wd_ov_sl h]
theorem wd_o_o {S : wd_W} {L1 : List (Nat × Int32)} {L2 : List (Nat × Int64)} {L3 : List (Nat × (Nat → Int32))} {L4 : List (Nat × (Nat → Int64))} {L5 : List (Nat × Nat)} {M1 : List (Nat × Int32)} {M2 : List (Nat × Int64)} {M3 : List (Nat × (Nat → Int32))} {M4 : List (Nat × (Nat → Int64))} {M5 : List (Nat × Nat)}
    (h1 : wd_in L1 M1 = true) (h2 : wd_in L2 M2 = true) (h3 : wd_in L3 M3 = true) (h4 : wd_in L4 M4 = true) (h5 : wd_in L5 M5 = true) : wd_o (wd_o S L1 L2 L3 L4 L5) M1 M2 M3 M4 M5 = wd_o S (wd_sls L1 M1) (wd_sls L2 M2) (wd_sls L3 M3) (wd_sls L4 M4) (wd_sls L5 M5) := by
  show (wd_ov (wd_ov S.1 L1) M1, wd_ov (wd_ov S.2.1 L2) M2, wd_ov (wd_ov S.2.2.1 L3) M3, wd_ov (wd_ov S.2.2.2.1 L4) M4, wd_ov (wd_ov S.2.2.2.2 L5) M5) = _
  rw [wd_ov_ov M1 h1, wd_ov_ov M2 h2, wd_ov_ov M3 h3, wd_ov_ov M4 h4, wd_ov_ov M5 h5]
  rfl
end LCX
