/-! the cells of a world in any order -/
theorem va_D_nodup {A : Nat → Prop} {ws : va_W} : va_D A ws ↔ (ws.map Prod.fst).Nodup ∧ ∀ q ∈ ws, A q.1 := by
  constructor
  · intro h
    refine ⟨?_, fun q hq => ?_⟩
    · refine List.pairwise_iff_getElem.mpr (fun i j hi hj hij e => ?_)
      rw [List.getElem_map, List.getElem_map] at e
      rw [List.length_map] at hi hj
      have := h.1 i j ws[i] ws[j] (List.getElem?_eq_getElem hi) (List.getElem?_eq_getElem hj) e
      omega
    · obtain ⟨k, hk⟩ := List.getElem?_of_mem hq
      exact h.2 k q hk
  · rintro ⟨h1, h2⟩
    refine ⟨fun i j p q hp hq e => ?_, fun k q hk => h2 q (List.mem_of_getElem? hk)⟩
    have w := List.pairwise_iff_getElem.mp h1
    obtain ⟨li, ei⟩ := List.getElem?_eq_some_iff.mp hp
    obtain ⟨lj, ej⟩ := List.getElem?_eq_some_iff.mp hq
    rcases Nat.lt_trichotomy i j with c | c | c
    · have := w i j (by rw [List.length_map]; exact li) (by rw [List.length_map]; exact lj) c
      rw [List.getElem_map, List.getElem_map, ei, ej] at this
      exact absurd e this
    · exact c
    · have := w j i (by rw [List.length_map]; exact lj) (by rw [List.length_map]; exact li) c
      rw [List.getElem_map, List.getElem_map, ei, ej] at this
      exact absurd e.symm this
theorem gn_perm {X : XT} {ws ws' : va_W} {pc : Nat} {lc : List (Nat × Value)} {st : List Value} {cells slots : Nat} (hp : ws.Perm ws') (k : GN X ws' pc lc st cells slots) : GN X ws pc lc st cells slots := by
  intro H locs ls hl hg
  refine k H locs ls hl ⟨fun i q hq => ?_, ?_, hg.2.2⟩
  · obtain ⟨j, hj⟩ := List.getElem?_of_mem (hp.mem_iff.mpr (List.mem_of_getElem? hq))
    exact hg.1 j q hj
  · obtain ⟨h1, h2⟩ := va_D_nodup.mp hg.2.1
    exact va_D_nodup.mpr ⟨(hp.map Prod.fst).nodup h1, fun q hq => h2 q (hp.mem_iff.mpr hq)⟩
/-- a row of references counts up to its length alone -/
theorem gn_row {X : XT} {ws : va_W} {a n : Nat} {cA : ClassId} {f f' : Nat → Option Nat} {pc : Nat} {lc : List (Nat × Value)} {st : List Value} {cells slots : Nat} (q0 : Nat) {ws' : va_W} (ha : ws[q0]? = some (a, .inl (cA, n, .inr (.inr (.inr (.inr f)))))) (hf : ∀ j, j < n → f j = f' j) (hws : ws.set q0 (a, .inl (cA, n, .inr (.inr (.inr (.inr f'))))) = ws') (k : GN X ws' pc lc st cells slots) : GN X ws pc lc st cells slots := by
  subst hws
  intro H locs ls hl hg
  refine k H locs ls hl ⟨hg.1.set hg.2.1 ha ?_ (fun q _ => rfl), hg.2.1.set ha, hg.2.2⟩
  have := hg.1 q0 _ ha
  show H[a]? = some (vp_cell cA (n, .inr (.inr (.inr (.inr f')))))
  have e : vp_cell cA (n, .inr (.inr (.inr (.inr f)))) = vp_cell cA (n, .inr (.inr (.inr (.inr f')))) := by
    show arrV cA n (fun j => va_rf (f j)) = arrV cA n (fun j => va_rf (f' j))
    unfold arrV
    congr 1
    apply Array.ext
    · simp
    · intro i hi _
      rw [Array.size_ofFn] at hi
      simp [hf i hi]
  rw [← e]
  exact this
theorem gn_2nd {X : XT} {h x : Nat × va_E} {R : va_W} {pc : Nat} {lc : List (Nat × Value)} {st : List Value} {cells slots : Nat} (k : GN X (h :: x :: R) pc lc st cells slots) : GN X ((h :: R) ++ [x]) pc lc st cells slots :=
  gn_perm (List.Perm.cons h (List.perm_append_comm (l₁ := R) (l₂ := [x]))) k
theorem gn_3rd {X : XT} {h a x : Nat × va_E} {R : va_W} {pc : Nat} {lc : List (Nat × Value)} {st : List Value} {cells slots : Nat} (k : GN X (h :: a :: x :: R) pc lc st cells slots) : GN X ((h :: a :: R) ++ [x]) pc lc st cells slots :=
  gn_perm (List.Perm.cons h (List.Perm.cons a (List.perm_append_comm (l₁ := R) (l₂ := [x])))) k
theorem gn_4th {X : XT} {h a b x : Nat × va_E} {R t : va_W} {pc : Nat} {lc : List (Nat × Value)} {st : List Value} {cells slots : Nat} (k : GN X (h :: a :: b :: x :: (R ++ t)) pc lc st cells slots) : GN X ((h :: a :: b :: R) ++ (x :: t)) pc lc st cells slots :=
  gn_perm (List.Perm.cons h (List.Perm.cons a (List.Perm.cons b List.perm_middle))) k
theorem gn_L1 {X : XT} {h a b s x : Nat × va_E} {R : va_W} {pc : Nat} {lc : List (Nat × Value)} {st : List Value} {cells slots : Nat} (k : GN X ([x, s] ++ (h :: a :: b :: R)) pc lc st cells slots) : GN X ((h :: a :: b :: s :: R) ++ [x]) pc lc st cells slots := by
  refine gn_perm (ws' := [x, s] ++ (h :: a :: b :: R)) ?_ k
  refine (List.perm_append_comm (l₁ := h :: a :: b :: s :: R) (l₂ := [x])).trans ?_
  refine List.Perm.cons x ?_
  exact List.perm_middle (l₁ := [h, a, b]) (a := s) (l₂ := R)
theorem gn_L2 {X : XT} {h a b s x : Nat × va_E} {R t : va_W} {pc : Nat} {lc : List (Nat × Value)} {st : List Value} {cells slots : Nat} (k : GN X (h :: a :: b :: s :: (R ++ (x :: t))) pc lc st cells slots) : GN X ((x :: s :: t) ++ (h :: a :: b :: R)) pc lc st cells slots := by
  refine gn_perm (ws' := h :: a :: b :: s :: (R ++ (x :: t))) ?_ k
  refine (List.perm_append_comm (l₁ := x :: s :: t) (l₂ := h :: a :: b :: R)).trans ?_
  refine List.Perm.cons h (List.Perm.cons a (List.Perm.cons b ?_))
  refine (List.Perm.append_left R (List.Perm.swap s x t)).trans ?_
  exact List.perm_middle
