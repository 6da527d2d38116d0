/-! a row that grows: the field gets a new array, the old one is forgotten -/
def okg (x : Int32) (c s rc rs : Nat) : Bool := decide (0 ≤ x.toInt) && decide (x.toInt ≤ 1000000) && Nat.ble (c + 1) rc && Nat.ble (s + x.toNatClampNeg) rs
theorem okg_e {x : Int32} {c s rc rs : Nat} (h : okg x c s rc rs = true) : ¬ x < 0 ∧ x.toNatClampNeg ≤ 1000000 ∧ c + 1 ≤ rc ∧ s + x.toNatClampNeg ≤ rs := by
  simp only [okg, Bool.and_eq_true, decide_eq_true_eq] at h
  obtain ⟨⟨⟨h1, h2⟩, h3⟩, h4⟩ := h
  refine ⟨?_, ?_, Nat.le_of_ble_eq_true h3, Nat.le_of_ble_eq_true h4⟩
  · rw [Int32.lt_iff_toInt_lt, Int32.toInt_zero]; omega
  · show x.toInt.toNat ≤ _; omega
def wd_one (lay : List wd_E) (c k v : Nat) : Bool := (List.range lay.length).all fun j => match lay[j]? with
  | some (.inl o) => (List.range o.2.length).all fun k' => !(o.2[k']? == some (3, v)) || (Nat.beq j c && Nat.beq k' k)
  | _ => true
theorem wd_one_e {lay : List wd_E} {c k v : Nat} (h : wd_one lay c k v = true) {j k' : Nat} {o : Nat × List (Nat × Nat)} (hj : lay[j]? = some (.inl o)) (hk : o.2[k']? = some (3, v)) : j = c ∧ k' = k := by
  have h1 := List.all_eq_true.mp h j (List.mem_range.mpr (List.getElem?_eq_some_iff.mp hj).1)
  rw [hj] at h1
  have h2 := List.all_eq_true.mp h1 k' (List.mem_range.mpr (List.getElem?_eq_some_iff.mp hk).1)
  rw [hk] at h2
  simp only [beq_self_eq_true, Bool.not_true, Bool.false_or, Bool.and_eq_true] at h2
  exact ⟨Nat.eq_of_beq_eq_true h2.1, Nat.eq_of_beq_eq_true h2.2⟩
theorem wd_fv_g {q g : Nat → Nat} {S : wd_W} {v a i : Nat} {f : Nat × Nat} (h : f ≠ (3, v)) : wd_fv q (wd_set g v a) S i f = wd_fv q g S i f := by
  obtain ⟨x, y⟩ := f
  match x, h with
  | 0, _ => rfl
  | 1, _ => rfl
  | 2, _ => rfl
  | 3, h =>
    have hy : y ≠ v := fun e => h (by rw [e])
    show Value.ref (wd_set g v a y) = Value.ref (g y)
    rw [wd_set_ne hy]
  | n + 4, _ => rfl
theorem wd_fvs_g {q g : Nat → Nat} {S : wd_W} {v a : Nat} (fs : List (Nat × Nat)) (i : Nat) (h : ∀ k : Nat, fs[k]? ≠ some (3, v)) : wd_fvs q (wd_set g v a) S i fs = wd_fvs q g S i fs := by
  apply List.ext_getElem?
  intro j
  rw [wd_fvs_at, wd_fvs_at]
  cases he : fs[j]? with
  | none => rfl
  | some f => simp only [Option.map_some]; rw [wd_fv_g (fun e => h j (by rw [he, e]))]
theorem wd_fvs_gset {q g : Nat → Nat} {S : wd_W} {v a k : Nat} (fs : List (Nat × Nat)) (i : Nat) (hk : fs[k]? = some (3, v)) (h : ∀ k' : Nat, fs[k']? = some (3, v) → k' = k) : wd_fvs q (wd_set g v a) S i fs = (wd_fvs q g S i fs).set k (.ref a) := by
  apply List.ext_getElem?
  intro j
  by_cases hj : j = k
  · subst hj
    have hl : j < (wd_fvs q g S i fs).length := by rw [wd_fvs_len]; exact (List.getElem?_eq_some_iff.mp hk).1
    rw [List.getElem?_set_self hl, wd_fvs_at, hk]
    simp [wd_fv, wd_set_eq]
  · rw [List.getElem?_set_ne (Ne.symm hj), wd_fvs_at, wd_fvs_at]
    cases he : fs[j]? with
    | none => rfl
    | some f => simp only [Option.map_some]; rw [wd_fv_g (fun e => hj (h j (by rw [he, e])))]
theorem wd_ws_len (q g : Nat → Nat) (cy : Nat → ClassId) (S : wd_W) : ∀ (lay : List wd_E) (c : Nat), (wd_ws q g cy S c lay).length = lay.length := by
  intro lay
  induction lay with
  | nil => intro c; rfl
  | cons e t ih => intro c; simp [wd_ws, ih]
theorem wd_grown {q g : Nat → Nat} {cy : Nat → ClassId} {S S' : wd_W} {lay : List wd_E} {c k v a ci : Nat} {fs : List (Nat × Nat)} {ar : Nat × Nat × Nat × Nat} {y new : Nat × va_E} {D : va_G} {cl : List vw_C} {H : Heap} {A : Nat → Prop}
    (hc : lay[c]? = some (.inl (ci, fs))) (hk : fs[k]? = some (3, v)) (hv : lay[v]? = some (.inr ar)) (hone : wd_one lay c k v = true)
    (h1 : S'.1 = S.1) (h2 : S'.2.1 = S.2.1) (h3 : ∀ j, j ≠ v → S'.2.2.1 j = S.2.2.1 j ∧ S'.2.2.2.1 j = S.2.2.2.1 j ∧ S'.2.2.2.2 j = S.2.2.2.2 j)
    (hnew : wd_ent q (wd_set g v a) cy S' v (.inr ar) = new) (hy : y = (q c, .inr (ci, (wd_fvs q g S (100 * c) fs).set k (.ref a))))
    (hP : va_P D cl ((wd_ws q g cy S 0 lay ++ [new]).set c y) H) (hD : va_D A ((wd_ws q g cy S 0 lay ++ [new]).set c y)) : va_P D cl (wd_ws q (wd_set g v a) cy S' 0 lay) H ∧ va_D A (wd_ws q (wd_set g v a) cy S' 0 lay) := by
  have hcv : c ≠ v := by intro e; rw [e, hv] at hc; cases hc
  have hlc : c < lay.length := (List.getElem?_eq_some_iff.mp hc).1
  have hfv : ∀ (i : Nat) (f : List (Nat × Nat)), wd_fvs q (wd_set g v a) S' i f = wd_fvs q (wd_set g v a) S i f := fun i f => wd_fvs_ne f i (fun _ _ => ⟨by rw [h1], by rw [h2]⟩)
  have key : ∀ (j : Nat) (p : Nat × va_E), (wd_ws q (wd_set g v a) cy S' 0 lay)[j]? = some p → ((wd_ws q g cy S 0 lay ++ [new]).set c y)[if j = v then lay.length else j]? = some p := by
    intro j p hp
    rw [wd_ws_at] at hp
    cases he : lay[j]? with
    | none => rw [he] at hp; cases hp
    | some e =>
      rw [he] at hp
      simp only [Option.map_some, Option.some.injEq, Nat.zero_add] at hp
      have hjl : j < lay.length := (List.getElem?_eq_some_iff.mp he).1
      by_cases hjv : j = v
      · rw [if_pos hjv, List.getElem?_set_ne (by omega), List.getElem?_append_right (by rw [wd_ws_len]; exact Nat.le_refl _), wd_ws_len, Nat.sub_self]
        subst hjv
        rw [hv] at he
        cases he
        rw [← hp, hnew]; rfl
      · rw [if_neg hjv]
        by_cases hjc : j = c
        · subst hjc
          rw [List.getElem?_set_self (by rw [List.length_append, wd_ws_len]; omega)]
          rw [hc] at he
          cases he
          rw [← hp, hy]
          show some (q j, Sum.inr (ci, _)) = some (q j, Sum.inr (ci, wd_fvs q (wd_set g v a) S' (100 * j) fs))
          rw [hfv, wd_fvs_gset fs _ hk (fun k' hk' => (wd_one_e hone hc hk').2)]
        · rw [List.getElem?_set_ne (Ne.symm hjc), List.getElem?_append_left (by rw [wd_ws_len]; exact hjl), wd_ws_get he, ← hp]
          cases e with
          | inl ob =>
            show some (q j, Sum.inr (ob.1, wd_fvs q g S (100 * j) ob.2)) = some (q j, Sum.inr (ob.1, wd_fvs q (wd_set g v a) S' (100 * j) ob.2))
            rw [hfv, wd_fvs_g ob.2 _ (fun k' hk' => hjc (wd_one_e hone he hk').1)]
          | inr ar' =>
            obtain ⟨e1, e2, e3⟩ := h3 j hjv
            simp only [wd_ent, wd_arr, wd_len, e1, e2, e3, wd_set_ne hjv]
  refine ⟨fun j p hp => hP _ p (key j p hp), fun i j p r hp hr hpr => ?_, fun j p hp => hD.2 _ p (key j p hp)⟩
  have e := hD.1 _ _ p r (key i p hp) (key j r hr) hpr
  have hil : i < lay.length := by have := (List.getElem?_eq_some_iff.mp hp).1; rwa [wd_ws_len] at this
  have hjl : j < lay.length := by have := (List.getElem?_eq_some_iff.mp hr).1; rwa [wd_ws_len] at this
  split at e <;> split at e <;> omega
section GOG
variable {X : XT} {lay : List wd_E} {S0 : wd_W} {cc : ByteArray} {own : String} {nL : Nat} {rt : Option FieldType} {rm : Room}
variable {pc pc' : Nat} {lc : List (Nat × Value)} {st : List Value} {g : Nat → Nat} {L1 : List (Nat × Int32)} {L2 : List (Nat × Int64)} {L3 L3' : List (Nat × (Nat → Int32))} {L4 L4' : List (Nat × (Nat → Int64))} {L5 L5' : List (Nat × Nat)} {cells slots cells' slots' : Nat}
theorem go_growA (h : MC X lay cc own nL rt rm) {ref C : String} {T : u_T} {N ci idx n0 b0 rc rs : Nat} {fs : List (Nat × Nat)} {tyf : Nat → FieldType} {atype : ArrayType} {ty : FieldType} {tc : Nat} {x : Int32} (c k v : Nat) (hlay : lay[c]? = some (.inl (ci, fs))) (hk : fs[k]? = some (3, v)) (hv : lay[v]? = some (.inr (tc, 1, n0, b0))) (htc : (tc = 0 ∧ ty = .int) ∨ (tc = 1 ∧ ty = .byte) ∨ (tc = 2 ∧ ty = .boolean)) (hone : wd_one lay c k v = true) (hc : vwCl[ci]? = some (C, T, N)) (hin : ∀ w ∈ u_ws C T N, w ∈ wAll) (hty : ∀ k, k < N → parseFieldDescriptor (T k).2.2.1 = some (tyf k)) (hnm : ∀ a, a < N → ∀ b, b < N → a ≠ b → (T a).2.1 ≠ (T b).2.1) (hkN : k < N) (hw : Cond.fieldLink own idx ref (T k).2.1 (T k).2.2.1 ∈ wAll) (hs : (T k).1 = ref) (hfin : (T k).2.2.2 = false) (hnar : ∀ q, narrow (tyf k) (.ref q) = .ref q) (hfit : ∀ q, fits (tyf k) (.ref q) = true) (hac : Cond.arrayClass ty ∈ wAll) (hat : newarray.typeOf atype = ty) (hd : decode cc pc = .ok (.newarray atype, 2)) (hd2 : decode cc (pc + 2) = .ok (.putfield idx, 3)) (hp : pc + 5 = pc') (hok : okg x cells slots rc rs = true) (hrc : rm.cells = rc) (hrs : rm.slots = rs) (hky : (wd_lk L3 v).isSome = true) (hky5 : (wd_lk L5 v).isSome = true) (hL : wd_sl L3 v (fun _ => 0) = L3') (hL5 : wd_sl L5 v x.toNatClampNeg = L5') (hcl : cells + 1 = cells') (hsl : slots + x.toNatClampNeg = slots') (kk : ∀ g' : Nat → Nat, Go X lay S0 pc' lc st g' L1 L2 L3' L4 L5' cells' slots') : Go X lay S0 pc lc (.int x :: .ref (x_q X c) :: st) g L1 L2 L3 L4 L5 cells slots := by
  subst hp
  subst hcl
  subst hsl
  intro H locs ls hl hg
  obtain ⟨o1, o2, o3, o4⟩ := okg_e hok
  have hR : x_R X = rm := h.2.2.2.2.2.2.2.2.2.2.1
  have hlc : c < lay.length := (List.getElem?_eq_some_iff.mp hlay).1
  refine va_newa (D := x_D X) h.1 h.2.1 (by rw [hat]; exact h.2.2.2.2.2.1 _ hac) hat h.2.2.2.2.2.2.1 hg.1 hg.2.1 hg.2.2 h.2.2.2.2.2.2.2.2.2.1 (a0 := (x.toNatClampNeg, .inl (fun _ => 0))) (fun cA => by rcases htc with ⟨rfl, rfl⟩ | ⟨rfl, rfl⟩ | ⟨rfl, rfl⟩ <;> rfl) o1 rfl (by rcases htc with ⟨rfl, rfl⟩ | ⟨rfl, rfl⟩ | ⟨rfl, rfl⟩ <;> simp [componentBytes] <;> omega) (by rw [hR, hrc]; exact o3) (by rw [hR, hrs]; exact o4) hd (fun q cA H1 hK1 hP1 hD1 hS1 => ?_)
  refine va_put (D := x_D X) (ci := ci) (C := C) (T := T) (N := N) h.1 h.2.1 h.2.2.2.2.2.1 hin tyf hty hnm h.2.2.2.2.1 hK1 hP1 hD1 hS1 c (fs := wd_fvs (x_q X) g (wd_o S0 L1 L2 L3 L4 L5) (100 * c) fs) (by rw [List.getElem?_append_left (by rw [wd_ws_len]; exact hlc)]; exact wd_ws_get hlay) hc k hkN (h.2.2.2.2.2.1 _ hw) (fun _ h9 => hs ▸ h9) hfin (hty k hkN) (hnar q) (hfit q) (by rw [wd_fvs_len]; exact (List.getElem?_eq_some_iff.mp hk).1) hd2 (fun H2 locs2 hP2 hD2 hS2 => ?_)
  have hcy : cA = x_cy X tc := by
    have e2 := (hK1.2 6 (cA, ty) rfl).2
    rcases htc with ⟨rfl, rfl⟩ | ⟨rfl, rfl⟩ | ⟨rfl, rfl⟩
    · exact Option.some.inj (e2.symm.trans (h.2.2.2.2.2.2.1.2 0 (x_cy X 0, .int) rfl).2)
    · exact Option.some.inj (e2.symm.trans (h.2.2.2.2.2.2.1.2 1 (x_cy X 1, .byte) rfl).2)
    · exact Option.some.inj (e2.symm.trans (h.2.2.2.2.2.2.1.2 2 (x_cy X 2, .boolean) rfl).2)
  obtain ⟨hP3, hD3⟩ := wd_grown (q := x_q X) (g := g) (cy := x_cy X) (S := wd_o S0 L1 L2 L3 L4 L5) (a := q) (S' := wd_sN (wd_sA (wd_o S0 L1 L2 L3 L4 L5) v (fun _ => 0)) v x.toNatClampNeg) hlay hk hv hone rfl rfl (fun j hj => ⟨wd_set_ne hj, rfl, wd_set_ne hj⟩) (show _ = (q, .inl (cA, (x.toNatClampNeg, .inl (fun _ => 0)))) from by rw [hcy]; exact (by rcases htc with ⟨rfl, rfl⟩ | ⟨rfl, rfl⟩ | ⟨rfl, rfl⟩ <;> simp [wd_ent, wd_arr, wd_len, wd_sA, wd_sN, wd_set_eq] <;> rfl)) rfl hP2 hD2
  have hSS : wd_sN (wd_sA (wd_o S0 L1 L2 L3 L4 L5) v (fun _ => 0)) v x.toNatClampNeg = wd_o S0 L1 L2 L3' L4 L5' := by
    rw [wd_o_sA hky, hL]
    show (_, _, _, _, wd_set (wd_ov S0.2.2.2.2 L5) v x.toNatClampNeg) = _
    rw [wd_ov_sl hky5, hL5]; rfl
  rw [hSS] at hP3 hD3
  exact kk _ H2 locs2 ls hl ⟨hP3, hD3, hS2⟩
theorem go_growB (h : MC X lay cc own nL rt rm) {ref C : String} {T : u_T} {N ci idx n0 b0 rc rs : Nat} {fs : List (Nat × Nat)} {tyf : Nat → FieldType} {atype : ArrayType}  {x : Int32} (c k v : Nat) (hlay : lay[c]? = some (.inl (ci, fs))) (hk : fs[k]? = some (3, v)) (hv : lay[v]? = some (.inr (3, 1, n0, b0)))  (hone : wd_one lay c k v = true) (hc : vwCl[ci]? = some (C, T, N)) (hin : ∀ w ∈ u_ws C T N, w ∈ wAll) (hty : ∀ k, k < N → parseFieldDescriptor (T k).2.2.1 = some (tyf k)) (hnm : ∀ a, a < N → ∀ b, b < N → a ≠ b → (T a).2.1 ≠ (T b).2.1) (hkN : k < N) (hw : Cond.fieldLink own idx ref (T k).2.1 (T k).2.2.1 ∈ wAll) (hs : (T k).1 = ref) (hfin : (T k).2.2.2 = false) (hnar : ∀ q, narrow (tyf k) (.ref q) = .ref q) (hfit : ∀ q, fits (tyf k) (.ref q) = true) (hac : Cond.arrayClass .long ∈ wAll) (hat : newarray.typeOf atype = .long) (hd : decode cc pc = .ok (.newarray atype, 2)) (hd2 : decode cc (pc + 2) = .ok (.putfield idx, 3)) (hp : pc + 5 = pc') (hok : okg x cells slots rc rs = true) (hrc : rm.cells = rc) (hrs : rm.slots = rs) (hky : (wd_lk L4 v).isSome = true) (hky5 : (wd_lk L5 v).isSome = true) (hL : wd_sl L4 v (fun _ => 0) = L4') (hL5 : wd_sl L5 v x.toNatClampNeg = L5') (hcl : cells + 1 = cells') (hsl : slots + x.toNatClampNeg = slots') (kk : ∀ g' : Nat → Nat, Go X lay S0 pc' lc st g' L1 L2 L3 L4' L5' cells' slots') : Go X lay S0 pc lc (.int x :: .ref (x_q X c) :: st) g L1 L2 L3 L4 L5 cells slots := by
  subst hp
  subst hcl
  subst hsl
  intro H locs ls hl hg
  obtain ⟨o1, o2, o3, o4⟩ := okg_e hok
  have hR : x_R X = rm := h.2.2.2.2.2.2.2.2.2.2.1
  have hlc : c < lay.length := (List.getElem?_eq_some_iff.mp hlay).1
  refine va_newa (D := x_D X) h.1 h.2.1 (by rw [hat]; exact h.2.2.2.2.2.1 _ hac) hat h.2.2.2.2.2.2.1 hg.1 hg.2.1 hg.2.2 h.2.2.2.2.2.2.2.2.2.1 (a0 := (x.toNatClampNeg, .inr (.inl (fun _ => 0)))) (fun cA => rfl) o1 rfl (by simp [componentBytes]; omega) (by rw [hR, hrc]; exact o3) (by rw [hR, hrs]; exact o4) hd (fun q cA H1 hK1 hP1 hD1 hS1 => ?_)
  refine va_put (D := x_D X) (ci := ci) (C := C) (T := T) (N := N) h.1 h.2.1 h.2.2.2.2.2.1 hin tyf hty hnm h.2.2.2.2.1 hK1 hP1 hD1 hS1 c (fs := wd_fvs (x_q X) g (wd_o S0 L1 L2 L3 L4 L5) (100 * c) fs) (by rw [List.getElem?_append_left (by rw [wd_ws_len]; exact hlc)]; exact wd_ws_get hlay) hc k hkN (h.2.2.2.2.2.1 _ hw) (fun _ h9 => hs ▸ h9) hfin (hty k hkN) (hnar q) (hfit q) (by rw [wd_fvs_len]; exact (List.getElem?_eq_some_iff.mp hk).1) hd2 (fun H2 locs2 hP2 hD2 hS2 => ?_)
  have hcy : cA = x_cy X 3 := by
    have e2 := (hK1.2 6 (cA, .long) rfl).2
    exact Option.some.inj (e2.symm.trans (h.2.2.2.2.2.2.1.2 3 (x_cy X 3, .long) rfl).2)
  obtain ⟨hP3, hD3⟩ := wd_grown (q := x_q X) (g := g) (cy := x_cy X) (S := wd_o S0 L1 L2 L3 L4 L5) (a := q) (S' := wd_sN (wd_sB (wd_o S0 L1 L2 L3 L4 L5) v (fun _ => 0)) v x.toNatClampNeg) hlay hk hv hone rfl rfl (fun j hj => ⟨rfl, wd_set_ne hj, wd_set_ne hj⟩) (show _ = (q, .inl (cA, (x.toNatClampNeg, .inr (.inl (fun _ => 0))))) from by rw [hcy]; exact (by simp [wd_ent, wd_arr, wd_len, wd_sB, wd_sN, wd_set_eq] <;> rfl)) rfl hP2 hD2
  have hSS : wd_sN (wd_sB (wd_o S0 L1 L2 L3 L4 L5) v (fun _ => 0)) v x.toNatClampNeg = wd_o S0 L1 L2 L3 L4' L5' := by
    rw [wd_o_sB hky, hL]
    show (_, _, _, _, wd_set (wd_ov S0.2.2.2.2 L5) v x.toNatClampNeg) = _
    rw [wd_ov_sl hky5, hL5]; rfl
  rw [hSS] at hP3 hD3
  exact kk _ H2 locs2 ls hl ⟨hP3, hD3, hS2⟩
end GOG
/-- room that is left -/
def okr (c s rc rs RC RS : Nat) : Bool := Nat.ble (c + rc) RC && Nat.ble (s + rs) RS
theorem okr_c {c s rc rs RC RS : Nat} (h : okr c s rc rs RC RS = true) : c + rc ≤ RC := by
  simp only [okr, Bool.and_eq_true] at h
  exact Nat.le_of_ble_eq_true h.1
theorem okr_s {c s rc rs RC RS : Nat} (h : okr c s rc rs RC RS = true) : s + rs ≤ RS := by
  simp only [okr, Bool.and_eq_true] at h
  exact Nat.le_of_ble_eq_true h.2
/-- so many can be copied -/
def okc (n : Int32) (a b : Nat) : Bool := decide (0 ≤ n.toInt) && Nat.ble n.toNatClampNeg a && Nat.ble n.toNatClampNeg b
theorem okc_e {n : Int32} {a b : Nat} (h : okc n a b = true) : ¬ n < 0 ∧ (0 : Int32).toNatClampNeg + n.toNatClampNeg ≤ a ∧ (0 : Int32).toNatClampNeg + n.toNatClampNeg ≤ b := by
  simp only [okc, Bool.and_eq_true, decide_eq_true_eq] at h
  obtain ⟨⟨h1, h2⟩, h3⟩ := h
  have h0 : (0 : Int32).toNatClampNeg = 0 := by decide
  rw [h0]
  refine ⟨?_, by have := Nat.le_of_ble_eq_true h2; omega, by have := Nat.le_of_ble_eq_true h3; omega⟩
  rw [Int32.lt_iff_toInt_lt, Int32.toInt_zero]; omega
