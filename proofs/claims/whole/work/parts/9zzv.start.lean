/-! what the law finds at its start -/
theorem hw_all {s : State} {b : Nat} (hts : ∀ w ∈ lw_tbl, w.before #[Value.ref b] s = true) : ∀ w ∈ wAll, w.before #[Value.ref b] s = true := fun w hw => hts w (wsL_law_in w hw)
def ty_at (k : Nat) : FieldType := match k with
  | 0 => .int
  | 1 => .byte
  | 2 => .boolean
  | 3 => .long
  | 4 => .object "LetterThrough$Land"
  | _ => .object "LetterThrough$Notes"
theorem ty_class {args : Array Value} {s : State} {ty : FieldType} (h : (Cond.arrayClass ty).before args s = true) : ∃ cA : ClassId, ArrOfT s cA ty ∧ s.vm.findClass ("[" ++ ty.toString) = some cA := by
  obtain ⟨c, k, comp, h1, h2, h3⟩ := Cond.arrayClass_spec h
  exact ⟨c, fun n z => ⟨(fun k h => by cases h), k, h2, comp, h3⟩, h1⟩
theorem ty_over {args : Array Value} {s : State} {C : String} (h : (Cond.arrayOver (.object C)).before args s = true) : ∃ cA : ClassId, ArrOfT s cA (.object C) ∧ va_RA s cA (.object C) := by
  obtain ⟨comp, c, k, h1, h2, h3, h4, h5⟩ := Cond.arrayOver_spec h
  exact ⟨c, fun n z => ⟨(fun k h => by cases h), k, h3, comp, h4⟩, k, comp, h3, h4, h1, h5⟩
theorem ty_all {s : State} {b : Nat} (hts : ∀ w ∈ lw_tbl, w.before #[Value.ref b] s = true) : ∀ k : Nat, ∃ cA : ClassId, ArrOfT s cA (ty_at k) ∧ va_RA s cA (ty_at k)
  | 0 => ty_class (hw_all hts _ mw_59)
  | 1 => ty_class (hw_all hts _ mw_95)
  | 2 => ty_class (hw_all hts _ mw_190)
  | 3 => ty_class (hw_all hts _ mw_91)
  | 4 => ty_over (hts _ (tb_1 _ (List.mem_of_getElem? (i := 199) rfl)))
  | n + 5 => ty_over (hts _ (tb_1 _ (List.mem_of_getElem? (i := 200) rfl)))
theorem cl_all {s : State} {b : Nat} (hts : ∀ w ∈ lw_tbl, w.before #[Value.ref b] s = true) : ∀ k : Nat, ∃ (c : ClassId) (i : Nat → Nat), ∀ q : vw_C, vwCl[k]? = some q → u_Kn s q.1 q.2.1 q.2.2 c i
  | 0 => by
    obtain ⟨c, i, h⟩ := u_known (C := RX0) (T := TX0) (N := 9) (n := 9) hts inX0 (hw_all hts _ mw_39)
    exact ⟨c, i, fun q hq => by cases hq; exact h⟩
  | 1 => by
    obtain ⟨c, i, h⟩ := u_known (C := RX1) (T := TX1) (N := 8) (n := 8) hts inX1 (hw_all hts _ mw_47)
    exact ⟨c, i, fun q hq => by cases hq; exact h⟩
  | 2 => by
    obtain ⟨c, i, h⟩ := u_known (C := RX2) (T := TX2) (N := 18) (n := 18) hts inX2 (hw_all hts _ mw_13)
    exact ⟨c, i, fun q hq => by cases hq; exact h⟩
  | 3 => by
    obtain ⟨c, i, h⟩ := u_known (C := RX3) (T := TX3) (N := 8) (n := 8) hts inX3 (hw_all hts _ mw_34)
    exact ⟨c, i, fun q hq => by cases hq; exact h⟩
  | 4 => by
    obtain ⟨c, i, h⟩ := u_known (C := RX4) (T := TX4) (N := 3) (n := 3) hts inX4 (hw_all hts _ mw_51)
    exact ⟨c, i, fun q hq => by cases hq; exact h⟩
  | 5 => by
    obtain ⟨c, i, h⟩ := u_known (C := RX5) (T := TX5) (N := 6) (n := 6) hts inX5 (hw_all hts _ mw_43)
    exact ⟨c, i, fun q hq => by cases hq; exact h⟩
  | 6 => by
    obtain ⟨c, i, h⟩ := u_known (C := RX6) (T := TX6) (N := 8) (n := 8) hts inX6 (hw_all hts _ mw_22)
    exact ⟨c, i, fun q hq => by cases hq; exact h⟩
  | 7 => by
    obtain ⟨c, i, h⟩ := u_known (C := RX7) (T := TX7) (N := 10) (n := 10) hts inX7 (hw_all hts _ mw_98)
    exact ⟨c, i, fun q hq => by cases hq; exact h⟩
  | 8 => by
    obtain ⟨c, i, h⟩ := u_known (C := RX8) (T := TX8) (N := 9) (n := 9) hts inX8 (hw_all hts _ mw_30)
    exact ⟨c, i, fun q hq => by cases hq; exact h⟩
  | 9 => by
    obtain ⟨c, i, h⟩ := u_known (C := RX9) (T := TX9) (N := 7) (n := 7) hts inX9 (hw_all hts _ mw_17)
    exact ⟨c, i, fun q hq => by cases hq; exact h⟩
  | 10 => by
    obtain ⟨c, i, h⟩ := u_known (C := RX10) (T := TX10) (N := 5) (n := 5) hts inX10 (hw_all hts _ mw_102)
    exact ⟨c, i, fun q hq => by cases hq; exact h⟩
  | 11 => by
    obtain ⟨c, i, h⟩ := u_known (C := RX11) (T := TX11) (N := 17) (n := 17) hts inX11 (hw_all hts _ mw_1)
    exact ⟨c, i, fun q hq => by cases hq; exact h⟩
  | 12 => by
    obtain ⟨c, i, h⟩ := u_known (C := RX12) (T := TX12) (N := 81) (n := 81) hts inX12 (hw_all hts _ mw_4)
    exact ⟨c, i, fun q hq => by cases hq; exact h⟩
  | n + 13 => ⟨0, fun _ => 0, fun q hq => by cases hq⟩
theorem va_K_first {s : State} {b : Nat} (hts : ∀ w ∈ lw_tbl, w.before #[Value.ref b] s = true) : ∃ (D : va_G) (cy : Nat → ClassId), va_K D vwCl (wd_tys cy) s := by
  obtain ⟨c, hc⟩ := Classical.axiomOfChoice (cl_all hts)
  obtain ⟨i, hi⟩ := Classical.axiomOfChoice hc
  obtain ⟨cy, hy⟩ := Classical.axiomOfChoice (ty_all hts)
  refine ⟨(c, i), cy, fun k q hq => hi k q hq, fun k q hq => ?_⟩
  match k, hq with
  | 0, hq => cases hq; exact hy 0
  | 1, hq => cases hq; exact hy 1
  | 2, hq => cases hq; exact hy 2
  | 3, hq => cases hq; exact hy 3
  | 4, hq => cases hq; exact hy 4
  | 5, hq => cases hq; exact hy 5
  | n + 6, hq => cases hq
def fl_1 : List Cond := flatC (Jvm.Cond.and given_1 narrow_1)
theorem fl_pow1 : Cond.arrayOf (.static "LetterThrough$Looks" "POWERS" "[I") .int ∈ fl_1 := by decide +kernel
theorem fl_pow2 : Cond.eq (.length (.static "LetterThrough$Looks" "POWERS" "[I")) (.int (Int32.ofNat 10)) ∈ fl_1 := by decide +kernel
theorem fl_pow3 : ∀ j, j < 10 → Cond.eq (.elem (.static "LetterThrough$Looks" "POWERS" "[I") (.int (Int32.ofNat j))) (.int (st_pow j)) ∈ fl_1 := by decide +kernel
theorem fl_com : Cond.eq (.static "java/lang/String" "COMPACT_STRINGS" "Z") (.int 1) ∈ fl_1 := by decide +kernel
theorem fl_sio : Cond.isRef (.static "jdk/internal/util/Preconditions" "SIOOBE_FORMATTER" "Ljava/util/function/BiFunction;") ∈ fl_1 := by decide +kernel
def st_tm (i : Nat) : Term := Term.string "LetterThrough$Tape" (st_ent.getD i 0)
theorem fl_ex : ∀ i, i < 11 → Cond.exactly (st_tm i) "java/lang/String" ∈ fl_1 := by decide +kernel
theorem fl_co : ∀ i, i < 11 → Cond.eq (.field (st_tm i) "java/lang/String" "coder" "B") (.int 0) ∈ fl_1 := by decide +kernel
theorem fl_ar : ∀ i, i < 11 → Cond.arrayOf (.field (st_tm i) "java/lang/String" "value" "[B") .byte ∈ fl_1 := by decide +kernel
theorem fl_le : ∀ i, i < 11 → Cond.eq (.length (.field (st_tm i) "java/lang/String" "value" "[B")) (.int (Int32.ofNat (st_len.getD i 0))) ∈ fl_1 := by decide +kernel
theorem fl_el : ∀ i, i < 11 → ∀ j, j < st_len.getD i 0 → Cond.eq (.elem (.field (st_tm i) "java/lang/String" "value" "[B") (.int (Int32.ofNat j))) (.int ((st_byt.getD i []).getD j 0)) ∈ fl_1 := by decide +kernel
theorem fl_ne : ∀ i, i < 11 → ∀ j, j < 11 → i ≠ j → Cond.not (Cond.eq (st_tm i) (st_tm j)) ∈ fl_1 ∨ Cond.not (Cond.eq (st_tm j) (st_tm i)) ∈ fl_1 := by decide +kernel
theorem st_ref : ∀ i : Nat, i < 11 → Cond.stringRef "LetterThrough$Tape" (st_ent.getD i 0) (st_txt.getD i "") ∈ lw_tbl
  | 0, _ => (tb_3 _ (List.mem_of_getElem? (i := 89) rfl))
  | 1, _ => (tb_3 _ (List.mem_of_getElem? (i := 161) rfl))
  | 2, _ => (tb_3 _ (List.mem_of_getElem? (i := 182) rfl))
  | 3, _ => (tb_3 _ (List.mem_of_getElem? (i := 183) rfl))
  | 4, _ => (tb_3 _ (List.mem_of_getElem? (i := 188) rfl))
  | 5, _ => (tb_3 _ (List.mem_of_getElem? (i := 201) rfl))
  | 6, _ => (tb_3 _ (List.mem_of_getElem? (i := 206) rfl))
  | 7, _ => (tb_3 _ (List.mem_of_getElem? (i := 211) rfl))
  | 8, _ => (tb_3 _ (List.mem_of_getElem? (i := 220) rfl))
  | 9, _ => (tb_3 _ (List.mem_of_getElem? (i := 221) rfl))
  | 10, _ => (tb_3 _ (List.mem_of_getElem? (i := 222) rfl))
  | n + 11, h => absurd h (by omega)
theorem ST_first {s : State} {b : Nat} {A : Nat → Prop} (hts : ∀ w ∈ lw_tbl, w.before #[Value.ref b] s = true) (hgv : (Jvm.Cond.and given_1 narrow_1).before #[Value.ref b] s = true) (hA : ∀ a : Nat, a < s.heap.size → ¬ A a) : ∃ z : (Nat → Nat) × (Nat → Nat) × Nat, ST z A s s.heap := by
  have hs : ∀ c ∈ fl_1, c.before #[Value.ref b] s = true := flat_of_before _ hgv
  obtain ⟨t, ht, hT⟩ := va_Tof (tm := .static "LetterThrough$Looks" "POWERS" "[I") (ty := .int) (N := 10) (f := fun j => .int (st_pow j)) (by decide) (hs _ fl_pow1) (va_eqt (hs _ fl_pow2)) (fun j hj => va_eqt (hs _ (fl_pow3 j hj))) hA
  obtain ⟨adK, adV, hv, he⟩ := vk_Sof (tm := st_tm) (len := st_len) (byt := st_byt) (N := 11) (fun i hi => (show ∀ i, i < 11 → st_len.getD i 0 < 2 ^ 31 by decide) i hi) (fun i hi => hs _ (fl_ex i hi)) (fun i hi => hs _ (fl_co i hi)) (fun i hi => hs _ (fl_ar i hi)) (fun i hi => hs _ (fl_le i hi)) (fun i hi j hj => hs _ (fl_el i hi j hj)) (fun i j hi hj hne => (fl_ne i hi j hj hne).imp (hs _) (hs _)) hA
  refine ⟨(adK, adV, t), va_Zref (hts _ (tb_4 _ (List.mem_of_getElem? (i := 209) rfl))) (hts _ (tb_1 _ (List.mem_of_getElem? (i := 12) rfl))) ht hA, hT, va_Zof (hts _ (tb_3 _ (List.mem_of_getElem? (i := 103) rfl))) (hts _ (tb_1 _ (List.mem_of_getElem? (i := 14) rfl))) (va_eqi (hs _ fl_com)) hA, va_Zqof (hts _ (tb_3 _ (List.mem_of_getElem? (i := 119) rfl))) (hts _ (tb_1 _ (List.mem_of_getElem? (i := 16) rfl))) (hs _ fl_sio) hA, hv, fun i hi => vk_R.of (hts _ (st_ref i hi)) (he i hi)⟩
theorem ao_land {s : State} {b : Nat} (hts : ∀ w ∈ lw_tbl, w.before #[Value.ref b] s = true) : va_AO "LetterThrough$Land" s := va_AO.of (hts _ (tb_1 _ (List.mem_of_getElem? (i := 199) rfl)))
theorem ao_notes {s : State} {b : Nat} (hts : ∀ w ∈ lw_tbl, w.before #[Value.ref b] s = true) : va_AO "LetterThrough$Notes" s := va_AO.of (hts _ (tb_1 _ (List.mem_of_getElem? (i := 200) rfl)))
