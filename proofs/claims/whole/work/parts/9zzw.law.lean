/-! THE CLAIM OUT OF ONE WALK OF THE LAW'S BODY. Your part is whole_start (and what it stands on); all else here is the same for every law, but numbers. -/
def R_law : String := "LetterThroughLaw"
def lw_P (b : Addr) (xs : List Int32) (args : Array Value) (s : State) : Prop := args = #[.ref b] ∧ s.IntsAt b xs ∧ xs.length ≤ 3072 ∧ (Jvm.Cond.and given_1 narrow_1).before args s = true
def lw_Q (_ : Array Value) (s : State) (o : Outcome) (t : State) : Prop := o = .returned (some (.int 1)) ∧ Framed s o t [] 600000 7302250
def lw_Z (below : List Frame) (a : Array Value) (s : State) : State → Prop := fun t => ∃ o, t.status = .running ∧ Ended t below o ∧ lw_Q a s o t
/-- the law's own end, with 1 on the stack, nothing written that was there before, its room as the claim has it -/
theorem lw_ret {p : Program} {l : Launch} {e : Env} {s : State} {m : MethodId} {below : List Frame} {meth : Method} {c : Code} {b : Nat} (hx : p.tables.exec = Jvm.exec) (hb : c.code = code) (hr : meth.sig.returnType = ret) (hlocks : meth.locks = false) {pc : Nat} {H : Heap} {ls : Array Slot} (hdg : decode code pc = .ok (.ireturn, 1)) : W p l e room_1 s m #[Value.ref b] below meth c H [] 600000 7302250 (lw_Z below #[Value.ref b] s) (F0 m pc ls [.int 1]) := by
  intro T hT X
  obtain ⟨fs, hret, hrun, hended, hW, hframe⟩ := X.leave (v := some (.int 1)) (hlocks := hlocks) (fun h => by rw [hr] at h; cases h)
  have hmeth' : T.vm.method? m = some meth := X.method'
  refine ⟨T.setFrames fs, ?_, .returned (some (.int 1)), hrun, hended, rfl, ⟨_, rfl⟩, hW, hframe⟩
  jvm_step X.here [X.here.top, hx, hb, hdg, hmeth', hr, ret, narrow_b1]
  (try refine ⟨rfl, ?_⟩); (try refine ⟨rfl, ?_⟩)
  first | (intro acts; rw [hret _ acts rfl rfl rfl]) | rw [hret _ _ rfl rfl rfl]
  exact Steps.refl _
/-- what holds at the law's entry: the machine, the code, the tables' words (any of lw_tbl by 'hts w (by decide +kernel)'), the script of L ints xs at the cell b, what the Statement gives of the start (any of its parts by flat_of_before) -/
def lw_At (p : Program) (s : State) (m : MethodId) (meth : Method) (c : Code) (b L : Nat) (xs : Nat → Int32) : Prop :=
  p.tables.exec = Jvm.exec ∧ c.code = code ∧ meth.sig.returnType = ret ∧ c.maxLocals = 4 ∧ s.vm.findClass R_law = some m.cls ∧ (∀ w ∈ lw_tbl, w.before #[Value.ref b] s = true) ∧ va_X b L xs s s.heap ∧ b < s.heap.size ∧ meth.locks = false ∧ (Jvm.Cond.and given_1 narrow_1).before #[Value.ref b] s = true

theorem dfX11_ok : ∀ j, j < 17 → defaultValue (tyX11 j) = vp_V [.null, .null, .null, .null, .null, .null, .int 0, .int 0, .int 0, .int 0, .null, .null, .null, .null, .null, .null, .null] j := by
  intro j hj
  match j, hj with
  | 0, _ => rfl
  | 1, _ => rfl
  | 2, _ => rfl
  | 3, _ => rfl
  | 4, _ => rfl
  | 5, _ => rfl
  | 6, _ => rfl
  | 7, _ => rfl
  | 8, _ => rfl
  | 9, _ => rfl
  | 10, _ => rfl
  | 11, _ => rfl
  | 12, _ => rfl
  | 13, _ => rfl
  | 14, _ => rfl
  | 15, _ => rfl
  | 16, _ => rfl
  | n + 17, h => exact absurd h (by omega)
/-- from the entry to the loop -/
theorem law_all {X : XT} {rt : Option FieldType} (h : NC X cL_law RL 4 rt room_1) {b L : Nat} {xs : Nat → Int32} (hX : va_X b L xs (x_s X) (x_s X).heap) (hbl : b < (x_s X).heap.size) (hbA : ¬ (x_A X) b) (hL : L ≤ 3072) (fin : ∀ (ws : va_W) (lc : List (Nat × Value)) (c s : Nat), c ≤ 600000 → s ≤ 7302250 → GN X ws 1386 lc [.int 1] c s) : GN X [] 0 [(0, .ref b)] [] 0 0 := by
  obtain ⟨o, ho, hR⟩ := first
  refine gn_new (T := TX11) (ci := 11) (fs := [.null, .null, .null, .null, .null, .null, .int 0, .int 0, .int 0, .int 0, .null, .null, .null, .null, .null, .null, .null]) (pc' := 3) (cells' := 1) (slots' := 17) h rfl inlX11 tyX11_ok mw_0 mw_1 mw_2 dfX11_ok (Nat.le_of_ble_eq_true rfl) (Nat.le_of_ble_eq_true rfl) dL_law_0 rfl rfl rfl (fun q1 => ?_)
  refine gn_dup (pc' := 4) h dL_law_3 rfl rfl ?_
  refine gn_callI (n := 0) (rc := ({ frames := 3, cells := 160, slots := 2195, locals := 83 } : Room)) (As := []) (pre := [(q1, .inr (11, [.null, .null, .null, .null, .null, .null, .int 0, .int 0, .int 0, .int 0, .null, .null, .null, .null, .null, .null, .null]))]) (rest := []) (st := [.ref q1]) (pc' := 7) (cells' := 161) (slots' := 2212) h dL_law_4 ⟨mw_6, mw_8, mw_2, ⟨by decide +kernel, by decide +kernel⟩, by decide +kernel, Nat.le_of_ble_eq_true rfl, Nat.le_of_ble_eq_true rfl, Nat.le_of_ble_eq_true rfl, Nat.le_of_ble_eq_true rfl⟩ mw_7 rfl rfl rfl (Nat.le_of_ble_eq_true rfl) (k_X11_init (x_l X) (x_D X) (x_cy X) (x_z X) q1) rfl rfl rfl rfl (fun r1 => ?_)
  refine gn_eq (List.append_nil _) ?_
  refine gn_astore_n (lc' := [(0, .ref b), (1, .ref q1)]) (pc' := 8) h dL_law_7 (by decide) rfl rfl ?_
  refine gn_new (T := TX12) (ci := 12) (fs := [.null, .int 0, .null, .int 0, .null, .null, .int 0, .null, .null, .null, .int 0, .int 0, .int 0, .int 0, .int 0, .int 0, .int 0, .int 0, .int 0, .int 0, .int 0, .int 0, .null, .null, .null, .null, .null, .null, .null, .null, .int 0, .int 0, .int 0, .null, .int 0, .int 0, .int 0, .int 0, .int 0, .int 0, .null, .null, .null, .null, .int 0, .null, .null, .null, .null, .null, .null, .int 0, .null, .null, .null, .int 0, .int 0, .int 0, .null, .null, .int 0, .null, .null, .null, .long 0, .null, .null, .int 0, .null, .null, .null, .null, .int 0, .null, .null, .null, .null, .null, .null, .null, .int 0]) (pc' := 11) (cells' := 162) (slots' := 2293) h rfl inlX12 tyX12_ok mw_3 mw_4 mw_5 dfX12_ok (Nat.le_of_ble_eq_true rfl) (Nat.le_of_ble_eq_true rfl) dL_law_8 rfl rfl rfl (fun q2 => ?_)
  refine gn_swap ?_
  refine gn_dup (pc' := 12) h dL_law_11 rfl rfl ?_
  refine gn_callI (n := 0) (rc := ({ frames := 2, cells := 47, slots := 159180, locals := 60 } : Room)) (As := []) (pre := [(q2, .inr (12, [.null, .int 0, .null, .int 0, .null, .null, .int 0, .null, .null, .null, .int 0, .int 0, .int 0, .int 0, .int 0, .int 0, .int 0, .int 0, .int 0, .int 0, .int 0, .int 0, .null, .null, .null, .null, .null, .null, .null, .null, .int 0, .int 0, .int 0, .null, .int 0, .int 0, .int 0, .int 0, .int 0, .int 0, .null, .null, .null, .null, .int 0, .null, .null, .null, .null, .null, .null, .int 0, .null, .null, .null, .int 0, .int 0, .int 0, .null, .null, .int 0, .null, .null, .null, .long 0, .null, .null, .int 0, .null, .null, .null, .null, .int 0, .null, .null, .null, .null, .null, .null, .null, .int 0]))]) (rest := wd_ws (rq q1 r1) (rq q1 r1) (x_cy X) S0X 0 layX) (st := [.ref q2]) (pc' := 15) (cells' := 209) (slots' := 161473) h dL_law_12 ⟨mw_176, mw_178, mw_5, ⟨by decide +kernel, by decide +kernel⟩, by decide +kernel, Nat.le_of_ble_eq_true rfl, Nat.le_of_ble_eq_true rfl, Nat.le_of_ble_eq_true rfl, Nat.le_of_ble_eq_true rfl⟩ mw_177 rfl rfl rfl (Nat.le_of_ble_eq_true rfl) (k_X12_init (x_l X) (x_D X) (x_cy X) (x_z X) q2 o ho) rfl rfl rfl rfl (fun r2 => ?_)
  refine gn_swap ?_
  refine gn_astore_n (lc' := [(0, .ref b), (1, .ref q1), (2, .ref q2)]) (pc' := 16) h dL_law_15 (by decide) rfl rfl ?_
  refine gn_iconst (v := 0) (pc' := 17) h dL_law_16 (by decide) rfl ?_
  refine gn_istore_n (lc' := [(0, .ref b), (1, .ref q1), (2, .ref q2), (3, .int 0)]) (pc' := 18) h dL_law_17 (by decide) rfl rfl ?_
  exact law_loop h hX hbl hbA (qx := rq q1 r1) (qm := rq q2 r2) hL fin 512 0 (rq q1 r1) (rq q2 r2) S0X (S2M o) 209 161473 (Nat.le_refl _) (Nat.zero_le _) hR (Nat.le_of_ble_eq_true rfl) (Nat.le_trans (Nat.le_of_ble_eq_true rfl : 161473 ≤ 200000) (Nat.le_add_right _ _))
theorem whole_start {p : Program} {e : Env} {s : State} {m : MethodId} {below : List Frame} {meth : Method} {c : Code} (l : Launch) (hflags : l.flags = flags0) {b L : Nat} {xs : Nat → Int32} (hL : L ≤ 3072) (C0 : lw_At p s m meth c b L xs) : W p l e room_1 s m #[Value.ref b] below meth c s.heap [] 0 0 (lw_Z below #[Value.ref b] s) (entryFrame m ([Value.ref b] : List Value).toArray 4) := by
  obtain ⟨hx, hb, hr, hml, hown, hts, hX, hbl, hlocks, hgv⟩ := C0
  have hA : ∀ q : Nat, s.heap.size ≤ q → (fun q : Nat => s.heap.size ≤ q) q := fun _ h => h
  have hbA : ¬ (fun q : Nat => s.heap.size ≤ q) b := Nat.not_le.mpr hbl
  obtain ⟨D, cy, hK⟩ := va_K_first hts
  obtain ⟨z, hST⟩ := ST_first (A := fun q : Nat => s.heap.size ≤ q) hts hgv (fun a ha => Nat.not_le.mpr ha)
  have hN : NC ((p, l, e, room_1, s, m, #[Value.ref b], below, meth, c, lw_Z below #[Value.ref b] s, 4, D, fun _ => 0, cy, (fun q : Nat => s.heap.size ≤ q), (fun _ => 0, fun _ => 0, fun _ _ => 0, fun _ _ => 0, fun _ => 0), z) : XT) cL_law RL 4 ret room_1 :=
    ⟨⟨hx, hb, hml, rfl, hown, hw_all hts, hK, hlocks, hr, hA, rfl, hST, rfl⟩, ao_land hts, ao_notes hts⟩
  have hl := lv_entry ([.ref b]) (n := 4) (Nat.le_of_ble_eq_true rfl)
  rw [lg_entry_eq]
  generalize (lg_sl ([.ref b]) ++ List.replicate (4 - (lg_sl ([.ref b])).length) Slot.unset).toArray = ls at hl ⊢
  refine law_all hN hX hbl hbA hL ?_ s.heap [] ls hl ⟨fun k q h => by simp at h, ⟨fun i j p q h => by simp at h, fun k q h => by simp at h⟩, va_S.rf⟩
  intro ws lc c1 s1 h1 h2 H locs ls' hl' hg
  refine va_forget (fun q hq => hg.2.2.2.2 q hq) ?_
  exact W.widen (k := 600000) (n := 7302250) h1 h2 (lw_ret hx hb hr hlocks dL_law_1386)
