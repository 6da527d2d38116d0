/-! worlds of any cells: constructors and the law -/
def SE (z : (Nat → Nat) × (Nat → Nat) × Nat) (A : Nat → Prop) (U : State) (H : Heap) : Prop := ST z A U H ∧ va_AO "LetterThrough$Land" U ∧ va_AO "LetterThrough$Notes" U
def GPre (D : va_G) (cy : Nat → ClassId) (z : (Nat → Nat) × (Nat → Nat) × Nat) (As : List Value) (pre : va_W) (sz : Nat) : Array Value → State → Prop :=
  va_Pc As (fun U => U.heap.size = sz ∧ va_P D vwCl pre U.heap ∧ va_K D vwCl (wd_tys cy) U ∧ va_D (fun _ => True) pre ∧ SE z (va_A pre sz) U U.heap)
def GPost (D : va_G) (post : (Nat → Nat) → va_W) (A : Nat → Prop) : Array Value → State → Outcome → State → Prop := fun _ st o t =>
  (∃ r : Nat → Nat, o = .returned none ∧ va_P D vwCl (post r) t.heap ∧ va_D A (post r)) ∧ va_F A st t
/-- a constructor's contract: a world ahead, a world behind -/
def CX (l : Launch) (y : MethodName) (cc : ByteArray) (maxL : Nat) (rm : Room) (D : va_G) (cy : Nat → ClassId) (z : (Nat → Nat) × (Nat → Nat) × Nat) (As : List Value) (pre : va_W) (post : (Nat → Nat) → va_W) (mc ms : Nat) : Prop :=
  ∀ sz : Nat, Met l y (Cond.code y cc maxL none :: wAll) rm (GPre D cy z As pre sz) (GPost D post (va_A pre sz)) mc ms (va_A pre sz)
theorem GPre_blind {D : va_G} {cy : Nat → ClassId} {z : (Nat → Nat) × (Nat → Nat) × Nat} {As : List Value} {pre : va_W} {sz : Nat} : FrameBlind (GPre D cy z As pre sz) := by
  intro a U f mk h
  obtain ⟨h1, h2, h3, h4, h5, h6, h7, h8⟩ := h
  exact ⟨h1, h2, h3, va_K.moved (u := U) (U := U.calling f mk a) (Vm.Alike.refl U.vm) h4, h5, ST.same (s := U) (U := U.calling f mk a) rfl h6, va_AO.moved (u := U) (U := U.calling f mk a) (Vm.Alike.refl U.vm) h7, va_AO.moved (u := U) (U := U.calling f mk a) (Vm.Alike.refl U.vm) h8⟩
def KP (X : XT) (ws : va_W) (H : Heap) (locs : List Loc) : Prop := va_P (x_D X) vwCl ws H ∧ va_D (x_A X) ws ∧ va_S (x_A X) (x_s X).heap H locs
def GN (X : XT) (ws : va_W) (pc : Nat) (lc : List (Nat × Value)) (st : List Value) (cells slots : Nat) : Prop :=
  ∀ (H : Heap) (locs : List Loc) (ls : Array Slot), lv_has ls (x_nL X) lc → KP X ws H locs → W (x_p X) (x_l X) (x_e X) (x_R X) (x_s X) (x_m X) (x_args X) (x_below X) (x_meth X) (x_c X) H locs cells slots (x_Q X) (F0 (x_m X) pc ls st)
def NC (X : XT) (cc : ByteArray) (own : String) (nL : Nat) (rt : Option FieldType) (rm : Room) : Prop := MC X [] cc own nL rt rm ∧ va_AO "LetterThrough$Land" (x_s X) ∧ va_AO "LetterThrough$Notes" (x_s X)
/-! parts of a world -/
theorem va_P_app {D : va_G} {cl : List vw_C} {a b : va_W} {H : Heap} (h : va_P D cl (a ++ b) H) : va_P D cl a H ∧ va_P D cl b H := by
  refine ⟨fun k q hk => ?_, fun k q hk => ?_⟩
  · refine h k q ?_
    rw [List.getElem?_append_left (List.getElem?_eq_some_iff.mp hk).1]; exact hk
  · refine h (a.length + k) q ?_
    rw [List.getElem?_append_right (by omega), Nat.add_sub_cancel_left]; exact hk
theorem va_D_app {A : Nat → Prop} {a b : va_W} (h : va_D A (a ++ b)) : va_D A a ∧ va_D A b ∧ ∀ (i j : Nat) (p q : Nat × va_E), a[i]? = some p → b[j]? = some q → p.1 ≠ q.1 := by
  have la : ∀ (k : Nat) (q : Nat × va_E), a[k]? = some q → (a ++ b)[k]? = some q := fun k q hk => by
    rw [List.getElem?_append_left (List.getElem?_eq_some_iff.mp hk).1]; exact hk
  have lb : ∀ (k : Nat) (q : Nat × va_E), b[k]? = some q → (a ++ b)[a.length + k]? = some q := fun k q hk => by
    rw [List.getElem?_append_right (by omega), Nat.add_sub_cancel_left]; exact hk
  refine ⟨⟨fun i j p q hp hq e => h.1 i j p q (la i p hp) (la j q hq) e, fun k q hk => h.2 k q (la k q hk)⟩, ⟨fun i j p q hp hq e => ?_, fun k q hk => h.2 _ q (lb k q hk)⟩, fun i j p q hp hq e => ?_⟩
  · have := h.1 _ _ p q (lb i p hp) (lb j q hq) e
    omega
  · have := h.1 _ _ p q (la i p hp) (lb j q hq) e
    have := (List.getElem?_eq_some_iff.mp hp).1
    omega
theorem va_D_swap {A : Nat → Prop} {a b : va_W} (h : va_D A (a ++ b)) : va_D A (b ++ a) := by
  obtain ⟨h1, h2, h3⟩ := va_D_app h
  exact va_D.app h2 h1 (fun i j p q hp hq e => h3 j i q p hq hp e.symm)
theorem gn_swap {X : XT} {a b : va_W} {pc : Nat} {lc : List (Nat × Value)} {st : List Value} {cells slots : Nat} (k : GN X (b ++ a) pc lc st cells slots) : GN X (a ++ b) pc lc st cells slots := by
  intro H locs ls hl hg
  have hp := va_P_app hg.1
  exact k H locs ls hl ⟨va_P.app hp.2 hp.1, va_D_swap hg.2.1, hg.2.2⟩
/-- the same cells in another order -/
theorem gn_sub {X : XT} {ws ws' : va_W} {pc : Nat} {lc : List (Nat × Value)} {st : List Value} {cells slots : Nat} (is : List Nat) (hn : va_nd is = true) (hs : is.map (fun i => ws[i]?) = ws'.map some) (k : GN X ws' pc lc st cells slots) : GN X ws pc lc st cells slots := by
  intro H locs ls hl hg
  refine k H locs ls hl ⟨?_, hg.2.1.sub is hn hs, hg.2.2⟩
  refine hg.1.sub is ?_
  have : (is.filterMap (fun i => ws[i]?)) = (is.map (fun i => ws[i]?)).filterMap id := by
    rw [List.filterMap_map]; rfl
  rw [this, hs, List.filterMap_map]
  show ws'.filterMap (fun x => some x) = ws'
  exact List.filterMap_some
theorem gn_eq {X : XT} {ws ws' : va_W} {pc : Nat} {lc : List (Nat × Value)} {st : List Value} {cells slots : Nat} (hs : ws = ws') (k : GN X ws' pc lc st cells slots) : GN X ws pc lc st cells slots := by subst hs; exact k
theorem gn_widen {X : XT} {ws : va_W} {pc : Nat} {lc : List (Nat × Value)} {st : List Value} {cells slots c2 s2 : Nat} (h1 : cells ≤ c2) (h2 : slots ≤ s2) (k : GN X ws pc lc st c2 s2) : GN X ws pc lc st cells slots := by
  intro H locs ls hl hg
  exact W.widen (k := c2) (n := s2) h1 h2 (k H locs ls hl hg)
/-- behind a call: the callee's world, the rest as it was -/
theorem kp_join {D : va_G} {A : Nat → Prop} {pre rest pw : va_W} {H H1 : Heap} (hP : va_P D vwCl (pre ++ rest) H) (hD : va_D A (pre ++ rest)) (hA : ∀ q, va_A pre H.size q → A q) (hk : ∀ q : Nat, q < H.size → ¬ va_A pre H.size q → H1[q]? = H[q]?) (hP1 : va_P D vwCl pw H1) (hD1 : va_D (va_A pre H.size) pw) : va_P D vwCl (pw ++ rest) H1 ∧ va_D A (pw ++ rest) := by
  have hp := va_P_app hP
  obtain ⟨d1, d2, d3⟩ := va_D_app hD
  have apart : ∀ (k : Nat) (q : Nat × va_E), rest[k]? = some q → q.1 < H.size ∧ ¬ va_A pre H.size q.1 := by
    intro k q hq
    have hl := (hp.2 k q hq).lt
    refine ⟨hl, fun h => ?_⟩
    rcases h with ⟨k2, e, h⟩ | h
    · exact d3 k2 k (q.1, e) q h hq rfl
    · omega
  refine ⟨va_P.app hP1 (hp.2.kept (fun k q hq => ?_)), va_D.app (hD1.weaken (fun k q _ h => hA q.1 h)) d2 (fun i j x y hx hy hxy => ?_)⟩
  · obtain ⟨g1, g2⟩ := apart k q hq
    exact hk q.1 g1 g2
  · obtain ⟨g1, g2⟩ := apart j y hy
    exact g2 (hxy ▸ hD1.2 i x hx)
theorem gn_pre {X : XT} {cc : ByteArray} {own : String} {nL : Nat} {rt : Option FieldType} {rm : Room} {As : List Value} (h : NC X cc own nL rt rm) {pre rest : va_W} {H : Heap} {locs : List Loc} (hg : KP X (pre ++ rest) H locs) {U : State} (hU : U.heap = H) (hW : (x_s X).WarmedH U.vm) : GPre (x_D X) (x_cy X) (x_z X) As pre H.size As.toArray U := by
  obtain ⟨h, ha, hb⟩ := h
  have hp := (va_P_app hg.1).1
  have hd := (va_D_app hg.2.1).1
  refine ⟨rfl, by rw [hU], by rw [hU]; exact hp, h.2.2.2.2.2.2.1.moved hW.alike, hd.weaken (fun _ _ _ _ => trivial), ?_, va_AO.moved hW.alike ha, va_AO.moved hW.alike hb⟩
  rw [hU]
  refine (ST.kept ?_ (hg.2.2.2.1)).narrow ?_
  · exact ST.warm hW h.2.2.2.2.2.2.2.2.2.2.2.1
  · intro q hq
    rcases hq with ⟨k, e, hk⟩ | hq
    · exact hd.2 k (q, e) hk
    · exact h.2.2.2.2.2.2.2.2.2.1 q (Nat.le_trans hg.2.2.1 hq)
theorem gn_A {X : XT} {cc : ByteArray} {own : String} {nL : Nat} {rt : Option FieldType} {rm : Room} (h : NC X cc own nL rt rm) {pre rest : va_W} {H : Heap} {locs : List Loc} (hg : KP X (pre ++ rest) H locs) : ∀ q, va_A pre H.size q → (x_A X) q := by
  intro q hq
  rcases hq with ⟨k, e, hk⟩ | hq
  · exact (va_D_app hg.2.1).1.2 k (q, e) hk
  · exact h.1.2.2.2.2.2.2.2.2.2.1 q (Nat.le_trans hg.2.2.1 hq)
/-- what a call leaves behind it -/
theorem gn_behind {X : XT} {cc : ByteArray} {own : String} {nL : Nat} {rt : Option FieldType} {rm : Room} (h : NC X cc own nL rt rm) {pre rest pw : va_W} {H : Heap} {locs : List Loc} (hg : KP X (pre ++ rest) H locs) {H1 : Heap} {L : List Loc} (hz : H.size ≤ H1.size) (hk : ∀ q : Nat, q < H.size → ¬ va_A pre H.size q → H1[q]? = H[q]?) (hL : ∀ q ∈ L, va_A pre H.size q.base) (hP1 : va_P (x_D X) vwCl pw H1) (hD1 : va_D (va_A pre H.size) pw) : KP X (pw ++ rest) H1 (locs ++ L) := by
  have hA := gn_A h hg
  obtain ⟨j1, j2⟩ := kp_join hg.1 hg.2.1 hA hk hP1 hD1
  refine ⟨j1, j2, Nat.le_trans hg.2.2.1 hz, fun q h1 h2 => ?_, fun q hq => ?_⟩
  · rw [hk q (Nat.lt_of_lt_of_le h1 hg.2.2.1) (fun z => h2 (hA q z))]
    exact hg.2.2.2.1 q h1 h2
  · rcases List.mem_append.mp hq with hq | hq
    · exact hg.2.2.2.2 q hq
    · exact hA _ (hL q hq)
section GNC
variable {X : XT} {cc : ByteArray} {own : String} {nL : Nat} {rt : Option FieldType} {rm : Room} {ws rest : va_W}
variable {pc pc' : Nat} {lc lc' : List (Nat × Value)} {st st' st0 : List Value} {cells slots cells' slots' : Nat}
/-- a constructor's call -/
theorem gn_callI {y : MethodName} {bytes : ByteArray} {maxL n idx b : Nat} {rc : Room} {As : List Value} {pre : va_W} {post : (Nat → Nat) → va_W} {mc ms : Nat} (h : NC X cc own nL rt rm) (hd : decode cc pc = .ok (.invokespecial idx, 3)) (hc : CM X rm cells slots own idx y bytes maxL none n rc) (hwi : Cond.instanceMethod y ∈ wAll) (hin : y.name = "<init>")
    (hst : st0 = As.reverse ++ .ref b :: st) (hn : As.length = n) (hcat : (st.map fun v => v.category).sum ≤ 8)
    (hM : CX (x_l X) y bytes maxL rc (x_D X) (x_cy X) (x_z X) (.ref b :: As) pre post mc ms)
    (hw : ws = pre ++ rest) (hp : pc + 3 = pc') (hcl' : cells + mc = cells') (hsl' : slots + ms = slots') (k : ∀ r : Nat → Nat, GN X (post r ++ rest) pc' lc st cells' slots') : GN X ws pc lc st0 cells slots := by
  subst hcl'
  subst hsl'
  subst hst
  subst hp
  subst hw
  intro H locs ls hl hg T0 hT XS
  obtain ⟨c1, c2, c3, c4, c5, c6, c7, c8, c9⟩ := hc
  have h1 := h.1
  have hts := h1.2.2.2.2.2.1
  have hR : x_R X = rm := h1.2.2.2.2.2.2.2.2.2.2.1
  have hK : Back (x_l X) (x_R X) (x_p X) (x_e X) (x_below X) (x_s X) (x_args X) y 3 8 (PrX (x_R X) rc (GPre (x_D X) (x_cy X) (x_z X) (.ref b :: As) pre H.size)) (PostOf (GPost (x_D X) post (va_A pre H.size)) mc ms (va_A pre H.size)) := by
    refine bk_of (bytes := bytes) (maxL := maxL) (ret := none) (hM H.size) GPre_blind (by rw [hR]; exact c6) (by rw [hR]; exact c7) ?_ List.mem_cons_self ?_
    · intro w hw a' U hW
      rcases List.mem_cons.mp hw with e | e
      · subst e; exact word_at hW (wAll_goodIn c2) (hts _ c2)
      · exact word_at hW (wAll_goodIn e) (hts _ e)
    · intro a' U hW
      exact word_at hW (wAll_goodIn c3) (hts _ c3)
  obtain ⟨v, vm₁, ⟨U', l2, c2', s2⟩, hW₁, XB, hpost, stp⟩ := callI XS h1.1 (bytes := bytes) (maxL := maxL) h1.2.2.2.2.1 hin (hts _ c1) (hts _ hwi) (hts _ c2) c4 hK (g := F0 (x_m X) pc ls (As.reverse ++ .ref b :: st)) rfl (by rw [h1.2.2.1]; exact hl.1.trans h1.2.2.2.1) (a := b) (argsL := As) (rest := st) (fun sig hs => by rw [hs] at c5; exact hn.trans (Option.some.inj c5).symm) rfl (lv_room hcat) (by rw [h1.2.1]; exact hd)
    (fun vm₁ hW₁ => ⟨by rw [hR]; exact c8, by rw [hR]; exact c9, gn_pre h hg (U := T0.setVm vm₁) hT hW₁⟩)
  obtain ⟨g', mk, t, L, a1, a2, ⟨⟨r, hv, hP1, hD1⟩, hz, hk⟩, a3, hL, a4, a5⟩ := hpost
  dsimp only [Pt.U, Pt.locs, Pt.cells, Pt.slots] at XB a1 a2 a3 a4 a5
  have hv2 : v = none := Outcome.returned.inj hv
  subst hv2
  subst a3; subst a4; subst a5
  have hst : ((T0.setVm vm₁).calling g' mk (.ref b :: As).toArray).heap = H := hT
  rw [hst] at hz hk
  obtain ⟨t2, b1, b2⟩ := k r U'.heap (locs ++ L) ls hl (gn_behind h hg (by rw [a1]; exact hz) (fun q q1 q2 => by rw [a1]; exact hk q q1 q2) hL (by rw [a1]; exact hP1) hD1) U' rfl XB
  exact ⟨t2, stp t2 b1, b2⟩
/-- a method of a system whose whole world is there -/
theorem gn_callX {lay : List wd_E} {q g : Nat → Nat} {S S' : wd_W} {y : MethodName} {bytes : ByteArray} {maxL n idx ci N b : Nat} {C : String} {T : u_T} {fs : List (Nat × Nat)} {rt' : Option FieldType} {rc : Room} {As : List Value} {al : Bool} {ret : Option Value} {mc ms : Nat} (h : NC X cc own nL rt rm) (hd : decode cc pc = .ok (.invokevirtual idx, 3)) (hc : CM X rm cells slots own idx y bytes maxL rt' n rc) (hwi : Cond.instanceMethod y ∈ wAll) (hws : Cond.selects C y y ∈ wAll)
    (hlay : lay[b]? = some (.inl (ci, fs))) (hcl : vwCl[ci]? = some (C, T, N)) (hst : st0 = As.reverse ++ .ref (q b) :: st) (hn : As.length = n) (hcat : (st.map fun v => v.category).sum ≤ 8)
    (hM : MX lay (x_l X) y bytes maxL rt' rc (x_D X) q g (x_cy X) (x_z X) (.ref (q b) :: As) S al ret S' mc ms)
    (hp : pc + 3 = pc') (hst' : ret.toList ++ st = st') (hcl' : cells + mc = cells') (hsl' : slots + ms = slots') (k : ∀ g' : Nat → Nat, (al = false → g' = g) → GN X (wd_ws q g' (x_cy X) S' 0 lay ++ rest) pc' lc st' cells' slots') : GN X (wd_ws q g (x_cy X) S 0 lay ++ rest) pc lc st0 cells slots := by
  subst hcl'
  subst hsl'
  subst hst
  subst hst'
  subst hp
  intro H locs ls hl hg T0 hT XS
  obtain ⟨c1, c2, c3, c4, c5, c6, c7, c8, c9⟩ := hc
  have h1 := h.1
  have hts := h1.2.2.2.2.2.1
  have hR : x_R X = rm := h1.2.2.2.2.2.2.2.2.2.2.1
  obtain ⟨cellB, hcB, hoB, hclB⟩ := va_recv h1.2.2.2.2.2.2.1 (va_P_app hg.1).1 hcl (wd_ws_get (q := q) (g := g) (cy := x_cy X) (S := S) hlay)
  have hK : Back (x_l X) (x_R X) (x_p X) (x_e X) (x_below X) (x_s X) (x_args X) y 3 8 (PrX (x_R X) rc (PP lay (x_D X) q g (x_cy X) (x_z X) (.ref (q b) :: As) S H.size)) (PostOf (PQ lay (x_D X) q g al (x_cy X) ret S' (va_A (wd_ws q g (x_cy X) S 0 lay) H.size)) mc ms (va_A (wd_ws q g (x_cy X) S 0 lay) H.size)) := by
    refine bk_of (bytes := bytes) (maxL := maxL) (ret := rt') (hM H.size) PP_blind (by rw [hR]; exact c6) (by rw [hR]; exact c7) ?_ List.mem_cons_self ?_
    · intro w hw a' U hW
      rcases List.mem_cons.mp hw with e | e
      · subst e; exact word_at hW (wAll_goodIn c2) (hts _ c2)
      · exact word_at hW (wAll_goodIn e) (hts _ e)
    · intro a' U hW
      exact word_at hW (wAll_goodIn c3) (hts _ c3)
  obtain ⟨v, vm₁, ⟨U', l2, c2', s2⟩, hW₁, XB, hpost, stp⟩ := callV XS h1.1 (C := C) (bytes := bytes) (maxL := maxL) (ret := rt') h1.2.2.2.2.1 (hts _ c1) (hts _ hwi) (hts _ hws) (hts _ c2) c4 hK (by rw [hT]; exact hcB) hoB hclB (g := F0 (x_m X) pc ls (As.reverse ++ .ref (q b) :: st)) rfl (by rw [h1.2.2.1]; exact hl.1.trans h1.2.2.2.1) (argsL := As) (rest := st) (fun sig hs => by rw [hs] at c5; exact hn.trans (Option.some.inj c5).symm) rfl (lv_room hcat) (by rw [h1.2.1]; exact hd)
    (fun vm₁ hW₁ => ⟨by rw [hR]; exact c8, by rw [hR]; exact c9, by
      obtain ⟨p1, p2, p3, p4, p5, p6, -, -⟩ := gn_pre (As := .ref (q b) :: As) h hg (U := T0.setVm vm₁) hT hW₁
      exact ⟨p1, p2, p3, p4, p5, p6⟩⟩)
  obtain ⟨g', mk, t, L, a1, a2, ⟨⟨g2, hge, hv, hP1, hD1⟩, hz, hk⟩, a3, hL, a4, a5⟩ := hpost
  dsimp only [Pt.U, Pt.locs, Pt.cells, Pt.slots] at XB a1 a2 a3 a4 a5
  have hv2 : v = ret := Outcome.returned.inj hv
  subst hv2
  subst a3; subst a4; subst a5
  have hst : ((T0.setVm vm₁).calling g' mk (.ref (q b) :: As).toArray).heap = H := hT
  rw [hst] at hz hk
  obtain ⟨t2, b1, b2⟩ := k g2 hge U'.heap (locs ++ L) ls hl (gn_behind h hg (by rw [a1]; exact hz) (fun q q1 q2 => by rw [a1]; exact hk q q1 q2) hL (by rw [a1]; exact hP1) hD1) U' rfl XB
  exact ⟨t2, stp t2 b1, b2⟩
/-! instructions -/
theorem gn_iconst (h : NC X cc own nL rt rm) {n : Int} {v : Int32} (hd : decode cc pc = .ok (.iconst n, 1)) (hv : Int32.ofInt n = v) (hp : pc + 1 = pc') (k : GN X ws pc' lc (.int v :: st) cells slots) : GN X ws pc lc st cells slots := by
  subst hp
  intro H locs ls hl hg
  exact lv_iconst h.1.1 h.1.2.1 hd hv (k H locs ls hl hg)
theorem gn_bipush (h : NC X cc own nL rt rm) {n : Int} {v : Int32} (hd : decode cc pc = .ok (.bipush n, 2)) (hv : (Int8.ofInt n).toInt32 = v) (hp : pc + 2 = pc') (k : GN X ws pc' lc (.int v :: st) cells slots) : GN X ws pc lc st cells slots := by
  subst hp
  intro H locs ls hl hg
  exact lv_bipush h.1.1 h.1.2.1 hd hv (k H locs ls hl hg)
theorem gn_sipush (h : NC X cc own nL rt rm) {n : Int} {v : Int32} (hd : decode cc pc = .ok (.sipush n, 3)) (hv : (Int16.ofInt n).toInt32 = v) (hp : pc + 3 = pc') (k : GN X ws pc' lc (.int v :: st) cells slots) : GN X ws pc lc st cells slots := by
  subst hp
  intro H locs ls hl hg
  exact lv_sipush h.1.1 h.1.2.1 hd hv (k H locs ls hl hg)
theorem gn_iload_n (h : NC X cc own nL rt rm) {n : Fin 4} {x : Int32} (hd : decode cc pc = .ok (.iload_n n, 1)) (hi : wd_lk lc (n : Nat) = some (.int x)) (hp : pc + 1 = pc') (k : GN X ws pc' lc (.int x :: st) cells slots) : GN X ws pc lc st cells slots := by
  subst hp
  intro H locs ls hl hg
  exact lv_iload_n h.1.1 h.1.2.1 hd rfl (lc_at hl hi) (k H locs ls hl hg)
theorem gn_aload_n (h : NC X cc own nL rt rm) {n : Fin 4} {x : Nat} (hd : decode cc pc = .ok (.aload_n n, 1)) (hi : wd_lk lc (n : Nat) = some (.ref x)) (hp : pc + 1 = pc') (k : GN X ws pc' lc (.ref x :: st) cells slots) : GN X ws pc lc st cells slots := by
  subst hp
  intro H locs ls hl hg
  exact lv_aload_n h.1.1 h.1.2.1 hd rfl (lc_at hl hi) (k H locs ls hl hg)
theorem gn_istore_n (h : NC X cc own nL rt rm) {n : Fin 4} {x : Int32} (hd : decode cc pc = .ok (.istore_n n, 1)) (hn : (n : Nat) < nL) (hp : pc + 1 = pc') (hl' : lc_put (lc.filter (lc_cl false (n : Nat))) (n : Nat) (.int x) = lc') (k : GN X ws pc' lc' st cells slots) : GN X ws pc lc (.int x :: st) cells slots := by
  subst hp
  intro H locs ls hl hg
  refine lv_istore_n h.1.1 h.1.2.1 hd rfl hl (by rw [h.1.2.2.2.1]; exact hn) rfl (fun ls' hl2 => k H locs ls' (lc_got hl2 hl' rfl) hg)
theorem gn_astore_n (h : NC X cc own nL rt rm) {n : Fin 4} {x : Nat} (hd : decode cc pc = .ok (.astore_n n, 1)) (hn : (n : Nat) < nL) (hp : pc + 1 = pc') (hl' : lc_put (lc.filter (lc_cl false (n : Nat))) (n : Nat) (.ref x) = lc') (k : GN X ws pc' lc' st cells slots) : GN X ws pc lc (.ref x :: st) cells slots := by
  subst hp
  intro H locs ls hl hg
  refine lv_astore_n h.1.1 h.1.2.1 hd rfl hl (by rw [h.1.2.2.2.1]; exact hn) rfl (fun ls' hl2 => k H locs ls' (lc_got hl2 hl' rfl) hg)
theorem gn_iinc (h : NC X cc own nL rt rm) {i : Nat} {n : Int} {x v : Int32} (hd : decode cc pc = .ok (.iinc i n, 3)) (hi : wd_lk lc i = some (.int x)) (hv : Int32.ofInt n = v) (hn : i < nL) (hp : pc + 3 = pc') (hl' : lc_put (lc.filter (lc_cl false i)) i (.int (x + v)) = lc') (k : GN X ws pc' lc' st cells slots) : GN X ws pc lc st cells slots := by
  subst hp
  subst hv
  intro H locs ls hl hg
  obtain ⟨k0, hk0⟩ := lc_place hi
  refine lv_iinc h.1.1 h.1.2.1 hd hl hk0 rfl (by rw [h.1.2.2.2.1]; exact hn) rfl (fun ls' hl2 => k H locs ls' (lc_got hl2 hl' rfl) hg)
theorem gn_iadd (h : NC X cc own nL rt rm) {x y : Int32} (hd : decode cc pc = .ok (.iadd, 1)) (hp : pc + 1 = pc') (k : GN X ws pc' lc (.int (x + y) :: st) cells slots) : GN X ws pc lc (.int y :: .int x :: st) cells slots := by
  subst hp
  intro H locs ls hl hg
  exact lv_iadd h.1.1 h.1.2.1 hd (k H locs ls hl hg)
theorem gn_isub (h : NC X cc own nL rt rm) {x y : Int32} (hd : decode cc pc = .ok (.isub, 1)) (hp : pc + 1 = pc') (k : GN X ws pc' lc (.int (x - y) :: st) cells slots) : GN X ws pc lc (.int y :: .int x :: st) cells slots := by
  subst hp
  intro H locs ls hl hg
  exact lv_isub h.1.1 h.1.2.1 hd (k H locs ls hl hg)
theorem gn_iand (h : NC X cc own nL rt rm) {x y : Int32} (hd : decode cc pc = .ok (.iand, 1)) (hp : pc + 1 = pc') (k : GN X ws pc' lc (.int (x &&& y) :: st) cells slots) : GN X ws pc lc (.int y :: .int x :: st) cells slots := by
  subst hp
  intro H locs ls hl hg
  exact lv_iand h.1.1 h.1.2.1 hd (k H locs ls hl hg)
theorem gn_lcmp (h : NC X cc own nL rt rm) {x y : Int64} (hd : decode cc pc = .ok (.lcmp, 1)) (hp : pc + 1 = pc') (k : GN X ws pc' lc (.int (lg_cmp x y) :: st) cells slots) : GN X ws pc lc (.long y :: .long x :: st) cells slots := by
  subst hp
  intro H locs ls hl hg
  exact W.lcmp h.1.1 h.1.2.1 hd (k H locs ls hl hg)
theorem gn_dup (h : NC X cc own nL rt rm) {va : Value} (hd : decode cc pc = .ok (.dup, 1)) (ha : va.category = 1) (hp : pc + 1 = pc') (k : GN X ws pc' lc (va :: va :: st) cells slots) : GN X ws pc lc (va :: st) cells slots := by
  subst hp
  intro H locs ls hl hg
  exact lv_dup h.1.1 h.1.2.1 hd ha (k H locs ls hl hg)
theorem gn_if_eq (h : NC X cc own nL rt rm) {x : Int32} {off : Int} {tgt : Nat} (hd : decode cc pc = .ok (.ifCond .eq off, 3)) (ht : (pc : Int) + off = (tgt : Int)) (hp : pc + 3 = pc') (kt : x = 0 → GN X ws tgt lc st cells slots) (kf : ¬ x = 0 → GN X ws pc' lc st cells slots) : GN X ws pc lc (.int x :: st) cells slots := by
  subst hp
  intro H locs ls hl hg
  exact lv_if_eq h.1.1 h.1.2.1 hd ht (fun q => kt q H locs ls hl hg) (fun q => kf q H locs ls hl hg)
theorem gn_icmp_eq (h : NC X cc own nL rt rm) {x y : Int32} {off : Int} {tgt : Nat} (hd : decode cc pc = .ok (.if_icmp .eq off, 3)) (ht : (pc : Int) + off = (tgt : Int)) (hp : pc + 3 = pc') (kt : x = y → GN X ws tgt lc st cells slots) (kf : ¬ x = y → GN X ws pc' lc st cells slots) : GN X ws pc lc (.int y :: .int x :: st) cells slots := by
  subst hp
  intro H locs ls hl hg
  exact lv_icmp_eq h.1.1 h.1.2.1 hd ht (fun q => kt q H locs ls hl hg) (fun q => kf q H locs ls hl hg)
theorem gn_icmp_ge (h : NC X cc own nL rt rm) {x y : Int32} {off : Int} {tgt : Nat} (hd : decode cc pc = .ok (.if_icmp .ge off, 3)) (ht : (pc : Int) + off = (tgt : Int)) (hp : pc + 3 = pc') (kt : y ≤ x → GN X ws tgt lc st cells slots) (kf : ¬ y ≤ x → GN X ws pc' lc st cells slots) : GN X ws pc lc (.int y :: .int x :: st) cells slots := by
  subst hp
  intro H locs ls hl hg
  exact lv_icmp_ge h.1.1 h.1.2.1 hd ht (fun q => kt q H locs ls hl hg) (fun q => kf q H locs ls hl hg)
theorem gn_icmp_gt (h : NC X cc own nL rt rm) {x y : Int32} {off : Int} {tgt : Nat} (hd : decode cc pc = .ok (.if_icmp .gt off, 3)) (ht : (pc : Int) + off = (tgt : Int)) (hp : pc + 3 = pc') (kt : y < x → GN X ws tgt lc st cells slots) (kf : ¬ y < x → GN X ws pc' lc st cells slots) : GN X ws pc lc (.int y :: .int x :: st) cells slots := by
  subst hp
  intro H locs ls hl hg
  exact lv_icmp_gt h.1.1 h.1.2.1 hd ht (fun q => kt q H locs ls hl hg) (fun q => kf q H locs ls hl hg)
theorem gn_goto (h : NC X cc own nL rt rm) {off : Int} {tgt : Nat} (hd : decode cc pc = .ok (.goto off, 3)) (ht : (pc : Int) + off = (tgt : Int)) (k : GN X ws tgt lc st cells slots) : GN X ws pc lc st cells slots := by
  intro H locs ls hl hg
  exact lv_goto h.1.1 h.1.2.1 hd ht (k H locs ls hl hg)
theorem gn_tabOut (h : NC X cc own nL rt rm) {dflt lo hi : Int} {offs : Array Int} {len : Nat} {x : Int32} {tgt : Nat} (hd : decode cc pc = .ok (.tableswitch dflt lo hi offs, len)) (hx : x.toInt < lo ∨ hi < x.toInt) (ht : (pc : Int) + dflt = (tgt : Int)) (k : GN X ws tgt lc st cells slots) : GN X ws pc lc (.int x :: st) cells slots := by
  intro H locs ls hl hg
  exact lv_tableOut h.1.1 h.1.2.1 hd hx ht (k H locs ls hl hg)
theorem gn_tabIn (h : NC X cc own nL rt rm) {dflt lo hi : Int} {offs : Array Int} {len : Nat} {x : Int32} {off : Int} {tgt : Nat} (hd : decode cc pc = .ok (.tableswitch dflt lo hi offs, len)) (h1 : ¬ x.toInt < lo) (h2 : ¬ hi < x.toInt) (ho : offs[(x.toInt - lo).toNat]? = some off) (ht : (pc : Int) + off = (tgt : Int)) (k : GN X ws tgt lc st cells slots) : GN X ws pc lc (.int x :: st) cells slots := by
  intro H locs ls hl hg
  exact lv_tableIn h.1.1 h.1.2.1 hd h1 h2 ho ht (k H locs ls hl hg)
end GNC
