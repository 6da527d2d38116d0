/-! a contract over a world: where it begins, where it ends -/
def PP (lay : List wd_E) (D : va_G) (q g : Nat → Nat) (cy : Nat → ClassId) (z : (Nat → Nat) × (Nat → Nat) × Nat) (As : List Value) (S : wd_W) (sz : Nat) : Array Value → State → Prop :=
  va_Pc As (fun U => U.heap.size = sz ∧ va_P D vwCl (wd_ws q g cy S 0 lay) U.heap ∧ va_K D vwCl (wd_tys cy) U ∧ va_D (fun _ => True) (wd_ws q g cy S 0 lay) ∧ ST z (va_A (wd_ws q g cy S 0 lay) sz) U U.heap)
def PQ (lay : List wd_E) (D : va_G) (q g : Nat → Nat) (al : Bool) (cy : Nat → ClassId) (ret : Option Value) (S' : wd_W) (A : Nat → Prop) : Array Value → State → Outcome → State → Prop := fun _ st o t =>
  (∃ g' : Nat → Nat, (al = false → g' = g) ∧ o = .returned ret ∧ va_P D vwCl (wd_ws q g' cy S' 0 lay) t.heap ∧ va_D A (wd_ws q g' cy S' 0 lay)) ∧ va_F A st t
def MX (lay : List wd_E) (l : Launch) (y : MethodName) (cc : ByteArray) (maxL : Nat) (rt : Option FieldType) (rm : Room) (D : va_G) (q g : Nat → Nat) (cy : Nat → ClassId) (z : (Nat → Nat) × (Nat → Nat) × Nat) (As : List Value) (S : wd_W) (al : Bool) (ret : Option Value) (S' : wd_W) (mc ms : Nat) : Prop :=
  ∀ sz : Nat, Met l y (Cond.code y cc maxL rt :: wAll) rm (PP lay D q g cy z As S sz) (PQ lay D q g al cy ret S' (va_A (wd_ws q g cy S 0 lay) sz)) mc ms (va_A (wd_ws q g cy S 0 lay) sz)
theorem PP_blind {lay : List wd_E} {D : va_G} {q g : Nat → Nat} {cy : Nat → ClassId} {z : (Nat → Nat) × (Nat → Nat) × Nat} {As : List Value} {S : wd_W} {sz : Nat} : FrameBlind (PP lay D q g cy z As S sz) := by
  intro a U f mk h
  obtain ⟨h1, h2, h3, h4, h5, h6⟩ := h
  exact ⟨h1, h2, h3, va_K.moved (u := U) (U := U.calling f mk a) (Vm.Alike.refl U.vm) h4, h5, ST.same (s := U) (U := U.calling f mk a) rfl h6⟩
theorem mx_of {lay : List wd_E} {l : Launch} {y : MethodName} {own : String} {cc : ByteArray} {maxL : Nat} {rt : Option FieldType} {rm : Room} {D : va_G} {q g : Nat → Nat} {cy : Nat → ClassId} {z : (Nat → Nat) × (Nat → Nat) × Nat} {As : List Value} {S : wd_W} {al : Bool} {ret : Option Value} {S' : wd_W} {mc ms : Nat} {lc : List (Nat × Value)}
    (hy : plainName y.cls = true) (hyc : y.cls = own) (hok : wd_ok lay = true) (hn : (lg_sl As).length ≤ maxL) (hlc : lv_args 0 As = lc)
    (body : ∀ X : XT, x_l X = l → x_q X = q → x_z X = z → MC X lay cc own maxL rt rm → x_Q X = MQ (x_below X) (PQ lay (x_D X) (x_q X) g al (x_cy X) ret S' (x_A X)) (x_args X) (x_s X) mc ms (x_A X) → Go X lay S 0 lc [] g [] [] [] [] [] 0 0) : MX lay l y cc maxL rt rm D q g cy z As S al ret S' mc ms := by
  intro sz
  refine Met.ofW (cc := cc) (maxL := maxL) (ret := rt) hy rfl ?_
  intro p e s m args below meth c s₁ B hml hv
  obtain ⟨rfl, hsz, hP, hK, hD0, hT⟩ := hv
  subst hsz
  have hD := hD0.self (sz := s.heap.size)
  have hown : s.vm.findClass own = some m.cls := hyc ▸ findClass_of_methodNamed B.named
  have hts := atoms_spec (ws := Cond.code y cc maxL rt :: wAll) B.pre
  have hA : ∀ x : Nat, s.heap.size ≤ x → va_A (wd_ws q g cy S 0 lay) s.heap.size x := fun x h => Or.inr h
  have hl := lv_entry As (n := maxL) hn
  rw [lg_entry_eq]
  generalize (lg_sl As ++ List.replicate (maxL - (lg_sl As).length) Slot.unset).toArray = ls at hl ⊢
  rw [hlc] at hl
  have hb := body (p, l, e, rm, s, m, As.toArray, below, meth, c, MQ below (PQ lay D q g al cy ret S' (va_A (wd_ws q g cy S 0 lay) s.heap.size)) As.toArray s mc ms (va_A (wd_ws q g cy S 0 lay) s.heap.size), maxL, D, q, cy, va_A (wd_ws q g cy S 0 lay) s.heap.size, S, z) rfl rfl rfl
    ⟨B.exec, B.bytes, hml, rfl, hown, fun w hw => hts w (List.mem_cons_of_mem _ hw), hK, B.notSynchronized, B.returns, hA, rfl, hT, hok⟩ rfl
  exact hb s.heap [] ls hl ⟨hP, hD, va_S.rf⟩
section GOR
variable {X : XT} {lay : List wd_E} {S0 : wd_W} {cc : ByteArray} {own : String} {nL : Nat} {rt : Option FieldType} {rm : Room}
variable {pc pc' : Nat} {lc lc' : List (Nat × Value)} {st : List Value} {g : Nat → Nat} {L1 L1' : List (Nat × Int32)} {L2 L2' : List (Nat × Int64)} {L3 L3' : List (Nat × (Nat → Int32))} {L4 L4' : List (Nat × (Nat → Int64))} {L5 L5' : List (Nat × Nat)} {cells slots : Nat}
theorem go_sub (ks : List Nat) (hl : lc_sel lc ks = lc') (k : Go X lay S0 pc lc' st g L1 L2 L3 L4 L5 cells slots) : Go X lay S0 pc lc st g L1 L2 L3 L4 L5 cells slots := by
  subst hl
  intro H locs ls hl hg
  exact k H locs ls ⟨hl.1, hl.2.1, fun x hx => hl.2.2 x (lc_sel_mem ks hx)⟩ hg
/-- the keys that a method may change, each with its own value -/
theorem go_keys (k1 k2 k3 k4 k5 : List Nat) (h1 : wd_idl S0.1 k1 = L1) (h2 : wd_idl S0.2.1 k2 = L2) (h3 : wd_idl S0.2.2.1 k3 = L3) (h4 : wd_idl S0.2.2.2.1 k4 = L4) (h5 : wd_idl S0.2.2.2.2 k5 = L5) (k : Go X lay S0 pc lc st g L1 L2 L3 L4 L5 cells slots) : Go X lay S0 pc lc st g [] [] [] [] [] cells slots := by
  intro H locs ls hl hg
  refine k H locs ls hl ?_
  rw [← h1, ← h2, ← h3, ← h4, ← h5, wd_o_idl]
  exact hg
theorem go_iret {v : Int32} {ty : FieldType} {S' : wd_W} {mc ms : Nat} {ret : Option Value} {g0 : Nat → Nat} {al : Bool} (h : MC X lay cc own nL rt rm) (hQ : x_Q X = MQ (x_below X) (PQ lay (x_D X) (x_q X) g0 al (x_cy X) ret S' (x_A X)) (x_args X) (x_s X) mc ms (x_A X)) (hd : decode cc pc = .ok (.ireturn, 1)) (hrt : rt = some ty) (hn : narrow ty (.int v) = .int v) (hr : ret = some (.int v)) (hS : S' = wd_o S0 L1 L2 L3 L4 L5) (hgl : al = false → g = g0) (hmc : mc = cells) (hms : ms = slots) : Go X lay S0 pc lc [.int v] g L1 L2 L3 L4 L5 cells slots := by
  subst hmc; subst hms; subst hr; subst hS
  intro H locs ls hl hg
  rw [hQ]
  exact W.zret h.1 h.2.1 (h.2.2.2.2.2.2.2.2.1.trans hrt) hn (fun t ht hW => ⟨⟨g, hgl, rfl, by rw [ht]; exact hg.1, hg.2.1⟩, hg.2.2.F ht⟩) hg.2.2.2.2 hd h.2.2.2.2.2.2.2.1
theorem go_lret {v : Int64} {S' : wd_W} {mc ms : Nat} {ret : Option Value} {g0 : Nat → Nat} {al : Bool} (h : MC X lay cc own nL rt rm) (hQ : x_Q X = MQ (x_below X) (PQ lay (x_D X) (x_q X) g0 al (x_cy X) ret S' (x_A X)) (x_args X) (x_s X) mc ms (x_A X)) (hd : decode cc pc = .ok (.lreturn, 1)) (hrt : rt = some .long) (hr : ret = some (.long v)) (hS : S' = wd_o S0 L1 L2 L3 L4 L5) (hgl : al = false → g = g0) (hmc : mc = cells) (hms : ms = slots) : Go X lay S0 pc lc [.long v] g L1 L2 L3 L4 L5 cells slots := by
  subst hmc; subst hms; subst hr; subst hS
  intro H locs ls hl hg
  rw [hQ]
  exact W.lret h.1 h.2.1 (h.2.2.2.2.2.2.2.2.1.trans hrt) (fun t ht hW => ⟨⟨g, hgl, rfl, by rw [ht]; exact hg.1, hg.2.1⟩, hg.2.2.F ht⟩) hg.2.2.2.2 hd h.2.2.2.2.2.2.2.1
theorem go_aret {a : Nat} {C : String} {S' : wd_W} {mc ms : Nat} {ret : Option Value} {g0 : Nat → Nat} {al : Bool} (h : MC X lay cc own nL rt rm) (hQ : x_Q X = MQ (x_below X) (PQ lay (x_D X) (x_q X) g0 al (x_cy X) ret S' (x_A X)) (x_args X) (x_s X) mc ms (x_A X)) (hd : decode cc pc = .ok (.areturn, 1)) (hrt : rt = some (.object C)) (hr : ret = some (.ref a)) (hS : S' = wd_o S0 L1 L2 L3 L4 L5) (hgl : al = false → g = g0) (hmc : mc = cells) (hms : ms = slots) : Go X lay S0 pc lc [.ref a] g L1 L2 L3 L4 L5 cells slots := by
  subst hmc; subst hms; subst hr; subst hS
  intro H locs ls hl hg
  rw [hQ]
  exact W.aret h.1 h.2.1 (h.2.2.2.2.2.2.2.2.1.trans hrt) (Or.inl ⟨_, rfl⟩) (Or.inr ⟨_, rfl⟩) (fun t ht hW => ⟨⟨g, hgl, rfl, by rw [ht]; exact hg.1, hg.2.1⟩, hg.2.2.F ht⟩) hg.2.2.2.2 hd h.2.2.2.2.2.2.2.1
theorem go_vret {S' : wd_W} {mc ms : Nat} {ret : Option Value} {g0 : Nat → Nat} {al : Bool} (h : MC X lay cc own nL rt rm) (hQ : x_Q X = MQ (x_below X) (PQ lay (x_D X) (x_q X) g0 al (x_cy X) ret S' (x_A X)) (x_args X) (x_s X) mc ms (x_A X)) (hd : decode cc pc = .ok (.return_, 1)) (hrt : rt = none) (hr : ret = none) (hS : S' = wd_o S0 L1 L2 L3 L4 L5) (hgl : al = false → g = g0) (hmc : mc = cells) (hms : ms = slots) : Go X lay S0 pc lc [] g L1 L2 L3 L4 L5 cells slots := by
  subst hmc; subst hms; subst hr; subst hS
  intro H locs ls hl hg
  rw [hQ]
  exact W.vret h.1 h.2.1 (h.2.2.2.2.2.2.2.2.1.trans hrt) (fun t ht hW => ⟨⟨g, hgl, rfl, by rw [ht]; exact hg.1, hg.2.1⟩, hg.2.2.F ht⟩) hg.2.2.2.2 hd h.2.2.2.2.2.2.2.1
end GOR
/-! calls -/
def CM (X : XT) (rm : Room) (cells slots : Nat) (own : String) (idx : Nat) (y : MethodName) (bytes : ByteArray) (maxL : Nat) (rt : Option FieldType) (n : Nat) (rc : Room) : Prop :=
  Cond.methodLink own idx y ∈ wAll ∧ Cond.code y bytes maxL rt ∈ wAll ∧ Cond.initialized y.cls ∈ wAll ∧ (y.cls ≠ "java/lang/invoke/MethodHandle" ∧ y.cls ≠ "java/lang/invoke/VarHandle") ∧ (parseMethodDescriptor y.desc).map (fun d => d.parameters.length) = some n ∧ rc.frames + 1 ≤ rm.frames ∧ 8 + (maxL + 11) + rc.locals ≤ rm.locals ∧ cells + rc.cells ≤ rm.cells ∧ slots + rc.slots ≤ rm.slots
def PrX (R rm : Room) (Pc : Array Value → State → Prop) : Pt → Array Value → Prop := fun A a => A.cells + rm.cells ≤ R.cells ∧ A.slots + rm.slots ≤ R.slots ∧ Pc a A.U
theorem bk_of {l : Launch} {R : Room} {p : Program} {e : Env} {below : List Frame} {s : State} {sargs : Array Value} {y : MethodName} {len W : Nat} {ws : List Cond} {rm : Room} {Pc : Array Value → State → Prop} {Qc : Array Value → State → Outcome → State → Prop} {mc ms : Nat} {free : Addr → Prop} {bytes : ByteArray} {maxL : Nat} {ret : Option FieldType}
    (hM : Met l y ws rm Pc Qc mc ms free) (hblind : FrameBlind Pc)
    (hframes : rm.frames + 1 ≤ R.frames) (hlocals : W + (maxL + 11) + rm.locals ≤ R.locals)
    (hws : ∀ w ∈ ws, ∀ a' U, s.WarmedH U.vm → w.before a' U = true) (hcode : Cond.code y bytes maxL ret ∈ ws) (hinit : ∀ a' U, s.WarmedH U.vm → (Cond.initialized y.cls).before a' U = true) :
    Back l R p e below s sargs y len W (PrX R rm Pc) (PostOf Qc mc ms free) := by
  refine Back.of_free (S := headSpec ws rm) (P := Pc) (K := fun _ _ _ _ _ => True) (Q := fun a st o t => Qc a st o t ∧ ∃ L, FrameEnd st o t L mc ms ∧ ∀ q ∈ L, free q.base) (bytes := bytes) (maxL := maxL) (ret := ret)
    (E := fun a st o t L k n => k = mc ∧ n = ms ∧ ∀ q ∈ L, free q.base) hM hframes hlocals ?_ ?_ (fun _ _ _ _ _ _ _ _ _ => trivial) ?_ ?_
  · intro m meth c A a X hp
    exact ⟨atoms_intro fun w hw => hws w hw _ _ X.warmed, hws _ hcode _ _ X.warmed, hinit _ _ X.warmed, hp.1, hp.2.1⟩
  · intro m meth c A a g mk X hp
    exact hblind _ _ _ _ hp.2.2
  · intro a st o t ⟨hq, L, hF, hL⟩
    exact ⟨L, mc, ms, hF, rfl, rfl, hL⟩
  · intro m meth c A a g mk v t L k n X hp hq hF ⟨e1, e2, hL⟩
    subst e1; subst e2
    exact ⟨g, mk, t, L, rfl, rfl, hq.1, rfl, hL, rfl, rfl⟩
theorem wAll_goodIn {w : Cond} (h : w ∈ wAll) : (w.onTables && w.keeps) = true ∨ ∃ ty, w = .arrayClass ty := good_of_word (List.all_eq_true.mp wAll_good w h)
section GOC
variable {X : XT} {lay : List wd_E} {S0 : wd_W} {cc : ByteArray} {own : String} {nL : Nat} {rt : Option FieldType} {rm : Room}
variable {pc pc' : Nat} {lc lc' : List (Nat × Value)} {st : List Value} {g : Nat → Nat} {L1 L1' M1 : List (Nat × Int32)} {L2 L2' M2 : List (Nat × Int64)} {L3 L3' M3 : List (Nat × (Nat → Int32))} {L4 L4' M4 : List (Nat × (Nat → Int64))} {L5 L5' M5 : List (Nat × Nat)} {cells slots : Nat}
/-- a world of another layout: what a call may see and change of it -/
theorem go_back {y : MethodName} {bytes : ByteArray} {maxL n idx : Nat} {rt' : Option FieldType} {rc : Room} {As : List Value} {S' : wd_W} {al : Bool} {ret : Option Value} {mc ms : Nat} (h : MC X lay cc own nL rt rm) (hc : CM X rm cells slots own idx y bytes maxL rt' n rc)
    (hM : MX lay (x_l X) y bytes maxL rt' rc (x_D X) (x_q X) g (x_cy X) (x_z X) As (wd_o S0 L1 L2 L3 L4 L5) al ret S' mc ms) (sz : Nat) :
    Back (x_l X) (x_R X) (x_p X) (x_e X) (x_below X) (x_s X) (x_args X) y 3 8 (PrX (x_R X) rc (PP lay (x_D X) (x_q X) g (x_cy X) (x_z X) As (wd_o S0 L1 L2 L3 L4 L5) sz)) (PostOf (PQ lay (x_D X) (x_q X) g al (x_cy X) ret S' (va_A (wd_ws (x_q X) g (x_cy X) (wd_o S0 L1 L2 L3 L4 L5) 0 lay) sz)) mc ms (va_A (wd_ws (x_q X) g (x_cy X) (wd_o S0 L1 L2 L3 L4 L5) 0 lay) sz)) := by
  obtain ⟨h1, h2, h3, h4, h5, h6, h7, h8, h9⟩ := hc
  have hR : x_R X = rm := h.2.2.2.2.2.2.2.2.2.2.1
  refine bk_of (bytes := bytes) (maxL := maxL) (ret := rt') (hM sz) PP_blind (by rw [hR]; exact h6) (by rw [hR]; exact h7) ?_ List.mem_cons_self ?_
  · intro w hw a' U hW
    rcases List.mem_cons.mp hw with e | e
    · subst e; exact word_at hW (wAll_goodIn h2) (h.2.2.2.2.2.1 _ h2)
    · exact word_at hW (wAll_goodIn e) (h.2.2.2.2.2.1 _ e)
  · intro a' U hW
    exact word_at hW (wAll_goodIn h3) (h.2.2.2.2.2.1 _ h3)
theorem go_pre {As : List Value} (h : MC X lay cc own nL rt rm) {H : Heap} {locs : List Loc} {S : wd_W} (hg : GS X lay g S H locs) {U : State} (hU : U.heap = H) (hW : (x_s X).WarmedH U.vm) : PP lay (x_D X) (x_q X) g (x_cy X) (x_z X) As S H.size As.toArray U := by
  refine ⟨rfl, by rw [hU], by rw [hU]; exact hg.1, h.2.2.2.2.2.2.1.moved hW.alike, hg.2.1.weaken (fun _ _ _ _ => trivial), ?_⟩
  rw [hU]
  refine (ST.kept ?_ (hg.2.2.2.1)).narrow ?_
  · exact ST.warm hW h.2.2.2.2.2.2.2.2.2.2.2.1
  · intro q hq
    rcases hq with ⟨k, e, hk⟩ | hq
    · exact hg.2.1.2 k (q, e) hk
    · exact h.2.2.2.2.2.2.2.2.2.1 q (Nat.le_trans hg.2.2.1 hq)
theorem go_after {y : MethodName} {bytes : ByteArray} {maxL n idx : Nat} {rt' : Option FieldType} {rc : Room} {As : List Value} {al : Bool} {ret : Option Value} {mc ms : Nat} {st0 : List Value} (h : MC X lay cc own nL rt rm)
    (i1 : wd_in L1 M1 = true) (i2 : wd_in L2 M2 = true) (i3 : wd_in L3 M3 = true) (i4 : wd_in L4 M4 = true) (i5 : wd_in L5 M5 = true) (e1 : wd_sls L1 M1 = L1') (e2 : wd_sls L2 M2 = L2') (e3 : wd_sls L3 M3 = L3') (e4 : wd_sls L4 M4 = L4') (e5 : wd_sls L5 M5 = L5')
    {H : Heap} {locs : List Loc} {ls : Array Slot} (hl : lv_has ls (x_nL X) lc) (hg : GS X lay g (wd_o S0 L1 L2 L3 L4 L5) H locs) (k : ∀ g' : Nat → Nat, (al = false → g' = g) → Go X lay S0 pc' lc (ret.toList ++ st) g' L1' L2' L3' L4' L5' (cells + mc) (slots + ms))
    {T : State} (hT : T.heap = H) {vm₁ : Vm} {v : Option Value} {B : Pt} (XB : Stand (x_p X) (x_l X) (x_e X) (x_R X) (x_s X) (x_m X) (x_args X) (x_below X) (x_meth X) (x_c X) B.U B.locs B.cells B.slots)
    (hpost : PostOf (PQ lay (x_D X) (x_q X) g al (x_cy X) ret (wd_o (wd_o S0 L1 L2 L3 L4 L5) M1 M2 M3 M4 M5) (va_A (wd_ws (x_q X) g (x_cy X) (wd_o S0 L1 L2 L3 L4 L5) 0 lay) H.size)) mc ms (va_A (wd_ws (x_q X) g (x_cy X) (wd_o S0 L1 L2 L3 L4 L5) 0 lay) H.size) ⟨T.setVm vm₁, locs, cells, slots⟩ As.toArray v B) :
    ∃ t, Steps (x_p X).tables (x_e X) (x_below X) (B.U.setTop (F0 (x_m X) pc' ls (v.toList ++ st))) t ∧ (x_Q X) t := by
  obtain ⟨U', l2, c2, s2⟩ := B
  obtain ⟨g', mk, t, L, a1, a2, ⟨⟨g2, hge, hv, hP1, hD1⟩, hz, hk⟩, a3, hL, a4, a5⟩ := hpost
  dsimp only [Pt.U, Pt.locs, Pt.cells, Pt.slots] at XB a1 a2 a3 a4 a5 ⊢
  have hv2 : v = ret := Outcome.returned.inj hv
  subst hv2
  subst a3; subst a4; subst a5
  have hst : ((T.setVm vm₁).calling g' mk As.toArray).heap = H := hT
  rw [hst] at hz hk
  have hA : ∀ q, va_A (wd_ws (x_q X) g (x_cy X) (wd_o S0 L1 L2 L3 L4 L5) 0 lay) H.size q → (x_A X) q := by
    intro q hq
    rcases hq with ⟨k, e, hk⟩ | hq
    · exact hg.2.1.2 k (q, e) hk
    · exact h.2.2.2.2.2.2.2.2.2.1 q (Nat.le_trans hg.2.2.1 hq)
  have hSS : wd_o (wd_o S0 L1 L2 L3 L4 L5) M1 M2 M3 M4 M5 = wd_o S0 L1' L2' L3' L4' L5' := by
    rw [wd_o_o i1 i2 i3 i4 i5, e1, e2, e3, e4, e5]
  rw [hSS] at hP1 hD1
  refine k g2 hge U'.heap (locs ++ L) ls hl ⟨by rw [a1]; exact hP1, hD1.weaken (fun _ q _ hq => hA q.1 hq), ?_⟩ U' rfl XB
  rw [a1]
  refine ⟨Nat.le_trans hg.2.2.1 hz, fun q h1 h2 => ?_, fun q hq => ?_⟩
  · rw [hk q (Nat.lt_of_lt_of_le h1 hg.2.2.1) (fun z => h2 (hA q z))]
    exact hg.2.2.2.1 q h1 h2
  · rcases List.mem_append.mp hq with hq | hq
    · exact hg.2.2.2.2 q hq
    · exact hA _ (hL q hq)
theorem go_callV {y : MethodName} {bytes : ByteArray} {maxL n idx ci N b : Nat} {C : String} {T : u_T} {fs : List (Nat × Nat)} {rt' : Option FieldType} {rc : Room} {As : List Value} {al : Bool} {ret : Option Value} {mc ms : Nat} {st0 : List Value} (h : MC X lay cc own nL rt rm) (hd : decode cc pc = .ok (.invokevirtual idx, 3)) (hc : CM X rm cells slots own idx y bytes maxL rt' n rc) (hwi : Cond.instanceMethod y ∈ wAll) (hws : Cond.selects C y y ∈ wAll)
    (hlay : lay[b]? = some (.inl (ci, fs))) (hcl : vwCl[ci]? = some (C, T, N)) (hst : st0 = As.reverse ++ .ref (x_q X b) :: st) (hn : As.length = n) (hcat : (st.map fun v => v.category).sum ≤ 8)
    (hM : MX lay (x_l X) y bytes maxL rt' rc (x_D X) (x_q X) g (x_cy X) (x_z X) (.ref (x_q X b) :: As) (wd_o S0 L1 L2 L3 L4 L5) al ret (wd_o (wd_o S0 L1 L2 L3 L4 L5) M1 M2 M3 M4 M5) mc ms)
    (i1 : wd_in L1 M1 = true) (i2 : wd_in L2 M2 = true) (i3 : wd_in L3 M3 = true) (i4 : wd_in L4 M4 = true) (i5 : wd_in L5 M5 = true) (e1 : wd_sls L1 M1 = L1') (e2 : wd_sls L2 M2 = L2') (e3 : wd_sls L3 M3 = L3') (e4 : wd_sls L4 M4 = L4') (e5 : wd_sls L5 M5 = L5') (hp : pc + 3 = pc')
    {st' : List Value} {cells' slots' : Nat} (hst' : ret.toList ++ st = st') (hcl' : cells + mc = cells') (hsl' : slots + ms = slots') (k : ∀ g' : Nat → Nat, (al = false → g' = g) → Go X lay S0 pc' lc st' g' L1' L2' L3' L4' L5' cells' slots') : Go X lay S0 pc lc st0 g L1 L2 L3 L4 L5 cells slots := by
  subst hst'
  subst hcl'
  subst hsl'
  subst hst
  subst hp
  intro H locs ls hl hg T0 hT XS
  have hK := go_back (g := g) h hc hM H.size
  obtain ⟨c1, c2, c3, c4, c5, c6, c7, c8, c9⟩ := hc
  have hts := h.2.2.2.2.2.1
  obtain ⟨cellB, hcB, hoB, hclB⟩ := va_recv h.2.2.2.2.2.2.1 hg.1 hcl (wd_ws_get (q := x_q X) (g := g) (cy := x_cy X) (S := wd_o S0 L1 L2 L3 L4 L5) hlay)
  have hR : x_R X = rm := h.2.2.2.2.2.2.2.2.2.2.1
  obtain ⟨v, vm₁, B, hW₁, XB, hpost, stp⟩ := callV XS h.1 (C := C) (bytes := bytes) (maxL := maxL) (ret := rt') h.2.2.2.2.1 (hts _ c1) (hts _ hwi) (hts _ hws) (hts _ c2) c4 hK (by rw [hT]; exact hcB) hoB hclB (g := F0 (x_m X) pc ls (As.reverse ++ .ref (x_q X b) :: st)) rfl (by rw [h.2.2.1]; exact hl.1.trans h.2.2.2.1) (argsL := As) (rest := st) (fun sig hs => by rw [hs] at c5; exact hn.trans (Option.some.inj c5).symm) rfl (lv_room hcat) (by rw [h.2.1]; exact hd)
    (fun vm₁ hW₁ => ⟨by rw [hR]; exact c8, by rw [hR]; exact c9, go_pre h hg (U := T0.setVm vm₁) hT hW₁⟩)
  obtain ⟨t, a, b⟩ := go_after (y := y) (bytes := bytes) (maxL := maxL) (n := n) (idx := idx) (rt' := rt') (rc := rc) (st0 := []) h i1 i2 i3 i4 i5 e1 e2 e3 e4 e5 hl hg k hT XB hpost
  exact ⟨t, stp t a, b⟩
theorem go_callS {y : MethodName} {bytes : ByteArray} {maxL n idx : Nat} {rt' : Option FieldType} {rc : Room} {As : List Value} {al : Bool} {ret : Option Value} {mc ms : Nat} {st0 : List Value} (h : MC X lay cc own nL rt rm) (hd : decode cc pc = .ok (.invokestatic idx, 3)) (hc : CM X rm cells slots own idx y bytes maxL rt' n rc) (hws : Cond.static y ∈ wAll)
    (hst : st0 = As.reverse ++ st) (hn : As.length = n) (hcat : (st.map fun v => v.category).sum ≤ 8)
    (hM : MX lay (x_l X) y bytes maxL rt' rc (x_D X) (x_q X) g (x_cy X) (x_z X) As (wd_o S0 L1 L2 L3 L4 L5) al ret (wd_o (wd_o S0 L1 L2 L3 L4 L5) M1 M2 M3 M4 M5) mc ms)
    (i1 : wd_in L1 M1 = true) (i2 : wd_in L2 M2 = true) (i3 : wd_in L3 M3 = true) (i4 : wd_in L4 M4 = true) (i5 : wd_in L5 M5 = true) (e1 : wd_sls L1 M1 = L1') (e2 : wd_sls L2 M2 = L2') (e3 : wd_sls L3 M3 = L3') (e4 : wd_sls L4 M4 = L4') (e5 : wd_sls L5 M5 = L5') (hp : pc + 3 = pc')
    {st' : List Value} {cells' slots' : Nat} (hst' : ret.toList ++ st = st') (hcl' : cells + mc = cells') (hsl' : slots + ms = slots') (k : ∀ g' : Nat → Nat, (al = false → g' = g) → Go X lay S0 pc' lc st' g' L1' L2' L3' L4' L5' cells' slots') : Go X lay S0 pc lc st0 g L1 L2 L3 L4 L5 cells slots := by
  subst hst'
  subst hcl'
  subst hsl'
  subst hst
  subst hp
  intro H locs ls hl hg T0 hT XS
  have hK := go_back (g := g) h hc hM H.size
  obtain ⟨c1, c2, c3, c4, c5, c6, c7, c8, c9⟩ := hc
  have hts := h.2.2.2.2.2.1
  have hR : x_R X = rm := h.2.2.2.2.2.2.2.2.2.2.1
  obtain ⟨v, vm₁, B, hW₁, XB, hpost, stp⟩ := callS XS h.1 (bytes := bytes) (maxL := maxL) (ret := rt') h.2.2.2.2.1 (hts _ c1) (hts _ hws) (hts _ c3) (hts _ c2) c4 hK (g := F0 (x_m X) pc ls (As.reverse ++ st)) rfl (by rw [h.2.2.1]; exact hl.1.trans h.2.2.2.1) (argsL := As) (rest := st) (fun sig hs => by rw [hs] at c5; exact hn.trans (Option.some.inj c5).symm) rfl (lv_room hcat) (by rw [h.2.1]; exact hd)
    (fun vm₁ hW₁ => ⟨by rw [hR]; exact c8, by rw [hR]; exact c9, go_pre h hg (U := T0.setVm vm₁) hT hW₁⟩)
  obtain ⟨t, a, b⟩ := go_after (y := y) (bytes := bytes) (maxL := maxL) (n := n) (idx := idx) (rt' := rt') (rc := rc) (st0 := []) h i1 i2 i3 i4 i5 e1 e2 e3 e4 e5 hl hg k hT XB hpost
  exact ⟨t, stp t a, b⟩
theorem go_callV1 {y : MethodName} {bytes : ByteArray} {maxL n idx ci N b : Nat} {C : String} {T : u_T} {fs : List (Nat × Nat)} {rt' : Option FieldType} {rc : Room} {As : List Value} {ret : Option Value} {mc ms : Nat} {st0 : List Value} (h : MC X lay cc own nL rt rm) (hd : decode cc pc = .ok (.invokevirtual idx, 3)) (hc : CM X rm cells slots own idx y bytes maxL rt' n rc) (hwi : Cond.instanceMethod y ∈ wAll) (hws : Cond.selects C y y ∈ wAll)
    (hlay : lay[b]? = some (.inl (ci, fs))) (hcl : vwCl[ci]? = some (C, T, N)) (hst : st0 = As.reverse ++ .ref (x_q X b) :: st) (hn : As.length = n) (hcat : (st.map fun v => v.category).sum ≤ 8)
    (hM : MX lay (x_l X) y bytes maxL rt' rc (x_D X) (x_q X) g (x_cy X) (x_z X) (.ref (x_q X b) :: As) (wd_o S0 L1 L2 L3 L4 L5) false ret (wd_o (wd_o S0 L1 L2 L3 L4 L5) M1 M2 M3 M4 M5) mc ms)
    (i1 : wd_in L1 M1 = true) (i2 : wd_in L2 M2 = true) (i3 : wd_in L3 M3 = true) (i4 : wd_in L4 M4 = true) (i5 : wd_in L5 M5 = true) (e1 : wd_sls L1 M1 = L1') (e2 : wd_sls L2 M2 = L2') (e3 : wd_sls L3 M3 = L3') (e4 : wd_sls L4 M4 = L4') (e5 : wd_sls L5 M5 = L5') (hp : pc + 3 = pc')
    {st' : List Value} {cells' slots' : Nat} (hst' : ret.toList ++ st = st') (hcl' : cells + mc = cells') (hsl' : slots + ms = slots') (k : Go X lay S0 pc' lc st' g L1' L2' L3' L4' L5' cells' slots') : Go X lay S0 pc lc st0 g L1 L2 L3 L4 L5 cells slots := by
  refine go_callV h hd hc hwi hws hlay hcl hst hn hcat hM i1 i2 i3 i4 i5 e1 e2 e3 e4 e5 hp hst' hcl' hsl' (fun g' hg => ?_)
  rw [hg rfl]
  exact k
theorem go_callV0 {y : MethodName} {bytes : ByteArray} {maxL n idx ci N b : Nat} {C : String} {T : u_T} {fs : List (Nat × Nat)} {rt' : Option FieldType} {rc : Room} {As : List Value} {ret : Option Value} {st0 : List Value} (h : MC X lay cc own nL rt rm) (hd : decode cc pc = .ok (.invokevirtual idx, 3)) (hc : CM X rm cells slots own idx y bytes maxL rt' n rc) (hwi : Cond.instanceMethod y ∈ wAll) (hws : Cond.selects C y y ∈ wAll)
    (hlay : lay[b]? = some (.inl (ci, fs))) (hcl : vwCl[ci]? = some (C, T, N)) (hst : st0 = As.reverse ++ .ref (x_q X b) :: st) (hn : As.length = n) (hcat : (st.map fun v => v.category).sum ≤ 8)
    (hM : MX lay (x_l X) y bytes maxL rt' rc (x_D X) (x_q X) g (x_cy X) (x_z X) (.ref (x_q X b) :: As) (wd_o S0 L1 L2 L3 L4 L5) false ret (wd_o (wd_o S0 L1 L2 L3 L4 L5) [] [] [] [] []) 0 0)
    (hp : pc + 3 = pc')
    {st' : List Value} (hst' : ret.toList ++ st = st') (k : Go X lay S0 pc' lc st' g L1 L2 L3 L4 L5 cells slots) : Go X lay S0 pc lc st0 g L1 L2 L3 L4 L5 cells slots := by
  exact go_callV1 h hd hc hwi hws hlay hcl hst hn hcat hM rfl rfl rfl rfl rfl rfl rfl rfl rfl rfl hp hst' rfl rfl k
theorem go_callS1 {y : MethodName} {bytes : ByteArray} {maxL n idx : Nat} {rt' : Option FieldType} {rc : Room} {As : List Value} {ret : Option Value} {mc ms : Nat} {st0 : List Value} (h : MC X lay cc own nL rt rm) (hd : decode cc pc = .ok (.invokestatic idx, 3)) (hc : CM X rm cells slots own idx y bytes maxL rt' n rc) (hws : Cond.static y ∈ wAll)
    (hst : st0 = As.reverse ++ st) (hn : As.length = n) (hcat : (st.map fun v => v.category).sum ≤ 8)
    (hM : MX lay (x_l X) y bytes maxL rt' rc (x_D X) (x_q X) g (x_cy X) (x_z X) As (wd_o S0 L1 L2 L3 L4 L5) false ret (wd_o (wd_o S0 L1 L2 L3 L4 L5) M1 M2 M3 M4 M5) mc ms)
    (i1 : wd_in L1 M1 = true) (i2 : wd_in L2 M2 = true) (i3 : wd_in L3 M3 = true) (i4 : wd_in L4 M4 = true) (i5 : wd_in L5 M5 = true) (e1 : wd_sls L1 M1 = L1') (e2 : wd_sls L2 M2 = L2') (e3 : wd_sls L3 M3 = L3') (e4 : wd_sls L4 M4 = L4') (e5 : wd_sls L5 M5 = L5') (hp : pc + 3 = pc')
    {st' : List Value} {cells' slots' : Nat} (hst' : ret.toList ++ st = st') (hcl' : cells + mc = cells') (hsl' : slots + ms = slots') (k : Go X lay S0 pc' lc st' g L1' L2' L3' L4' L5' cells' slots') : Go X lay S0 pc lc st0 g L1 L2 L3 L4 L5 cells slots := by
  refine go_callS h hd hc hws hst hn hcat hM i1 i2 i3 i4 i5 e1 e2 e3 e4 e5 hp hst' hcl' hsl' (fun g' hg => ?_)
  rw [hg rfl]
  exact k
theorem go_callS0 {y : MethodName} {bytes : ByteArray} {maxL n idx : Nat} {rt' : Option FieldType} {rc : Room} {As : List Value} {ret : Option Value} {st0 : List Value} (h : MC X lay cc own nL rt rm) (hd : decode cc pc = .ok (.invokestatic idx, 3)) (hc : CM X rm cells slots own idx y bytes maxL rt' n rc) (hws : Cond.static y ∈ wAll)
    (hst : st0 = As.reverse ++ st) (hn : As.length = n) (hcat : (st.map fun v => v.category).sum ≤ 8)
    (hM : MX lay (x_l X) y bytes maxL rt' rc (x_D X) (x_q X) g (x_cy X) (x_z X) As (wd_o S0 L1 L2 L3 L4 L5) false ret (wd_o (wd_o S0 L1 L2 L3 L4 L5) [] [] [] [] []) 0 0)
    (hp : pc + 3 = pc')
    {st' : List Value} (hst' : ret.toList ++ st = st') (k : Go X lay S0 pc' lc st' g L1 L2 L3 L4 L5 cells slots) : Go X lay S0 pc lc st0 g L1 L2 L3 L4 L5 cells slots := by
  exact go_callS1 h hd hc hws hst hn hcat hM rfl rfl rfl rfl rfl rfl rfl rfl rfl rfl hp hst' rfl rfl k
theorem go_afterw {S1 : wd_W} {y : MethodName} {bytes : ByteArray} {maxL n idx : Nat} {rt' : Option FieldType} {rc : Room} {As : List Value} {al : Bool} {ret : Option Value} {mc ms : Nat} {st0 : List Value} (h : MC X lay cc own nL rt rm)
    {H : Heap} {locs : List Loc} {ls : Array Slot} (hl : lv_has ls (x_nL X) lc) (hg : GS X lay g (wd_o S0 L1 L2 L3 L4 L5) H locs) (k : ∀ g' : Nat → Nat, (al = false → g' = g) → Go X lay S1 pc' lc (ret.toList ++ st) g' [] [] [] [] [] (cells + mc) (slots + ms))
    {T : State} (hT : T.heap = H) {vm₁ : Vm} {v : Option Value} {B : Pt} (XB : Stand (x_p X) (x_l X) (x_e X) (x_R X) (x_s X) (x_m X) (x_args X) (x_below X) (x_meth X) (x_c X) B.U B.locs B.cells B.slots)
    (hpost : PostOf (PQ lay (x_D X) (x_q X) g al (x_cy X) ret S1 (va_A (wd_ws (x_q X) g (x_cy X) (wd_o S0 L1 L2 L3 L4 L5) 0 lay) H.size)) mc ms (va_A (wd_ws (x_q X) g (x_cy X) (wd_o S0 L1 L2 L3 L4 L5) 0 lay) H.size) ⟨T.setVm vm₁, locs, cells, slots⟩ As.toArray v B) :
    ∃ t, Steps (x_p X).tables (x_e X) (x_below X) (B.U.setTop (F0 (x_m X) pc' ls (v.toList ++ st))) t ∧ (x_Q X) t := by
  obtain ⟨U', l2, c2, s2⟩ := B
  obtain ⟨g', mk, t, L, a1, a2, ⟨⟨g2, hge, hv, hP1, hD1⟩, hz, hk⟩, a3, hL, a4, a5⟩ := hpost
  dsimp only [Pt.U, Pt.locs, Pt.cells, Pt.slots] at XB a1 a2 a3 a4 a5 ⊢
  have hv2 : v = ret := Outcome.returned.inj hv
  subst hv2
  subst a3; subst a4; subst a5
  have hst : ((T.setVm vm₁).calling g' mk As.toArray).heap = H := hT
  rw [hst] at hz hk
  have hA : ∀ q, va_A (wd_ws (x_q X) g (x_cy X) (wd_o S0 L1 L2 L3 L4 L5) 0 lay) H.size q → (x_A X) q := by
    intro q hq
    rcases hq with ⟨k, e, hk⟩ | hq
    · exact hg.2.1.2 k (q, e) hk
    · exact h.2.2.2.2.2.2.2.2.2.1 q (Nat.le_trans hg.2.2.1 hq)
  refine k g2 hge U'.heap (locs ++ L) ls hl ⟨by rw [a1]; exact hP1, hD1.weaken (fun _ q _ hq => hA q.1 hq), ?_⟩ U' rfl XB
  rw [a1]
  refine ⟨Nat.le_trans hg.2.2.1 hz, fun q h1 h2 => ?_, fun q hq => ?_⟩
  · rw [hk q (Nat.lt_of_lt_of_le h1 hg.2.2.1) (fun z => h2 (hA q z))]
    exact hg.2.2.2.1 q h1 h2
  · rcases List.mem_append.mp hq with hq | hq
    · exact hg.2.2.2.2 q hq
    · exact hA _ (hL q hq)
theorem go_callVw {S1 : wd_W} {y : MethodName} {bytes : ByteArray} {maxL n idx ci N b : Nat} {C : String} {T : u_T} {fs : List (Nat × Nat)} {rt' : Option FieldType} {rc : Room} {As : List Value} {al : Bool} {ret : Option Value} {mc ms : Nat} {st0 : List Value} (h : MC X lay cc own nL rt rm) (hd : decode cc pc = .ok (.invokevirtual idx, 3)) (hc : CM X rm cells slots own idx y bytes maxL rt' n rc) (hwi : Cond.instanceMethod y ∈ wAll) (hws : Cond.selects C y y ∈ wAll)
    (hlay : lay[b]? = some (.inl (ci, fs))) (hcl : vwCl[ci]? = some (C, T, N)) (hst : st0 = As.reverse ++ .ref (x_q X b) :: st) (hn : As.length = n) (hcat : (st.map fun v => v.category).sum ≤ 8)
    (hM : MX lay (x_l X) y bytes maxL rt' rc (x_D X) (x_q X) g (x_cy X) (x_z X) (.ref (x_q X b) :: As) (wd_o S0 L1 L2 L3 L4 L5) al ret S1 mc ms)
    (hp : pc + 3 = pc')
    {st' : List Value} {cells' slots' : Nat} (hst' : ret.toList ++ st = st') (hcl' : cells + mc = cells') (hsl' : slots + ms = slots') (k : ∀ g' : Nat → Nat, (al = false → g' = g) → Go X lay S1 pc' lc st' g' [] [] [] [] [] cells' slots') : Go X lay S0 pc lc st0 g L1 L2 L3 L4 L5 cells slots := by
  subst hst'
  subst hcl'
  subst hsl'
  subst hst
  subst hp
  intro H locs ls hl hg T0 hT XS
  have hK := go_back (g := g) h hc hM H.size
  obtain ⟨c1, c2, c3, c4, c5, c6, c7, c8, c9⟩ := hc
  have hts := h.2.2.2.2.2.1
  obtain ⟨cellB, hcB, hoB, hclB⟩ := va_recv h.2.2.2.2.2.2.1 hg.1 hcl (wd_ws_get (q := x_q X) (g := g) (cy := x_cy X) (S := wd_o S0 L1 L2 L3 L4 L5) hlay)
  have hR : x_R X = rm := h.2.2.2.2.2.2.2.2.2.2.1
  obtain ⟨v, vm₁, B, hW₁, XB, hpost, stp⟩ := callV XS h.1 (C := C) (bytes := bytes) (maxL := maxL) (ret := rt') h.2.2.2.2.1 (hts _ c1) (hts _ hwi) (hts _ hws) (hts _ c2) c4 hK (by rw [hT]; exact hcB) hoB hclB (g := F0 (x_m X) pc ls (As.reverse ++ .ref (x_q X b) :: st)) rfl (by rw [h.2.2.1]; exact hl.1.trans h.2.2.2.1) (argsL := As) (rest := st) (fun sig hs => by rw [hs] at c5; exact hn.trans (Option.some.inj c5).symm) rfl (lv_room hcat) (by rw [h.2.1]; exact hd)
    (fun vm₁ hW₁ => ⟨by rw [hR]; exact c8, by rw [hR]; exact c9, go_pre h hg (U := T0.setVm vm₁) hT hW₁⟩)
  obtain ⟨t, a, b⟩ := go_afterw (y := y) (bytes := bytes) (maxL := maxL) (n := n) (idx := idx) (rt' := rt') (rc := rc) (st0 := []) h hl hg k hT XB hpost
  exact ⟨t, stp t a, b⟩
theorem go_callSw {S1 : wd_W} {y : MethodName} {bytes : ByteArray} {maxL n idx : Nat} {rt' : Option FieldType} {rc : Room} {As : List Value} {al : Bool} {ret : Option Value} {mc ms : Nat} {st0 : List Value} (h : MC X lay cc own nL rt rm) (hd : decode cc pc = .ok (.invokestatic idx, 3)) (hc : CM X rm cells slots own idx y bytes maxL rt' n rc) (hws : Cond.static y ∈ wAll)
    (hst : st0 = As.reverse ++ st) (hn : As.length = n) (hcat : (st.map fun v => v.category).sum ≤ 8)
    (hM : MX lay (x_l X) y bytes maxL rt' rc (x_D X) (x_q X) g (x_cy X) (x_z X) As (wd_o S0 L1 L2 L3 L4 L5) al ret S1 mc ms)
    (hp : pc + 3 = pc')
    {st' : List Value} {cells' slots' : Nat} (hst' : ret.toList ++ st = st') (hcl' : cells + mc = cells') (hsl' : slots + ms = slots') (k : ∀ g' : Nat → Nat, (al = false → g' = g) → Go X lay S1 pc' lc st' g' [] [] [] [] [] cells' slots') : Go X lay S0 pc lc st0 g L1 L2 L3 L4 L5 cells slots := by
  subst hst'
  subst hcl'
  subst hsl'
  subst hst
  subst hp
  intro H locs ls hl hg T0 hT XS
  have hK := go_back (g := g) h hc hM H.size
  obtain ⟨c1, c2, c3, c4, c5, c6, c7, c8, c9⟩ := hc
  have hts := h.2.2.2.2.2.1
  have hR : x_R X = rm := h.2.2.2.2.2.2.2.2.2.2.1
  obtain ⟨v, vm₁, B, hW₁, XB, hpost, stp⟩ := callS XS h.1 (bytes := bytes) (maxL := maxL) (ret := rt') h.2.2.2.2.1 (hts _ c1) (hts _ hws) (hts _ c3) (hts _ c2) c4 hK (g := F0 (x_m X) pc ls (As.reverse ++ st)) rfl (by rw [h.2.2.1]; exact hl.1.trans h.2.2.2.1) (argsL := As) (rest := st) (fun sig hs => by rw [hs] at c5; exact hn.trans (Option.some.inj c5).symm) rfl (lv_room hcat) (by rw [h.2.1]; exact hd)
    (fun vm₁ hW₁ => ⟨by rw [hR]; exact c8, by rw [hR]; exact c9, go_pre h hg (U := T0.setVm vm₁) hT hW₁⟩)
  obtain ⟨t, a, b⟩ := go_afterw (y := y) (bytes := bytes) (maxL := maxL) (n := n) (idx := idx) (rt' := rt') (rc := rc) (st0 := []) h hl hg k hT XB hpost
  exact ⟨t, stp t a, b⟩
end GOC
