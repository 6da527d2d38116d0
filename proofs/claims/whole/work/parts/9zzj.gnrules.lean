/-! constructors: where they begin and end, objects, rows, fields -/
theorem cx_of {l : Launch} {y : MethodName} {own : String} {cc : ByteArray} {maxL : Nat} {rm : Room} {D : va_G} {cy : Nat → ClassId} {z : (Nat → Nat) × (Nat → Nat) × Nat} {As : List Value} {pre : va_W} {post : (Nat → Nat) → va_W} {mc ms : Nat} {lc : List (Nat × Value)}
    (hy : plainName y.cls = true) (hyc : y.cls = own) (hyn : y.name = "<init>") (hn : (lg_sl As).length ≤ maxL) (hlc : lv_args 0 As = lc)
    (body : ∀ X : XT, x_l X = l → x_z X = z → x_D X = D → x_cy X = cy → NC X cc own maxL none rm → (x_meth X).name = "<init>" → x_Q X = MQ (x_below X) (GPost (x_D X) post (x_A X)) (x_args X) (x_s X) mc ms (x_A X) → GN X pre 0 lc [] 0 0) : CX l y cc maxL rm D cy z As pre post mc ms := by
  intro sz
  refine Met.ofW (cc := cc) (maxL := maxL) (ret := none) hy rfl ?_
  intro p e s m args below meth c s₁ B hml hv
  obtain ⟨rfl, hsz, hP, hK, hD0, hT, hao, hbo⟩ := hv
  subst hsz
  have hD := hD0.self (sz := s.heap.size)
  have hown : s.vm.findClass own = some m.cls := hyc ▸ findClass_of_methodNamed B.named
  have hts := atoms_spec (ws := Cond.code y cc maxL none :: wAll) B.pre
  have hin : meth.name = "<init>" := (name_of_methodNamed B.named B.method).1.trans hyn
  have hA : ∀ x : Nat, s.heap.size ≤ x → va_A pre s.heap.size x := fun x h => Or.inr h
  have hl := lv_entry As (n := maxL) hn
  rw [lg_entry_eq]
  generalize (lg_sl As ++ List.replicate (maxL - (lg_sl As).length) Slot.unset).toArray = ls at hl ⊢
  rw [hlc] at hl
  have hb := body (p, l, e, rm, s, m, As.toArray, below, meth, c, MQ below (GPost D post (va_A pre s.heap.size)) As.toArray s mc ms (va_A pre s.heap.size), maxL, D, fun _ => 0, cy, va_A pre s.heap.size, (fun _ => 0, fun _ => 0, fun _ _ => 0, fun _ _ => 0, fun _ => 0), z) rfl rfl rfl rfl
    ⟨⟨B.exec, B.bytes, hml, rfl, hown, fun w hw => hts w (List.mem_cons_of_mem _ hw), hK, B.notSynchronized, B.returns, hA, rfl, hT, rfl⟩, hao, hbo⟩ hin rfl
  exact hb s.heap [] ls hl ⟨hP, hD, va_S.rf⟩
section GNR
variable {X : XT} {cc : ByteArray} {own : String} {nL : Nat} {rt : Option FieldType} {rm : Room} {ws ws' : va_W}
variable {pc pc' : Nat} {lc lc' : List (Nat × Value)} {st st' st0 : List Value} {cells slots cells' slots' : Nat}
theorem gn_vret {post : (Nat → Nat) → va_W} {mc ms : Nat} (h : NC X cc own nL none rm) (hQ : x_Q X = MQ (x_below X) (GPost (x_D X) post (x_A X)) (x_args X) (x_s X) mc ms (x_A X)) (hd : decode cc pc = .ok (.return_, 1)) (r : Nat → Nat) (hw : ws = post r) : GN X ws pc lc [] mc ms := by
  subst hw
  intro H locs ls hl hg
  rw [hQ]
  exact W.vret h.1.1 h.1.2.1 h.1.2.2.2.2.2.2.2.2.1 (fun t ht hW => ⟨⟨r, rfl, by rw [ht]; exact hg.1, hg.2.1⟩, hg.2.2.F ht⟩) hg.2.2.2.2 hd h.1.2.2.2.2.2.2.2.1
theorem gn_objInit (h : NC X cc own nL rt rm) {idx a : Nat} (hw : Cond.methodLink own idx objectInit ∈ wAll) (hd : decode cc pc = .ok (.invokespecial idx, 3)) (hp : pc + 3 = pc') (hf : 1 ≤ rm.frames) (hc : (st.map fun v => v.category).sum + 12 ≤ rm.locals) (k : GN X ws pc' lc st cells slots) : GN X ws pc lc (.ref a :: st) cells slots := by
  subst hp
  intro H locs ls hl hg
  have h1 := h.1
  have hR : x_R X = rm := h1.2.2.2.2.2.2.2.2.2.2.1
  refine W.objInit h1.1 h1.2.1 h1.2.2.2.2.1 (h1.2.2.2.2.2.1 _ hw) (h1.2.2.2.2.2.1 _ mw_10) (h1.2.2.2.2.2.1 _ mw_11) rfl (by rw [h1.2.2.1]; exact hl.1.trans h1.2.2.2.1) rfl hd (by rw [hR]; exact hf) (by rw [hR]; show 2 * 0 + _ + 12 ≤ _; omega) ?_
  exact W.eq (g2 := F0 (x_m X) (pc + 3) ls st) rfl (k H locs ls hl hg)
theorem gn_new (h : NC X cc own nL rt rm) {C : String} {T : u_T} {N ci idx : Nat} {tyf : Nat → FieldType} {fs : List Value} (hc : vwCl[ci]? = some (C, T, N)) (hin : ∀ w ∈ u_ws C T N, w ∈ wAll) (hty : ∀ k, k < N → parseFieldDescriptor (T k).2.2.1 = some (tyf k)) (hw1 : Cond.classLink own idx C ∈ wAll) (hw2 : Cond.instantiable C N ∈ wAll) (hw3 : Cond.initialized C ∈ wAll) (hfs : ∀ j, j < N → defaultValue (tyf j) = vp_V fs j) (hcl : cells + 1 ≤ rm.cells) (hsl : slots + N ≤ rm.slots) (hd : decode cc pc = .ok (.new idx, 3)) (hp : pc + 3 = pc') (hc' : cells + 1 = cells') (hs' : slots + N = slots') (k : ∀ q : Nat, GN X (ws ++ [(q, .inr (ci, fs))]) pc' lc (.ref q :: st) cells' slots') : GN X ws pc lc st cells slots := by
  subst hp; subst hc'; subst hs'
  intro H locs ls hl hg
  have h1 := h.1
  have hR : x_R X = rm := h1.2.2.2.2.2.2.2.2.2.2.1
  have ht := h1.2.2.2.2.2.1
  exact va_new (D := x_D X) h1.1 h1.2.1 ht hin tyf hty h1.2.2.2.2.1 (ht _ hw1) (ht _ hw2) (ht _ hw3) h1.2.2.2.2.2.2.1 hg.1 hg.2.1 hg.2.2 h1.2.2.2.2.2.2.2.2.2.1 hc hfs (by rw [hR]; exact hcl) (by rw [hR]; exact hsl) hd (fun q H1 hP hD hS => k q H1 locs ls hl ⟨hP, hD, hS⟩)
theorem gn_newI (h : NC X cc own nL rt rm) {atype : ArrayType} {ty : FieldType} {n0 : Nat} (tc : Nat) (htc : (tc = 0 ∧ ty = .int) ∨ (tc = 1 ∧ ty = .byte) ∨ (tc = 2 ∧ ty = .boolean)) (hac : Cond.arrayClass ty ∈ wAll) (hat : newarray.typeOf atype = ty) (hn : n0 ≤ 40000) (hcl : cells + 1 ≤ rm.cells) (hsl : slots + n0 ≤ rm.slots) (hd : decode cc pc = .ok (.newarray atype, 2)) (hp : pc + 2 = pc') (hc' : cells + 1 = cells') (hs' : slots + n0 = slots') {x : Int32} (hx : x = nI n0) (k : ∀ q : Nat, GN X (ws ++ [(q, .inl (x_cy X tc, (n0, .inl (fun _ => 0))))]) pc' lc (.ref q :: st) cells' slots') : GN X ws pc lc (.int x :: st) cells slots := by
  subst hp; subst hc'; subst hs'; subst hx
  intro H locs ls hl hg
  have h1 := h.1
  have hR : x_R X = rm := h1.2.2.2.2.2.2.2.2.2.2.1
  have hx : ¬ nI n0 < 0 := fun q => (oI_neg (by omega)).mp q
  have hx2 : (nI n0).toNatClampNeg = n0 := nI_clamp (by omega)
  refine va_newa (D := x_D X) h1.1 h1.2.1 (by rw [hat]; exact h1.2.2.2.2.2.1 _ hac) hat h1.2.2.2.2.2.2.1 hg.1 hg.2.1 hg.2.2 h1.2.2.2.2.2.2.2.2.2.1 (a0 := (n0, .inl (fun _ => 0))) (fun cA => by rcases htc with ⟨rfl, rfl⟩ | ⟨rfl, rfl⟩ | ⟨rfl, rfl⟩ <;> rfl) hx hx2 (by rcases htc with ⟨rfl, rfl⟩ | ⟨rfl, rfl⟩ | ⟨rfl, rfl⟩ <;> simp [componentBytes] <;> omega) (by rw [hR]; exact hcl) (by rw [hR]; exact hsl) hd (fun q cA H1 hK1 hP1 hD1 hS1 => ?_)
  have hcy : cA = x_cy X tc := by
    have e2 := (hK1.2 6 (cA, ty) rfl).2
    rcases htc with ⟨rfl, rfl⟩ | ⟨rfl, rfl⟩ | ⟨rfl, rfl⟩
    · exact Option.some.inj (e2.symm.trans (h1.2.2.2.2.2.2.1.2 0 (x_cy X 0, .int) rfl).2)
    · exact Option.some.inj (e2.symm.trans (h1.2.2.2.2.2.2.1.2 1 (x_cy X 1, .byte) rfl).2)
    · exact Option.some.inj (e2.symm.trans (h1.2.2.2.2.2.2.1.2 2 (x_cy X 2, .boolean) rfl).2)
  rw [hcy] at hP1 hD1
  exact k q H1 locs ls hl ⟨hP1, hD1, hS1⟩
theorem gn_newL (h : NC X cc own nL rt rm) {atype : ArrayType} {n0 : Nat} (hat : newarray.typeOf atype = .long) (hn : n0 ≤ 40000) (hcl : cells + 1 ≤ rm.cells) (hsl : slots + n0 ≤ rm.slots) (hd : decode cc pc = .ok (.newarray atype, 2)) (hp : pc + 2 = pc') (hc' : cells + 1 = cells') (hs' : slots + n0 = slots') {x : Int32} (hx : x = nI n0) (k : ∀ q : Nat, GN X (ws ++ [(q, .inl (x_cy X 3, (n0, .inr (.inl (fun _ => 0)))))]) pc' lc (.ref q :: st) cells' slots') : GN X ws pc lc (.int x :: st) cells slots := by
  subst hp; subst hc'; subst hs'; subst hx
  intro H locs ls hl hg
  have h1 := h.1
  have hR : x_R X = rm := h1.2.2.2.2.2.2.2.2.2.2.1
  have hx : ¬ nI n0 < 0 := fun q => (oI_neg (by omega)).mp q
  have hx2 : (nI n0).toNatClampNeg = n0 := nI_clamp (by omega)
  refine va_newa (D := x_D X) h1.1 h1.2.1 (by rw [hat]; exact h1.2.2.2.2.2.1 _ mw_91) hat h1.2.2.2.2.2.2.1 hg.1 hg.2.1 hg.2.2 h1.2.2.2.2.2.2.2.2.2.1 (a0 := (n0, .inr (.inl (fun _ => 0)))) (fun cA => rfl) hx hx2 (by simp [componentBytes]; omega) (by rw [hR]; exact hcl) (by rw [hR]; exact hsl) hd (fun q cA H1 hK1 hP1 hD1 hS1 => ?_)
  have hcy : cA = x_cy X 3 := Option.some.inj ((hK1.2 6 (cA, .long) rfl).2.symm.trans (h1.2.2.2.2.2.2.1.2 3 (x_cy X 3, .long) rfl).2)
  rw [hcy] at hP1 hD1
  exact k q H1 locs ls hl ⟨hP1, hD1, hS1⟩
theorem gn_newQ (h : NC X cc own nL rt rm) {C : String} {idx n0 : Nat} (tc : Nat) (htc : (tc = 4 ∧ C = "LetterThrough$Land") ∨ (tc = 5 ∧ C = "LetterThrough$Notes")) (hw : Cond.classLink own idx C ∈ wAll) (hn : n0 ≤ 40000) (hcl : cells + 1 ≤ rm.cells) (hsl : slots + n0 ≤ rm.slots) (hd : decode cc pc = .ok (.anewarray idx, 3)) (hp : pc + 3 = pc') (hc' : cells + 1 = cells') (hs' : slots + n0 = slots') {x : Int32} (hx : x = nI n0) (k : ∀ q : Nat, GN X (ws ++ [(q, .inl (x_cy X tc, (n0, .inr (.inr (.inr (.inr (fun _ => none)))))))]) pc' lc (.ref q :: st) cells' slots') : GN X ws pc lc (.int x :: st) cells slots := by
  subst hp; subst hc'; subst hs'; subst hx
  intro H locs ls hl hg
  have h1 := h.1
  have hR : x_R X = rm := h1.2.2.2.2.2.2.2.2.2.2.1
  have hx : ¬ nI n0 < 0 := fun q => (oI_neg (by omega)).mp q
  have hx2 : (nI n0).toNatClampNeg = n0 := nI_clamp (by omega)
  have hao : va_AO C (x_s X) := by rcases htc with ⟨_, rfl⟩ | ⟨_, rfl⟩; exact h.2.1; exact h.2.2
  refine va_newq (D := x_D X) h1.1 h1.2.1 h1.2.2.2.2.1 (h1.2.2.2.2.2.1 _ hw) hao h1.2.2.2.2.2.2.1 hg.1 hg.2.1 hg.2.2 h1.2.2.2.2.2.2.2.2.2.1 hx hx2 (by omega) (by rw [hR]; exact hcl) (by rw [hR]; exact hsl) hd (fun q cA H1 hK1 hP1 hD1 hS1 => ?_)
  have hcy : cA = x_cy X tc := by
    obtain ⟨_, _, _, _, _, e2⟩ := (hK1.2 6 (cA, .object C) rfl).2
    rcases htc with ⟨rfl, rfl⟩ | ⟨rfl, rfl⟩
    · obtain ⟨_, _, _, _, _, e3⟩ := (h1.2.2.2.2.2.2.1.2 4 (x_cy X 4, .object "LetterThrough$Land") rfl).2
      exact Option.some.inj (e2.symm.trans e3)
    · obtain ⟨_, _, _, _, _, e3⟩ := (h1.2.2.2.2.2.2.1.2 5 (x_cy X 5, .object "LetterThrough$Notes") rfl).2
      exact Option.some.inj (e2.symm.trans e3)
  rw [hcy] at hP1 hD1
  exact k q H1 locs ls hl ⟨hP1, hD1, hS1⟩
theorem gn_put (h : NC X cc own nL rt rm) {ref C : String} {T : u_T} {N ci idx a : Nat} {fs fs' : List Value} {tyf : Nat → FieldType} {v : Value} (q0 k : Nat) (he : ws[q0]? = some (a, .inr (ci, fs))) (hc : vwCl[ci]? = some (C, T, N)) (hin : ∀ w ∈ u_ws C T N, w ∈ wAll) (hty : ∀ k, k < N → parseFieldDescriptor (T k).2.2.1 = some (tyf k)) (hnm : ∀ a, a < N → ∀ b, b < N → a ≠ b → (T a).2.1 ≠ (T b).2.1) (hkN : k < N) (hw : Cond.fieldLink own idx ref (T k).2.1 (T k).2.2.1 ∈ wAll) (hs : (T k).1 = ref) (hnar : narrow (tyf k) v = v) (hfit : fits (tyf k) v = true) (hl0 : k < fs.length) (hfin : (T k).2.2.2 = false) (hd : decode cc pc = .ok (.putfield idx, 3)) (hp : pc + 3 = pc') (hfs : fs.set k v = fs') (hws : ws.set q0 (a, .inr (ci, fs')) = ws') (kk : GN X ws' pc' lc st cells slots) : GN X ws pc lc (v :: .ref a :: st) cells slots := by
  subst hp; subst hfs; subst hws
  intro H locs ls hl hg
  have h1 := h.1
  have ht := h1.2.2.2.2.2.1
  exact va_put (D := x_D X) h1.1 h1.2.1 ht hin tyf hty hnm h1.2.2.2.2.1 h1.2.2.2.2.2.2.1 hg.1 hg.2.1 hg.2.2 q0 he hc k hkN (ht _ hw) (fun _ h9 => hs ▸ h9) hfin (hty k hkN) hnar hfit hl0 hd (fun H1 l1 hP hD hS => kk H1 l1 ls hl ⟨hP, hD, hS⟩)
theorem gn_putF (h : NC X cc own nL rt rm) (hI : (x_meth X).name = "<init>") {ref C : String} {T : u_T} {N ci idx a : Nat} {fs fs' : List Value} {tyf : Nat → FieldType} {v : Value} (q0 k : Nat) (he : ws[q0]? = some (a, .inr (ci, fs))) (hc : vwCl[ci]? = some (C, T, N)) (hin : ∀ w ∈ u_ws C T N, w ∈ wAll) (hty : ∀ k, k < N → parseFieldDescriptor (T k).2.2.1 = some (tyf k)) (hnm : ∀ a, a < N → ∀ b, b < N → a ≠ b → (T a).2.1 ≠ (T b).2.1) (hkN : k < N) (hw : Cond.fieldLink own idx ref (T k).2.1 (T k).2.2.1 ∈ wAll) (hs : (T k).1 = ref) (hnar : narrow (tyf k) v = v) (hfit : fits (tyf k) v = true) (hl0 : k < fs.length) (hfin : (T k).2.2.2 = true) (hown : (T k).1 = own) (hd : decode cc pc = .ok (.putfield idx, 3)) (hp : pc + 3 = pc') (hfs : fs.set k v = fs') (hws : ws.set q0 (a, .inr (ci, fs')) = ws') (kk : GN X ws' pc' lc st cells slots) : GN X ws pc lc (v :: .ref a :: st) cells slots := by
  subst hp; subst hfs; subst hws
  intro H locs ls hl hg
  have h1 := h.1
  have ht := h1.2.2.2.2.2.1
  exact va_putF (D := x_D X) h1.1 h1.2.1 ht hin tyf hty hnm h1.2.2.2.2.1 h1.2.2.2.2.2.2.1 hg.1 hg.2.1 hg.2.2 q0 he hc k hkN (ht _ hw) (fun _ h9 => hs ▸ h9) hfin hI hown (hty k hkN) hnar hfit hl0 hd (fun H1 l1 hP hD hS => kk H1 l1 ls hl ⟨hP, hD, hS⟩)
theorem gn_get (h : NC X cc own nL rt rm) {ref C : String} {T : u_T} {N ci idx a : Nat} {fs : List Value} {v : Value} (q0 k : Nat) (he : ws[q0]? = some (a, .inr (ci, fs))) (hc : vwCl[ci]? = some (C, T, N)) (hin : ∀ w ∈ u_ws C T N, w ∈ wAll) (hkN : k < N) (hw : Cond.fieldLink own idx ref (T k).2.1 (T k).2.2.1 ∈ wAll) (hs : (T k).1 = ref) (hv : fs[k]? = some v) (hd : decode cc pc = .ok (.getfield idx, 3)) (hp : pc + 3 = pc') (kk : GN X ws pc' lc (v :: st) cells slots) : GN X ws pc lc (.ref a :: st) cells slots := by
  subst hp
  intro H locs ls hl hg
  have h1 := h.1
  have ht := h1.2.2.2.2.2.1
  exact va_get (D := x_D X) h1.1 h1.2.1 ht hin h1.2.2.2.2.1 h1.2.2.2.2.2.2.1 hg.1 q0 he hc k hkN (ht _ hw) (fun _ h9 => hs ▸ h9) hv hd (kk H locs ls hl hg)
theorem gn_astq (h : NC X cc own nL rt rm) {cA : ClassId} {r : vw_C} {n v a : Nat} {vs : List Value} {f : Nat → Option Nat} {i : Int32} (q0 t0 qk ci : Nat) (ha : ws[q0]? = some (a, .inl (cA, n, .inr (.inr (.inr (.inr f)))))) (ht : (wd_tys (x_cy X))[t0]? = some (cA, .object r.1)) (hv : ws[qk]? = some (v, .inr (ci, vs))) (hc : vwCl[ci]? = some r) (hin : vp_in i n) (hd : decode cc pc = .ok (.aastore, 1)) (hp : pc + 1 = pc') (hws : ws.set q0 (a, .inl (cA, n, .inr (.inr (.inr (.inr (va_up f i.toNatClampNeg (some v))))))) = ws') (kk : GN X ws' pc' lc st cells slots) : GN X ws pc lc (.ref v :: .int i :: .ref a :: st) cells slots := by
  subst hp; subst hws
  intro H locs ls hl hg
  have h1 := h.1
  exact va_astq (D := x_D X) h1.1 h1.2.1 h1.2.2.2.2.2.2.1 hg.1 hg.2.1 hg.2.2 q0 t0 qk ci ha ht hv hc hin hd (fun H1 l1 hP hD hS => kk H1 l1 ls hl ⟨hP, hD, hS⟩)
theorem gn_ldc (h : NC X cc own nL rt rm) {idx : Nat} {v : Int32} (hd : decode cc pc = .ok (.ldc idx, 2)) (hw : Cond.constant own idx v ∈ wAll) (hp : pc + 2 = pc') (k : GN X ws pc' lc (.int v :: st) cells slots) : GN X ws pc lc st cells slots := by
  subst hp
  intro H locs ls hl hg
  exact lv_ldc h.1.1 h.1.2.1 h.1.2.2.2.2.1 (h.1.2.2.2.2.2.1 _ hw) hd (k H locs ls hl hg)
theorem gn_sld (h : NC X cc own nL rt rm) {b L : Nat} {xs : Nat → Int32} {i : Int32} (hX : va_X b L xs (x_s X) (x_s X).heap) (hbl : b < (x_s X).heap.size) (hbA : ¬ (x_A X) b) (hin : vp_in i L) (hd : decode cc pc = .ok (.iaload, 1)) (hp : pc + 1 = pc') (k : GN X ws pc' lc (.int (xs i.toNatClampNeg) :: st) cells slots) : GN X ws pc lc (.int i :: .ref b :: st) cells slots := by
  subst hp
  intro H locs ls hl hg
  exact va_sld h.1.1 h.1.2.1 hX hbl hbA hg.2.2 hin hd (k H locs ls hl hg)
theorem gn_slen (h : NC X cc own nL rt rm) {b L : Nat} {xs : Nat → Int32} (hX : va_X b L xs (x_s X) (x_s X).heap) (hbl : b < (x_s X).heap.size) (hbA : ¬ (x_A X) b) (hd : decode cc pc = .ok (.arraylength, 1)) (hp : pc + 1 = pc') (k : GN X ws pc' lc (.int (nI L) :: st) cells slots) : GN X ws pc lc (.ref b :: st) cells slots := by
  subst hp
  intro H locs ls hl hg
  exact va_slen h.1.1 h.1.2.1 hX hbl hbA hg.2.2 hd (k H locs ls hl hg)
end GNR
