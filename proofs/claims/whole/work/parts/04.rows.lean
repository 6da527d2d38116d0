/-! the things that are fixed while a method runs -/
abbrev XT : Type := Program × Launch × Env × Room × State × MethodId × Array Value × List Frame × Method × Code × (State → Prop) × Nat × va_G × (Nat → Nat) × (Nat → ClassId) × (Nat → Prop) × wd_W × ((Nat → Nat) × (Nat → Nat) × Nat)
abbrev x_p (X : XT) : Program := X.1
abbrev x_l (X : XT) : Launch := X.2.1
abbrev x_e (X : XT) : Env := X.2.2.1
abbrev x_R (X : XT) : Room := X.2.2.2.1
abbrev x_s (X : XT) : State := X.2.2.2.2.1
abbrev x_m (X : XT) : MethodId := X.2.2.2.2.2.1
abbrev x_args (X : XT) : Array Value := X.2.2.2.2.2.2.1
abbrev x_below (X : XT) : List Frame := X.2.2.2.2.2.2.2.1
abbrev x_meth (X : XT) : Method := X.2.2.2.2.2.2.2.2.1
abbrev x_c (X : XT) : Code := X.2.2.2.2.2.2.2.2.2.1
abbrev x_Q (X : XT) : State → Prop := X.2.2.2.2.2.2.2.2.2.2.1
abbrev x_nL (X : XT) : Nat := X.2.2.2.2.2.2.2.2.2.2.2.1
abbrev x_D (X : XT) : va_G := X.2.2.2.2.2.2.2.2.2.2.2.2.1
abbrev x_q (X : XT) : Nat → Nat := X.2.2.2.2.2.2.2.2.2.2.2.2.2.1
abbrev x_cy (X : XT) : Nat → ClassId := X.2.2.2.2.2.2.2.2.2.2.2.2.2.2.1
abbrev x_A (X : XT) : Nat → Prop := X.2.2.2.2.2.2.2.2.2.2.2.2.2.2.2.1
abbrev x_S (X : XT) : wd_W := X.2.2.2.2.2.2.2.2.2.2.2.2.2.2.2.2.1
abbrev x_z (X : XT) : (Nat → Nat) × (Nat → Nat) × Nat := X.2.2.2.2.2.2.2.2.2.2.2.2.2.2.2.2.2
def wd_tys (cy : Nat → ClassId) : List (ClassId × FieldType) := [(cy 0, .int), (cy 1, .byte), (cy 2, .boolean), (cy 3, .long), (cy 4, .object "LetterThrough$Land"), (cy 5, .object "LetterThrough$Notes")]
/-! the constants that the system reads: a static array, statics of the JDK's, String constants -/
def st_pow (j : Nat) : Int32 := match j with
  | 0 => 1 | 1 => 3 | 2 => 9 | 3 => 27 | 4 => 81 | 5 => 243 | 6 => 729 | 7 => 2187 | 8 => 6561 | 9 => 19683 | _ => 0
def st_txt : List String := ["places", "line", "one", "days", "keep", "cause", "place", "through", "some", "two", "all"]
def st_ent : List Nat := [83, 88, 125, 127, 93, 98, 142, 103, 155, 157, 159]
def st_len : List Nat := [6, 4, 3, 4, 4, 5, 5, 7, 4, 3, 3]
def st_byt : List (List Int32) := [[112, 108, 97, 99, 101, 115], [108, 105, 110, 101], [111, 110, 101], [100, 97, 121, 115], [107, 101, 101, 112], [99, 97, 117, 115, 101], [112, 108, 97, 99, 101], [116, 104, 114, 111, 117, 103, 104], [115, 111, 109, 101], [116, 119, 111], [97, 108, 108]]
def ST (z : (Nat → Nat) × (Nat → Nat) × Nat) (A : Nat → Prop) (U : State) (H : Heap) : Prop :=
  va_Z "LetterThrough$Looks" "POWERS" "[I" (.ref z.2.2) A U H ∧ va_T .int z.2.2 10 (fun j => .int (st_pow j)) A U H ∧ va_Z "java/lang/String" "COMPACT_STRINGS" "Z" (.int 1) A U H ∧ va_Zq "jdk/internal/util/Preconditions" "SIOOBE_FORMATTER" "Ljava/util/function/BiFunction;" A U H ∧ vk_S 11 st_len st_byt z.1 z.2.1 A U H ∧ ∀ i : Nat, i < 11 → vk_R "LetterThrough$Tape" (st_ent.getD i 0) (st_txt.getD i "") (z.1 i) U
theorem ST.warm {z : (Nat → Nat) × (Nat → Nat) × Nat} {A : Nat → Prop} {s U : State} {H : Heap} (hW : s.WarmedH U.vm) (h : ST z A s H) : ST z A U H :=
  ⟨h.1.moved hW.alike, h.2.1.moved hW.alike, h.2.2.1.moved hW.alike, h.2.2.2.1.moved hW.alike, h.2.2.2.2.1.moved hW.alike, fun i hi => (h.2.2.2.2.2 i hi).warm hW⟩
theorem ST.kept {z : (Nat → Nat) × (Nat → Nat) × Nat} {A : Nat → Prop} {U : State} {H H1 : Heap} (h : ST z A U H) (hq : ∀ a : Nat, a < H.size → ¬ A a → H1[a]? = H[a]?) : ST z A U H1 :=
  ⟨h.1.kept hq, h.2.1.kept hq, h.2.2.1.kept hq, h.2.2.2.1.kept hq, h.2.2.2.2.1.kept hq, h.2.2.2.2.2⟩
theorem ST.narrow {z : (Nat → Nat) × (Nat → Nat) × Nat} {A B : Nat → Prop} {U : State} {H : Heap} (h : ST z A U H) (hAB : ∀ q, B q → A q) : ST z B U H :=
  ⟨h.1.narrow hAB, h.2.1.narrow hAB, h.2.2.1.narrow hAB, h.2.2.2.1.narrow hAB, h.2.2.2.2.1.narrow hAB, h.2.2.2.2.2⟩
theorem ST.same {z : (Nat → Nat) × (Nat → Nat) × Nat} {A : Nat → Prop} {s U : State} {H : Heap} (hv : U.vm = s.vm) (h : ST z A s H) : ST z A U H :=
  ⟨h.1.moved (hv ▸ Vm.Alike.refl _), h.2.1.moved (hv ▸ Vm.Alike.refl _), h.2.2.1.moved (hv ▸ Vm.Alike.refl _), h.2.2.2.1.moved (hv ▸ Vm.Alike.refl _), h.2.2.2.2.1.moved (hv ▸ Vm.Alike.refl _), fun i hi => (h.2.2.2.2.2 i hi).same hv⟩
/-- the world: its cells hold the numbers S, they are apart, nothing else has changed -/
def GS (X : XT) (lay : List wd_E) (g : Nat → Nat) (S : wd_W) (H : Heap) (locs : List Loc) : Prop :=
  va_P (x_D X) vwCl (wd_ws (x_q X) g (x_cy X) S 0 lay) H ∧ va_D (x_A X) (wd_ws (x_q X) g (x_cy X) S 0 lay) ∧ va_S (x_A X) (x_s X).heap H locs
def Go (X : XT) (lay : List wd_E) (S0 : wd_W) (pc : Nat) (lc : List (Nat × Value)) (st : List Value) (g : Nat → Nat) (L1 : List (Nat × Int32)) (L2 : List (Nat × Int64)) (L3 : List (Nat × (Nat → Int32))) (L4 : List (Nat × (Nat → Int64))) (L5 : List (Nat × Nat)) (cells slots : Nat) : Prop :=
  ∀ (H : Heap) (locs : List Loc) (ls : Array Slot), lv_has ls (x_nL X) lc → GS X lay g (wd_o S0 L1 L2 L3 L4 L5) H locs → W (x_p X) (x_l X) (x_e X) (x_R X) (x_s X) (x_m X) (x_args X) (x_below X) (x_meth X) (x_c X) H locs cells slots (x_Q X) (F0 (x_m X) pc ls st)
/-- what holds all through a method -/
def MC (X : XT) (lay : List wd_E) (cc : ByteArray) (own : String) (nL : Nat) (rt : Option FieldType) (rm : Room) : Prop :=
  (x_p X).tables.exec = Jvm.exec ∧ (x_c X).code = cc ∧ (x_c X).maxLocals = nL ∧ x_nL X = nL ∧ (x_s X).vm.findClass own = some (x_m X).cls ∧ (∀ w ∈ wAll, w.before (x_args X) (x_s X) = true) ∧ va_K (x_D X) vwCl (wd_tys (x_cy X)) (x_s X) ∧ (x_meth X).locks = false ∧ (x_meth X).sig.returnType = rt ∧ (∀ q : Nat, (x_s X).heap.size ≤ q → (x_A X) q) ∧ x_R X = rm ∧ ST (x_z X) (x_A X) (x_s X) (x_s X).heap ∧ wd_ok lay = true
section GO
variable {X : XT} {lay : List wd_E} {S0 : wd_W} {cc : ByteArray} {own : String} {nL : Nat} {rt : Option FieldType} {rm : Room}
variable {pc pc' : Nat} {lc lc' : List (Nat × Value)} {st : List Value} {g : Nat → Nat} {L1 L1' : List (Nat × Int32)} {L2 L2' : List (Nat × Int64)} {L3 L3' : List (Nat × (Nat → Int32))} {L4 L4' : List (Nat × (Nat → Int64))} {L5 L5' : List (Nat × Nat)} {cells slots : Nat}
theorem go_iconst (h : MC X lay cc own nL rt rm) {n : Int} {v : Int32} (hd : decode cc pc = .ok (.iconst n, 1)) (hv : Int32.ofInt n = v) (hp : pc + 1 = pc') (k : Go X lay S0 pc' lc (.int v :: st) g L1 L2 L3 L4 L5 cells slots) : Go X lay S0 pc lc st g L1 L2 L3 L4 L5 cells slots := by
  subst hp
  intro H locs ls hl hg
  exact lv_iconst h.1 h.2.1 hd hv (k H locs ls hl hg)
theorem go_bipush (h : MC X lay cc own nL rt rm) {n : Int} {v : Int32} (hd : decode cc pc = .ok (.bipush n, 2)) (hv : (Int8.ofInt n).toInt32 = v) (hp : pc + 2 = pc') (k : Go X lay S0 pc' lc (.int v :: st) g L1 L2 L3 L4 L5 cells slots) : Go X lay S0 pc lc st g L1 L2 L3 L4 L5 cells slots := by
  subst hp
  intro H locs ls hl hg
  exact lv_bipush h.1 h.2.1 hd hv (k H locs ls hl hg)
theorem go_sipush (h : MC X lay cc own nL rt rm) {n : Int} {v : Int32} (hd : decode cc pc = .ok (.sipush n, 3)) (hv : (Int16.ofInt n).toInt32 = v) (hp : pc + 3 = pc') (k : Go X lay S0 pc' lc (.int v :: st) g L1 L2 L3 L4 L5 cells slots) : Go X lay S0 pc lc st g L1 L2 L3 L4 L5 cells slots := by
  subst hp
  intro H locs ls hl hg
  exact lv_sipush h.1 h.2.1 hd hv (k H locs ls hl hg)
theorem go_lconst (h : MC X lay cc own nL rt rm) {n : Fin 2} {v : Int64} (hd : decode cc pc = .ok (.lconst n, 1)) (hv : Int64.ofNat (n : Nat) = v) (hp : pc + 1 = pc') (k : Go X lay S0 pc' lc (.long v :: st) g L1 L2 L3 L4 L5 cells slots) : Go X lay S0 pc lc st g L1 L2 L3 L4 L5 cells slots := by
  subst hp
  intro H locs ls hl hg
  exact lv_lconst h.1 h.2.1 hd hv (k H locs ls hl hg)
theorem go_ldc (h : MC X lay cc own nL rt rm) {idx : Nat} {v : Int32} (hd : decode cc pc = .ok (.ldc idx, 2)) (hw : Cond.constant own idx v ∈ wAll) (hp : pc + 2 = pc') (k : Go X lay S0 pc' lc (.int v :: st) g L1 L2 L3 L4 L5 cells slots) : Go X lay S0 pc lc st g L1 L2 L3 L4 L5 cells slots := by
  subst hp
  intro H locs ls hl hg
  exact lv_ldc h.1 h.2.1 h.2.2.2.2.1 (h.2.2.2.2.2.1 _ hw) hd (k H locs ls hl hg)
theorem go_ldc2 (h : MC X lay cc own nL rt rm) {idx : Nat} {v : Int64} (hd : decode cc pc = .ok (.ldc2_w idx, 3)) (hw : Cond.constantLong own idx v ∈ wAll) (hp : pc + 3 = pc') (k : Go X lay S0 pc' lc (.long v :: st) g L1 L2 L3 L4 L5 cells slots) : Go X lay S0 pc lc st g L1 L2 L3 L4 L5 cells slots := by
  subst hp
  intro H locs ls hl hg
  exact lv_ldc2 h.1 h.2.1 h.2.2.2.2.1 (h.2.2.2.2.2.1 _ hw) hd (k H locs ls hl hg)
theorem go_iload_n (h : MC X lay cc own nL rt rm) {n : Fin 4} {x : Int32} (hd : decode cc pc = .ok (.iload_n n, 1)) (hi : wd_lk lc (n : Nat) = some (.int x)) (hp : pc + 1 = pc') (k : Go X lay S0 pc' lc (.int x :: st) g L1 L2 L3 L4 L5 cells slots) : Go X lay S0 pc lc st g L1 L2 L3 L4 L5 cells slots := by
  subst hp
  intro H locs ls hl hg
  exact lv_iload_n h.1 h.2.1 hd rfl (lc_at hl hi) (k H locs ls hl hg)
theorem go_iload (h : MC X lay cc own nL rt rm) {i : Nat} {x : Int32} (hd : decode cc pc = .ok (.iload i, 2)) (hi : wd_lk lc i = some (.int x)) (hp : pc + 2 = pc') (k : Go X lay S0 pc' lc (.int x :: st) g L1 L2 L3 L4 L5 cells slots) : Go X lay S0 pc lc st g L1 L2 L3 L4 L5 cells slots := by
  subst hp
  intro H locs ls hl hg
  exact lv_iload h.1 h.2.1 hd (lc_at hl hi) (k H locs ls hl hg)
theorem go_lload_n (h : MC X lay cc own nL rt rm) {n : Fin 4} {x : Int64} (hd : decode cc pc = .ok (.lload_n n, 1)) (hi : wd_lk lc (n : Nat) = some (.long x)) (hp : pc + 1 = pc') (k : Go X lay S0 pc' lc (.long x :: st) g L1 L2 L3 L4 L5 cells slots) : Go X lay S0 pc lc st g L1 L2 L3 L4 L5 cells slots := by
  subst hp
  intro H locs ls hl hg
  exact lv_lload_n h.1 h.2.1 hd rfl (lc_at hl hi) (k H locs ls hl hg)
theorem go_lload (h : MC X lay cc own nL rt rm) {i : Nat} {x : Int64} (hd : decode cc pc = .ok (.lload i, 2)) (hi : wd_lk lc i = some (.long x)) (hp : pc + 2 = pc') (k : Go X lay S0 pc' lc (.long x :: st) g L1 L2 L3 L4 L5 cells slots) : Go X lay S0 pc lc st g L1 L2 L3 L4 L5 cells slots := by
  subst hp
  intro H locs ls hl hg
  exact lv_lload h.1 h.2.1 hd (lc_at hl hi) (k H locs ls hl hg)
theorem go_aload_n (h : MC X lay cc own nL rt rm) {n : Fin 4} {x : Nat} (hd : decode cc pc = .ok (.aload_n n, 1)) (hi : wd_lk lc (n : Nat) = some (.ref x)) (hp : pc + 1 = pc') (k : Go X lay S0 pc' lc (.ref x :: st) g L1 L2 L3 L4 L5 cells slots) : Go X lay S0 pc lc st g L1 L2 L3 L4 L5 cells slots := by
  subst hp
  intro H locs ls hl hg
  exact lv_aload_n h.1 h.2.1 hd rfl (lc_at hl hi) (k H locs ls hl hg)
theorem go_aload (h : MC X lay cc own nL rt rm) {i : Nat} {x : Nat} (hd : decode cc pc = .ok (.aload i, 2)) (hi : wd_lk lc i = some (.ref x)) (hp : pc + 2 = pc') (k : Go X lay S0 pc' lc (.ref x :: st) g L1 L2 L3 L4 L5 cells slots) : Go X lay S0 pc lc st g L1 L2 L3 L4 L5 cells slots := by
  subst hp
  intro H locs ls hl hg
  exact lv_aload h.1 h.2.1 hd (lc_at hl hi) (k H locs ls hl hg)
theorem go_istore_n (h : MC X lay cc own nL rt rm) {n : Fin 4} {x : Int32} (hd : decode cc pc = .ok (.istore_n n, 1)) (hn : (n : Nat) < nL) (hp : pc + 1 = pc') (hl' : lc_put (lc.filter (lc_cl false (n : Nat))) (n : Nat) (.int x) = lc') (k : Go X lay S0 pc' lc' st g L1 L2 L3 L4 L5 cells slots) : Go X lay S0 pc lc (.int x :: st) g L1 L2 L3 L4 L5 cells slots := by
  subst hp
  intro H locs ls hl hg
  refine lv_istore_n h.1 h.2.1 hd rfl hl (by rw [h.2.2.2.1]; exact hn) rfl (fun ls' hl2 => k H locs ls' (lc_got hl2 hl' rfl) hg)
theorem go_lstore_n (h : MC X lay cc own nL rt rm) {n : Fin 4} {x : Int64} (hd : decode cc pc = .ok (.lstore_n n, 1)) (hn : (n : Nat) + 1 < nL) (hp : pc + 1 = pc') (hl' : lc_put (lc.filter (lc_cl true (n : Nat))) (n : Nat) (.long x) = lc') (k : Go X lay S0 pc' lc' st g L1 L2 L3 L4 L5 cells slots) : Go X lay S0 pc lc (.long x :: st) g L1 L2 L3 L4 L5 cells slots := by
  subst hp
  intro H locs ls hl hg
  refine lv_lstore_n h.1 h.2.1 hd rfl hl (by rw [h.2.2.2.1]; exact hn) rfl (fun ls' hl2 => k H locs ls' (lc_got hl2 hl' rfl) hg)
theorem go_astore_n (h : MC X lay cc own nL rt rm) {n : Fin 4} {x : Nat} (hd : decode cc pc = .ok (.astore_n n, 1)) (hn : (n : Nat) < nL) (hp : pc + 1 = pc') (hl' : lc_put (lc.filter (lc_cl false (n : Nat))) (n : Nat) (.ref x) = lc') (k : Go X lay S0 pc' lc' st g L1 L2 L3 L4 L5 cells slots) : Go X lay S0 pc lc (.ref x :: st) g L1 L2 L3 L4 L5 cells slots := by
  subst hp
  intro H locs ls hl hg
  refine lv_astore_n h.1 h.2.1 hd rfl hl (by rw [h.2.2.2.1]; exact hn) rfl (fun ls' hl2 => k H locs ls' (lc_got hl2 hl' rfl) hg)
theorem go_istore (h : MC X lay cc own nL rt rm) {i : Nat} {x : Int32} (hd : decode cc pc = .ok (.istore i, 2)) (hn : i < nL) (hp : pc + 2 = pc') (hl' : lc_put (lc.filter (lc_cl false i)) i (.int x) = lc') (k : Go X lay S0 pc' lc' st g L1 L2 L3 L4 L5 cells slots) : Go X lay S0 pc lc (.int x :: st) g L1 L2 L3 L4 L5 cells slots := by
  subst hp
  intro H locs ls hl hg
  refine lv_istore h.1 h.2.1 hd hl (by rw [h.2.2.2.1]; exact hn) rfl (fun ls' hl2 => k H locs ls' (lc_got hl2 hl' rfl) hg)
theorem go_lstore (h : MC X lay cc own nL rt rm) {i : Nat} {x : Int64} (hd : decode cc pc = .ok (.lstore i, 2)) (hn : i + 1 < nL) (hp : pc + 2 = pc') (hl' : lc_put (lc.filter (lc_cl true i)) i (.long x) = lc') (k : Go X lay S0 pc' lc' st g L1 L2 L3 L4 L5 cells slots) : Go X lay S0 pc lc (.long x :: st) g L1 L2 L3 L4 L5 cells slots := by
  subst hp
  intro H locs ls hl hg
  refine lv_lstore h.1 h.2.1 hd hl (by rw [h.2.2.2.1]; exact hn) rfl (fun ls' hl2 => k H locs ls' (lc_got hl2 hl' rfl) hg)
theorem go_astore (h : MC X lay cc own nL rt rm) {i : Nat} {x : Nat} (hd : decode cc pc = .ok (.astore i, 2)) (hn : i < nL) (hp : pc + 2 = pc') (hl' : lc_put (lc.filter (lc_cl false i)) i (.ref x) = lc') (k : Go X lay S0 pc' lc' st g L1 L2 L3 L4 L5 cells slots) : Go X lay S0 pc lc (.ref x :: st) g L1 L2 L3 L4 L5 cells slots := by
  subst hp
  intro H locs ls hl hg
  refine lv_astore h.1 h.2.1 hd hl (by rw [h.2.2.2.1]; exact hn) rfl (fun ls' hl2 => k H locs ls' (lc_got hl2 hl' rfl) hg)
theorem go_iinc (h : MC X lay cc own nL rt rm) {i : Nat} {n : Int} {x v : Int32} (hd : decode cc pc = .ok (.iinc i n, 3)) (hi : wd_lk lc i = some (.int x)) (hv : Int32.ofInt n = v) (hn : i < nL) (hp : pc + 3 = pc') (hl' : lc_put (lc.filter (lc_cl false i)) i (.int (x + v)) = lc') (k : Go X lay S0 pc' lc' st g L1 L2 L3 L4 L5 cells slots) : Go X lay S0 pc lc st g L1 L2 L3 L4 L5 cells slots := by
  subst hp
  subst hv
  intro H locs ls hl hg
  obtain ⟨k0, hk0⟩ := lc_place hi
  refine lv_iinc h.1 h.2.1 hd hl hk0 rfl (by rw [h.2.2.2.1]; exact hn) rfl (fun ls' hl2 => k H locs ls' (lc_got hl2 hl' rfl) hg)
theorem go_iadd (h : MC X lay cc own nL rt rm) {x y : Int32} (hd : decode cc pc = .ok (.iadd, 1))  (hp : pc + 1 = pc') (k : Go X lay S0 pc' lc (.int (x + y) :: st) g L1 L2 L3 L4 L5 cells slots) : Go X lay S0 pc lc (.int y :: .int x :: st) g L1 L2 L3 L4 L5 cells slots := by
  subst hp
  intro H locs ls hl hg
  exact lv_iadd h.1 h.2.1 hd (k H locs ls hl hg)
theorem go_isub (h : MC X lay cc own nL rt rm) {x y : Int32} (hd : decode cc pc = .ok (.isub, 1))  (hp : pc + 1 = pc') (k : Go X lay S0 pc' lc (.int (x - y) :: st) g L1 L2 L3 L4 L5 cells slots) : Go X lay S0 pc lc (.int y :: .int x :: st) g L1 L2 L3 L4 L5 cells slots := by
  subst hp
  intro H locs ls hl hg
  exact lv_isub h.1 h.2.1 hd (k H locs ls hl hg)
theorem go_imul (h : MC X lay cc own nL rt rm) {x y : Int32} (hd : decode cc pc = .ok (.imul, 1))  (hp : pc + 1 = pc') (k : Go X lay S0 pc' lc (.int (x * y) :: st) g L1 L2 L3 L4 L5 cells slots) : Go X lay S0 pc lc (.int y :: .int x :: st) g L1 L2 L3 L4 L5 cells slots := by
  subst hp
  intro H locs ls hl hg
  exact lv_imul h.1 h.2.1 hd (k H locs ls hl hg)
theorem go_iand (h : MC X lay cc own nL rt rm) {x y : Int32} (hd : decode cc pc = .ok (.iand, 1))  (hp : pc + 1 = pc') (k : Go X lay S0 pc' lc (.int (x &&& y) :: st) g L1 L2 L3 L4 L5 cells slots) : Go X lay S0 pc lc (.int y :: .int x :: st) g L1 L2 L3 L4 L5 cells slots := by
  subst hp
  intro H locs ls hl hg
  exact lv_iand h.1 h.2.1 hd (k H locs ls hl hg)
theorem go_ior (h : MC X lay cc own nL rt rm) {x y : Int32} (hd : decode cc pc = .ok (.ior, 1))  (hp : pc + 1 = pc') (k : Go X lay S0 pc' lc (.int (x ||| y) :: st) g L1 L2 L3 L4 L5 cells slots) : Go X lay S0 pc lc (.int y :: .int x :: st) g L1 L2 L3 L4 L5 cells slots := by
  subst hp
  intro H locs ls hl hg
  exact lv_ior h.1 h.2.1 hd (k H locs ls hl hg)
theorem go_ixor (h : MC X lay cc own nL rt rm) {x y : Int32} (hd : decode cc pc = .ok (.ixor, 1))  (hp : pc + 1 = pc') (k : Go X lay S0 pc' lc (.int (x ^^^ y) :: st) g L1 L2 L3 L4 L5 cells slots) : Go X lay S0 pc lc (.int y :: .int x :: st) g L1 L2 L3 L4 L5 cells slots := by
  subst hp
  intro H locs ls hl hg
  exact lv_ixor h.1 h.2.1 hd (k H locs ls hl hg)
theorem go_ishl (h : MC X lay cc own nL rt rm) {x y : Int32} (hd : decode cc pc = .ok (.ishl, 1))  (hp : pc + 1 = pc') (k : Go X lay S0 pc' lc (.int (x <<< (y &&& 31)) :: st) g L1 L2 L3 L4 L5 cells slots) : Go X lay S0 pc lc (.int y :: .int x :: st) g L1 L2 L3 L4 L5 cells slots := by
  subst hp
  intro H locs ls hl hg
  exact lv_ishl h.1 h.2.1 hd (k H locs ls hl hg)
theorem go_ishr (h : MC X lay cc own nL rt rm) {x y : Int32} (hd : decode cc pc = .ok (.ishr, 1))  (hp : pc + 1 = pc') (k : Go X lay S0 pc' lc (.int (x >>> (y &&& 31)) :: st) g L1 L2 L3 L4 L5 cells slots) : Go X lay S0 pc lc (.int y :: .int x :: st) g L1 L2 L3 L4 L5 cells slots := by
  subst hp
  intro H locs ls hl hg
  exact lv_ishr h.1 h.2.1 hd (k H locs ls hl hg)
theorem go_idiv (h : MC X lay cc own nL rt rm) {x y : Int32} (hd : decode cc pc = .ok (.idiv, 1)) (hne : ¬ y = 0) (hp : pc + 1 = pc') (k : Go X lay S0 pc' lc (.int (x / y) :: st) g L1 L2 L3 L4 L5 cells slots) : Go X lay S0 pc lc (.int y :: .int x :: st) g L1 L2 L3 L4 L5 cells slots := by
  subst hp
  intro H locs ls hl hg
  exact lv_idiv h.1 h.2.1 hd hne (k H locs ls hl hg)
theorem go_irem (h : MC X lay cc own nL rt rm) {x y : Int32} (hd : decode cc pc = .ok (.irem, 1)) (hne : ¬ y = 0) (hp : pc + 1 = pc') (k : Go X lay S0 pc' lc (.int (x - x / y * y) :: st) g L1 L2 L3 L4 L5 cells slots) : Go X lay S0 pc lc (.int y :: .int x :: st) g L1 L2 L3 L4 L5 cells slots := by
  subst hp
  intro H locs ls hl hg
  exact lv_irem h.1 h.2.1 hd hne (k H locs ls hl hg)
theorem go_ineg (h : MC X lay cc own nL rt rm) {x : Int32} (hd : decode cc pc = .ok (.ineg, 1))  (hp : pc + 1 = pc') (k : Go X lay S0 pc' lc (.int (-x) :: st) g L1 L2 L3 L4 L5 cells slots) : Go X lay S0 pc lc (.int x :: st) g L1 L2 L3 L4 L5 cells slots := by
  subst hp
  intro H locs ls hl hg
  exact lv_ineg h.1 h.2.1 hd (k H locs ls hl hg)
theorem go_iushr (h : MC X lay cc own nL rt rm) {x y : Int32} (hd : decode cc pc = .ok (.iushr, 1))  (hp : pc + 1 = pc') (k : Go X lay S0 pc' lc (.int ((x.toUInt32 >>> (y.toUInt32 &&& Int32.toUInt32 31)).toInt32) :: st) g L1 L2 L3 L4 L5 cells slots) : Go X lay S0 pc lc (.int y :: .int x :: st) g L1 L2 L3 L4 L5 cells slots := by
  subst hp
  intro H locs ls hl hg
  exact lv_iushr h.1 h.2.1 hd rfl (k H locs ls hl hg)
theorem go_ladd (h : MC X lay cc own nL rt rm) {x y : Int64} (hd : decode cc pc = .ok (.ladd, 1))  (hp : pc + 1 = pc') (k : Go X lay S0 pc' lc (.long (x + y) :: st) g L1 L2 L3 L4 L5 cells slots) : Go X lay S0 pc lc (.long y :: .long x :: st) g L1 L2 L3 L4 L5 cells slots := by
  subst hp
  intro H locs ls hl hg
  exact lv_ladd h.1 h.2.1 hd (k H locs ls hl hg)
theorem go_lsub (h : MC X lay cc own nL rt rm) {x y : Int64} (hd : decode cc pc = .ok (.lsub, 1))  (hp : pc + 1 = pc') (k : Go X lay S0 pc' lc (.long (x - y) :: st) g L1 L2 L3 L4 L5 cells slots) : Go X lay S0 pc lc (.long y :: .long x :: st) g L1 L2 L3 L4 L5 cells slots := by
  subst hp
  intro H locs ls hl hg
  exact lv_lsub h.1 h.2.1 hd (k H locs ls hl hg)
theorem go_lmul (h : MC X lay cc own nL rt rm) {x y : Int64} (hd : decode cc pc = .ok (.lmul, 1))  (hp : pc + 1 = pc') (k : Go X lay S0 pc' lc (.long (x * y) :: st) g L1 L2 L3 L4 L5 cells slots) : Go X lay S0 pc lc (.long y :: .long x :: st) g L1 L2 L3 L4 L5 cells slots := by
  subst hp
  intro H locs ls hl hg
  exact lv_lmul h.1 h.2.1 hd (k H locs ls hl hg)
theorem go_land (h : MC X lay cc own nL rt rm) {x y : Int64} (hd : decode cc pc = .ok (.land, 1))  (hp : pc + 1 = pc') (k : Go X lay S0 pc' lc (.long (x &&& y) :: st) g L1 L2 L3 L4 L5 cells slots) : Go X lay S0 pc lc (.long y :: .long x :: st) g L1 L2 L3 L4 L5 cells slots := by
  subst hp
  intro H locs ls hl hg
  exact lv_land h.1 h.2.1 hd (k H locs ls hl hg)
theorem go_lor (h : MC X lay cc own nL rt rm) {x y : Int64} (hd : decode cc pc = .ok (.lor, 1))  (hp : pc + 1 = pc') (k : Go X lay S0 pc' lc (.long (x ||| y) :: st) g L1 L2 L3 L4 L5 cells slots) : Go X lay S0 pc lc (.long y :: .long x :: st) g L1 L2 L3 L4 L5 cells slots := by
  subst hp
  intro H locs ls hl hg
  exact lv_lor h.1 h.2.1 hd (k H locs ls hl hg)
theorem go_ldiv (h : MC X lay cc own nL rt rm) {x y : Int64} (hd : decode cc pc = .ok (.ldiv, 1)) (hne : ¬ y = 0) (hp : pc + 1 = pc') (k : Go X lay S0 pc' lc (.long (x / y) :: st) g L1 L2 L3 L4 L5 cells slots) : Go X lay S0 pc lc (.long y :: .long x :: st) g L1 L2 L3 L4 L5 cells slots := by
  subst hp
  intro H locs ls hl hg
  exact lv_ldiv h.1 h.2.1 hd hne (k H locs ls hl hg)
theorem go_lrem (h : MC X lay cc own nL rt rm) {x y : Int64} (hd : decode cc pc = .ok (.lrem, 1)) (hne : ¬ y = 0) (hp : pc + 1 = pc') (k : Go X lay S0 pc' lc (.long (x - x / y * y) :: st) g L1 L2 L3 L4 L5 cells slots) : Go X lay S0 pc lc (.long y :: .long x :: st) g L1 L2 L3 L4 L5 cells slots := by
  subst hp
  intro H locs ls hl hg
  exact lv_lrem h.1 h.2.1 hd hne (k H locs ls hl hg)
theorem go_lneg (h : MC X lay cc own nL rt rm) {x : Int64} (hd : decode cc pc = .ok (.lneg, 1))  (hp : pc + 1 = pc') (k : Go X lay S0 pc' lc (.long (-x) :: st) g L1 L2 L3 L4 L5 cells slots) : Go X lay S0 pc lc (.long x :: st) g L1 L2 L3 L4 L5 cells slots := by
  subst hp
  intro H locs ls hl hg
  exact lv_lneg h.1 h.2.1 hd (k H locs ls hl hg)
theorem go_lshl (h : MC X lay cc own nL rt rm) {x : Int64} {y : Int32} (hd : decode cc pc = .ok (.lshl, 1))  (hp : pc + 1 = pc') (k : Go X lay S0 pc' lc (.long (x <<< (y.toInt64 &&& 63)) :: st) g L1 L2 L3 L4 L5 cells slots) : Go X lay S0 pc lc (.int y :: .long x :: st) g L1 L2 L3 L4 L5 cells slots := by
  subst hp
  intro H locs ls hl hg
  exact lv_lshl h.1 h.2.1 hd rfl (k H locs ls hl hg)
theorem go_lcmp (h : MC X lay cc own nL rt rm) {x y : Int64} (hd : decode cc pc = .ok (.lcmp, 1))  (hp : pc + 1 = pc') (k : Go X lay S0 pc' lc (.int (lg_cmp x y) :: st) g L1 L2 L3 L4 L5 cells slots) : Go X lay S0 pc lc (.long y :: .long x :: st) g L1 L2 L3 L4 L5 cells slots := by
  subst hp
  intro H locs ls hl hg
  exact W.lcmp h.1 h.2.1 hd (k H locs ls hl hg)
theorem go_i2l (h : MC X lay cc own nL rt rm) {x : Int32} (hd : decode cc pc = .ok (.i2l, 1))  (hp : pc + 1 = pc') (k : Go X lay S0 pc' lc (.long x.toInt64 :: st) g L1 L2 L3 L4 L5 cells slots) : Go X lay S0 pc lc (.int x :: st) g L1 L2 L3 L4 L5 cells slots := by
  subst hp
  intro H locs ls hl hg
  exact lv_i2l h.1 h.2.1 hd rfl (k H locs ls hl hg)
theorem go_l2i (h : MC X lay cc own nL rt rm) {x : Int64} (hd : decode cc pc = .ok (.l2i, 1))  (hp : pc + 1 = pc') (k : Go X lay S0 pc' lc (.int x.toInt32 :: st) g L1 L2 L3 L4 L5 cells slots) : Go X lay S0 pc lc (.long x :: st) g L1 L2 L3 L4 L5 cells slots := by
  subst hp
  intro H locs ls hl hg
  exact lv_l2i h.1 h.2.1 hd rfl (k H locs ls hl hg)
theorem go_i2b (h : MC X lay cc own nL rt rm) {x : Int32} (hd : decode cc pc = .ok (.i2b, 1))  (hp : pc + 1 = pc') (k : Go X lay S0 pc' lc (.int x.toInt8.toInt32 :: st) g L1 L2 L3 L4 L5 cells slots) : Go X lay S0 pc lc (.int x :: st) g L1 L2 L3 L4 L5 cells slots := by
  subst hp
  intro H locs ls hl hg
  exact lv_i2b h.1 h.2.1 hd rfl (k H locs ls hl hg)
theorem go_i2c (h : MC X lay cc own nL rt rm) {x : Int32} (hd : decode cc pc = .ok (.i2c, 1))  (hp : pc + 1 = pc') (k : Go X lay S0 pc' lc (.int (x.toUInt32 % 65536).toInt32 :: st) g L1 L2 L3 L4 L5 cells slots) : Go X lay S0 pc lc (.int x :: st) g L1 L2 L3 L4 L5 cells slots := by
  subst hp
  intro H locs ls hl hg
  exact lv_i2c h.1 h.2.1 hd rfl (k H locs ls hl hg)
theorem go_dup (h : MC X lay cc own nL rt rm) {va : Value} (hd : decode cc pc = .ok (.dup, 1)) (ha : va.category = 1) (hp : pc + 1 = pc') (k : Go X lay S0 pc' lc (va :: va :: st) g L1 L2 L3 L4 L5 cells slots) : Go X lay S0 pc lc (va :: st) g L1 L2 L3 L4 L5 cells slots := by
  subst hp
  intro H locs ls hl hg
  exact lv_dup h.1 h.2.1 hd ha (k H locs ls hl hg)
theorem go_pop (h : MC X lay cc own nL rt rm) {va : Value} (hd : decode cc pc = .ok (.pop, 1)) (ha : va.category = 1) (hp : pc + 1 = pc') (k : Go X lay S0 pc' lc st g L1 L2 L3 L4 L5 cells slots) : Go X lay S0 pc lc (va :: st) g L1 L2 L3 L4 L5 cells slots := by
  subst hp
  intro H locs ls hl hg
  exact lv_pop h.1 h.2.1 hd ha (k H locs ls hl hg)
theorem go_dup2 (h : MC X lay cc own nL rt rm) {va vb : Value} (hd : decode cc pc = .ok (.dup2, 1)) (ha : va.category = 1) (hb : vb.category = 1) (hp : pc + 1 = pc') (k : Go X lay S0 pc' lc (va :: vb :: va :: vb :: st) g L1 L2 L3 L4 L5 cells slots) : Go X lay S0 pc lc (va :: vb :: st) g L1 L2 L3 L4 L5 cells slots := by
  subst hp
  intro H locs ls hl hg
  exact lv_dup2_11 h.1 h.2.1 hd ha hb (k H locs ls hl hg)
theorem go_if_eq (h : MC X lay cc own nL rt rm) {x : Int32} {off : Int} {tgt : Nat} (hd : decode cc pc = .ok (.ifCond .eq off, 3)) (ht : (pc : Int) + off = (tgt : Int)) (hp : pc + 3 = pc') (kt : x = 0 → Go X lay S0 tgt lc st g L1 L2 L3 L4 L5 cells slots) (kf : ¬ x = 0 → Go X lay S0 pc' lc st g L1 L2 L3 L4 L5 cells slots) : Go X lay S0 pc lc (.int x :: st) g L1 L2 L3 L4 L5 cells slots := by
  subst hp
  intro H locs ls hl hg
  exact lv_if_eq h.1 h.2.1 hd ht (fun q => kt q H locs ls hl hg) (fun q => kf q H locs ls hl hg)
theorem go_icmp_eq (h : MC X lay cc own nL rt rm) {x y : Int32} {off : Int} {tgt : Nat} (hd : decode cc pc = .ok (.if_icmp .eq off, 3)) (ht : (pc : Int) + off = (tgt : Int)) (hp : pc + 3 = pc') (kt : x = y → Go X lay S0 tgt lc st g L1 L2 L3 L4 L5 cells slots) (kf : ¬ x = y → Go X lay S0 pc' lc st g L1 L2 L3 L4 L5 cells slots) : Go X lay S0 pc lc (.int y :: .int x :: st) g L1 L2 L3 L4 L5 cells slots := by
  subst hp
  intro H locs ls hl hg
  exact lv_icmp_eq h.1 h.2.1 hd ht (fun q => kt q H locs ls hl hg) (fun q => kf q H locs ls hl hg)
theorem go_if_ne (h : MC X lay cc own nL rt rm) {x : Int32} {off : Int} {tgt : Nat} (hd : decode cc pc = .ok (.ifCond .ne off, 3)) (ht : (pc : Int) + off = (tgt : Int)) (hp : pc + 3 = pc') (kt : ¬ x = 0 → Go X lay S0 tgt lc st g L1 L2 L3 L4 L5 cells slots) (kf : x = 0 → Go X lay S0 pc' lc st g L1 L2 L3 L4 L5 cells slots) : Go X lay S0 pc lc (.int x :: st) g L1 L2 L3 L4 L5 cells slots := by
  subst hp
  intro H locs ls hl hg
  exact lv_if_ne h.1 h.2.1 hd ht (fun q => kt q H locs ls hl hg) (fun q => kf q H locs ls hl hg)
theorem go_icmp_ne (h : MC X lay cc own nL rt rm) {x y : Int32} {off : Int} {tgt : Nat} (hd : decode cc pc = .ok (.if_icmp .ne off, 3)) (ht : (pc : Int) + off = (tgt : Int)) (hp : pc + 3 = pc') (kt : ¬ x = y → Go X lay S0 tgt lc st g L1 L2 L3 L4 L5 cells slots) (kf : x = y → Go X lay S0 pc' lc st g L1 L2 L3 L4 L5 cells slots) : Go X lay S0 pc lc (.int y :: .int x :: st) g L1 L2 L3 L4 L5 cells slots := by
  subst hp
  intro H locs ls hl hg
  exact lv_icmp_ne h.1 h.2.1 hd ht (fun q => kt q H locs ls hl hg) (fun q => kf q H locs ls hl hg)
theorem go_if_lt (h : MC X lay cc own nL rt rm) {x : Int32} {off : Int} {tgt : Nat} (hd : decode cc pc = .ok (.ifCond .lt off, 3)) (ht : (pc : Int) + off = (tgt : Int)) (hp : pc + 3 = pc') (kt : x < 0 → Go X lay S0 tgt lc st g L1 L2 L3 L4 L5 cells slots) (kf : ¬ x < 0 → Go X lay S0 pc' lc st g L1 L2 L3 L4 L5 cells slots) : Go X lay S0 pc lc (.int x :: st) g L1 L2 L3 L4 L5 cells slots := by
  subst hp
  intro H locs ls hl hg
  exact lv_if_lt h.1 h.2.1 hd ht (fun q => kt q H locs ls hl hg) (fun q => kf q H locs ls hl hg)
theorem go_icmp_lt (h : MC X lay cc own nL rt rm) {x y : Int32} {off : Int} {tgt : Nat} (hd : decode cc pc = .ok (.if_icmp .lt off, 3)) (ht : (pc : Int) + off = (tgt : Int)) (hp : pc + 3 = pc') (kt : x < y → Go X lay S0 tgt lc st g L1 L2 L3 L4 L5 cells slots) (kf : ¬ x < y → Go X lay S0 pc' lc st g L1 L2 L3 L4 L5 cells slots) : Go X lay S0 pc lc (.int y :: .int x :: st) g L1 L2 L3 L4 L5 cells slots := by
  subst hp
  intro H locs ls hl hg
  exact lv_icmp_lt h.1 h.2.1 hd ht (fun q => kt q H locs ls hl hg) (fun q => kf q H locs ls hl hg)
theorem go_if_ge (h : MC X lay cc own nL rt rm) {x : Int32} {off : Int} {tgt : Nat} (hd : decode cc pc = .ok (.ifCond .ge off, 3)) (ht : (pc : Int) + off = (tgt : Int)) (hp : pc + 3 = pc') (kt : 0 ≤ x → Go X lay S0 tgt lc st g L1 L2 L3 L4 L5 cells slots) (kf : ¬ 0 ≤ x → Go X lay S0 pc' lc st g L1 L2 L3 L4 L5 cells slots) : Go X lay S0 pc lc (.int x :: st) g L1 L2 L3 L4 L5 cells slots := by
  subst hp
  intro H locs ls hl hg
  exact lv_if_ge h.1 h.2.1 hd ht (fun q => kt q H locs ls hl hg) (fun q => kf q H locs ls hl hg)
theorem go_icmp_ge (h : MC X lay cc own nL rt rm) {x y : Int32} {off : Int} {tgt : Nat} (hd : decode cc pc = .ok (.if_icmp .ge off, 3)) (ht : (pc : Int) + off = (tgt : Int)) (hp : pc + 3 = pc') (kt : y ≤ x → Go X lay S0 tgt lc st g L1 L2 L3 L4 L5 cells slots) (kf : ¬ y ≤ x → Go X lay S0 pc' lc st g L1 L2 L3 L4 L5 cells slots) : Go X lay S0 pc lc (.int y :: .int x :: st) g L1 L2 L3 L4 L5 cells slots := by
  subst hp
  intro H locs ls hl hg
  exact lv_icmp_ge h.1 h.2.1 hd ht (fun q => kt q H locs ls hl hg) (fun q => kf q H locs ls hl hg)
theorem go_if_gt (h : MC X lay cc own nL rt rm) {x : Int32} {off : Int} {tgt : Nat} (hd : decode cc pc = .ok (.ifCond .gt off, 3)) (ht : (pc : Int) + off = (tgt : Int)) (hp : pc + 3 = pc') (kt : 0 < x → Go X lay S0 tgt lc st g L1 L2 L3 L4 L5 cells slots) (kf : ¬ 0 < x → Go X lay S0 pc' lc st g L1 L2 L3 L4 L5 cells slots) : Go X lay S0 pc lc (.int x :: st) g L1 L2 L3 L4 L5 cells slots := by
  subst hp
  intro H locs ls hl hg
  exact lv_if_gt h.1 h.2.1 hd ht (fun q => kt q H locs ls hl hg) (fun q => kf q H locs ls hl hg)
theorem go_icmp_gt (h : MC X lay cc own nL rt rm) {x y : Int32} {off : Int} {tgt : Nat} (hd : decode cc pc = .ok (.if_icmp .gt off, 3)) (ht : (pc : Int) + off = (tgt : Int)) (hp : pc + 3 = pc') (kt : y < x → Go X lay S0 tgt lc st g L1 L2 L3 L4 L5 cells slots) (kf : ¬ y < x → Go X lay S0 pc' lc st g L1 L2 L3 L4 L5 cells slots) : Go X lay S0 pc lc (.int y :: .int x :: st) g L1 L2 L3 L4 L5 cells slots := by
  subst hp
  intro H locs ls hl hg
  exact lv_icmp_gt h.1 h.2.1 hd ht (fun q => kt q H locs ls hl hg) (fun q => kf q H locs ls hl hg)
theorem go_if_le (h : MC X lay cc own nL rt rm) {x : Int32} {off : Int} {tgt : Nat} (hd : decode cc pc = .ok (.ifCond .le off, 3)) (ht : (pc : Int) + off = (tgt : Int)) (hp : pc + 3 = pc') (kt : x ≤ 0 → Go X lay S0 tgt lc st g L1 L2 L3 L4 L5 cells slots) (kf : ¬ x ≤ 0 → Go X lay S0 pc' lc st g L1 L2 L3 L4 L5 cells slots) : Go X lay S0 pc lc (.int x :: st) g L1 L2 L3 L4 L5 cells slots := by
  subst hp
  intro H locs ls hl hg
  exact lv_if_le h.1 h.2.1 hd ht (fun q => kt q H locs ls hl hg) (fun q => kf q H locs ls hl hg)
theorem go_icmp_le (h : MC X lay cc own nL rt rm) {x y : Int32} {off : Int} {tgt : Nat} (hd : decode cc pc = .ok (.if_icmp .le off, 3)) (ht : (pc : Int) + off = (tgt : Int)) (hp : pc + 3 = pc') (kt : x ≤ y → Go X lay S0 tgt lc st g L1 L2 L3 L4 L5 cells slots) (kf : ¬ x ≤ y → Go X lay S0 pc' lc st g L1 L2 L3 L4 L5 cells slots) : Go X lay S0 pc lc (.int y :: .int x :: st) g L1 L2 L3 L4 L5 cells slots := by
  subst hp
  intro H locs ls hl hg
  exact lv_icmp_le h.1 h.2.1 hd ht (fun q => kt q H locs ls hl hg) (fun q => kf q H locs ls hl hg)
theorem go_goto (h : MC X lay cc own nL rt rm) {off : Int} {tgt : Nat} (hd : decode cc pc = .ok (.goto off, 3)) (ht : (pc : Int) + off = (tgt : Int)) (k : Go X lay S0 tgt lc st g L1 L2 L3 L4 L5 cells slots) : Go X lay S0 pc lc st g L1 L2 L3 L4 L5 cells slots := by
  intro H locs ls hl hg
  exact lv_goto h.1 h.2.1 hd ht (k H locs ls hl hg)
theorem go_tabOut (h : MC X lay cc own nL rt rm) {dflt lo hi : Int} {offs : Array Int} {len : Nat} {x : Int32} {tgt : Nat} (hd : decode cc pc = .ok (.tableswitch dflt lo hi offs, len)) (hx : x.toInt < lo ∨ hi < x.toInt) (ht : (pc : Int) + dflt = (tgt : Int)) (k : Go X lay S0 tgt lc st g L1 L2 L3 L4 L5 cells slots) : Go X lay S0 pc lc (.int x :: st) g L1 L2 L3 L4 L5 cells slots := by
  intro H locs ls hl hg
  exact lv_tableOut h.1 h.2.1 hd hx ht (k H locs ls hl hg)
theorem go_tabIn (h : MC X lay cc own nL rt rm) {dflt lo hi : Int} {offs : Array Int} {len : Nat} {x : Int32} {off : Int} {tgt : Nat} (hd : decode cc pc = .ok (.tableswitch dflt lo hi offs, len)) (h1 : ¬ x.toInt < lo) (h2 : ¬ hi < x.toInt) (ho : offs[(x.toInt - lo).toNat]? = some off) (ht : (pc : Int) + off = (tgt : Int)) (k : Go X lay S0 tgt lc st g L1 L2 L3 L4 L5 cells slots) : Go X lay S0 pc lc (.int x :: st) g L1 L2 L3 L4 L5 cells slots := by
  intro H locs ls hl hg
  exact lv_tableIn h.1 h.2.1 hd h1 h2 ho ht (k H locs ls hl hg)
theorem go_lookup (h : MC X lay cc own nL rt rm) {dflt : Int} {ps : Array (Int × Int)} {len : Nat} {x : Int32} {off : Int} {tgt : Nat} (hd : decode cc pc = .ok (.lookupswitch dflt ps, len)) (hs : (ps.toList.zip (ps.toList.drop 1)).all (fun (a, next) => a.1 < next.1) = true) (ho : Op.lookupswitch.offset ps.toList dflt x.toInt = off) (ht : (pc : Int) + off = (tgt : Int)) (k : Go X lay S0 tgt lc st g L1 L2 L3 L4 L5 cells slots) : Go X lay S0 pc lc (.int x :: st) g L1 L2 L3 L4 L5 cells slots := by
  intro H locs ls hl hg
  exact lv_lookup h.1 h.2.1 hd hs ho ht (k H locs ls hl hg)
theorem go_geti (h : MC X lay cc own nL rt rm) {ref C : String} {T : u_T} {N ci idx : Nat} {fs : List (Nat × Nat)} {x : Nat} {v : Int32} (c k : Nat) (hlay : lay[c]? = some (.inl (ci, fs))) (hk : fs[k]? = some (0, x)) (hc : vwCl[ci]? = some (C, T, N)) (hin : ∀ w ∈ u_ws C T N, w ∈ wAll) (hkN : k < N) (hw : Cond.fieldLink own idx ref (T k).2.1 (T k).2.2.1 ∈ wAll) (hs : (T k).1 = ref) (hd : decode cc pc = .ok (.getfield idx, 3)) (hv : wd_ov S0.1 L1 (100 * c + k) = v) (hp : pc + 3 = pc') (kk : Go X lay S0 pc' lc (.int v :: st) g L1 L2 L3 L4 L5 cells slots) : Go X lay S0 pc lc (.ref (x_q X c) :: st) g L1 L2 L3 L4 L5 cells slots := by
  subst hp
  intro H locs ls hl hg
  refine va_get (D := x_D X) (ci := ci) (C := C) (T := T) (N := N) h.1 h.2.1 h.2.2.2.2.2.1 hin h.2.2.2.2.1 h.2.2.2.2.2.2.1 hg.1 c (fs := wd_fvs (x_q X) g (wd_o S0 L1 L2 L3 L4 L5) (100 * c) fs) (wd_ws_get hlay) hc k hkN (h.2.2.2.2.2.1 _ hw) (fun _ h9 => hs ▸ h9) (v := .int v) ?_ hd (kk H locs ls hl hg)
  rw [wd_fvs_at, hk]
  subst hv; rfl
theorem go_getl (h : MC X lay cc own nL rt rm) {ref C : String} {T : u_T} {N ci idx : Nat} {fs : List (Nat × Nat)} {x : Nat} {v : Int64} (c k : Nat) (hlay : lay[c]? = some (.inl (ci, fs))) (hk : fs[k]? = some (1, x)) (hc : vwCl[ci]? = some (C, T, N)) (hin : ∀ w ∈ u_ws C T N, w ∈ wAll) (hkN : k < N) (hw : Cond.fieldLink own idx ref (T k).2.1 (T k).2.2.1 ∈ wAll) (hs : (T k).1 = ref) (hd : decode cc pc = .ok (.getfield idx, 3)) (hv : wd_ov S0.2.1 L2 (100 * c + k) = v) (hp : pc + 3 = pc') (kk : Go X lay S0 pc' lc (.long v :: st) g L1 L2 L3 L4 L5 cells slots) : Go X lay S0 pc lc (.ref (x_q X c) :: st) g L1 L2 L3 L4 L5 cells slots := by
  subst hp
  intro H locs ls hl hg
  refine va_get (D := x_D X) (ci := ci) (C := C) (T := T) (N := N) h.1 h.2.1 h.2.2.2.2.2.1 hin h.2.2.2.2.1 h.2.2.2.2.2.2.1 hg.1 c (fs := wd_fvs (x_q X) g (wd_o S0 L1 L2 L3 L4 L5) (100 * c) fs) (wd_ws_get hlay) hc k hkN (h.2.2.2.2.2.1 _ hw) (fun _ h9 => hs ▸ h9) (v := .long v) ?_ hd (kk H locs ls hl hg)
  rw [wd_fvs_at, hk]
  subst hv; rfl
theorem go_getq (h : MC X lay cc own nL rt rm) {ref C : String} {T : u_T} {N ci idx : Nat} {fs : List (Nat × Nat)} {x : Nat} (c k : Nat) (hlay : lay[c]? = some (.inl (ci, fs))) (hk : fs[k]? = some (2, x)) (hc : vwCl[ci]? = some (C, T, N)) (hin : ∀ w ∈ u_ws C T N, w ∈ wAll) (hkN : k < N) (hw : Cond.fieldLink own idx ref (T k).2.1 (T k).2.2.1 ∈ wAll) (hs : (T k).1 = ref) (hd : decode cc pc = .ok (.getfield idx, 3))  (hp : pc + 3 = pc') (kk : Go X lay S0 pc' lc (.ref (x_q X x) :: st) g L1 L2 L3 L4 L5 cells slots) : Go X lay S0 pc lc (.ref (x_q X c) :: st) g L1 L2 L3 L4 L5 cells slots := by
  subst hp
  intro H locs ls hl hg
  refine va_get (D := x_D X) (ci := ci) (C := C) (T := T) (N := N) h.1 h.2.1 h.2.2.2.2.2.1 hin h.2.2.2.2.1 h.2.2.2.2.2.2.1 hg.1 c (fs := wd_fvs (x_q X) g (wd_o S0 L1 L2 L3 L4 L5) (100 * c) fs) (wd_ws_get hlay) hc k hkN (h.2.2.2.2.2.1 _ hw) (fun _ h9 => hs ▸ h9) (v := .ref (x_q X x)) ?_ hd (kk H locs ls hl hg)
  rw [wd_fvs_at, hk]
  rfl
theorem go_getg (h : MC X lay cc own nL rt rm) {ref C : String} {T : u_T} {N ci idx : Nat} {fs : List (Nat × Nat)} {x : Nat} (c k : Nat) (hlay : lay[c]? = some (.inl (ci, fs))) (hk : fs[k]? = some (3, x)) (hc : vwCl[ci]? = some (C, T, N)) (hin : ∀ w ∈ u_ws C T N, w ∈ wAll) (hkN : k < N) (hw : Cond.fieldLink own idx ref (T k).2.1 (T k).2.2.1 ∈ wAll) (hs : (T k).1 = ref) (hd : decode cc pc = .ok (.getfield idx, 3))  (hp : pc + 3 = pc') (kk : Go X lay S0 pc' lc (.ref (g x) :: st) g L1 L2 L3 L4 L5 cells slots) : Go X lay S0 pc lc (.ref (x_q X c) :: st) g L1 L2 L3 L4 L5 cells slots := by
  subst hp
  intro H locs ls hl hg
  refine va_get (D := x_D X) (ci := ci) (C := C) (T := T) (N := N) h.1 h.2.1 h.2.2.2.2.2.1 hin h.2.2.2.2.1 h.2.2.2.2.2.2.1 hg.1 c (fs := wd_fvs (x_q X) g (wd_o S0 L1 L2 L3 L4 L5) (100 * c) fs) (wd_ws_get hlay) hc k hkN (h.2.2.2.2.2.1 _ hw) (fun _ h9 => hs ▸ h9) (v := .ref (g x)) ?_ hd (kk H locs ls hl hg)
  rw [wd_fvs_at, hk]
  rfl
theorem go_puti (h : MC X lay cc own nL rt rm) {ref C : String} {T : u_T} {N ci idx x : Nat} {fs : List (Nat × Nat)} {tyf : Nat → FieldType} {v : Int32} (c k : Nat) (hlay : lay[c]? = some (.inl (ci, fs))) (hk : fs[k]? = some (0, x)) (hc : vwCl[ci]? = some (C, T, N)) (hin : ∀ w ∈ u_ws C T N, w ∈ wAll) (hty : ∀ k, k < N → parseFieldDescriptor (T k).2.2.1 = some (tyf k)) (hnm : ∀ a, a < N → ∀ b, b < N → a ≠ b → (T a).2.1 ≠ (T b).2.1) (hkN : k < N) (hw : Cond.fieldLink own idx ref (T k).2.1 (T k).2.2.1 ∈ wAll) (hs : (T k).1 = ref) (hfin : (T k).2.2.2 = false) (hnar : narrow (tyf k) (.int v) = .int v) (hfit : fits (tyf k) (.int v) = true) (hd : decode cc pc = .ok (.putfield idx, 3)) (hp : pc + 3 = pc') (hky : (wd_lk L1 (100 * c + k)).isSome = true) (hL : wd_sl L1 (100 * c + k) v = L1') (kk : Go X lay S0 pc' lc st g L1' L2 L3 L4 L5 cells slots) : Go X lay S0 pc lc (.int v :: .ref (x_q X c) :: st) g L1 L2 L3 L4 L5 cells slots := by
  subst hp
  subst hL
  intro H locs ls hl hg
  refine va_put (D := x_D X) (ci := ci) (C := C) (T := T) (N := N) h.1 h.2.1 h.2.2.2.2.2.1 hin tyf hty hnm h.2.2.2.2.1 h.2.2.2.2.2.2.1 hg.1 hg.2.1 hg.2.2 c (fs := wd_fvs (x_q X) g (wd_o S0 L1 L2 L3 L4 L5) (100 * c) fs) (wd_ws_get hlay) hc k hkN (h.2.2.2.2.2.1 _ hw) (fun _ h9 => hs ▸ h9) hfin (hty k hkN) hnar hfit (by rw [wd_fvs_len]; exact (List.getElem?_eq_some_iff.mp hk).1) hd (fun H1 locs1 hP hD hS => ?_)
  rw [wd_ws_I h.2.2.2.2.2.2.2.2.2.2.2.2 hlay hk, wd_o_sI hky] at hP hD
  exact kk H1 locs1 ls hl ⟨hP, hD, hS⟩
theorem go_putl (h : MC X lay cc own nL rt rm) {ref C : String} {T : u_T} {N ci idx x : Nat} {fs : List (Nat × Nat)} {tyf : Nat → FieldType} {v : Int64} (c k : Nat) (hlay : lay[c]? = some (.inl (ci, fs))) (hk : fs[k]? = some (1, x)) (hc : vwCl[ci]? = some (C, T, N)) (hin : ∀ w ∈ u_ws C T N, w ∈ wAll) (hty : ∀ k, k < N → parseFieldDescriptor (T k).2.2.1 = some (tyf k)) (hnm : ∀ a, a < N → ∀ b, b < N → a ≠ b → (T a).2.1 ≠ (T b).2.1) (hkN : k < N) (hw : Cond.fieldLink own idx ref (T k).2.1 (T k).2.2.1 ∈ wAll) (hs : (T k).1 = ref) (hfin : (T k).2.2.2 = false) (hnar : narrow (tyf k) (.long v) = .long v) (hfit : fits (tyf k) (.long v) = true) (hd : decode cc pc = .ok (.putfield idx, 3)) (hp : pc + 3 = pc') (hky : (wd_lk L2 (100 * c + k)).isSome = true) (hL : wd_sl L2 (100 * c + k) v = L2') (kk : Go X lay S0 pc' lc st g L1 L2' L3 L4 L5 cells slots) : Go X lay S0 pc lc (.long v :: .ref (x_q X c) :: st) g L1 L2 L3 L4 L5 cells slots := by
  subst hp
  subst hL
  intro H locs ls hl hg
  refine va_put (D := x_D X) (ci := ci) (C := C) (T := T) (N := N) h.1 h.2.1 h.2.2.2.2.2.1 hin tyf hty hnm h.2.2.2.2.1 h.2.2.2.2.2.2.1 hg.1 hg.2.1 hg.2.2 c (fs := wd_fvs (x_q X) g (wd_o S0 L1 L2 L3 L4 L5) (100 * c) fs) (wd_ws_get hlay) hc k hkN (h.2.2.2.2.2.1 _ hw) (fun _ h9 => hs ▸ h9) hfin (hty k hkN) hnar hfit (by rw [wd_fvs_len]; exact (List.getElem?_eq_some_iff.mp hk).1) hd (fun H1 locs1 hP hD hS => ?_)
  rw [wd_ws_L h.2.2.2.2.2.2.2.2.2.2.2.2 hlay hk, wd_o_sL hky] at hP hD
  exact kk H1 locs1 ls hl ⟨hP, hD, hS⟩
theorem go_iald (h : MC X lay cc own nL rt rm) {mo n b : Nat} (c : Nat) (hlay : lay[c]? = some (.inr (0, (mo, n, b)))) (hmo : Nat.beq mo 1 = false) {f : Nat → Int32} (hf : wd_ov S0.2.2.1 L3 c = f)  {i : Int32} (hd : decode cc pc = .ok (.iaload, 1)) (hi : vp_in i n) (hp : pc + 1 = pc') (kk : Go X lay S0 pc' lc (.int (f i.toNatClampNeg) :: st) g L1 L2 L3 L4 L5 cells slots) : Go X lay S0 pc lc (.int i :: .ref (x_q X c) :: st) g L1 L2 L3 L4 L5 cells slots := by
  subst hp
  subst hf
  skip
  intro H locs ls hl hg
  have hE := wd_ws_get (q := x_q X) (g := g) (cy := x_cy X) (S := wd_o S0 L1 L2 L3 L4 L5) hlay
  simp only [wd_ent, wd_arr, wd_len, hmo, cond_false] at hE
  exact va_iald (D := x_D X) h.1 h.2.1 h.2.2.2.2.2.2.1 hg.1 c 0 hE rfl hi hd (kk H locs ls hl hg)
theorem go_ialdg (h : MC X lay cc own nL rt rm) {n b : Nat} (c : Nat) (hlay : lay[c]? = some (.inr (0, (1, n, b))))  {f : Nat → Int32} (hf : wd_ov S0.2.2.1 L3 c = f) {N : Nat} (hN : wd_ov S0.2.2.2.2 L5 c = N) {i : Int32} (hd : decode cc pc = .ok (.iaload, 1)) (hi : vp_in i N) (hp : pc + 1 = pc') (kk : Go X lay S0 pc' lc (.int (f i.toNatClampNeg) :: st) g L1 L2 L3 L4 L5 cells slots) : Go X lay S0 pc lc (.int i :: .ref (g c) :: st) g L1 L2 L3 L4 L5 cells slots := by
  subst hp
  subst hf
  subst hN
  intro H locs ls hl hg
  have hE := wd_ws_get (q := x_q X) (g := g) (cy := x_cy X) (S := wd_o S0 L1 L2 L3 L4 L5) hlay
  skip
  exact va_iald (D := x_D X) h.1 h.2.1 h.2.2.2.2.2.2.1 hg.1 c 0 hE rfl hi hd (kk H locs ls hl hg)
theorem go_bald (h : MC X lay cc own nL rt rm) {mo n b : Nat} (c : Nat) (hlay : lay[c]? = some (.inr (1, (mo, n, b)))) (hmo : Nat.beq mo 1 = false) {f : Nat → Int32} (hf : wd_ov S0.2.2.1 L3 c = f)  {i : Int32} (hd : decode cc pc = .ok (.baload, 1)) (hi : vp_in i n) (hp : pc + 1 = pc') (kk : Go X lay S0 pc' lc (.int (f i.toNatClampNeg) :: st) g L1 L2 L3 L4 L5 cells slots) : Go X lay S0 pc lc (.int i :: .ref (x_q X c) :: st) g L1 L2 L3 L4 L5 cells slots := by
  subst hp
  subst hf
  skip
  intro H locs ls hl hg
  have hE := wd_ws_get (q := x_q X) (g := g) (cy := x_cy X) (S := wd_o S0 L1 L2 L3 L4 L5) hlay
  simp only [wd_ent, wd_arr, wd_len, hmo, cond_false] at hE
  exact va_bald (D := x_D X) h.1 h.2.1 h.2.2.2.2.2.2.1 hg.1 c 1 hE rfl hi hd (kk H locs ls hl hg)
theorem go_baldg (h : MC X lay cc own nL rt rm) {n b : Nat} (c : Nat) (hlay : lay[c]? = some (.inr (1, (1, n, b))))  {f : Nat → Int32} (hf : wd_ov S0.2.2.1 L3 c = f) {N : Nat} (hN : wd_ov S0.2.2.2.2 L5 c = N) {i : Int32} (hd : decode cc pc = .ok (.baload, 1)) (hi : vp_in i N) (hp : pc + 1 = pc') (kk : Go X lay S0 pc' lc (.int (f i.toNatClampNeg) :: st) g L1 L2 L3 L4 L5 cells slots) : Go X lay S0 pc lc (.int i :: .ref (g c) :: st) g L1 L2 L3 L4 L5 cells slots := by
  subst hp
  subst hf
  subst hN
  intro H locs ls hl hg
  have hE := wd_ws_get (q := x_q X) (g := g) (cy := x_cy X) (S := wd_o S0 L1 L2 L3 L4 L5) hlay
  skip
  exact va_bald (D := x_D X) h.1 h.2.1 h.2.2.2.2.2.2.1 hg.1 c 1 hE rfl hi hd (kk H locs ls hl hg)
theorem go_zald (h : MC X lay cc own nL rt rm) {mo n b : Nat} (c : Nat) (hlay : lay[c]? = some (.inr (2, (mo, n, b)))) (hmo : Nat.beq mo 1 = false) {f : Nat → Int32} (hf : wd_ov S0.2.2.1 L3 c = f)  {i : Int32} (hd : decode cc pc = .ok (.baload, 1)) (hi : vp_in i n) (hp : pc + 1 = pc') (kk : Go X lay S0 pc' lc (.int (f i.toNatClampNeg) :: st) g L1 L2 L3 L4 L5 cells slots) : Go X lay S0 pc lc (.int i :: .ref (x_q X c) :: st) g L1 L2 L3 L4 L5 cells slots := by
  subst hp
  subst hf
  skip
  intro H locs ls hl hg
  have hE := wd_ws_get (q := x_q X) (g := g) (cy := x_cy X) (S := wd_o S0 L1 L2 L3 L4 L5) hlay
  simp only [wd_ent, wd_arr, wd_len, hmo, cond_false] at hE
  exact va_zald (D := x_D X) h.1 h.2.1 h.2.2.2.2.2.2.1 hg.1 c 2 hE rfl hi hd (kk H locs ls hl hg)
theorem go_zaldg (h : MC X lay cc own nL rt rm) {n b : Nat} (c : Nat) (hlay : lay[c]? = some (.inr (2, (1, n, b))))  {f : Nat → Int32} (hf : wd_ov S0.2.2.1 L3 c = f) {N : Nat} (hN : wd_ov S0.2.2.2.2 L5 c = N) {i : Int32} (hd : decode cc pc = .ok (.baload, 1)) (hi : vp_in i N) (hp : pc + 1 = pc') (kk : Go X lay S0 pc' lc (.int (f i.toNatClampNeg) :: st) g L1 L2 L3 L4 L5 cells slots) : Go X lay S0 pc lc (.int i :: .ref (g c) :: st) g L1 L2 L3 L4 L5 cells slots := by
  subst hp
  subst hf
  subst hN
  intro H locs ls hl hg
  have hE := wd_ws_get (q := x_q X) (g := g) (cy := x_cy X) (S := wd_o S0 L1 L2 L3 L4 L5) hlay
  skip
  exact va_zald (D := x_D X) h.1 h.2.1 h.2.2.2.2.2.2.1 hg.1 c 2 hE rfl hi hd (kk H locs ls hl hg)
theorem go_lald (h : MC X lay cc own nL rt rm) {mo n b : Nat} (c : Nat) (hlay : lay[c]? = some (.inr (3, (mo, n, b)))) (hmo : Nat.beq mo 1 = false) {f : Nat → Int64} (hf : wd_ov S0.2.2.2.1 L4 c = f)  {i : Int32} (hd : decode cc pc = .ok (.laload, 1)) (hi : vp_in i n) (hp : pc + 1 = pc') (kk : Go X lay S0 pc' lc (.long (f i.toNatClampNeg) :: st) g L1 L2 L3 L4 L5 cells slots) : Go X lay S0 pc lc (.int i :: .ref (x_q X c) :: st) g L1 L2 L3 L4 L5 cells slots := by
  subst hp
  subst hf
  skip
  intro H locs ls hl hg
  have hE := wd_ws_get (q := x_q X) (g := g) (cy := x_cy X) (S := wd_o S0 L1 L2 L3 L4 L5) hlay
  simp only [wd_ent, wd_arr, wd_len, hmo, cond_false] at hE
  exact va_lald (D := x_D X) h.1 h.2.1 h.2.2.2.2.2.2.1 hg.1 c 3 hE rfl hi hd (kk H locs ls hl hg)
theorem go_laldg (h : MC X lay cc own nL rt rm) {n b : Nat} (c : Nat) (hlay : lay[c]? = some (.inr (3, (1, n, b))))  {f : Nat → Int64} (hf : wd_ov S0.2.2.2.1 L4 c = f) {N : Nat} (hN : wd_ov S0.2.2.2.2 L5 c = N) {i : Int32} (hd : decode cc pc = .ok (.laload, 1)) (hi : vp_in i N) (hp : pc + 1 = pc') (kk : Go X lay S0 pc' lc (.long (f i.toNatClampNeg) :: st) g L1 L2 L3 L4 L5 cells slots) : Go X lay S0 pc lc (.int i :: .ref (g c) :: st) g L1 L2 L3 L4 L5 cells slots := by
  subst hp
  subst hf
  subst hN
  intro H locs ls hl hg
  have hE := wd_ws_get (q := x_q X) (g := g) (cy := x_cy X) (S := wd_o S0 L1 L2 L3 L4 L5) hlay
  skip
  exact va_lald (D := x_D X) h.1 h.2.1 h.2.2.2.2.2.2.1 hg.1 c 3 hE rfl hi hd (kk H locs ls hl hg)
theorem go_iast (h : MC X lay cc own nL rt rm) {mo n b : Nat} (c : Nat) (hlay : lay[c]? = some (.inr (0, (mo, n, b)))) (hmo : Nat.beq mo 1 = false) {f : Nat → Int32} (hf : wd_ov S0.2.2.1 L3 c = f)  {i : Int32} {x : Int32} (hd : decode cc pc = .ok (.iastore, 1)) (hi : vp_in i n) (hp : pc + 1 = pc') (hky : (wd_lk L3 c).isSome = true) (kk : ∀ f' : Nat → Int32, f' = upd f i.toNatClampNeg x → ∀ L3', wd_sl L3 c f' = L3' → Go X lay S0 pc' lc st g L1 L2 L3' L4 L5 cells slots) : Go X lay S0 pc lc (.int x :: .int i :: .ref (x_q X c) :: st) g L1 L2 L3 L4 L5 cells slots := by
  subst hp
  subst hf
  skip
  intro H locs ls hl hg
  have hE := wd_ws_get (q := x_q X) (g := g) (cy := x_cy X) (S := wd_o S0 L1 L2 L3 L4 L5) hlay
  simp only [wd_ent, wd_arr, wd_len, hmo, cond_false] at hE
  refine va_iast (D := x_D X) h.1 h.2.1 h.2.2.2.2.2.2.1 hg.1 hg.2.1 hg.2.2 c 0 hE rfl hi hd (fun H1 locs1 hP hD hS => ?_)
  have hws := wd_ws_A (q := x_q X) (g := g) (cy := x_cy X) (S := wd_o S0 L1 L2 L3 L4 L5) (f := upd (wd_ov S0.2.2.1 L3 c) i.toNatClampNeg x) hlay rfl
  simp only [wd_len, hmo, cond_false] at hws
  have hP := (show _ = _ from hws) ▸ hP
  have hD := (show _ = _ from hws) ▸ hD
  rw [wd_o_sA hky] at hP hD
  exact kk _ rfl _ rfl H1 locs1 ls hl ⟨hP, hD, hS⟩
theorem go_iastg (h : MC X lay cc own nL rt rm) {n b : Nat} (c : Nat) (hlay : lay[c]? = some (.inr (0, (1, n, b))))  {f : Nat → Int32} (hf : wd_ov S0.2.2.1 L3 c = f) {N : Nat} (hN : wd_ov S0.2.2.2.2 L5 c = N) {i : Int32} {x : Int32} (hd : decode cc pc = .ok (.iastore, 1)) (hi : vp_in i N) (hp : pc + 1 = pc') (hky : (wd_lk L3 c).isSome = true) (kk : ∀ f' : Nat → Int32, f' = upd f i.toNatClampNeg x → ∀ L3', wd_sl L3 c f' = L3' → Go X lay S0 pc' lc st g L1 L2 L3' L4 L5 cells slots) : Go X lay S0 pc lc (.int x :: .int i :: .ref (g c) :: st) g L1 L2 L3 L4 L5 cells slots := by
  subst hp
  subst hf
  subst hN
  intro H locs ls hl hg
  have hE := wd_ws_get (q := x_q X) (g := g) (cy := x_cy X) (S := wd_o S0 L1 L2 L3 L4 L5) hlay
  skip
  refine va_iast (D := x_D X) h.1 h.2.1 h.2.2.2.2.2.2.1 hg.1 hg.2.1 hg.2.2 c 0 hE rfl hi hd (fun H1 locs1 hP hD hS => ?_)
  have hws := wd_ws_A (q := x_q X) (g := g) (cy := x_cy X) (S := wd_o S0 L1 L2 L3 L4 L5) (f := upd (wd_ov S0.2.2.1 L3 c) i.toNatClampNeg x) hlay rfl
  skip
  have hP := (show _ = _ from hws) ▸ hP
  have hD := (show _ = _ from hws) ▸ hD
  rw [wd_o_sA hky] at hP hD
  exact kk _ rfl _ rfl H1 locs1 ls hl ⟨hP, hD, hS⟩
theorem go_bast (h : MC X lay cc own nL rt rm) {mo n b : Nat} (c : Nat) (hlay : lay[c]? = some (.inr (1, (mo, n, b)))) (hmo : Nat.beq mo 1 = false) {f : Nat → Int32} (hf : wd_ov S0.2.2.1 L3 c = f)  {i : Int32} {x : Int32} (hd : decode cc pc = .ok (.bastore, 1)) (hi : vp_in i n) (hp : pc + 1 = pc') (hky : (wd_lk L3 c).isSome = true) (kk : ∀ f' : Nat → Int32, f' = upd f i.toNatClampNeg (vp_nar .byte x) → ∀ L3', wd_sl L3 c f' = L3' → Go X lay S0 pc' lc st g L1 L2 L3' L4 L5 cells slots) : Go X lay S0 pc lc (.int x :: .int i :: .ref (x_q X c) :: st) g L1 L2 L3 L4 L5 cells slots := by
  subst hp
  subst hf
  skip
  intro H locs ls hl hg
  have hE := wd_ws_get (q := x_q X) (g := g) (cy := x_cy X) (S := wd_o S0 L1 L2 L3 L4 L5) hlay
  simp only [wd_ent, wd_arr, wd_len, hmo, cond_false] at hE
  refine va_bast (D := x_D X) h.1 h.2.1 h.2.2.2.2.2.2.1 hg.1 hg.2.1 hg.2.2 c 1 hE rfl hi hd (fun H1 locs1 hP hD hS => ?_)
  have hws := wd_ws_A (q := x_q X) (g := g) (cy := x_cy X) (S := wd_o S0 L1 L2 L3 L4 L5) (f := upd (wd_ov S0.2.2.1 L3 c) i.toNatClampNeg (vp_nar .byte x)) hlay rfl
  simp only [wd_len, hmo, cond_false] at hws
  have hP := (show _ = _ from hws) ▸ hP
  have hD := (show _ = _ from hws) ▸ hD
  rw [wd_o_sA hky] at hP hD
  exact kk _ rfl _ rfl H1 locs1 ls hl ⟨hP, hD, hS⟩
theorem go_bastg (h : MC X lay cc own nL rt rm) {n b : Nat} (c : Nat) (hlay : lay[c]? = some (.inr (1, (1, n, b))))  {f : Nat → Int32} (hf : wd_ov S0.2.2.1 L3 c = f) {N : Nat} (hN : wd_ov S0.2.2.2.2 L5 c = N) {i : Int32} {x : Int32} (hd : decode cc pc = .ok (.bastore, 1)) (hi : vp_in i N) (hp : pc + 1 = pc') (hky : (wd_lk L3 c).isSome = true) (kk : ∀ f' : Nat → Int32, f' = upd f i.toNatClampNeg (vp_nar .byte x) → ∀ L3', wd_sl L3 c f' = L3' → Go X lay S0 pc' lc st g L1 L2 L3' L4 L5 cells slots) : Go X lay S0 pc lc (.int x :: .int i :: .ref (g c) :: st) g L1 L2 L3 L4 L5 cells slots := by
  subst hp
  subst hf
  subst hN
  intro H locs ls hl hg
  have hE := wd_ws_get (q := x_q X) (g := g) (cy := x_cy X) (S := wd_o S0 L1 L2 L3 L4 L5) hlay
  skip
  refine va_bast (D := x_D X) h.1 h.2.1 h.2.2.2.2.2.2.1 hg.1 hg.2.1 hg.2.2 c 1 hE rfl hi hd (fun H1 locs1 hP hD hS => ?_)
  have hws := wd_ws_A (q := x_q X) (g := g) (cy := x_cy X) (S := wd_o S0 L1 L2 L3 L4 L5) (f := upd (wd_ov S0.2.2.1 L3 c) i.toNatClampNeg (vp_nar .byte x)) hlay rfl
  skip
  have hP := (show _ = _ from hws) ▸ hP
  have hD := (show _ = _ from hws) ▸ hD
  rw [wd_o_sA hky] at hP hD
  exact kk _ rfl _ rfl H1 locs1 ls hl ⟨hP, hD, hS⟩
theorem go_zast (h : MC X lay cc own nL rt rm) {mo n b : Nat} (c : Nat) (hlay : lay[c]? = some (.inr (2, (mo, n, b)))) (hmo : Nat.beq mo 1 = false) {f : Nat → Int32} (hf : wd_ov S0.2.2.1 L3 c = f)  {i : Int32} {x : Int32} (hd : decode cc pc = .ok (.bastore, 1)) (hi : vp_in i n) (hp : pc + 1 = pc') (hky : (wd_lk L3 c).isSome = true) (kk : ∀ f' : Nat → Int32, f' = upd f i.toNatClampNeg (vp_nar .boolean x) → ∀ L3', wd_sl L3 c f' = L3' → Go X lay S0 pc' lc st g L1 L2 L3' L4 L5 cells slots) : Go X lay S0 pc lc (.int x :: .int i :: .ref (x_q X c) :: st) g L1 L2 L3 L4 L5 cells slots := by
  subst hp
  subst hf
  skip
  intro H locs ls hl hg
  have hE := wd_ws_get (q := x_q X) (g := g) (cy := x_cy X) (S := wd_o S0 L1 L2 L3 L4 L5) hlay
  simp only [wd_ent, wd_arr, wd_len, hmo, cond_false] at hE
  refine va_zast (D := x_D X) h.1 h.2.1 h.2.2.2.2.2.2.1 hg.1 hg.2.1 hg.2.2 c 2 hE rfl hi hd (fun H1 locs1 hP hD hS => ?_)
  have hws := wd_ws_A (q := x_q X) (g := g) (cy := x_cy X) (S := wd_o S0 L1 L2 L3 L4 L5) (f := upd (wd_ov S0.2.2.1 L3 c) i.toNatClampNeg (vp_nar .boolean x)) hlay rfl
  simp only [wd_len, hmo, cond_false] at hws
  have hP := (show _ = _ from hws) ▸ hP
  have hD := (show _ = _ from hws) ▸ hD
  rw [wd_o_sA hky] at hP hD
  exact kk _ rfl _ rfl H1 locs1 ls hl ⟨hP, hD, hS⟩
theorem go_zastg (h : MC X lay cc own nL rt rm) {n b : Nat} (c : Nat) (hlay : lay[c]? = some (.inr (2, (1, n, b))))  {f : Nat → Int32} (hf : wd_ov S0.2.2.1 L3 c = f) {N : Nat} (hN : wd_ov S0.2.2.2.2 L5 c = N) {i : Int32} {x : Int32} (hd : decode cc pc = .ok (.bastore, 1)) (hi : vp_in i N) (hp : pc + 1 = pc') (hky : (wd_lk L3 c).isSome = true) (kk : ∀ f' : Nat → Int32, f' = upd f i.toNatClampNeg (vp_nar .boolean x) → ∀ L3', wd_sl L3 c f' = L3' → Go X lay S0 pc' lc st g L1 L2 L3' L4 L5 cells slots) : Go X lay S0 pc lc (.int x :: .int i :: .ref (g c) :: st) g L1 L2 L3 L4 L5 cells slots := by
  subst hp
  subst hf
  subst hN
  intro H locs ls hl hg
  have hE := wd_ws_get (q := x_q X) (g := g) (cy := x_cy X) (S := wd_o S0 L1 L2 L3 L4 L5) hlay
  skip
  refine va_zast (D := x_D X) h.1 h.2.1 h.2.2.2.2.2.2.1 hg.1 hg.2.1 hg.2.2 c 2 hE rfl hi hd (fun H1 locs1 hP hD hS => ?_)
  have hws := wd_ws_A (q := x_q X) (g := g) (cy := x_cy X) (S := wd_o S0 L1 L2 L3 L4 L5) (f := upd (wd_ov S0.2.2.1 L3 c) i.toNatClampNeg (vp_nar .boolean x)) hlay rfl
  skip
  have hP := (show _ = _ from hws) ▸ hP
  have hD := (show _ = _ from hws) ▸ hD
  rw [wd_o_sA hky] at hP hD
  exact kk _ rfl _ rfl H1 locs1 ls hl ⟨hP, hD, hS⟩
theorem go_last (h : MC X lay cc own nL rt rm) {mo n b : Nat} (c : Nat) (hlay : lay[c]? = some (.inr (3, (mo, n, b)))) (hmo : Nat.beq mo 1 = false) {f : Nat → Int64} (hf : wd_ov S0.2.2.2.1 L4 c = f)  {i : Int32} {x : Int64} (hd : decode cc pc = .ok (.lastore, 1)) (hi : vp_in i n) (hp : pc + 1 = pc') (hky : (wd_lk L4 c).isSome = true) (kk : ∀ f' : Nat → Int64, f' = vp_updL f i.toNatClampNeg x → ∀ L4', wd_sl L4 c f' = L4' → Go X lay S0 pc' lc st g L1 L2 L3 L4' L5 cells slots) : Go X lay S0 pc lc (.long x :: .int i :: .ref (x_q X c) :: st) g L1 L2 L3 L4 L5 cells slots := by
  subst hp
  subst hf
  skip
  intro H locs ls hl hg
  have hE := wd_ws_get (q := x_q X) (g := g) (cy := x_cy X) (S := wd_o S0 L1 L2 L3 L4 L5) hlay
  simp only [wd_ent, wd_arr, wd_len, hmo, cond_false] at hE
  refine va_last (D := x_D X) h.1 h.2.1 h.2.2.2.2.2.2.1 hg.1 hg.2.1 hg.2.2 c 3 hE rfl hi hd (fun H1 locs1 hP hD hS => ?_)
  have hws := wd_ws_B (q := x_q X) (g := g) (cy := x_cy X) (S := wd_o S0 L1 L2 L3 L4 L5) (f := vp_updL (wd_ov S0.2.2.2.1 L4 c) i.toNatClampNeg x) hlay
  simp only [wd_len, hmo, cond_false] at hws
  have hP := (show _ = _ from hws) ▸ hP
  have hD := (show _ = _ from hws) ▸ hD
  rw [wd_o_sB hky] at hP hD
  exact kk _ rfl _ rfl H1 locs1 ls hl ⟨hP, hD, hS⟩
theorem go_lastg (h : MC X lay cc own nL rt rm) {n b : Nat} (c : Nat) (hlay : lay[c]? = some (.inr (3, (1, n, b))))  {f : Nat → Int64} (hf : wd_ov S0.2.2.2.1 L4 c = f) {N : Nat} (hN : wd_ov S0.2.2.2.2 L5 c = N) {i : Int32} {x : Int64} (hd : decode cc pc = .ok (.lastore, 1)) (hi : vp_in i N) (hp : pc + 1 = pc') (hky : (wd_lk L4 c).isSome = true) (kk : ∀ f' : Nat → Int64, f' = vp_updL f i.toNatClampNeg x → ∀ L4', wd_sl L4 c f' = L4' → Go X lay S0 pc' lc st g L1 L2 L3 L4' L5 cells slots) : Go X lay S0 pc lc (.long x :: .int i :: .ref (g c) :: st) g L1 L2 L3 L4 L5 cells slots := by
  subst hp
  subst hf
  subst hN
  intro H locs ls hl hg
  have hE := wd_ws_get (q := x_q X) (g := g) (cy := x_cy X) (S := wd_o S0 L1 L2 L3 L4 L5) hlay
  skip
  refine va_last (D := x_D X) h.1 h.2.1 h.2.2.2.2.2.2.1 hg.1 hg.2.1 hg.2.2 c 3 hE rfl hi hd (fun H1 locs1 hP hD hS => ?_)
  have hws := wd_ws_B (q := x_q X) (g := g) (cy := x_cy X) (S := wd_o S0 L1 L2 L3 L4 L5) (f := vp_updL (wd_ov S0.2.2.2.1 L4 c) i.toNatClampNeg x) hlay
  skip
  have hP := (show _ = _ from hws) ▸ hP
  have hD := (show _ = _ from hws) ▸ hD
  rw [wd_o_sB hky] at hP hD
  exact kk _ rfl _ rfl H1 locs1 ls hl ⟨hP, hD, hS⟩
theorem go_alen (h : MC X lay cc own nL rt rm) {ty mo n b : Nat} (c : Nat) (hlay : lay[c]? = some (.inr (ty, (mo, n, b)))) (hmo : Nat.beq mo 1 = false) (hty : ty < 6)  {v : Int32} (hv : Int32.ofNat n = v) (hd : decode cc pc = .ok (.arraylength, 1)) (hp : pc + 1 = pc') (kk : Go X lay S0 pc' lc (.int v :: st) g L1 L2 L3 L4 L5 cells slots) : Go X lay S0 pc lc (.ref (x_q X c) :: st) g L1 L2 L3 L4 L5 cells slots := by
  subst hp
  subst hv
  skip
  intro H locs ls hl hg
  have hE := wd_ws_get (q := x_q X) (g := g) (cy := x_cy X) (S := wd_o S0 L1 L2 L3 L4 L5) hlay
  simp only [wd_ent, wd_arr, wd_len, hmo, cond_false] at hE
  have ht : ∃ t, (wd_tys (x_cy X))[ty]? = some (x_cy X ty, t) := by
    match ty, hty with
    | 0, _ => exact ⟨_, rfl⟩
    | 1, _ => exact ⟨_, rfl⟩
    | 2, _ => exact ⟨_, rfl⟩
    | 3, _ => exact ⟨_, rfl⟩
    | 4, _ => exact ⟨_, rfl⟩
    | 5, _ => exact ⟨_, rfl⟩
  obtain ⟨t, ht⟩ := ht
  exact va_alen (D := x_D X) h.1 h.2.1 h.2.2.2.2.2.2.1 hg.1 c ty hE ht rfl hd (kk H locs ls hl hg)
theorem go_aleng (h : MC X lay cc own nL rt rm) {ty n b : Nat} (c : Nat) (hlay : lay[c]? = some (.inr (ty, (1, n, b))))  (hty : ty < 6) {N : Nat} (hN : wd_ov S0.2.2.2.2 L5 c = N) {v : Int32} (hv : Int32.ofNat N = v) (hd : decode cc pc = .ok (.arraylength, 1)) (hp : pc + 1 = pc') (kk : Go X lay S0 pc' lc (.int v :: st) g L1 L2 L3 L4 L5 cells slots) : Go X lay S0 pc lc (.ref (g c) :: st) g L1 L2 L3 L4 L5 cells slots := by
  subst hp
  subst hv
  subst hN
  intro H locs ls hl hg
  have hE := wd_ws_get (q := x_q X) (g := g) (cy := x_cy X) (S := wd_o S0 L1 L2 L3 L4 L5) hlay
  skip
  have ht : ∃ t, (wd_tys (x_cy X))[ty]? = some (x_cy X ty, t) := by
    match ty, hty with
    | 0, _ => exact ⟨_, rfl⟩
    | 1, _ => exact ⟨_, rfl⟩
    | 2, _ => exact ⟨_, rfl⟩
    | 3, _ => exact ⟨_, rfl⟩
    | 4, _ => exact ⟨_, rfl⟩
    | 5, _ => exact ⟨_, rfl⟩
  obtain ⟨t, ht⟩ := ht
  exact va_alen (D := x_D X) h.1 h.2.1 h.2.2.2.2.2.2.1 hg.1 c ty hE ht rfl hd (kk H locs ls hl hg)
end GO
