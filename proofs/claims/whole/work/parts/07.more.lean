theorem lg_ge {x y : Int64} : 0 ≤ lg_cmp x y ↔ y ≤ x := lg_cmp_ge x y
theorem lg_lt {x y : Int64} : lg_cmp x y < 0 ↔ x < y := lg_cmp_lt x y
theorem lg_gt {x y : Int64} : 0 < lg_cmp x y ↔ y < x := lg_cmp_gt x y
theorem lg_le {x y : Int64} : lg_cmp x y ≤ 0 ↔ x ≤ y := lg_cmp_le x y
theorem lg_eq {x y : Int64} : lg_cmp x y = 0 ↔ x = y := lg_cmp_eq x y
section GOT
variable {X : XT} {lay : List wd_E} {S0 : wd_W} {cc : ByteArray} {own : String} {nL : Nat} {rt : Option FieldType} {rm : Room}
variable {pc pc' : Nat} {lc lc' : List (Nat × Value)} {st : List Value} {g : Nat → Nat} {L1 : List (Nat × Int32)} {L2 : List (Nat × Int64)} {L3 : List (Nat × (Nat → Int32))} {L4 : List (Nat × (Nat → Int64))} {L5 : List (Nat × Nat)} {cells slots : Nat}
theorem go_tabIn' (h : MC X lay cc own nL rt rm) {dflt lo hi : Int} {offs : Array Int} {len : Nat} {x v : Int32} {n off : Int} {tgt : Nat} (hd : decode cc pc = .ok (.tableswitch dflt lo hi offs, len)) (hx : x = v) (hv : v.toInt = n) (h1 : ¬ n < lo) (h2 : ¬ hi < n) (ho : offs[(n - lo).toNat]? = some off) (ht : (pc : Int) + off = (tgt : Int)) (k : Go X lay S0 tgt lc st g L1 L2 L3 L4 L5 cells slots) : Go X lay S0 pc lc (.int x :: st) g L1 L2 L3 L4 L5 cells slots := by
  subst hx
  subst hv
  exact go_tabIn h hd h1 h2 ho ht k
theorem go_lkIn' (h : MC X lay cc own nL rt rm) {dflt : Int} {ps : Array (Int × Int)} {len : Nat} {x v : Int32} {n off : Int} {tgt : Nat} (hd : decode cc pc = .ok (.lookupswitch dflt ps, len)) (hx : x = v) (hv : v.toInt = n) (hs : (ps.toList.zip (ps.toList.drop 1)).all (fun (a, next) => a.1 < next.1) = true) (ho : Op.lookupswitch.offset ps.toList dflt n = off) (ht : (pc : Int) + off = (tgt : Int)) (k : Go X lay S0 tgt lc st g L1 L2 L3 L4 L5 cells slots) : Go X lay S0 pc lc (.int x :: st) g L1 L2 L3 L4 L5 cells slots := by
  subst hx
  subst hv
  exact go_lookup h hd hs ho ht k
end GOT
/-! the base of a world put anew -/
section GOB
variable {X : XT} {lay : List wd_E} {S0 : wd_W} {cc : ByteArray} {own : String} {nL : Nat} {rt : Option FieldType} {rm : Room}
variable {pc pc' : Nat} {lc lc' : List (Nat × Value)} {st : List Value} {g : Nat → Nat} {L1 L1' M1 : List (Nat × Int32)} {L2 L2' M2 : List (Nat × Int64)} {L3 L3' M3 : List (Nat × (Nat → Int32))} {L4 L4' M4 : List (Nat × (Nat → Int64))} {L5 L5' M5 : List (Nat × Nat)} {cells slots : Nat}
theorem go_base (k : ∀ S1 : wd_W, S1 = wd_o S0 L1 L2 L3 L4 L5 → Go X lay S1 pc lc st g [] [] [] [] [] cells slots) : Go X lay S0 pc lc st g L1 L2 L3 L4 L5 cells slots := by
  intro H locs ls hl hg
  exact k _ rfl H locs ls hl hg
end GOB
