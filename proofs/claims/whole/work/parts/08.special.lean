theorem dX2_copyRow_0 : decode cX2_copyRow 0 = .ok (.aload_n 0, 1) := by decide +kernel
theorem dX2_copyRow_1 : decode cX2_copyRow 1 = .ok (.iconst 0, 1) := by decide +kernel
theorem dX2_copyRow_2 : decode cX2_copyRow 2 = .ok (.aload_n 1, 1) := by decide +kernel
theorem dX2_copyRow_3 : decode cX2_copyRow 3 = .ok (.iconst 0, 1) := by decide +kernel
theorem dX2_copyRow_4 : decode cX2_copyRow 4 = .ok (.aload_n 0, 1) := by decide +kernel
theorem dX2_copyRow_5 : decode cX2_copyRow 5 = .ok (.arraylength, 1) := by decide +kernel
theorem dX2_copyRow_6 : decode cX2_copyRow 6 = .ok (.aload_n 1, 1) := by decide +kernel
theorem dX2_copyRow_7 : decode cX2_copyRow 7 = .ok (.arraylength, 1) := by decide +kernel
theorem dX2_copyRow_8 : decode cX2_copyRow 8 = .ok (.invokestatic 75, 3) := by decide +kernel
theorem dX2_copyRow_11 : decode cX2_copyRow 11 = .ok (.invokestatic 81, 3) := by decide +kernel
theorem dX2_copyRow_14 : decode cX2_copyRow 14 = .ok (.return_, 1) := by decide +kernel
theorem dJ0_length_8abf5_0 : decode cJ0_length_8abf5 0 = .ok (.aload_n 0, 1) := by decide +kernel
theorem dJ0_length_8abf5_1 : decode cJ0_length_8abf5 1 = .ok (.getfield 9, 3) := by decide +kernel
theorem dJ0_length_8abf5_4 : decode cJ0_length_8abf5 4 = .ok (.arraylength, 1) := by decide +kernel
theorem dJ0_length_8abf5_5 : decode cJ0_length_8abf5 5 = .ok (.aload_n 0, 1) := by decide +kernel
theorem dJ0_length_8abf5_6 : decode cJ0_length_8abf5 6 = .ok (.invokevirtual 335, 3) := by decide +kernel
theorem dJ0_length_8abf5_9 : decode cJ0_length_8abf5 9 = .ok (.ishr, 1) := by decide +kernel
theorem dJ0_length_8abf5_10 : decode cJ0_length_8abf5 10 = .ok (.ireturn, 1) := by decide +kernel
theorem dJ0_charAt_5068e_0 : decode cJ0_charAt_5068e 0 = .ok (.aload_n 0, 1) := by decide +kernel
theorem dJ0_charAt_5068e_1 : decode cJ0_charAt_5068e 1 = .ok (.invokevirtual 492, 3) := by decide +kernel
theorem dJ0_charAt_5068e_4 : decode cJ0_charAt_5068e 4 = .ok (.ifCond .eq 12, 3) := by decide +kernel
theorem dJ0_charAt_5068e_7 : decode cJ0_charAt_5068e 7 = .ok (.aload_n 0, 1) := by decide +kernel
theorem dJ0_charAt_5068e_8 : decode cJ0_charAt_5068e 8 = .ok (.getfield 9, 3) := by decide +kernel
theorem dJ0_charAt_5068e_11 : decode cJ0_charAt_5068e 11 = .ok (.iload_n 1, 1) := by decide +kernel
theorem dJ0_charAt_5068e_12 : decode cJ0_charAt_5068e 12 = .ok (.invokestatic 495, 3) := by decide +kernel
theorem dJ0_charAt_5068e_15 : decode cJ0_charAt_5068e 15 = .ok (.ireturn, 1) := by decide +kernel
theorem dJ0_charAt_5068e_16 : decode cJ0_charAt_5068e 16 = .ok (.aload_n 0, 1) := by decide +kernel
theorem dJ0_charAt_5068e_17 : decode cJ0_charAt_5068e 17 = .ok (.getfield 9, 3) := by decide +kernel
theorem dJ0_charAt_5068e_20 : decode cJ0_charAt_5068e 20 = .ok (.iload_n 1, 1) := by decide +kernel
theorem dJ0_charAt_5068e_21 : decode cJ0_charAt_5068e 21 = .ok (.invokestatic 498, 3) := by decide +kernel
theorem dJ0_charAt_5068e_24 : decode cJ0_charAt_5068e 24 = .ok (.ireturn, 1) := by decide +kernel
theorem dJ0_coder_7d493_0 : decode cJ0_coder_7d493 0 = .ok (.getstatic 38, 3) := by decide +kernel
theorem dJ0_coder_7d493_3 : decode cJ0_coder_7d493 3 = .ok (.ifCond .eq 10, 3) := by decide +kernel
theorem dJ0_coder_7d493_6 : decode cJ0_coder_7d493 6 = .ok (.aload_n 0, 1) := by decide +kernel
theorem dJ0_coder_7d493_7 : decode cJ0_coder_7d493 7 = .ok (.getfield 15, 3) := by decide +kernel
theorem dJ0_coder_7d493_10 : decode cJ0_coder_7d493 10 = .ok (.goto 4, 3) := by decide +kernel
theorem dJ0_coder_7d493_13 : decode cJ0_coder_7d493 13 = .ok (.iconst 1, 1) := by decide +kernel
theorem dJ0_coder_7d493_14 : decode cJ0_coder_7d493 14 = .ok (.ireturn, 1) := by decide +kernel
theorem dJ0_isLatin1_aae02_0 : decode cJ0_isLatin1_aae02 0 = .ok (.getstatic 38, 3) := by decide +kernel
theorem dJ0_isLatin1_aae02_3 : decode cJ0_isLatin1_aae02 3 = .ok (.ifCond .eq 14, 3) := by decide +kernel
theorem dJ0_isLatin1_aae02_6 : decode cJ0_isLatin1_aae02 6 = .ok (.aload_n 0, 1) := by decide +kernel
theorem dJ0_isLatin1_aae02_7 : decode cJ0_isLatin1_aae02 7 = .ok (.getfield 15, 3) := by decide +kernel
theorem dJ0_isLatin1_aae02_10 : decode cJ0_isLatin1_aae02 10 = .ok (.ifCond .ne 7, 3) := by decide +kernel
theorem dJ0_isLatin1_aae02_13 : decode cJ0_isLatin1_aae02 13 = .ok (.iconst 1, 1) := by decide +kernel
theorem dJ0_isLatin1_aae02_14 : decode cJ0_isLatin1_aae02 14 = .ok (.goto 4, 3) := by decide +kernel
theorem dJ0_isLatin1_aae02_17 : decode cJ0_isLatin1_aae02 17 = .ok (.iconst 0, 1) := by decide +kernel
theorem dJ0_isLatin1_aae02_18 : decode cJ0_isLatin1_aae02 18 = .ok (.ireturn, 1) := by decide +kernel
theorem dJ0_checkIndex_df160_0 : decode cJ0_checkIndex_df160 0 = .ok (.iload_n 0, 1) := by decide +kernel
theorem dJ0_checkIndex_df160_1 : decode cJ0_checkIndex_df160 1 = .ok (.iload_n 1, 1) := by decide +kernel
theorem dJ0_checkIndex_df160_2 : decode cJ0_checkIndex_df160 2 = .ok (.getstatic 1053, 3) := by decide +kernel
theorem dJ0_checkIndex_df160_5 : decode cJ0_checkIndex_df160 5 = .ok (.invokestatic 1059, 3) := by decide +kernel
theorem dJ0_checkIndex_df160_8 : decode cJ0_checkIndex_df160 8 = .ok (.pop, 1) := by decide +kernel
theorem dJ0_checkIndex_df160_9 : decode cJ0_checkIndex_df160 9 = .ok (.return_, 1) := by decide +kernel
theorem dJ1_charAt_3b067_0 : decode cJ1_charAt_3b067 0 = .ok (.iload_n 1, 1) := by decide +kernel
theorem dJ1_charAt_3b067_1 : decode cJ1_charAt_3b067 1 = .ok (.aload_n 0, 1) := by decide +kernel
theorem dJ1_charAt_3b067_2 : decode cJ1_charAt_3b067 2 = .ok (.arraylength, 1) := by decide +kernel
theorem dJ1_charAt_3b067_3 : decode cJ1_charAt_3b067 3 = .ok (.invokestatic 9, 3) := by decide +kernel
theorem dJ1_charAt_3b067_6 : decode cJ1_charAt_3b067 6 = .ok (.aload_n 0, 1) := by decide +kernel
theorem dJ1_charAt_3b067_7 : decode cJ1_charAt_3b067 7 = .ok (.iload_n 1, 1) := by decide +kernel
theorem dJ1_charAt_3b067_8 : decode cJ1_charAt_3b067 8 = .ok (.baload, 1) := by decide +kernel
theorem dJ1_charAt_3b067_9 : decode cJ1_charAt_3b067 9 = .ok (.sipush 255, 3) := by decide +kernel
theorem dJ1_charAt_3b067_12 : decode cJ1_charAt_3b067 12 = .ok (.iand, 1) := by decide +kernel
theorem dJ1_charAt_3b067_13 : decode cJ1_charAt_3b067 13 = .ok (.i2c, 1) := by decide +kernel
theorem dJ1_charAt_3b067_14 : decode cJ1_charAt_3b067 14 = .ok (.ireturn, 1) := by decide +kernel
theorem dJ3_checkIndex_8e157_0 : decode cJ3_checkIndex_8e157 0 = .ok (.iload_n 0, 1) := by decide +kernel
theorem dJ3_checkIndex_8e157_1 : decode cJ3_checkIndex_8e157 1 = .ok (.ifCond .lt 8, 3) := by decide +kernel
theorem dJ3_checkIndex_8e157_4 : decode cJ3_checkIndex_8e157 4 = .ok (.iload_n 0, 1) := by decide +kernel
theorem dJ3_checkIndex_8e157_5 : decode cJ3_checkIndex_8e157 5 = .ok (.iload_n 1, 1) := by decide +kernel
theorem dJ3_checkIndex_8e157_6 : decode cJ3_checkIndex_8e157 6 = .ok (.if_icmp .lt 10, 3) := by decide +kernel
theorem dJ3_checkIndex_8e157_9 : decode cJ3_checkIndex_8e157 9 = .ok (.aload_n 2, 1) := by decide +kernel
theorem dJ3_checkIndex_8e157_10 : decode cJ3_checkIndex_8e157 10 = .ok (.iload_n 0, 1) := by decide +kernel
theorem dJ3_checkIndex_8e157_11 : decode cJ3_checkIndex_8e157 11 = .ok (.iload_n 1, 1) := by decide +kernel
theorem dJ3_checkIndex_8e157_12 : decode cJ3_checkIndex_8e157 12 = .ok (.invokestatic 95, 3) := by decide +kernel
theorem dJ3_checkIndex_8e157_15 : decode cJ3_checkIndex_8e157 15 = .ok (.athrow, 1) := by decide +kernel
theorem dJ3_checkIndex_8e157_16 : decode cJ3_checkIndex_8e157 16 = .ok (.iload_n 0, 1) := by decide +kernel
theorem dJ3_checkIndex_8e157_17 : decode cJ3_checkIndex_8e157 17 = .ok (.ireturn, 1) := by decide +kernel
section GOS
variable {X : XT} {lay : List wd_E} {S0 : wd_W} {cc : ByteArray} {own : String} {nL : Nat} {rt : Option FieldType} {rm : Room}
variable {pc pc' : Nat} {lc lc' : List (Nat × Value)} {st : List Value} {g : Nat → Nat} {L1 : List (Nat × Int32)} {L2 : List (Nat × Int64)} {L3 L3' : List (Nat × (Nat → Int32))} {L4 L4' : List (Nat × (Nat → Int64))} {L5 L5' : List (Nat × Nat)} {cells slots cells' slots' : Nat}
theorem go_ldc_w (h : MC X lay cc own nL rt rm) {idx : Nat} {v : Int32} (hd : decode cc pc = .ok (.ldc_w idx, 3)) (hw : Cond.constant own idx v ∈ wAll) (hp : pc + 3 = pc') (k : Go X lay S0 pc' lc (.int v :: st) g L1 L2 L3 L4 L5 cells slots) : Go X lay S0 pc lc st g L1 L2 L3 L4 L5 cells slots := by
  subst hp
  intro H locs ls hl hg
  exact lv_ldcw h.1 h.2.1 h.2.2.2.2.1 (h.2.2.2.2.2.1 _ hw) hd (k H locs ls hl hg)
theorem go_ldcS (h : MC X lay cc "LetterThrough$Tape" nL rt rm) {idx : Nat} (i : Nat) (hd : decode cc pc = .ok (.ldc idx, 2)) (hi : Nat.ble 11 i = false) (he : st_ent.getD i 0 = idx) (hp : pc + 2 = pc') (k : Go X lay S0 pc' lc (.ref ((x_z X).1 i) :: st) g L1 L2 L3 L4 L5 cells slots) : Go X lay S0 pc lc st g L1 L2 L3 L4 L5 cells slots := by
  subst hp
  intro H locs ls hl hg
  have hi2 : i < 11 := by
    rcases Nat.lt_or_ge i 11 with q | q
    · exact q
    · rw [Nat.ble_eq_true_of_le q] at hi; cases hi
  have hR := h.2.2.2.2.2.2.2.2.2.2.2.1.2.2.2.2.2 i hi2
  rw [he] at hR
  exact va_ldcS h.1 h.2.1 h.2.2.2.2.1 hR hd (k H locs ls hl hg)
theorem go_getpow (h : MC X lay cc "LetterThrough$Looks" nL rt rm) {idx : Nat} (hw : Cond.fieldLink "LetterThrough$Looks" idx "LetterThrough$Looks" "POWERS" "[I" ∈ wAll) (hd : decode cc pc = .ok (.getstatic idx, 3)) (hp : pc + 3 = pc') (k : Go X lay S0 pc' lc (.ref (x_z X).2.2 :: st) g L1 L2 L3 L4 L5 cells slots) : Go X lay S0 pc lc st g L1 L2 L3 L4 L5 cells slots := by
  subst hp
  intro H locs ls hl hg
  exact va_gets h.1 h.2.1 h.2.2.2.2.2.2.2.2.2.2.2.1.1 hg.2.2 h.2.2.2.2.1 (h.2.2.2.2.2.1 _ hw) (fun _ q => q) hd (k H locs ls hl hg)
theorem go_pow (h : MC X lay cc own nL rt rm) {i : Int32} (hd : decode cc pc = .ok (.iaload, 1)) (hi : vp_in i 10) (hp : pc + 1 = pc') (k : Go X lay S0 pc' lc (.int (st_pow i.toNatClampNeg) :: st) g L1 L2 L3 L4 L5 cells slots) : Go X lay S0 pc lc (.int i :: .ref (x_z X).2.2 :: st) g L1 L2 L3 L4 L5 cells slots := by
  subst hp
  intro H locs ls hl hg
  exact va_ti h.1 h.2.1 h.2.2.2.2.2.2.2.2.2.2.2.1.2.1 hg.2.2 hi rfl hd (k H locs ls hl hg)
theorem go_cs (h : MC X lay cc own nL rt rm) {idx : Nat} (hw : Cond.fieldLink own idx "java/lang/String" "COMPACT_STRINGS" "Z" ∈ wAll) (hd : decode cc pc = .ok (.getstatic idx, 3)) (hp : pc + 3 = pc') (k : Go X lay S0 pc' lc (.int 1 :: st) g L1 L2 L3 L4 L5 cells slots) : Go X lay S0 pc lc st g L1 L2 L3 L4 L5 cells slots := by
  subst hp
  intro H locs ls hl hg
  exact va_gets h.1 h.2.1 h.2.2.2.2.2.2.2.2.2.2.2.1.2.2.1 hg.2.2 h.2.2.2.2.1 (h.2.2.2.2.2.1 _ hw) (fun _ q => q) hd (k H locs ls hl hg)
theorem go_sio (h : MC X lay cc own nL rt rm) {idx : Nat} (hw : Cond.fieldLink own idx "jdk/internal/util/Preconditions" "SIOOBE_FORMATTER" "Ljava/util/function/BiFunction;" ∈ wAll) (hd : decode cc pc = .ok (.getstatic idx, 3)) (hp : pc + 3 = pc') (k : ∀ r : Option Nat, Go X lay S0 pc' lc (va_rf r :: st) g L1 L2 L3 L4 L5 cells slots) : Go X lay S0 pc lc st g L1 L2 L3 L4 L5 cells slots := by
  subst hp
  intro H locs ls hl hg
  rcases h.2.2.2.2.2.2.2.2.2.2.2.1.2.2.2.1 with hz | ⟨t, hz⟩
  · exact va_gets h.1 h.2.1 hz hg.2.2 h.2.2.2.2.1 (h.2.2.2.2.2.1 _ hw) (fun _ q => q) hd (k none H locs ls hl hg)
  · exact va_gets h.1 h.2.1 hz hg.2.2 h.2.2.2.2.1 (h.2.2.2.2.2.1 _ hw) (fun _ q => q) hd (k (some t) H locs ls hl hg)
theorem go_strv (h : MC X lay cc own nL rt rm) {idx i : Nat} (hi : i < 11) (hw : Cond.fieldLink own idx "java/lang/String" "value" "[B" ∈ wAll) (hd : decode cc pc = .ok (.getfield idx, 3)) (hp : pc + 3 = pc') (k : Go X lay S0 pc' lc (.ref ((x_z X).2.1 i) :: st) g L1 L2 L3 L4 L5 cells slots) : Go X lay S0 pc lc (.ref ((x_z X).1 i) :: st) g L1 L2 L3 L4 L5 cells slots := by
  subst hp
  intro H locs ls hl hg
  exact vk_getf h.1 h.2.1 (h.2.2.2.2.2.2.2.2.2.2.2.1.2.2.2.2.1.1 i hi).2.2.1 hg.2.2 h.2.2.2.2.1 (h.2.2.2.2.2.1 _ hw) (fun _ q => q) hd (k H locs ls hl hg)
theorem go_strc (h : MC X lay cc own nL rt rm) {idx i : Nat} (hi : i < 11) (hw : Cond.fieldLink own idx "java/lang/String" "coder" "B" ∈ wAll) (hd : decode cc pc = .ok (.getfield idx, 3)) (hp : pc + 3 = pc') (k : Go X lay S0 pc' lc (.int 0 :: st) g L1 L2 L3 L4 L5 cells slots) : Go X lay S0 pc lc (.ref ((x_z X).1 i) :: st) g L1 L2 L3 L4 L5 cells slots := by
  subst hp
  intro H locs ls hl hg
  exact vk_getf h.1 h.2.1 (h.2.2.2.2.2.2.2.2.2.2.2.1.2.2.2.2.1.1 i hi).2.1 hg.2.2 h.2.2.2.2.1 (h.2.2.2.2.2.1 _ hw) (fun _ q => q) hd (k H locs ls hl hg)
theorem go_strl (h : MC X lay cc own nL rt rm) {i : Nat} (hi : i < 11) (hd : decode cc pc = .ok (.arraylength, 1)) (hp : pc + 1 = pc') (k : Go X lay S0 pc' lc (.int (Int32.ofNat (st_len.getD i 0)) :: st) g L1 L2 L3 L4 L5 cells slots) : Go X lay S0 pc lc (.ref ((x_z X).2.1 i) :: st) g L1 L2 L3 L4 L5 cells slots := by
  subst hp
  intro H locs ls hl hg
  exact va_tlen h.1 h.2.1 (h.2.2.2.2.2.2.2.2.2.2.2.1.2.2.2.2.1.1 i hi).2.2.2 hg.2.2 rfl hd (k H locs ls hl hg)
theorem go_strb (h : MC X lay cc own nL rt rm) {i : Nat} {j : Int32} (hi : i < 11) (hd : decode cc pc = .ok (.baload, 1)) (hj : vp_in j (st_len.getD i 0)) (hp : pc + 1 = pc') (k : Go X lay S0 pc' lc (.int ((st_byt.getD i []).getD j.toNatClampNeg 0) :: st) g L1 L2 L3 L4 L5 cells slots) : Go X lay S0 pc lc (.int j :: .ref ((x_z X).2.1 i) :: st) g L1 L2 L3 L4 L5 cells slots := by
  subst hp
  intro H locs ls hl hg
  exact va_tb h.1 h.2.1 (h.2.2.2.2.2.2.2.2.2.2.2.1.2.2.2.2.1.1 i hi).2.2.2 hg.2.2 hj rfl hd (k H locs ls hl hg)
theorem go_mmax (h : MC X lay cc own nL rt rm) {idx : Nat} {x y : Int32} (hd : decode cc pc = .ok (.invokestatic idx, 3)) (hw : Cond.methodLink own idx Lib.Math.max.name ∈ wAll) (hfr : 1 ≤ rm.frames) (hlo : (st.map fun v => v.category).sum + 13 ≤ rm.locals) (hce : cells ≤ rm.cells) (hsl : slots ≤ rm.slots) (hp : pc + 3 = pc') (k : Go X lay S0 pc' lc (.int (if x < y then y else x) :: st) g L1 L2 L3 L4 L5 cells slots) : Go X lay S0 pc lc (.int y :: .int x :: st) g L1 L2 L3 L4 L5 cells slots := by
  subst hp
  intro H locs ls hl hg
  have hR : x_R X = rm := h.2.2.2.2.2.2.2.2.2.2.1
  exact va_mmax h.1 h.2.1 (h.2.2.1.trans (h.2.2.2.1.symm.trans hl.1.symm)) h.2.2.2.2.1 (h.2.2.2.2.2.1 _ hw) (h.2.2.2.2.2.1 _ (by exact mw_811)) (h.2.2.2.2.2.1 _ mw_396) (h.2.2.2.2.2.1 _ mw_812) (by rw [hR]; exact hfr) (by rw [hR]; exact hlo) (by rw [hR]; exact hce) (by rw [hR]; exact hsl) hd (k H locs ls hl hg)
theorem go_mmin (h : MC X lay cc own nL rt rm) {idx : Nat} {x y : Int32} (hd : decode cc pc = .ok (.invokestatic idx, 3)) (hw : Cond.methodLink own idx Lib.Math.min.name ∈ wAll) (hfr : 1 ≤ rm.frames) (hlo : (st.map fun v => v.category).sum + 13 ≤ rm.locals) (hce : cells ≤ rm.cells) (hsl : slots ≤ rm.slots) (hp : pc + 3 = pc') (k : Go X lay S0 pc' lc (.int (if y < x then y else x) :: st) g L1 L2 L3 L4 L5 cells slots) : Go X lay S0 pc lc (.int y :: .int x :: st) g L1 L2 L3 L4 L5 cells slots := by
  subst hp
  intro H locs ls hl hg
  have hR : x_R X = rm := h.2.2.2.2.2.2.2.2.2.2.1
  exact va_mmin h.1 h.2.1 (h.2.2.1.trans (h.2.2.2.1.symm.trans hl.1.symm)) h.2.2.2.2.1 (h.2.2.2.2.2.1 _ hw) (h.2.2.2.2.2.1 _ (by exact mw_395)) (h.2.2.2.2.2.1 _ mw_396) (h.2.2.2.2.2.1 _ mw_397) (by rw [hR]; exact hfr) (by rw [hR]; exact hlo) (by rw [hR]; exact hce) (by rw [hR]; exact hsl) hd (k H locs ls hl hg)
theorem go_mabs (h : MC X lay cc own nL rt rm) {idx : Nat} {x : Int64} (hd : decode cc pc = .ok (.invokestatic idx, 3)) (hw : Cond.methodLink own idx Lib.MathLoose.abs_long.x ∈ wAll) (hfr : 1 ≤ rm.frames) (hlo : (st.map fun v => v.category).sum + 13 ≤ rm.locals) (hce : cells ≤ rm.cells) (hsl : slots ≤ rm.slots) (hp : pc + 3 = pc') (k : Go X lay S0 pc' lc (.long (if 0 < x then x else -x) :: st) g L1 L2 L3 L4 L5 cells slots) : Go X lay S0 pc lc (.long x :: st) g L1 L2 L3 L4 L5 cells slots := by
  subst hp
  intro H locs ls hl hg
  have hR : x_R X = rm := h.2.2.2.2.2.2.2.2.2.2.1
  exact va_mabs_long h.1 h.2.1 (h.2.2.1.trans (h.2.2.2.1.symm.trans hl.1.symm)) h.2.2.2.2.1 (h.2.2.2.2.2.1 _ hw) (h.2.2.2.2.2.1 _ (by exact mw_1293)) (h.2.2.2.2.2.1 _ mw_396) (h.2.2.2.2.2.1 _ mw_1294) (by rw [hR]; exact hfr) (by rw [hR]; exact hlo) (by rw [hR]; exact hce) (by rw [hR]; exact hsl) hd (k H locs ls hl hg)
theorem go_aald (h : MC X lay cc own nL rt rm) {ty mo n b x : Nat} (c : Nat) (hlay : lay[c]? = some (.inr (ty, mo, n, b))) (hty : ty = 4 ∨ ty = 5) (hmo : Nat.beq mo 1 = false) {i : Int32} (hd : decode cc pc = .ok (.aaload, 1)) (hi : okx i n = true) (hx : b + (mo - 2) * i.toNatClampNeg = x) (hp : pc + 1 = pc') (k : Go X lay S0 pc' lc (.ref (x_q X x) :: st) g L1 L2 L3 L4 L5 cells slots) : Go X lay S0 pc lc (.int i :: .ref (x_q X c) :: st) g L1 L2 L3 L4 L5 cells slots := by
  subst hp
  subst hx
  intro H locs ls hl hg
  have hE := wd_ws_get (q := x_q X) (g := g) (cy := x_cy X) (S := wd_o S0 L1 L2 L3 L4 L5) hlay
  simp only [wd_ent, wd_arr, wd_len, hmo, cond_false] at hE
  rcases hty with rfl | rfl
  · exact va_aldq (D := x_D X) h.1 h.2.1 h.2.2.2.2.2.2.1 hg.1 c 4 hE rfl (okx_in hi) hd (k H locs ls hl hg)
  · exact va_aldq (D := x_D X) h.1 h.2.1 h.2.2.2.2.2.2.1 hg.1 c 5 hE rfl (okx_in hi) hd (k H locs ls hl hg)
theorem go_copyI (h : MC X lay cc own nL rt rm) {idx n1 n2 b1 b2 : Nat} {f1 f2 : Nat → Int32} (c d : Nat) (hc : lay[c]? = some (.inr (0, 0, n1, b1))) (hd' : lay[d]? = some (.inr (0, 0, n2, b2))) (hf1 : wd_ov S0.2.2.1 L3 c = f1) (hf2 : wd_ov S0.2.2.1 L3 d = f2) {sp dp n : Int32} (h1 : ¬ sp < 0) (h2 : ¬ dp < 0) (h3 : ¬ n < 0) (h4 : sp.toNatClampNeg + n.toNatClampNeg ≤ n1) (h5 : dp.toNatClampNeg + n.toNatClampNeg ≤ n2) (hd : decode cc pc = .ok (.invokestatic idx, 3)) (hw : Cond.methodLink own idx arraycopyName ∈ wAll) (hfr : 1 ≤ rm.frames) (hlo : (st.map fun v => v.category).sum + (nativeFrameWords "java/lang/System" "arraycopy" 5 + 11) ≤ rm.locals) (hp : pc + 3 = pc') (hky : (wd_lk L3 d).isSome = true) (hL : wd_sl L3 d (va_cpy f1 f2 sp.toNatClampNeg dp.toNatClampNeg n.toNatClampNeg) = L3') (k : Go X lay S0 pc' lc st g L1 L2 L3' L4 L5 cells slots) : Go X lay S0 pc lc (.int n :: .int dp :: .ref (x_q X d) :: .int sp :: .ref (x_q X c) :: st) g L1 L2 L3 L4 L5 cells slots := by
  subst hp
  subst hf1
  subst hf2
  subst hL
  intro H locs ls hl hg
  have hR : x_R X = rm := h.2.2.2.2.2.2.2.2.2.2.1
  have hE1 := wd_ws_get (q := x_q X) (g := g) (cy := x_cy X) (S := wd_o S0 L1 L2 L3 L4 L5) hc
  have hE2 := wd_ws_get (q := x_q X) (g := g) (cy := x_cy X) (S := wd_o S0 L1 L2 L3 L4 L5) hd'
  refine va_copyi (D := x_D X) h.1 h.2.1 (h.2.2.1.trans (h.2.2.2.1.symm.trans hl.1.symm)) h.2.2.2.2.1 (h.2.2.2.2.2.1 _ hw) (h.2.2.2.2.2.1 _ mw_470) (h.2.2.2.2.2.1 _ mw_471) (h.2.2.2.2.2.1 _ mw_472) h.2.2.2.2.2.2.1 hg.1 hg.2.1 hg.2.2 c d 0 0 hE1 hE2 rfl rfl rfl h1 h2 h3 h4 h5 (fun _ _ => rfl) (by rw [hR]; exact hfr) (by rw [hR]; exact hlo) hd (fun H1 locs1 hP hD hS => ?_)
  have hws := wd_ws_A (q := x_q X) (g := g) (cy := x_cy X) (S := wd_o S0 L1 L2 L3 L4 L5) (f := va_cpy (wd_ov S0.2.2.1 L3 c) (wd_ov S0.2.2.1 L3 d) sp.toNatClampNeg dp.toNatClampNeg n.toNatClampNeg) hd' rfl
  have hP := (show _ = _ from hws) ▸ hP
  have hD := (show _ = _ from hws) ▸ hD
  rw [wd_o_sA hky] at hP hD
  exact k H1 locs1 ls hl ⟨hP, hD, hS⟩
theorem go_copyLg (h : MC X lay cc own nL rt rm) {idx n1 n2 b1 b2 N1 N2 : Nat} {f1 f2 : Nat → Int64} (c d : Nat) (hc : lay[c]? = some (.inr (3, 1, n1, b1))) (hd' : lay[d]? = some (.inr (3, 1, n2, b2))) (hf1 : wd_ov S0.2.2.2.1 L4 c = f1) (hf2 : wd_ov S0.2.2.2.1 L4 d = f2) (hN1 : wd_ov S0.2.2.2.2 L5 c = N1) (hN2 : wd_ov S0.2.2.2.2 L5 d = N2) {sp dp n : Int32} (h1 : ¬ sp < 0) (h2 : ¬ dp < 0) (h3 : ¬ n < 0) (h4 : sp.toNatClampNeg + n.toNatClampNeg ≤ N1) (h5 : dp.toNatClampNeg + n.toNatClampNeg ≤ N2) (hd : decode cc pc = .ok (.invokestatic idx, 3)) (hw : Cond.methodLink own idx arraycopyName ∈ wAll) (hfr : 1 ≤ rm.frames) (hlo : (st.map fun v => v.category).sum + (nativeFrameWords "java/lang/System" "arraycopy" 5 + 11) ≤ rm.locals) (hp : pc + 3 = pc') (hky : (wd_lk L4 d).isSome = true) (k : ∀ f' : Nat → Int64, f' = va_cpy f1 f2 sp.toNatClampNeg dp.toNatClampNeg n.toNatClampNeg → ∀ L4', wd_sl L4 d f' = L4' → Go X lay S0 pc' lc st g L1 L2 L3 L4' L5 cells slots) : Go X lay S0 pc lc (.int n :: .int dp :: .ref (g d) :: .int sp :: .ref (g c) :: st) g L1 L2 L3 L4 L5 cells slots := by
  subst hp
  subst hf1
  subst hf2
  subst hN1
  subst hN2
  intro H locs ls hl hg
  have hR : x_R X = rm := h.2.2.2.2.2.2.2.2.2.2.1
  have hE1 := wd_ws_get (q := x_q X) (g := g) (cy := x_cy X) (S := wd_o S0 L1 L2 L3 L4 L5) hc
  have hE2 := wd_ws_get (q := x_q X) (g := g) (cy := x_cy X) (S := wd_o S0 L1 L2 L3 L4 L5) hd'
  refine va_copyl (D := x_D X) h.1 h.2.1 (h.2.2.1.trans (h.2.2.2.1.symm.trans hl.1.symm)) h.2.2.2.2.1 (h.2.2.2.2.2.1 _ hw) (h.2.2.2.2.2.1 _ mw_470) (h.2.2.2.2.2.1 _ mw_471) (h.2.2.2.2.2.1 _ mw_472) h.2.2.2.2.2.2.1 hg.1 hg.2.1 hg.2.2 c d 3 3 hE1 hE2 rfl rfl rfl h1 h2 h3 h4 h5 (fun _ _ => rfl) (by rw [hR]; exact hfr) (by rw [hR]; exact hlo) hd (fun H1 locs1 hP hD hS => ?_)
  have hws := wd_ws_B (q := x_q X) (g := g) (cy := x_cy X) (S := wd_o S0 L1 L2 L3 L4 L5) (f := va_cpy (wd_ov S0.2.2.2.1 L4 c) (wd_ov S0.2.2.2.1 L4 d) sp.toNatClampNeg dp.toNatClampNeg n.toNatClampNeg) hd'
  have hP := (show _ = _ from hws) ▸ hP
  have hD := (show _ = _ from hws) ▸ hD
  rw [wd_o_sB hky] at hP hD
  exact k _ rfl _ rfl H1 locs1 ls hl ⟨hP, hD, hS⟩
end GOS
