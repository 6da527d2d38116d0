def layM : List wd_E := [
  .inl (12, [(2, 1), (0, 0), (2, 2), (0, 0), (2, 3), (2, 4), (0, 0), (2, 5), (2, 6), (2, 7), (0, 0), (0, 0), (0, 0), (0, 0), (0, 0), (0, 0), (0, 0), (0, 0), (0, 0), (0, 0), (0, 0), (0, 0), (2, 8), (2, 9), (2, 10), (2, 11), (2, 12), (2, 13), (2, 14), (2, 15), (0, 0), (0, 0), (0, 0), (2, 16), (0, 0), (0, 0), (0, 0), (0, 0), (0, 0), (0, 0), (2, 17), (2, 18), (2, 19), (2, 20), (0, 0), (2, 21), (2, 22), (2, 23), (2, 24), (2, 25), (2, 26), (0, 0), (2, 27), (2, 28), (2, 29), (0, 0), (0, 0), (0, 0), (2, 30), (2, 31), (0, 0), (2, 32), (2, 33), (2, 34), (1, 0), (2, 35), (2, 36), (0, 0), (2, 37), (2, 38), (2, 39), (2, 40), (0, 0), (2, 41), (2, 42), (2, 43), (2, 44), (2, 45), (2, 46), (2, 47), (0, 0)]),
  .inr (1, 0, 400, 0),
  .inr (0, 0, 60, 0),
  .inr (0, 0, 10, 0),
  .inr (0, 0, 10, 0),
  .inr (0, 0, 3, 0),
  .inr (0, 0, 3, 0),
  .inr (0, 0, 3, 0),
  .inr (0, 0, 13, 0),
  .inr (0, 0, 13, 0),
  .inr (0, 0, 13, 0),
  .inr (2, 0, 13, 0),
  .inr (0, 0, 13, 0),
  .inr (0, 0, 13, 0),
  .inr (0, 0, 10, 0),
  .inr (0, 0, 10, 0),
  .inr (0, 0, 15, 0),
  .inr (0, 0, 10, 0),
  .inr (0, 0, 10, 0),
  .inr (0, 0, 13, 0),
  .inr (2, 0, 32768, 0),
  .inr (3, 0, 32768, 0),
  .inr (0, 0, 15, 0),
  .inr (0, 0, 15, 0),
  .inr (0, 0, 120, 0),
  .inr (0, 0, 2, 0),
  .inr (0, 0, 2, 0),
  .inr (0, 0, 9, 0),
  .inr (0, 0, 9, 0),
  .inr (0, 0, 9, 0),
  .inr (3, 0, 3, 0),
  .inr (0, 0, 32768, 0),
  .inr (0, 0, 6, 0),
  .inr (0, 0, 6, 0),
  .inr (2, 0, 6, 0),
  .inr (3, 0, 15, 0),
  .inr (3, 0, 100, 0),
  .inr (0, 0, 12, 0),
  .inr (0, 0, 12, 0),
  .inr (0, 0, 12, 0),
  .inr (0, 0, 10, 0),
  .inr (0, 0, 15, 0),
  .inr (0, 0, 19683, 0),
  .inr (0, 0, 19683, 0),
  .inr (0, 0, 19683, 0),
  .inr (0, 0, 10, 0),
  .inr (0, 0, 800, 0),
  .inr (2, 0, 4, 0)]
theorem layM_0 : layM[0]? = some (.inl (12, [(2, 1), (0, 0), (2, 2), (0, 0), (2, 3), (2, 4), (0, 0), (2, 5), (2, 6), (2, 7), (0, 0), (0, 0), (0, 0), (0, 0), (0, 0), (0, 0), (0, 0), (0, 0), (0, 0), (0, 0), (0, 0), (0, 0), (2, 8), (2, 9), (2, 10), (2, 11), (2, 12), (2, 13), (2, 14), (2, 15), (0, 0), (0, 0), (0, 0), (2, 16), (0, 0), (0, 0), (0, 0), (0, 0), (0, 0), (0, 0), (2, 17), (2, 18), (2, 19), (2, 20), (0, 0), (2, 21), (2, 22), (2, 23), (2, 24), (2, 25), (2, 26), (0, 0), (2, 27), (2, 28), (2, 29), (0, 0), (0, 0), (0, 0), (2, 30), (2, 31), (0, 0), (2, 32), (2, 33), (2, 34), (1, 0), (2, 35), (2, 36), (0, 0), (2, 37), (2, 38), (2, 39), (2, 40), (0, 0), (2, 41), (2, 42), (2, 43), (2, 44), (2, 45), (2, 46), (2, 47), (0, 0)])) := rfl
theorem layM_1 : layM[1]? = some (.inr (1, 0, 400, 0)) := rfl
theorem layM_2 : layM[2]? = some (.inr (0, 0, 60, 0)) := rfl
theorem layM_3 : layM[3]? = some (.inr (0, 0, 10, 0)) := rfl
theorem layM_4 : layM[4]? = some (.inr (0, 0, 10, 0)) := rfl
theorem layM_5 : layM[5]? = some (.inr (0, 0, 3, 0)) := rfl
theorem layM_6 : layM[6]? = some (.inr (0, 0, 3, 0)) := rfl
theorem layM_7 : layM[7]? = some (.inr (0, 0, 3, 0)) := rfl
theorem layM_8 : layM[8]? = some (.inr (0, 0, 13, 0)) := rfl
theorem layM_9 : layM[9]? = some (.inr (0, 0, 13, 0)) := rfl
theorem layM_10 : layM[10]? = some (.inr (0, 0, 13, 0)) := rfl
theorem layM_11 : layM[11]? = some (.inr (2, 0, 13, 0)) := rfl
theorem layM_12 : layM[12]? = some (.inr (0, 0, 13, 0)) := rfl
theorem layM_13 : layM[13]? = some (.inr (0, 0, 13, 0)) := rfl
theorem layM_14 : layM[14]? = some (.inr (0, 0, 10, 0)) := rfl
theorem layM_15 : layM[15]? = some (.inr (0, 0, 10, 0)) := rfl
theorem layM_16 : layM[16]? = some (.inr (0, 0, 15, 0)) := rfl
theorem layM_17 : layM[17]? = some (.inr (0, 0, 10, 0)) := rfl
theorem layM_18 : layM[18]? = some (.inr (0, 0, 10, 0)) := rfl
theorem layM_19 : layM[19]? = some (.inr (0, 0, 13, 0)) := rfl
theorem layM_20 : layM[20]? = some (.inr (2, 0, 32768, 0)) := rfl
theorem layM_21 : layM[21]? = some (.inr (3, 0, 32768, 0)) := rfl
theorem layM_22 : layM[22]? = some (.inr (0, 0, 15, 0)) := rfl
theorem layM_23 : layM[23]? = some (.inr (0, 0, 15, 0)) := rfl
theorem layM_24 : layM[24]? = some (.inr (0, 0, 120, 0)) := rfl
theorem layM_25 : layM[25]? = some (.inr (0, 0, 2, 0)) := rfl
theorem layM_26 : layM[26]? = some (.inr (0, 0, 2, 0)) := rfl
theorem layM_27 : layM[27]? = some (.inr (0, 0, 9, 0)) := rfl
theorem layM_28 : layM[28]? = some (.inr (0, 0, 9, 0)) := rfl
theorem layM_29 : layM[29]? = some (.inr (0, 0, 9, 0)) := rfl
theorem layM_30 : layM[30]? = some (.inr (3, 0, 3, 0)) := rfl
theorem layM_31 : layM[31]? = some (.inr (0, 0, 32768, 0)) := rfl
theorem layM_32 : layM[32]? = some (.inr (0, 0, 6, 0)) := rfl
theorem layM_33 : layM[33]? = some (.inr (0, 0, 6, 0)) := rfl
theorem layM_34 : layM[34]? = some (.inr (2, 0, 6, 0)) := rfl
theorem layM_35 : layM[35]? = some (.inr (3, 0, 15, 0)) := rfl
theorem layM_36 : layM[36]? = some (.inr (3, 0, 100, 0)) := rfl
theorem layM_37 : layM[37]? = some (.inr (0, 0, 12, 0)) := rfl
theorem layM_38 : layM[38]? = some (.inr (0, 0, 12, 0)) := rfl
theorem layM_39 : layM[39]? = some (.inr (0, 0, 12, 0)) := rfl
theorem layM_40 : layM[40]? = some (.inr (0, 0, 10, 0)) := rfl
theorem layM_41 : layM[41]? = some (.inr (0, 0, 15, 0)) := rfl
theorem layM_42 : layM[42]? = some (.inr (0, 0, 19683, 0)) := rfl
theorem layM_43 : layM[43]? = some (.inr (0, 0, 19683, 0)) := rfl
theorem layM_44 : layM[44]? = some (.inr (0, 0, 19683, 0)) := rfl
theorem layM_45 : layM[45]? = some (.inr (0, 0, 10, 0)) := rfl
theorem layM_46 : layM[46]? = some (.inr (0, 0, 800, 0)) := rfl
theorem layM_47 : layM[47]? = some (.inr (2, 0, 4, 0)) := rfl
theorem layM_ok : wd_ok layM = true := by decide +kernel
theorem kb_m2 : (Int8.ofInt (-2)).toInt32 = (-2 : Int32) := by decide
theorem kb_6 : (Int8.ofInt 6).toInt32 = (6 : Int32) := by decide
theorem kb_8 : (Int8.ofInt 8).toInt32 = (8 : Int32) := by decide
theorem kb_9 : (Int8.ofInt 9).toInt32 = (9 : Int32) := by decide
theorem kb_10 : (Int8.ofInt 10).toInt32 = (10 : Int32) := by decide
theorem kb_12 : (Int8.ofInt 12).toInt32 = (12 : Int32) := by decide
theorem kb_15 : (Int8.ofInt 15).toInt32 = (15 : Int32) := by decide
theorem kb_16 : (Int8.ofInt 16).toInt32 = (16 : Int32) := by decide
theorem kb_20 : (Int8.ofInt 20).toInt32 = (20 : Int32) := by decide
theorem kb_24 : (Int8.ofInt 24).toInt32 = (24 : Int32) := by decide
theorem kb_32 : (Int8.ofInt 32).toInt32 = (32 : Int32) := by decide
theorem kb_48 : (Int8.ofInt 48).toInt32 = (48 : Int32) := by decide
theorem kb_57 : (Int8.ofInt 57).toInt32 = (57 : Int32) := by decide
theorem kb_59 : (Int8.ofInt 59).toInt32 = (59 : Int32) := by decide
theorem kb_60 : (Int8.ofInt 60).toInt32 = (60 : Int32) := by decide
theorem kb_97 : (Int8.ofInt 97).toInt32 = (97 : Int32) := by decide
theorem kb_99 : (Int8.ofInt 99).toInt32 = (99 : Int32) := by decide
theorem kb_122 : (Int8.ofInt 122).toInt32 = (122 : Int32) := by decide
theorem ki_m8 : Int32.ofInt (-8) = (-8 : Int32) := by decide
theorem ki_m1 : Int32.ofInt (-1) = (-1 : Int32) := by decide
theorem ki_0 : Int32.ofInt 0 = (0 : Int32) := by decide
theorem ki_1 : Int32.ofInt 1 = (1 : Int32) := by decide
theorem ki_2 : Int32.ofInt 2 = (2 : Int32) := by decide
theorem ki_3 : Int32.ofInt 3 = (3 : Int32) := by decide
theorem ki_4 : Int32.ofInt 4 = (4 : Int32) := by decide
theorem ki_5 : Int32.ofInt 5 = (5 : Int32) := by decide
theorem kl_0 : Int64.ofNat ((0 : Fin 2) : Nat) = (0 : Int64) := by decide
theorem kl_1 : Int64.ofNat ((1 : Fin 2) : Nat) = (1 : Int64) := by decide
theorem ks_200 : (Int16.ofInt 200).toInt32 = (200 : Int32) := by decide
theorem ks_255 : (Int16.ofInt 255).toInt32 = (255 : Int32) := by decide
theorem ks_400 : (Int16.ofInt 400).toInt32 = (400 : Int32) := by decide
theorem ks_1000 : (Int16.ofInt 1000).toInt32 = (1000 : Int32) := by decide
theorem kt_0 : (0 : Int32).toInt = 0 := by decide
theorem kt_1 : (1 : Int32).toInt = 1 := by decide
theorem kt_2 : (2 : Int32).toInt = 2 := by decide
theorem kt_3 : (3 : Int32).toInt = 3 := by decide
theorem kt_4 : (4 : Int32).toInt = 4 := by decide
theorem kt_5 : (5 : Int32).toInt = 5 := by decide
theorem kt_6 : (6 : Int32).toInt = 6 := by decide
theorem kt_7 : (7 : Int32).toInt = 7 := by decide
theorem yd_yX12_agrees : yX12_agrees.cls ≠ "java/lang/invoke/MethodHandle" ∧ yX12_agrees.cls ≠ "java/lang/invoke/VarHandle" := by decide +kernel
theorem yp_yX12_agrees : (parseMethodDescriptor yX12_agrees.desc).map (fun d => d.parameters.length) = some 1 := by decide +kernel
theorem yd_yX12_areEnds : yX12_areEnds.cls ≠ "java/lang/invoke/MethodHandle" ∧ yX12_areEnds.cls ≠ "java/lang/invoke/VarHandle" := by decide +kernel
theorem yp_yX12_areEnds : (parseMethodDescriptor yX12_areEnds.desc).map (fun d => d.parameters.length) = some 2 := by decide +kernel
theorem yd_yX12_areJoined : yX12_areJoined.cls ≠ "java/lang/invoke/MethodHandle" ∧ yX12_areJoined.cls ≠ "java/lang/invoke/VarHandle" := by decide +kernel
theorem yp_yX12_areJoined : (parseMethodDescriptor yX12_areJoined.desc).map (fun d => d.parameters.length) = some 1 := by decide +kernel
theorem yd_yX12_areTwo : yX12_areTwo.cls ≠ "java/lang/invoke/MethodHandle" ∧ yX12_areTwo.cls ≠ "java/lang/invoke/VarHandle" := by decide +kernel
theorem yp_yX12_areTwo : (parseMethodDescriptor yX12_areTwo.desc).map (fun d => d.parameters.length) = some 2 := by decide +kernel
theorem yd_yX12_asks : yX12_asks.cls ≠ "java/lang/invoke/MethodHandle" ∧ yX12_asks.cls ≠ "java/lang/invoke/VarHandle" := by decide +kernel
theorem yp_yX12_asks : (parseMethodDescriptor yX12_asks.desc).map (fun d => d.parameters.length) = some 0 := by decide +kernel
theorem yd_yX12_bits : yX12_bits.cls ≠ "java/lang/invoke/MethodHandle" ∧ yX12_bits.cls ≠ "java/lang/invoke/VarHandle" := by decide +kernel
theorem yp_yX12_bits : (parseMethodDescriptor yX12_bits.desc).map (fun d => d.parameters.length) = some 1 := by decide +kernel
theorem yd_yX12_builtOf : yX12_builtOf.cls ≠ "java/lang/invoke/MethodHandle" ∧ yX12_builtOf.cls ≠ "java/lang/invoke/VarHandle" := by decide +kernel
theorem yp_yX12_builtOf : (parseMethodDescriptor yX12_builtOf.desc).map (fun d => d.parameters.length) = some 1 := by decide +kernel
theorem yd_yX12_cause : yX12_cause.cls ≠ "java/lang/invoke/MethodHandle" ∧ yX12_cause.cls ≠ "java/lang/invoke/VarHandle" := by decide +kernel
theorem yp_yX12_cause : (parseMethodDescriptor yX12_cause.desc).map (fun d => d.parameters.length) = some 1 := by decide +kernel
theorem yd_yX12_chanceOf : yX12_chanceOf.cls ≠ "java/lang/invoke/MethodHandle" ∧ yX12_chanceOf.cls ≠ "java/lang/invoke/VarHandle" := by decide +kernel
theorem yp_yX12_chanceOf : (parseMethodDescriptor yX12_chanceOf.desc).map (fun d => d.parameters.length) = some 2 := by decide +kernel
theorem yd_yX12_chanceWith : yX12_chanceWith.cls ≠ "java/lang/invoke/MethodHandle" ∧ yX12_chanceWith.cls ≠ "java/lang/invoke/VarHandle" := by decide +kernel
theorem yp_yX12_chanceWith : (parseMethodDescriptor yX12_chanceWith.desc).map (fun d => d.parameters.length) = some 1 := by decide +kernel
theorem yd_yX12_clears : yX12_clears.cls ≠ "java/lang/invoke/MethodHandle" ∧ yX12_clears.cls ≠ "java/lang/invoke/VarHandle" := by decide +kernel
theorem yp_yX12_clears : (parseMethodDescriptor yX12_clears.desc).map (fun d => d.parameters.length) = some 0 := by decide +kernel
theorem yd_yX12_coinsOf : yX12_coinsOf.cls ≠ "java/lang/invoke/MethodHandle" ∧ yX12_coinsOf.cls ≠ "java/lang/invoke/VarHandle" := by decide +kernel
theorem yp_yX12_coinsOf : (parseMethodDescriptor yX12_coinsOf.desc).map (fun d => d.parameters.length) = some 1 := by decide +kernel
theorem yd_yX12_daysOf : yX12_daysOf.cls ≠ "java/lang/invoke/MethodHandle" ∧ yX12_daysOf.cls ≠ "java/lang/invoke/VarHandle" := by decide +kernel
theorem yp_yX12_daysOf : (parseMethodDescriptor yX12_daysOf.desc).map (fun d => d.parameters.length) = some 2 := by decide +kernel
theorem yd_yX12_daysTo : yX12_daysTo.cls ≠ "java/lang/invoke/MethodHandle" ∧ yX12_daysTo.cls ≠ "java/lang/invoke/VarHandle" := by decide +kernel
theorem yp_yX12_daysTo : (parseMethodDescriptor yX12_daysTo.desc).map (fun d => d.parameters.length) = some 2 := by decide +kernel
theorem yd_yX12_decides : yX12_decides.cls ≠ "java/lang/invoke/MethodHandle" ∧ yX12_decides.cls ≠ "java/lang/invoke/VarHandle" := by decide +kernel
theorem yp_yX12_decides : (parseMethodDescriptor yX12_decides.desc).map (fun d => d.parameters.length) = some 1 := by decide +kernel
theorem yd_yX12_drops : yX12_drops.cls ≠ "java/lang/invoke/MethodHandle" ∧ yX12_drops.cls ≠ "java/lang/invoke/VarHandle" := by decide +kernel
theorem yp_yX12_drops : (parseMethodDescriptor yX12_drops.desc).map (fun d => d.parameters.length) = some 1 := by decide +kernel
theorem yd_yX12_dropsOne : yX12_dropsOne.cls ≠ "java/lang/invoke/MethodHandle" ∧ yX12_dropsOne.cls ≠ "java/lang/invoke/VarHandle" := by decide +kernel
theorem yp_yX12_dropsOne : (parseMethodDescriptor yX12_dropsOne.desc).map (fun d => d.parameters.length) = some 0 := by decide +kernel
theorem yd_yX12_fails : yX12_fails.cls ≠ "java/lang/invoke/MethodHandle" ∧ yX12_fails.cls ≠ "java/lang/invoke/VarHandle" := by decide +kernel
theorem yp_yX12_fails : (parseMethodDescriptor yX12_fails.desc).map (fun d => d.parameters.length) = some 2 := by decide +kernel
theorem yd_yX12_four : yX12_four.cls ≠ "java/lang/invoke/MethodHandle" ∧ yX12_four.cls ≠ "java/lang/invoke/VarHandle" := by decide +kernel
theorem yp_yX12_four : (parseMethodDescriptor yX12_four.desc).map (fun d => d.parameters.length) = some 1 := by decide +kernel
theorem yd_yX12_gets : yX12_gets.cls ≠ "java/lang/invoke/MethodHandle" ∧ yX12_gets.cls ≠ "java/lang/invoke/VarHandle" := by decide +kernel
theorem yp_yX12_gets : (parseMethodDescriptor yX12_gets.desc).map (fun d => d.parameters.length) = some 0 := by decide +kernel
theorem yd_yX12_hasOne : yX12_hasOne.cls ≠ "java/lang/invoke/MethodHandle" ∧ yX12_hasOne.cls ≠ "java/lang/invoke/VarHandle" := by decide +kernel
theorem yp_yX12_hasOne : (parseMethodDescriptor yX12_hasOne.desc).map (fun d => d.parameters.length) = some 3 := by decide +kernel
theorem yd_yX12_in : yX12_in.cls ≠ "java/lang/invoke/MethodHandle" ∧ yX12_in.cls ≠ "java/lang/invoke/VarHandle" := by decide +kernel
theorem yp_yX12_in : (parseMethodDescriptor yX12_in.desc).map (fun d => d.parameters.length) = some 3 := by decide +kernel
theorem yd_yX12_isAt : yX12_isAt.cls ≠ "java/lang/invoke/MethodHandle" ∧ yX12_isAt.cls ≠ "java/lang/invoke/VarHandle" := by decide +kernel
theorem yp_yX12_isAt : (parseMethodDescriptor yX12_isAt.desc).map (fun d => d.parameters.length) = some 2 := by decide +kernel
theorem yd_yX12_isAtLeast : yX12_isAtLeast.cls ≠ "java/lang/invoke/MethodHandle" ∧ yX12_isAtLeast.cls ≠ "java/lang/invoke/VarHandle" := by decide +kernel
theorem yp_yX12_isAtLeast : (parseMethodDescriptor yX12_isAtLeast.desc).map (fun d => d.parameters.length) = some 2 := by decide +kernel
theorem yd_yX12_isBetween : yX12_isBetween.cls ≠ "java/lang/invoke/MethodHandle" ∧ yX12_isBetween.cls ≠ "java/lang/invoke/VarHandle" := by decide +kernel
theorem yp_yX12_isBetween : (parseMethodDescriptor yX12_isBetween.desc).map (fun d => d.parameters.length) = some 1 := by decide +kernel
theorem yd_yX12_isCut : yX12_isCut.cls ≠ "java/lang/invoke/MethodHandle" ∧ yX12_isCut.cls ≠ "java/lang/invoke/VarHandle" := by decide +kernel
theorem yp_yX12_isCut : (parseMethodDescriptor yX12_isCut.desc).map (fun d => d.parameters.length) = some 1 := by decide +kernel
theorem yd_yX12_isDigit : yX12_isDigit.cls ≠ "java/lang/invoke/MethodHandle" ∧ yX12_isDigit.cls ≠ "java/lang/invoke/VarHandle" := by decide +kernel
theorem yp_yX12_isDigit : (parseMethodDescriptor yX12_isDigit.desc).map (fun d => d.parameters.length) = some 0 := by decide +kernel
theorem yd_yX12_isOpen : yX12_isOpen.cls ≠ "java/lang/invoke/MethodHandle" ∧ yX12_isOpen.cls ≠ "java/lang/invoke/VarHandle" := by decide +kernel
theorem yp_yX12_isOpen : (parseMethodDescriptor yX12_isOpen.desc).map (fun d => d.parameters.length) = some 1 := by decide +kernel
theorem yd_yX12_isThing : yX12_isThing.cls ≠ "java/lang/invoke/MethodHandle" ∧ yX12_isThing.cls ≠ "java/lang/invoke/VarHandle" := by decide +kernel
theorem yp_yX12_isThing : (parseMethodDescriptor yX12_isThing.desc).map (fun d => d.parameters.length) = some 1 := by decide +kernel
theorem yd_yX12_isThrough : yX12_isThrough.cls ≠ "java/lang/invoke/MethodHandle" ∧ yX12_isThrough.cls ≠ "java/lang/invoke/VarHandle" := by decide +kernel
theorem yp_yX12_isThrough : (parseMethodDescriptor yX12_isThrough.desc).map (fun d => d.parameters.length) = some 2 := by decide +kernel
theorem yd_yX12_isWay : yX12_isWay.cls ≠ "java/lang/invoke/MethodHandle" ∧ yX12_isWay.cls ≠ "java/lang/invoke/VarHandle" := by decide +kernel
theorem yp_yX12_isWay : (parseMethodDescriptor yX12_isWay.desc).map (fun d => d.parameters.length) = some 1 := by decide +kernel
theorem yd_yX12_isWord : yX12_isWord.cls ≠ "java/lang/invoke/MethodHandle" ∧ yX12_isWord.cls ≠ "java/lang/invoke/VarHandle" := by decide +kernel
theorem yp_yX12_isWord : (parseMethodDescriptor yX12_isWord.desc).map (fun d => d.parameters.length) = some 1 := by decide +kernel
theorem yd_yX12_joinsAt : yX12_joinsAt.cls ≠ "java/lang/invoke/MethodHandle" ∧ yX12_joinsAt.cls ≠ "java/lang/invoke/VarHandle" := by decide +kernel
theorem yp_yX12_joinsAt : (parseMethodDescriptor yX12_joinsAt.desc).map (fun d => d.parameters.length) = some 1 := by decide +kernel
theorem yd_yX12_keeper : yX12_keeper.cls ≠ "java/lang/invoke/MethodHandle" ∧ yX12_keeper.cls ≠ "java/lang/invoke/VarHandle" := by decide +kernel
theorem yp_yX12_keeper : (parseMethodDescriptor yX12_keeper.desc).map (fun d => d.parameters.length) = some 1 := by decide +kernel
theorem yd_yX12_lays : yX12_lays.cls ≠ "java/lang/invoke/MethodHandle" ∧ yX12_lays.cls ≠ "java/lang/invoke/VarHandle" := by decide +kernel
theorem yp_yX12_lays : (parseMethodDescriptor yX12_lays.desc).map (fun d => d.parameters.length) = some 0 := by decide +kernel
theorem yd_yX12_leads : yX12_leads.cls ≠ "java/lang/invoke/MethodHandle" ∧ yX12_leads.cls ≠ "java/lang/invoke/VarHandle" := by decide +kernel
theorem yp_yX12_leads : (parseMethodDescriptor yX12_leads.desc).map (fun d => d.parameters.length) = some 2 := by decide +kernel
theorem yd_yX12_ledTo : yX12_ledTo.cls ≠ "java/lang/invoke/MethodHandle" ∧ yX12_ledTo.cls ≠ "java/lang/invoke/VarHandle" := by decide +kernel
theorem yp_yX12_ledTo : (parseMethodDescriptor yX12_ledTo.desc).map (fun d => d.parameters.length) = some 1 := by decide +kernel
theorem yd_yX12_lengthOf : yX12_lengthOf.cls ≠ "java/lang/invoke/MethodHandle" ∧ yX12_lengthOf.cls ≠ "java/lang/invoke/VarHandle" := by decide +kernel
theorem yp_yX12_lengthOf : (parseMethodDescriptor yX12_lengthOf.desc).map (fun d => d.parameters.length) = some 1 := by decide +kernel
theorem yd_yX12_lists : yX12_lists.cls ≠ "java/lang/invoke/MethodHandle" ∧ yX12_lists.cls ≠ "java/lang/invoke/VarHandle" := by decide +kernel
theorem yp_yX12_lists : (parseMethodDescriptor yX12_lists.desc).map (fun d => d.parameters.length) = some 1 := by decide +kernel
theorem yd_yX12_looksAll : yX12_looksAll.cls ≠ "java/lang/invoke/MethodHandle" ∧ yX12_looksAll.cls ≠ "java/lang/invoke/VarHandle" := by decide +kernel
theorem yp_yX12_looksAll : (parseMethodDescriptor yX12_looksAll.desc).map (fun d => d.parameters.length) = some 0 := by decide +kernel
theorem yd_yX12_mattersOf : yX12_mattersOf.cls ≠ "java/lang/invoke/MethodHandle" ∧ yX12_mattersOf.cls ≠ "java/lang/invoke/VarHandle" := by decide +kernel
theorem yp_yX12_mattersOf : (parseMethodDescriptor yX12_mattersOf.desc).map (fun d => d.parameters.length) = some 1 := by decide +kernel
theorem yd_yX12_number : yX12_number.cls ≠ "java/lang/invoke/MethodHandle" ∧ yX12_number.cls ≠ "java/lang/invoke/VarHandle" := by decide +kernel
theorem yp_yX12_number : (parseMethodDescriptor yX12_number.desc).map (fun d => d.parameters.length) = some 2 := by decide +kernel
theorem yd_yX12_oneMore : yX12_oneMore.cls ≠ "java/lang/invoke/MethodHandle" ∧ yX12_oneMore.cls ≠ "java/lang/invoke/VarHandle" := by decide +kernel
theorem yp_yX12_oneMore : (parseMethodDescriptor yX12_oneMore.desc).map (fun d => d.parameters.length) = some 2 := by decide +kernel
theorem yd_yX12_opens : yX12_opens.cls ≠ "java/lang/invoke/MethodHandle" ∧ yX12_opens.cls ≠ "java/lang/invoke/VarHandle" := by decide +kernel
theorem yp_yX12_opens : (parseMethodDescriptor yX12_opens.desc).map (fun d => d.parameters.length) = some 2 := by decide +kernel
theorem yd_yX12_own : yX12_own.cls ≠ "java/lang/invoke/MethodHandle" ∧ yX12_own.cls ≠ "java/lang/invoke/VarHandle" := by decide +kernel
theorem yp_yX12_own : (parseMethodDescriptor yX12_own.desc).map (fun d => d.parameters.length) = some 1 := by decide +kernel
theorem yd_yX12_parts : yX12_parts.cls ≠ "java/lang/invoke/MethodHandle" ∧ yX12_parts.cls ≠ "java/lang/invoke/VarHandle" := by decide +kernel
theorem yp_yX12_parts : (parseMethodDescriptor yX12_parts.desc).map (fun d => d.parameters.length) = some 0 := by decide +kernel
theorem yd_yX12_plain : yX12_plain.cls ≠ "java/lang/invoke/MethodHandle" ∧ yX12_plain.cls ≠ "java/lang/invoke/VarHandle" := by decide +kernel
theorem yp_yX12_plain : (parseMethodDescriptor yX12_plain.desc).map (fun d => d.parameters.length) = some 0 := by decide +kernel
theorem yd_yX12_power : yX12_power.cls ≠ "java/lang/invoke/MethodHandle" ∧ yX12_power.cls ≠ "java/lang/invoke/VarHandle" := by decide +kernel
theorem yp_yX12_power : (parseMethodDescriptor yX12_power.desc).map (fun d => d.parameters.length) = some 1 := by decide +kernel
theorem yd_yX12_puts : yX12_puts.cls ≠ "java/lang/invoke/MethodHandle" ∧ yX12_puts.cls ≠ "java/lang/invoke/VarHandle" := by decide +kernel
theorem yp_yX12_puts : (parseMethodDescriptor yX12_puts.desc).map (fun d => d.parameters.length) = some 1 := by decide +kernel
theorem yd_yX12_readThings : yX12_readThings.cls ≠ "java/lang/invoke/MethodHandle" ∧ yX12_readThings.cls ≠ "java/lang/invoke/VarHandle" := by decide +kernel
theorem yp_yX12_readThings : (parseMethodDescriptor yX12_readThings.desc).map (fun d => d.parameters.length) = some 0 := by decide +kernel
theorem yd_yX12_readsEnds : yX12_readsEnds.cls ≠ "java/lang/invoke/MethodHandle" ∧ yX12_readsEnds.cls ≠ "java/lang/invoke/VarHandle" := by decide +kernel
theorem yp_yX12_readsEnds : (parseMethodDescriptor yX12_readsEnds.desc).map (fun d => d.parameters.length) = some 0 := by decide +kernel
theorem yd_yX12_readsLine : yX12_readsLine.cls ≠ "java/lang/invoke/MethodHandle" ∧ yX12_readsLine.cls ≠ "java/lang/invoke/VarHandle" := by decide +kernel
theorem yp_yX12_readsLine : (parseMethodDescriptor yX12_readsLine.desc).map (fun d => d.parameters.length) = some 1 := by decide +kernel
theorem yd_yX12_readsPlace : yX12_readsPlace.cls ≠ "java/lang/invoke/MethodHandle" ∧ yX12_readsPlace.cls ≠ "java/lang/invoke/VarHandle" := by decide +kernel
theorem yp_yX12_readsPlace : (parseMethodDescriptor yX12_readsPlace.desc).map (fun d => d.parameters.length) = some 0 := by decide +kernel
theorem yd_yX12_row : yX12_row.cls ≠ "java/lang/invoke/MethodHandle" ∧ yX12_row.cls ≠ "java/lang/invoke/VarHandle" := by decide +kernel
theorem yp_yX12_row : (parseMethodDescriptor yX12_row.desc).map (fun d => d.parameters.length) = some 1 := by decide +kernel
theorem yd_yX12_see : yX12_see.cls ≠ "java/lang/invoke/MethodHandle" ∧ yX12_see.cls ≠ "java/lang/invoke/VarHandle" := by decide +kernel
theorem yp_yX12_see : (parseMethodDescriptor yX12_see.desc).map (fun d => d.parameters.length) = some 0 := by decide +kernel
theorem yd_yX12_sets : yX12_sets.cls ≠ "java/lang/invoke/MethodHandle" ∧ yX12_sets.cls ≠ "java/lang/invoke/VarHandle" := by decide +kernel
theorem yp_yX12_sets : (parseMethodDescriptor yX12_sets.desc).map (fun d => d.parameters.length) = some 0 := by decide +kernel
theorem yd_yX12_sureOf : yX12_sureOf.cls ≠ "java/lang/invoke/MethodHandle" ∧ yX12_sureOf.cls ≠ "java/lang/invoke/VarHandle" := by decide +kernel
theorem yp_yX12_sureOf : (parseMethodDescriptor yX12_sureOf.desc).map (fun d => d.parameters.length) = some 2 := by decide +kernel
theorem yd_yX12_takes : yX12_takes.cls ≠ "java/lang/invoke/MethodHandle" ∧ yX12_takes.cls ≠ "java/lang/invoke/VarHandle" := by decide +kernel
theorem yp_yX12_takes : (parseMethodDescriptor yX12_takes.desc).map (fun d => d.parameters.length) = some 0 := by decide +kernel
theorem yd_yX12_takesWord : yX12_takesWord.cls ≠ "java/lang/invoke/MethodHandle" ∧ yX12_takesWord.cls ≠ "java/lang/invoke/VarHandle" := by decide +kernel
theorem yp_yX12_takesWord : (parseMethodDescriptor yX12_takesWord.desc).map (fun d => d.parameters.length) = some 1 := by decide +kernel
theorem yd_yX12_text : yX12_text.cls ≠ "java/lang/invoke/MethodHandle" ∧ yX12_text.cls ≠ "java/lang/invoke/VarHandle" := by decide +kernel
theorem yp_yX12_text : (parseMethodDescriptor yX12_text.desc).map (fun d => d.parameters.length) = some 0 := by decide +kernel
theorem yd_yX12_together : yX12_together.cls ≠ "java/lang/invoke/MethodHandle" ∧ yX12_together.cls ≠ "java/lang/invoke/VarHandle" := by decide +kernel
theorem yp_yX12_together : (parseMethodDescriptor yX12_together.desc).map (fun d => d.parameters.length) = some 0 := by decide +kernel
theorem yd_yX12_tries : yX12_tries.cls ≠ "java/lang/invoke/MethodHandle" ∧ yX12_tries.cls ≠ "java/lang/invoke/VarHandle" := by decide +kernel
theorem yp_yX12_tries : (parseMethodDescriptor yX12_tries.desc).map (fun d => d.parameters.length) = some 3 := by decide +kernel
theorem yd_yX12_weighs : yX12_weighs.cls ≠ "java/lang/invoke/MethodHandle" ∧ yX12_weighs.cls ≠ "java/lang/invoke/VarHandle" := by decide +kernel
theorem yp_yX12_weighs : (parseMethodDescriptor yX12_weighs.desc).map (fun d => d.parameters.length) = some 0 := by decide +kernel
theorem yd_yX12_what : yX12_what.cls ≠ "java/lang/invoke/MethodHandle" ∧ yX12_what.cls ≠ "java/lang/invoke/VarHandle" := by decide +kernel
theorem yp_yX12_what : (parseMethodDescriptor yX12_what.desc).map (fun d => d.parameters.length) = some 1 := by decide +kernel
theorem yd_yX12_whole : yX12_whole.cls ≠ "java/lang/invoke/MethodHandle" ∧ yX12_whole.cls ≠ "java/lang/invoke/VarHandle" := by decide +kernel
theorem yp_yX12_whole : (parseMethodDescriptor yX12_whole.desc).map (fun d => d.parameters.length) = some 0 := by decide +kernel
