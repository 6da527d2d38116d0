theorem kb_m33 : (Int8.ofInt (-33)).toInt32 = (-33 : Int32) := by decide
theorem kb_m17 : (Int8.ofInt (-17)).toInt32 = (-17 : Int32) := by decide
theorem kb_m2 : (Int8.ofInt (-2)).toInt32 = (-2 : Int32) := by decide
theorem kb_6 : (Int8.ofInt 6).toInt32 = (6 : Int32) := by decide
theorem kb_8 : (Int8.ofInt 8).toInt32 = (8 : Int32) := by decide
theorem kb_9 : (Int8.ofInt 9).toInt32 = (9 : Int32) := by decide
theorem kb_10 : (Int8.ofInt 10).toInt32 = (10 : Int32) := by decide
theorem kb_12 : (Int8.ofInt 12).toInt32 = (12 : Int32) := by decide
theorem kb_15 : (Int8.ofInt 15).toInt32 = (15 : Int32) := by decide
theorem kb_16 : (Int8.ofInt 16).toInt32 = (16 : Int32) := by decide
theorem kb_20 : (Int8.ofInt 20).toInt32 = (20 : Int32) := by decide
theorem kb_24 : (Int8.ofInt 24).toInt32 = (24 : Int32) := by decide
theorem kb_32 : (Int8.ofInt 32).toInt32 = (32 : Int32) := by decide
theorem kb_48 : (Int8.ofInt 48).toInt32 = (48 : Int32) := by decide
theorem kb_57 : (Int8.ofInt 57).toInt32 = (57 : Int32) := by decide
theorem kb_59 : (Int8.ofInt 59).toInt32 = (59 : Int32) := by decide
theorem kb_60 : (Int8.ofInt 60).toInt32 = (60 : Int32) := by decide
theorem kb_63 : (Int8.ofInt 63).toInt32 = (63 : Int32) := by decide
theorem kb_64 : (Int8.ofInt 64).toInt32 = (64 : Int32) := by decide
theorem kb_97 : (Int8.ofInt 97).toInt32 = (97 : Int32) := by decide
theorem kb_99 : (Int8.ofInt 99).toInt32 = (99 : Int32) := by decide
theorem kb_122 : (Int8.ofInt 122).toInt32 = (122 : Int32) := by decide
theorem ki_m8 : Int32.ofInt (-8) = (-8 : Int32) := by decide
theorem ki_m1 : Int32.ofInt (-1) = (-1 : Int32) := by decide
theorem ki_0 : Int32.ofInt 0 = (0 : Int32) := by decide
theorem ki_1 : Int32.ofInt 1 = (1 : Int32) := by decide
theorem ki_2 : Int32.ofInt 2 = (2 : Int32) := by decide
theorem ki_3 : Int32.ofInt 3 = (3 : Int32) := by decide
theorem ki_4 : Int32.ofInt 4 = (4 : Int32) := by decide
theorem ki_5 : Int32.ofInt 5 = (5 : Int32) := by decide
theorem kl_0 : Int64.ofNat ((0 : Fin 2) : Nat) = (0 : Int64) := by decide
theorem kl_1 : Int64.ofNat ((1 : Fin 2) : Nat) = (1 : Int64) := by decide
theorem kn_3 : Int32.ofNat 3 = (3 : Int32) := by decide
theorem kn_6 : Int32.ofNat 6 = (6 : Int32) := by decide
theorem kn_9 : Int32.ofNat 9 = (9 : Int32) := by decide
theorem kn_10 : Int32.ofNat 10 = (10 : Int32) := by decide
theorem kn_13 : Int32.ofNat 13 = (13 : Int32) := by decide
theorem kn_60 : Int32.ofNat 60 = (60 : Int32) := by decide
theorem kn_100 : Int32.ofNat 100 = (100 : Int32) := by decide
theorem kn_400 : Int32.ofNat 400 = (400 : Int32) := by decide
theorem ks_128 : (Int16.ofInt 128).toInt32 = (128 : Int32) := by decide
theorem ks_200 : (Int16.ofInt 200).toInt32 = (200 : Int32) := by decide
theorem ks_255 : (Int16.ofInt 255).toInt32 = (255 : Int32) := by decide
theorem ks_256 : (Int16.ofInt 256).toInt32 = (256 : Int32) := by decide
theorem ks_400 : (Int16.ofInt 400).toInt32 = (400 : Int32) := by decide
theorem ks_999 : (Int16.ofInt 999).toInt32 = (999 : Int32) := by decide
theorem ks_1000 : (Int16.ofInt 1000).toInt32 = (1000 : Int32) := by decide
theorem kt_0 : (0 : Int32).toInt = 0 := by decide
theorem kt_1 : (1 : Int32).toInt = 1 := by decide
theorem kt_2 : (2 : Int32).toInt = 2 := by decide
theorem kt_3 : (3 : Int32).toInt = 3 := by decide
theorem kt_4 : (4 : Int32).toInt = 4 := by decide
theorem kt_5 : (5 : Int32).toInt = 5 := by decide
theorem kt_6 : (6 : Int32).toInt = 6 := by decide
theorem kt_7 : (7 : Int32).toInt = 7 := by decide
theorem yd_yJ6_bitCount_0f7a4 : yJ6_bitCount_0f7a4.cls ≠ "java/lang/invoke/MethodHandle" ∧ yJ6_bitCount_0f7a4.cls ≠ "java/lang/invoke/VarHandle" := by decide +kernel
theorem yp_yJ6_bitCount_0f7a4 : (parseMethodDescriptor yJ6_bitCount_0f7a4.desc).map (fun d => d.parameters.length) = some 1 := by decide +kernel
theorem yd_yJ7_fill_53178 : yJ7_fill_53178.cls ≠ "java/lang/invoke/MethodHandle" ∧ yJ7_fill_53178.cls ≠ "java/lang/invoke/VarHandle" := by decide +kernel
theorem yp_yJ7_fill_53178 : (parseMethodDescriptor yJ7_fill_53178.desc).map (fun d => d.parameters.length) = some 2 := by decide +kernel
theorem yd_yJ7_fill_d0a16 : yJ7_fill_d0a16.cls ≠ "java/lang/invoke/MethodHandle" ∧ yJ7_fill_d0a16.cls ≠ "java/lang/invoke/VarHandle" := by decide +kernel
theorem yp_yJ7_fill_d0a16 : (parseMethodDescriptor yJ7_fill_d0a16.desc).map (fun d => d.parameters.length) = some 2 := by decide +kernel
theorem yd_yX0_bestMended : yX0_bestMended.cls ≠ "java/lang/invoke/MethodHandle" ∧ yX0_bestMended.cls ≠ "java/lang/invoke/VarHandle" := by decide +kernel
theorem yp_yX0_bestMended : (parseMethodDescriptor yX0_bestMended.desc).map (fun d => d.parameters.length) = some 1 := by decide +kernel
theorem yd_yX0_buildOrNot : yX0_buildOrNot.cls ≠ "java/lang/invoke/MethodHandle" ∧ yX0_buildOrNot.cls ≠ "java/lang/invoke/VarHandle" := by decide +kernel
theorem yp_yX0_buildOrNot : (parseMethodDescriptor yX0_buildOrNot.desc).map (fun d => d.parameters.length) = some 3 := by decide +kernel
theorem yd_yX0_chanceAfter : yX0_chanceAfter.cls ≠ "java/lang/invoke/MethodHandle" ∧ yX0_chanceAfter.cls ≠ "java/lang/invoke/VarHandle" := by decide +kernel
theorem yp_yX0_chanceAfter : (parseMethodDescriptor yX0_chanceAfter.desc).map (fun d => d.parameters.length) = some 2 := by decide +kernel
theorem yd_yX0_fillBare : yX0_fillBare.cls ≠ "java/lang/invoke/MethodHandle" ∧ yX0_fillBare.cls ≠ "java/lang/invoke/VarHandle" := by decide +kernel
theorem yp_yX0_fillBare : (parseMethodDescriptor yX0_fillBare.desc).map (fun d => d.parameters.length) = some 1 := by decide +kernel
theorem yd_yX0_fold : yX0_fold.cls ≠ "java/lang/invoke/MethodHandle" ∧ yX0_fold.cls ≠ "java/lang/invoke/VarHandle" := by decide +kernel
theorem yp_yX0_fold : (parseMethodDescriptor yX0_fold.desc).map (fun d => d.parameters.length) = some 5 := by decide +kernel
theorem yd_yX0_foldUntouched : yX0_foldUntouched.cls ≠ "java/lang/invoke/MethodHandle" ∧ yX0_foldUntouched.cls ≠ "java/lang/invoke/VarHandle" := by decide +kernel
theorem yp_yX0_foldUntouched : (parseMethodDescriptor yX0_foldUntouched.desc).map (fun d => d.parameters.length) = some 1 := by decide +kernel
theorem yd_yX0_lengthOf : yX0_lengthOf.cls ≠ "java/lang/invoke/MethodHandle" ∧ yX0_lengthOf.cls ≠ "java/lang/invoke/VarHandle" := by decide +kernel
theorem yp_yX0_lengthOf : (parseMethodDescriptor yX0_lengthOf.desc).map (fun d => d.parameters.length) = some 1 := by decide +kernel
theorem yd_yX0_mendAll : yX0_mendAll.cls ≠ "java/lang/invoke/MethodHandle" ∧ yX0_mendAll.cls ≠ "java/lang/invoke/VarHandle" := by decide +kernel
theorem yp_yX0_mendAll : (parseMethodDescriptor yX0_mendAll.desc).map (fun d => d.parameters.length) = some 0 := by decide +kernel
theorem yd_yX0_shortest : yX0_shortest.cls ≠ "java/lang/invoke/MethodHandle" ∧ yX0_shortest.cls ≠ "java/lang/invoke/VarHandle" := by decide +kernel
theorem yp_yX0_shortest : (parseMethodDescriptor yX0_shortest.desc).map (fun d => d.parameters.length) = some 1 := by decide +kernel
theorem yd_yX0_workOut : yX0_workOut.cls ≠ "java/lang/invoke/MethodHandle" ∧ yX0_workOut.cls ≠ "java/lang/invoke/VarHandle" := by decide +kernel
theorem yp_yX0_workOut : (parseMethodDescriptor yX0_workOut.desc).map (fun d => d.parameters.length) = some 0 := by decide +kernel
theorem yd_yX10_harmIn : yX10_harmIn.cls ≠ "java/lang/invoke/MethodHandle" ∧ yX10_harmIn.cls ≠ "java/lang/invoke/VarHandle" := by decide +kernel
theorem yp_yX10_harmIn : (parseMethodDescriptor yX10_harmIn.desc).map (fun d => d.parameters.length) = some 1 := by decide +kernel
theorem yd_yX10_product : yX10_product.cls ≠ "java/lang/invoke/MethodHandle" ∧ yX10_product.cls ≠ "java/lang/invoke/VarHandle" := by decide +kernel
theorem yp_yX10_product : (parseMethodDescriptor yX10_product.desc).map (fun d => d.parameters.length) = some 2 := by decide +kernel
theorem yd_yX10_put : yX10_put.cls ≠ "java/lang/invoke/MethodHandle" ∧ yX10_put.cls ≠ "java/lang/invoke/VarHandle" := by decide +kernel
theorem yp_yX10_put : (parseMethodDescriptor yX10_put.desc).map (fun d => d.parameters.length) = some 3 := by decide +kernel
theorem yd_yX10_putApart : yX10_putApart.cls ≠ "java/lang/invoke/MethodHandle" ∧ yX10_putApart.cls ≠ "java/lang/invoke/VarHandle" := by decide +kernel
theorem yp_yX10_putApart : (parseMethodDescriptor yX10_putApart.desc).map (fun d => d.parameters.length) = some 3 := by decide +kernel
theorem yd_yX10_take : yX10_take.cls ≠ "java/lang/invoke/MethodHandle" ∧ yX10_take.cls ≠ "java/lang/invoke/VarHandle" := by decide +kernel
theorem yp_yX10_take : (parseMethodDescriptor yX10_take.desc).map (fun d => d.parameters.length) = some 1 := by decide +kernel
theorem yd_yX11_forget : yX11_forget.cls ≠ "java/lang/invoke/MethodHandle" ∧ yX11_forget.cls ≠ "java/lang/invoke/VarHandle" := by decide +kernel
theorem yp_yX11_forget : (parseMethodDescriptor yX11_forget.desc).map (fun d => d.parameters.length) = some 0 := by decide +kernel
theorem yd_yX11_isNew : yX11_isNew.cls ≠ "java/lang/invoke/MethodHandle" ∧ yX11_isNew.cls ≠ "java/lang/invoke/VarHandle" := by decide +kernel
theorem yp_yX11_isNew : (parseMethodDescriptor yX11_isNew.desc).map (fun d => d.parameters.length) = some 1 := by decide +kernel
theorem yd_yX11_isPair : yX11_isPair.cls ≠ "java/lang/invoke/MethodHandle" ∧ yX11_isPair.cls ≠ "java/lang/invoke/VarHandle" := by decide +kernel
theorem yp_yX11_isPair : (parseMethodDescriptor yX11_isPair.desc).map (fun d => d.parameters.length) = some 2 := by decide +kernel
theorem yd_yX11_isThing : yX11_isThing.cls ≠ "java/lang/invoke/MethodHandle" ∧ yX11_isThing.cls ≠ "java/lang/invoke/VarHandle" := by decide +kernel
theorem yp_yX11_isThing : (parseMethodDescriptor yX11_isThing.desc).map (fun d => d.parameters.length) = some 1 := by decide +kernel
theorem yd_yX11_know : yX11_know.cls ≠ "java/lang/invoke/MethodHandle" ∧ yX11_know.cls ≠ "java/lang/invoke/VarHandle" := by decide +kernel
theorem yp_yX11_know : (parseMethodDescriptor yX11_know.desc).map (fun d => d.parameters.length) = some 1 := by decide +kernel
theorem yd_yX11_knownDays : yX11_knownDays.cls ≠ "java/lang/invoke/MethodHandle" ∧ yX11_knownDays.cls ≠ "java/lang/invoke/VarHandle" := by decide +kernel
theorem yp_yX11_knownDays : (parseMethodDescriptor yX11_knownDays.desc).map (fun d => d.parameters.length) = some 2 := by decide +kernel
theorem yd_yX11_knownLeast : yX11_knownLeast.cls ≠ "java/lang/invoke/MethodHandle" ∧ yX11_knownLeast.cls ≠ "java/lang/invoke/VarHandle" := by decide +kernel
theorem yp_yX11_knownLeast : (parseMethodDescriptor yX11_knownLeast.desc).map (fun d => d.parameters.length) = some 1 := by decide +kernel
theorem yd_yX11_knownMail : yX11_knownMail.cls ≠ "java/lang/invoke/MethodHandle" ∧ yX11_knownMail.cls ≠ "java/lang/invoke/VarHandle" := by decide +kernel
theorem yp_yX11_knownMail : (parseMethodDescriptor yX11_knownMail.desc).map (fun d => d.parameters.length) = some 0 := by decide +kernel
theorem yd_yX11_knownSets : yX11_knownSets.cls ≠ "java/lang/invoke/MethodHandle" ∧ yX11_knownSets.cls ≠ "java/lang/invoke/VarHandle" := by decide +kernel
theorem yp_yX11_knownSets : (parseMethodDescriptor yX11_knownSets.desc).map (fun d => d.parameters.length) = some 0 := by decide +kernel
theorem yd_yX11_lacks : yX11_lacks.cls ≠ "java/lang/invoke/MethodHandle" ∧ yX11_lacks.cls ≠ "java/lang/invoke/VarHandle" := by decide +kernel
theorem yp_yX11_lacks : (parseMethodDescriptor yX11_lacks.desc).map (fun d => d.parameters.length) = some 2 := by decide +kernel
theorem yd_yX12_agrees : yX12_agrees.cls ≠ "java/lang/invoke/MethodHandle" ∧ yX12_agrees.cls ≠ "java/lang/invoke/VarHandle" := by decide +kernel
theorem yp_yX12_agrees : (parseMethodDescriptor yX12_agrees.desc).map (fun d => d.parameters.length) = some 1 := by decide +kernel
theorem yd_yX12_areEnds : yX12_areEnds.cls ≠ "java/lang/invoke/MethodHandle" ∧ yX12_areEnds.cls ≠ "java/lang/invoke/VarHandle" := by decide +kernel
theorem yp_yX12_areEnds : (parseMethodDescriptor yX12_areEnds.desc).map (fun d => d.parameters.length) = some 2 := by decide +kernel
theorem yd_yX12_areJoined : yX12_areJoined.cls ≠ "java/lang/invoke/MethodHandle" ∧ yX12_areJoined.cls ≠ "java/lang/invoke/VarHandle" := by decide +kernel
theorem yp_yX12_areJoined : (parseMethodDescriptor yX12_areJoined.desc).map (fun d => d.parameters.length) = some 1 := by decide +kernel
theorem yd_yX12_areTwo : yX12_areTwo.cls ≠ "java/lang/invoke/MethodHandle" ∧ yX12_areTwo.cls ≠ "java/lang/invoke/VarHandle" := by decide +kernel
theorem yp_yX12_areTwo : (parseMethodDescriptor yX12_areTwo.desc).map (fun d => d.parameters.length) = some 2 := by decide +kernel
theorem yd_yX12_asks : yX12_asks.cls ≠ "java/lang/invoke/MethodHandle" ∧ yX12_asks.cls ≠ "java/lang/invoke/VarHandle" := by decide +kernel
theorem yp_yX12_asks : (parseMethodDescriptor yX12_asks.desc).map (fun d => d.parameters.length) = some 0 := by decide +kernel
theorem yd_yX12_bits : yX12_bits.cls ≠ "java/lang/invoke/MethodHandle" ∧ yX12_bits.cls ≠ "java/lang/invoke/VarHandle" := by decide +kernel
theorem yp_yX12_bits : (parseMethodDescriptor yX12_bits.desc).map (fun d => d.parameters.length) = some 1 := by decide +kernel
theorem yd_yX12_builtOf : yX12_builtOf.cls ≠ "java/lang/invoke/MethodHandle" ∧ yX12_builtOf.cls ≠ "java/lang/invoke/VarHandle" := by decide +kernel
theorem yp_yX12_builtOf : (parseMethodDescriptor yX12_builtOf.desc).map (fun d => d.parameters.length) = some 1 := by decide +kernel
theorem yd_yX12_cause : yX12_cause.cls ≠ "java/lang/invoke/MethodHandle" ∧ yX12_cause.cls ≠ "java/lang/invoke/VarHandle" := by decide +kernel
theorem yp_yX12_cause : (parseMethodDescriptor yX12_cause.desc).map (fun d => d.parameters.length) = some 1 := by decide +kernel
theorem yd_yX12_chanceOf : yX12_chanceOf.cls ≠ "java/lang/invoke/MethodHandle" ∧ yX12_chanceOf.cls ≠ "java/lang/invoke/VarHandle" := by decide +kernel
theorem yp_yX12_chanceOf : (parseMethodDescriptor yX12_chanceOf.desc).map (fun d => d.parameters.length) = some 2 := by decide +kernel
theorem yd_yX12_chanceWith : yX12_chanceWith.cls ≠ "java/lang/invoke/MethodHandle" ∧ yX12_chanceWith.cls ≠ "java/lang/invoke/VarHandle" := by decide +kernel
theorem yp_yX12_chanceWith : (parseMethodDescriptor yX12_chanceWith.desc).map (fun d => d.parameters.length) = some 1 := by decide +kernel
theorem yd_yX12_clears : yX12_clears.cls ≠ "java/lang/invoke/MethodHandle" ∧ yX12_clears.cls ≠ "java/lang/invoke/VarHandle" := by decide +kernel
theorem yp_yX12_clears : (parseMethodDescriptor yX12_clears.desc).map (fun d => d.parameters.length) = some 0 := by decide +kernel
theorem yd_yX12_coinsOf : yX12_coinsOf.cls ≠ "java/lang/invoke/MethodHandle" ∧ yX12_coinsOf.cls ≠ "java/lang/invoke/VarHandle" := by decide +kernel
theorem yp_yX12_coinsOf : (parseMethodDescriptor yX12_coinsOf.desc).map (fun d => d.parameters.length) = some 1 := by decide +kernel
theorem yd_yX12_daysOf : yX12_daysOf.cls ≠ "java/lang/invoke/MethodHandle" ∧ yX12_daysOf.cls ≠ "java/lang/invoke/VarHandle" := by decide +kernel
theorem yp_yX12_daysOf : (parseMethodDescriptor yX12_daysOf.desc).map (fun d => d.parameters.length) = some 2 := by decide +kernel
theorem yd_yX12_daysTo : yX12_daysTo.cls ≠ "java/lang/invoke/MethodHandle" ∧ yX12_daysTo.cls ≠ "java/lang/invoke/VarHandle" := by decide +kernel
theorem yp_yX12_daysTo : (parseMethodDescriptor yX12_daysTo.desc).map (fun d => d.parameters.length) = some 2 := by decide +kernel
theorem yd_yX12_decides : yX12_decides.cls ≠ "java/lang/invoke/MethodHandle" ∧ yX12_decides.cls ≠ "java/lang/invoke/VarHandle" := by decide +kernel
theorem yp_yX12_decides : (parseMethodDescriptor yX12_decides.desc).map (fun d => d.parameters.length) = some 1 := by decide +kernel
theorem yd_yX12_drops : yX12_drops.cls ≠ "java/lang/invoke/MethodHandle" ∧ yX12_drops.cls ≠ "java/lang/invoke/VarHandle" := by decide +kernel
theorem yp_yX12_drops : (parseMethodDescriptor yX12_drops.desc).map (fun d => d.parameters.length) = some 1 := by decide +kernel
theorem yd_yX12_dropsOne : yX12_dropsOne.cls ≠ "java/lang/invoke/MethodHandle" ∧ yX12_dropsOne.cls ≠ "java/lang/invoke/VarHandle" := by decide +kernel
theorem yp_yX12_dropsOne : (parseMethodDescriptor yX12_dropsOne.desc).map (fun d => d.parameters.length) = some 0 := by decide +kernel
theorem yd_yX12_fails : yX12_fails.cls ≠ "java/lang/invoke/MethodHandle" ∧ yX12_fails.cls ≠ "java/lang/invoke/VarHandle" := by decide +kernel
theorem yp_yX12_fails : (parseMethodDescriptor yX12_fails.desc).map (fun d => d.parameters.length) = some 2 := by decide +kernel
theorem yd_yX12_four : yX12_four.cls ≠ "java/lang/invoke/MethodHandle" ∧ yX12_four.cls ≠ "java/lang/invoke/VarHandle" := by decide +kernel
theorem yp_yX12_four : (parseMethodDescriptor yX12_four.desc).map (fun d => d.parameters.length) = some 1 := by decide +kernel
theorem yd_yX12_gets : yX12_gets.cls ≠ "java/lang/invoke/MethodHandle" ∧ yX12_gets.cls ≠ "java/lang/invoke/VarHandle" := by decide +kernel
theorem yp_yX12_gets : (parseMethodDescriptor yX12_gets.desc).map (fun d => d.parameters.length) = some 0 := by decide +kernel
theorem yd_yX12_hasOne : yX12_hasOne.cls ≠ "java/lang/invoke/MethodHandle" ∧ yX12_hasOne.cls ≠ "java/lang/invoke/VarHandle" := by decide +kernel
theorem yp_yX12_hasOne : (parseMethodDescriptor yX12_hasOne.desc).map (fun d => d.parameters.length) = some 3 := by decide +kernel
theorem yd_yX12_in : yX12_in.cls ≠ "java/lang/invoke/MethodHandle" ∧ yX12_in.cls ≠ "java/lang/invoke/VarHandle" := by decide +kernel
theorem yp_yX12_in : (parseMethodDescriptor yX12_in.desc).map (fun d => d.parameters.length) = some 3 := by decide +kernel
theorem yd_yX12_isAt : yX12_isAt.cls ≠ "java/lang/invoke/MethodHandle" ∧ yX12_isAt.cls ≠ "java/lang/invoke/VarHandle" := by decide +kernel
theorem yp_yX12_isAt : (parseMethodDescriptor yX12_isAt.desc).map (fun d => d.parameters.length) = some 2 := by decide +kernel
theorem yd_yX12_isAtLeast : yX12_isAtLeast.cls ≠ "java/lang/invoke/MethodHandle" ∧ yX12_isAtLeast.cls ≠ "java/lang/invoke/VarHandle" := by decide +kernel
theorem yp_yX12_isAtLeast : (parseMethodDescriptor yX12_isAtLeast.desc).map (fun d => d.parameters.length) = some 2 := by decide +kernel
theorem yd_yX12_isBetween : yX12_isBetween.cls ≠ "java/lang/invoke/MethodHandle" ∧ yX12_isBetween.cls ≠ "java/lang/invoke/VarHandle" := by decide +kernel
theorem yp_yX12_isBetween : (parseMethodDescriptor yX12_isBetween.desc).map (fun d => d.parameters.length) = some 1 := by decide +kernel
theorem yd_yX12_isCut : yX12_isCut.cls ≠ "java/lang/invoke/MethodHandle" ∧ yX12_isCut.cls ≠ "java/lang/invoke/VarHandle" := by decide +kernel
theorem yp_yX12_isCut : (parseMethodDescriptor yX12_isCut.desc).map (fun d => d.parameters.length) = some 1 := by decide +kernel
theorem yd_yX12_isDigit : yX12_isDigit.cls ≠ "java/lang/invoke/MethodHandle" ∧ yX12_isDigit.cls ≠ "java/lang/invoke/VarHandle" := by decide +kernel
theorem yp_yX12_isDigit : (parseMethodDescriptor yX12_isDigit.desc).map (fun d => d.parameters.length) = some 0 := by decide +kernel
theorem yd_yX12_isOpen : yX12_isOpen.cls ≠ "java/lang/invoke/MethodHandle" ∧ yX12_isOpen.cls ≠ "java/lang/invoke/VarHandle" := by decide +kernel
theorem yp_yX12_isOpen : (parseMethodDescriptor yX12_isOpen.desc).map (fun d => d.parameters.length) = some 1 := by decide +kernel
theorem yd_yX12_isThing : yX12_isThing.cls ≠ "java/lang/invoke/MethodHandle" ∧ yX12_isThing.cls ≠ "java/lang/invoke/VarHandle" := by decide +kernel
theorem yp_yX12_isThing : (parseMethodDescriptor yX12_isThing.desc).map (fun d => d.parameters.length) = some 1 := by decide +kernel
theorem yd_yX12_isThrough : yX12_isThrough.cls ≠ "java/lang/invoke/MethodHandle" ∧ yX12_isThrough.cls ≠ "java/lang/invoke/VarHandle" := by decide +kernel
theorem yp_yX12_isThrough : (parseMethodDescriptor yX12_isThrough.desc).map (fun d => d.parameters.length) = some 2 := by decide +kernel
theorem yd_yX12_isWay : yX12_isWay.cls ≠ "java/lang/invoke/MethodHandle" ∧ yX12_isWay.cls ≠ "java/lang/invoke/VarHandle" := by decide +kernel
theorem yp_yX12_isWay : (parseMethodDescriptor yX12_isWay.desc).map (fun d => d.parameters.length) = some 1 := by decide +kernel
theorem yd_yX12_isWord : yX12_isWord.cls ≠ "java/lang/invoke/MethodHandle" ∧ yX12_isWord.cls ≠ "java/lang/invoke/VarHandle" := by decide +kernel
theorem yp_yX12_isWord : (parseMethodDescriptor yX12_isWord.desc).map (fun d => d.parameters.length) = some 1 := by decide +kernel
theorem yd_yX12_joinsAt : yX12_joinsAt.cls ≠ "java/lang/invoke/MethodHandle" ∧ yX12_joinsAt.cls ≠ "java/lang/invoke/VarHandle" := by decide +kernel
theorem yp_yX12_joinsAt : (parseMethodDescriptor yX12_joinsAt.desc).map (fun d => d.parameters.length) = some 1 := by decide +kernel
theorem yd_yX12_keeper : yX12_keeper.cls ≠ "java/lang/invoke/MethodHandle" ∧ yX12_keeper.cls ≠ "java/lang/invoke/VarHandle" := by decide +kernel
theorem yp_yX12_keeper : (parseMethodDescriptor yX12_keeper.desc).map (fun d => d.parameters.length) = some 1 := by decide +kernel
theorem yd_yX12_lays : yX12_lays.cls ≠ "java/lang/invoke/MethodHandle" ∧ yX12_lays.cls ≠ "java/lang/invoke/VarHandle" := by decide +kernel
theorem yp_yX12_lays : (parseMethodDescriptor yX12_lays.desc).map (fun d => d.parameters.length) = some 0 := by decide +kernel
theorem yd_yX12_leads : yX12_leads.cls ≠ "java/lang/invoke/MethodHandle" ∧ yX12_leads.cls ≠ "java/lang/invoke/VarHandle" := by decide +kernel
theorem yp_yX12_leads : (parseMethodDescriptor yX12_leads.desc).map (fun d => d.parameters.length) = some 2 := by decide +kernel
theorem yd_yX12_ledTo : yX12_ledTo.cls ≠ "java/lang/invoke/MethodHandle" ∧ yX12_ledTo.cls ≠ "java/lang/invoke/VarHandle" := by decide +kernel
theorem yp_yX12_ledTo : (parseMethodDescriptor yX12_ledTo.desc).map (fun d => d.parameters.length) = some 1 := by decide +kernel
theorem yd_yX12_lengthOf : yX12_lengthOf.cls ≠ "java/lang/invoke/MethodHandle" ∧ yX12_lengthOf.cls ≠ "java/lang/invoke/VarHandle" := by decide +kernel
theorem yp_yX12_lengthOf : (parseMethodDescriptor yX12_lengthOf.desc).map (fun d => d.parameters.length) = some 1 := by decide +kernel
theorem yd_yX12_lists : yX12_lists.cls ≠ "java/lang/invoke/MethodHandle" ∧ yX12_lists.cls ≠ "java/lang/invoke/VarHandle" := by decide +kernel
theorem yp_yX12_lists : (parseMethodDescriptor yX12_lists.desc).map (fun d => d.parameters.length) = some 1 := by decide +kernel
theorem yd_yX12_looksAll : yX12_looksAll.cls ≠ "java/lang/invoke/MethodHandle" ∧ yX12_looksAll.cls ≠ "java/lang/invoke/VarHandle" := by decide +kernel
theorem yp_yX12_looksAll : (parseMethodDescriptor yX12_looksAll.desc).map (fun d => d.parameters.length) = some 0 := by decide +kernel
theorem yd_yX12_mattersOf : yX12_mattersOf.cls ≠ "java/lang/invoke/MethodHandle" ∧ yX12_mattersOf.cls ≠ "java/lang/invoke/VarHandle" := by decide +kernel
theorem yp_yX12_mattersOf : (parseMethodDescriptor yX12_mattersOf.desc).map (fun d => d.parameters.length) = some 1 := by decide +kernel
theorem yd_yX12_number : yX12_number.cls ≠ "java/lang/invoke/MethodHandle" ∧ yX12_number.cls ≠ "java/lang/invoke/VarHandle" := by decide +kernel
theorem yp_yX12_number : (parseMethodDescriptor yX12_number.desc).map (fun d => d.parameters.length) = some 2 := by decide +kernel
theorem yd_yX12_oneMore : yX12_oneMore.cls ≠ "java/lang/invoke/MethodHandle" ∧ yX12_oneMore.cls ≠ "java/lang/invoke/VarHandle" := by decide +kernel
theorem yp_yX12_oneMore : (parseMethodDescriptor yX12_oneMore.desc).map (fun d => d.parameters.length) = some 2 := by decide +kernel
theorem yd_yX12_opens : yX12_opens.cls ≠ "java/lang/invoke/MethodHandle" ∧ yX12_opens.cls ≠ "java/lang/invoke/VarHandle" := by decide +kernel
theorem yp_yX12_opens : (parseMethodDescriptor yX12_opens.desc).map (fun d => d.parameters.length) = some 2 := by decide +kernel
theorem yd_yX12_own : yX12_own.cls ≠ "java/lang/invoke/MethodHandle" ∧ yX12_own.cls ≠ "java/lang/invoke/VarHandle" := by decide +kernel
theorem yp_yX12_own : (parseMethodDescriptor yX12_own.desc).map (fun d => d.parameters.length) = some 1 := by decide +kernel
theorem yd_yX12_parts : yX12_parts.cls ≠ "java/lang/invoke/MethodHandle" ∧ yX12_parts.cls ≠ "java/lang/invoke/VarHandle" := by decide +kernel
theorem yp_yX12_parts : (parseMethodDescriptor yX12_parts.desc).map (fun d => d.parameters.length) = some 0 := by decide +kernel
theorem yd_yX12_plain : yX12_plain.cls ≠ "java/lang/invoke/MethodHandle" ∧ yX12_plain.cls ≠ "java/lang/invoke/VarHandle" := by decide +kernel
theorem yp_yX12_plain : (parseMethodDescriptor yX12_plain.desc).map (fun d => d.parameters.length) = some 0 := by decide +kernel
theorem yd_yX12_power : yX12_power.cls ≠ "java/lang/invoke/MethodHandle" ∧ yX12_power.cls ≠ "java/lang/invoke/VarHandle" := by decide +kernel
theorem yp_yX12_power : (parseMethodDescriptor yX12_power.desc).map (fun d => d.parameters.length) = some 1 := by decide +kernel
theorem yd_yX12_puts : yX12_puts.cls ≠ "java/lang/invoke/MethodHandle" ∧ yX12_puts.cls ≠ "java/lang/invoke/VarHandle" := by decide +kernel
theorem yp_yX12_puts : (parseMethodDescriptor yX12_puts.desc).map (fun d => d.parameters.length) = some 1 := by decide +kernel
theorem yd_yX12_readThings : yX12_readThings.cls ≠ "java/lang/invoke/MethodHandle" ∧ yX12_readThings.cls ≠ "java/lang/invoke/VarHandle" := by decide +kernel
theorem yp_yX12_readThings : (parseMethodDescriptor yX12_readThings.desc).map (fun d => d.parameters.length) = some 0 := by decide +kernel
theorem yd_yX12_readsEnds : yX12_readsEnds.cls ≠ "java/lang/invoke/MethodHandle" ∧ yX12_readsEnds.cls ≠ "java/lang/invoke/VarHandle" := by decide +kernel
theorem yp_yX12_readsEnds : (parseMethodDescriptor yX12_readsEnds.desc).map (fun d => d.parameters.length) = some 0 := by decide +kernel
theorem yd_yX12_readsLine : yX12_readsLine.cls ≠ "java/lang/invoke/MethodHandle" ∧ yX12_readsLine.cls ≠ "java/lang/invoke/VarHandle" := by decide +kernel
theorem yp_yX12_readsLine : (parseMethodDescriptor yX12_readsLine.desc).map (fun d => d.parameters.length) = some 1 := by decide +kernel
theorem yd_yX12_readsPlace : yX12_readsPlace.cls ≠ "java/lang/invoke/MethodHandle" ∧ yX12_readsPlace.cls ≠ "java/lang/invoke/VarHandle" := by decide +kernel
theorem yp_yX12_readsPlace : (parseMethodDescriptor yX12_readsPlace.desc).map (fun d => d.parameters.length) = some 0 := by decide +kernel
theorem yd_yX12_row : yX12_row.cls ≠ "java/lang/invoke/MethodHandle" ∧ yX12_row.cls ≠ "java/lang/invoke/VarHandle" := by decide +kernel
theorem yp_yX12_row : (parseMethodDescriptor yX12_row.desc).map (fun d => d.parameters.length) = some 1 := by decide +kernel
theorem yd_yX12_see : yX12_see.cls ≠ "java/lang/invoke/MethodHandle" ∧ yX12_see.cls ≠ "java/lang/invoke/VarHandle" := by decide +kernel
theorem yp_yX12_see : (parseMethodDescriptor yX12_see.desc).map (fun d => d.parameters.length) = some 0 := by decide +kernel
theorem yd_yX12_sets : yX12_sets.cls ≠ "java/lang/invoke/MethodHandle" ∧ yX12_sets.cls ≠ "java/lang/invoke/VarHandle" := by decide +kernel
theorem yp_yX12_sets : (parseMethodDescriptor yX12_sets.desc).map (fun d => d.parameters.length) = some 0 := by decide +kernel
theorem yd_yX12_sureOf : yX12_sureOf.cls ≠ "java/lang/invoke/MethodHandle" ∧ yX12_sureOf.cls ≠ "java/lang/invoke/VarHandle" := by decide +kernel
theorem yp_yX12_sureOf : (parseMethodDescriptor yX12_sureOf.desc).map (fun d => d.parameters.length) = some 2 := by decide +kernel
theorem yd_yX12_takes : yX12_takes.cls ≠ "java/lang/invoke/MethodHandle" ∧ yX12_takes.cls ≠ "java/lang/invoke/VarHandle" := by decide +kernel
theorem yp_yX12_takes : (parseMethodDescriptor yX12_takes.desc).map (fun d => d.parameters.length) = some 0 := by decide +kernel
theorem yd_yX12_takesWord : yX12_takesWord.cls ≠ "java/lang/invoke/MethodHandle" ∧ yX12_takesWord.cls ≠ "java/lang/invoke/VarHandle" := by decide +kernel
theorem yp_yX12_takesWord : (parseMethodDescriptor yX12_takesWord.desc).map (fun d => d.parameters.length) = some 1 := by decide +kernel
theorem yd_yX12_text : yX12_text.cls ≠ "java/lang/invoke/MethodHandle" ∧ yX12_text.cls ≠ "java/lang/invoke/VarHandle" := by decide +kernel
theorem yp_yX12_text : (parseMethodDescriptor yX12_text.desc).map (fun d => d.parameters.length) = some 0 := by decide +kernel
theorem yd_yX12_together : yX12_together.cls ≠ "java/lang/invoke/MethodHandle" ∧ yX12_together.cls ≠ "java/lang/invoke/VarHandle" := by decide +kernel
theorem yp_yX12_together : (parseMethodDescriptor yX12_together.desc).map (fun d => d.parameters.length) = some 0 := by decide +kernel
theorem yd_yX12_tries : yX12_tries.cls ≠ "java/lang/invoke/MethodHandle" ∧ yX12_tries.cls ≠ "java/lang/invoke/VarHandle" := by decide +kernel
theorem yp_yX12_tries : (parseMethodDescriptor yX12_tries.desc).map (fun d => d.parameters.length) = some 3 := by decide +kernel
theorem yd_yX12_weighs : yX12_weighs.cls ≠ "java/lang/invoke/MethodHandle" ∧ yX12_weighs.cls ≠ "java/lang/invoke/VarHandle" := by decide +kernel
theorem yp_yX12_weighs : (parseMethodDescriptor yX12_weighs.desc).map (fun d => d.parameters.length) = some 0 := by decide +kernel
theorem yd_yX12_what : yX12_what.cls ≠ "java/lang/invoke/MethodHandle" ∧ yX12_what.cls ≠ "java/lang/invoke/VarHandle" := by decide +kernel
theorem yp_yX12_what : (parseMethodDescriptor yX12_what.desc).map (fun d => d.parameters.length) = some 1 := by decide +kernel
theorem yd_yX12_whole : yX12_whole.cls ≠ "java/lang/invoke/MethodHandle" ∧ yX12_whole.cls ≠ "java/lang/invoke/VarHandle" := by decide +kernel
theorem yp_yX12_whole : (parseMethodDescriptor yX12_whole.desc).map (fun d => d.parameters.length) = some 0 := by decide +kernel
theorem yd_yX1_chanceWith : yX1_chanceWith.cls ≠ "java/lang/invoke/MethodHandle" ∧ yX1_chanceWith.cls ≠ "java/lang/invoke/VarHandle" := by decide +kernel
theorem yp_yX1_chanceWith : (parseMethodDescriptor yX1_chanceWith.desc).map (fun d => d.parameters.length) = some 2 := by decide +kernel
theorem yd_yX1_isThroughWith : yX1_isThroughWith.cls ≠ "java/lang/invoke/MethodHandle" ∧ yX1_isThroughWith.cls ≠ "java/lang/invoke/VarHandle" := by decide +kernel
theorem yp_yX1_isThroughWith : (parseMethodDescriptor yX1_isThroughWith.desc).map (fun d => d.parameters.length) = some 2 := by decide +kernel
theorem yd_yX1_tryAll : yX1_tryAll.cls ≠ "java/lang/invoke/MethodHandle" ∧ yX1_tryAll.cls ≠ "java/lang/invoke/VarHandle" := by decide +kernel
theorem yp_yX1_tryAll : (parseMethodDescriptor yX1_tryAll.desc).map (fun d => d.parameters.length) = some 0 := by decide +kernel
theorem yd_yX2_addCause : yX2_addCause.cls ≠ "java/lang/invoke/MethodHandle" ∧ yX2_addCause.cls ≠ "java/lang/invoke/VarHandle" := by decide +kernel
theorem yp_yX2_addCause : (parseMethodDescriptor yX2_addCause.desc).map (fun d => d.parameters.length) = some 3 := by decide +kernel
theorem yd_yX2_addKeeper : yX2_addKeeper.cls ≠ "java/lang/invoke/MethodHandle" ∧ yX2_addKeeper.cls ≠ "java/lang/invoke/VarHandle" := by decide +kernel
theorem yp_yX2_addKeeper : (parseMethodDescriptor yX2_addKeeper.desc).map (fun d => d.parameters.length) = some 2 := by decide +kernel
theorem yd_yX2_addLine : yX2_addLine.cls ≠ "java/lang/invoke/MethodHandle" ∧ yX2_addLine.cls ≠ "java/lang/invoke/VarHandle" := by decide +kernel
theorem yp_yX2_addLine : (parseMethodDescriptor yX2_addLine.desc).map (fun d => d.parameters.length) = some 5 := by decide +kernel
theorem yd_yX2_causesNaming : yX2_causesNaming.cls ≠ "java/lang/invoke/MethodHandle" ∧ yX2_causesNaming.cls ≠ "java/lang/invoke/VarHandle" := by decide +kernel
theorem yp_yX2_causesNaming : (parseMethodDescriptor yX2_causesNaming.desc).map (fun d => d.parameters.length) = some 2 := by decide +kernel
theorem yd_yX2_chanceOf : yX2_chanceOf.cls ≠ "java/lang/invoke/MethodHandle" ∧ yX2_chanceOf.cls ≠ "java/lang/invoke/VarHandle" := by decide +kernel
theorem yp_yX2_chanceOf : (parseMethodDescriptor yX2_chanceOf.desc).map (fun d => d.parameters.length) = some 1 := by decide +kernel
theorem yd_yX2_clear : yX2_clear.cls ≠ "java/lang/invoke/MethodHandle" ∧ yX2_clear.cls ≠ "java/lang/invoke/VarHandle" := by decide +kernel
theorem yp_yX2_clear : (parseMethodDescriptor yX2_clear.desc).map (fun d => d.parameters.length) = some 0 := by decide +kernel
theorem yd_yX2_copyOf : yX2_copyOf.cls ≠ "java/lang/invoke/MethodHandle" ∧ yX2_copyOf.cls ≠ "java/lang/invoke/VarHandle" := by decide +kernel
theorem yp_yX2_copyOf : (parseMethodDescriptor yX2_copyOf.desc).map (fun d => d.parameters.length) = some 1 := by decide +kernel
theorem yd_yX2_copyRow : yX2_copyRow.cls ≠ "java/lang/invoke/MethodHandle" ∧ yX2_copyRow.cls ≠ "java/lang/invoke/VarHandle" := by decide +kernel
theorem yp_yX2_copyRow : (parseMethodDescriptor yX2_copyRow.desc).map (fun d => d.parameters.length) = some 2 := by decide +kernel
theorem yd_yX2_countBy : yX2_countBy.cls ≠ "java/lang/invoke/MethodHandle" ∧ yX2_countBy.cls ≠ "java/lang/invoke/VarHandle" := by decide +kernel
theorem yp_yX2_countBy : (parseMethodDescriptor yX2_countBy.desc).map (fun d => d.parameters.length) = some 4 := by decide +kernel
theorem yd_yX2_keeperOf : yX2_keeperOf.cls ≠ "java/lang/invoke/MethodHandle" ∧ yX2_keeperOf.cls ≠ "java/lang/invoke/VarHandle" := by decide +kernel
theorem yp_yX2_keeperOf : (parseMethodDescriptor yX2_keeperOf.desc).map (fun d => d.parameters.length) = some 1 := by decide +kernel
theorem yd_yX2_things : yX2_things.cls ≠ "java/lang/invoke/MethodHandle" ∧ yX2_things.cls ≠ "java/lang/invoke/VarHandle" := by decide +kernel
theorem yp_yX2_things : (parseMethodDescriptor yX2_things.desc).map (fun d => d.parameters.length) = some 0 := by decide +kernel
theorem yd_yX2_thingsApart : yX2_thingsApart.cls ≠ "java/lang/invoke/MethodHandle" ∧ yX2_thingsApart.cls ≠ "java/lang/invoke/VarHandle" := by decide +kernel
theorem yp_yX2_thingsApart : (parseMethodDescriptor yX2_thingsApart.desc).map (fun d => d.parameters.length) = some 0 := by decide +kernel
theorem yd_yX3_find : yX3_find.cls ≠ "java/lang/invoke/MethodHandle" ∧ yX3_find.cls ≠ "java/lang/invoke/VarHandle" := by decide +kernel
theorem yp_yX3_find : (parseMethodDescriptor yX3_find.desc).map (fun d => d.parameters.length) = some 0 := by decide +kernel
theorem yd_yX3_firstIn : yX3_firstIn.cls ≠ "java/lang/invoke/MethodHandle" ∧ yX3_firstIn.cls ≠ "java/lang/invoke/VarHandle" := by decide +kernel
theorem yp_yX3_firstIn : (parseMethodDescriptor yX3_firstIn.desc).map (fun d => d.parameters.length) = some 1 := by decide +kernel
theorem yd_yX3_holding : yX3_holding.cls ≠ "java/lang/invoke/MethodHandle" ∧ yX3_holding.cls ≠ "java/lang/invoke/VarHandle" := by decide +kernel
theorem yp_yX3_holding : (parseMethodDescriptor yX3_holding.desc).map (fun d => d.parameters.length) = some 1 := by decide +kernel
theorem yd_yX3_isLeast : yX3_isLeast.cls ≠ "java/lang/invoke/MethodHandle" ∧ yX3_isLeast.cls ≠ "java/lang/invoke/VarHandle" := by decide +kernel
theorem yp_yX3_isLeast : (parseMethodDescriptor yX3_isLeast.desc).map (fun d => d.parameters.length) = some 1 := by decide +kernel
theorem yd_yX3_shareOut : yX3_shareOut.cls ≠ "java/lang/invoke/MethodHandle" ∧ yX3_shareOut.cls ≠ "java/lang/invoke/VarHandle" := by decide +kernel
theorem yp_yX3_shareOut : (parseMethodDescriptor yX3_shareOut.desc).map (fun d => d.parameters.length) = some 0 := by decide +kernel
theorem yd_yX3_someOfFirst : yX3_someOfFirst.cls ≠ "java/lang/invoke/MethodHandle" ∧ yX3_someOfFirst.cls ≠ "java/lang/invoke/VarHandle" := by decide +kernel
theorem yp_yX3_someOfFirst : (parseMethodDescriptor yX3_someOfFirst.desc).map (fun d => d.parameters.length) = some 1 := by decide +kernel
theorem yd_yX3_tell : yX3_tell.cls ≠ "java/lang/invoke/MethodHandle" ∧ yX3_tell.cls ≠ "java/lang/invoke/VarHandle" := by decide +kernel
theorem yp_yX3_tell : (parseMethodDescriptor yX3_tell.desc).map (fun d => d.parameters.length) = some 2 := by decide +kernel
theorem yd_yX3_valueOf : yX3_valueOf.cls ≠ "java/lang/invoke/MethodHandle" ∧ yX3_valueOf.cls ≠ "java/lang/invoke/VarHandle" := by decide +kernel
theorem yp_yX3_valueOf : (parseMethodDescriptor yX3_valueOf.desc).map (fun d => d.parameters.length) = some 1 := by decide +kernel
theorem yd_yX4_fewest : yX4_fewest.cls ≠ "java/lang/invoke/MethodHandle" ∧ yX4_fewest.cls ≠ "java/lang/invoke/VarHandle" := by decide +kernel
theorem yp_yX4_fewest : (parseMethodDescriptor yX4_fewest.desc).map (fun d => d.parameters.length) = some 0 := by decide +kernel
theorem yd_yX4_firstThing : yX4_firstThing.cls ≠ "java/lang/invoke/MethodHandle" ∧ yX4_firstThing.cls ≠ "java/lang/invoke/VarHandle" := by decide +kernel
theorem yp_yX4_firstThing : (parseMethodDescriptor yX4_firstThing.desc).map (fun d => d.parameters.length) = some 0 := by decide +kernel
theorem yd_yX4_isSure : yX4_isSure.cls ≠ "java/lang/invoke/MethodHandle" ∧ yX4_isSure.cls ≠ "java/lang/invoke/VarHandle" := by decide +kernel
theorem yp_yX4_isSure : (parseMethodDescriptor yX4_isSure.desc).map (fun d => d.parameters.length) = some 1 := by decide +kernel
theorem yd_yX4_leastFrom : yX4_leastFrom.cls ≠ "java/lang/invoke/MethodHandle" ∧ yX4_leastFrom.cls ≠ "java/lang/invoke/VarHandle" := by decide +kernel
theorem yp_yX4_leastFrom : (parseMethodDescriptor yX4_leastFrom.desc).map (fun d => d.parameters.length) = some 1 := by decide +kernel
theorem yd_yX4_neededBy : yX4_neededBy.cls ≠ "java/lang/invoke/MethodHandle" ∧ yX4_neededBy.cls ≠ "java/lang/invoke/VarHandle" := by decide +kernel
theorem yp_yX4_neededBy : (parseMethodDescriptor yX4_neededBy.desc).map (fun d => d.parameters.length) = some 2 := by decide +kernel
theorem yd_yX4_workOut : yX4_workOut.cls ≠ "java/lang/invoke/MethodHandle" ∧ yX4_workOut.cls ≠ "java/lang/invoke/VarHandle" := by decide +kernel
theorem yp_yX4_workOut : (parseMethodDescriptor yX4_workOut.desc).map (fun d => d.parameters.length) = some 0 := by decide +kernel
theorem yd_yX5_agreeing : yX5_agreeing.cls ≠ "java/lang/invoke/MethodHandle" ∧ yX5_agreeing.cls ≠ "java/lang/invoke/VarHandle" := by decide +kernel
theorem yp_yX5_agreeing : (parseMethodDescriptor yX5_agreeing.desc).map (fun d => d.parameters.length) = some 1 := by decide +kernel
theorem yd_yX5_cameWithin : yX5_cameWithin.cls ≠ "java/lang/invoke/MethodHandle" ∧ yX5_cameWithin.cls ≠ "java/lang/invoke/VarHandle" := by decide +kernel
theorem yp_yX5_cameWithin : (parseMethodDescriptor yX5_cameWithin.desc).map (fun d => d.parameters.length) = some 1 := by decide +kernel
theorem yd_yX5_compare : yX5_compare.cls ≠ "java/lang/invoke/MethodHandle" ∧ yX5_compare.cls ≠ "java/lang/invoke/VarHandle" := by decide +kernel
theorem yp_yX5_compare : (parseMethodDescriptor yX5_compare.desc).map (fun d => d.parameters.length) = some 0 := by decide +kernel
theorem yd_yX5_daysTogether : yX5_daysTogether.cls ≠ "java/lang/invoke/MethodHandle" ∧ yX5_daysTogether.cls ≠ "java/lang/invoke/VarHandle" := by decide +kernel
theorem yp_yX5_daysTogether : (parseMethodDescriptor yX5_daysTogether.desc).map (fun d => d.parameters.length) = some 0 := by decide +kernel
theorem yd_yX5_isAsTold : yX5_isAsTold.cls ≠ "java/lang/invoke/MethodHandle" ∧ yX5_isAsTold.cls ≠ "java/lang/invoke/VarHandle" := by decide +kernel
theorem yp_yX5_isAsTold : (parseMethodDescriptor yX5_isAsTold.desc).map (fun d => d.parameters.length) = some 1 := by decide +kernel
theorem yd_yX5_isFor : yX5_isFor.cls ≠ "java/lang/invoke/MethodHandle" ∧ yX5_isFor.cls ≠ "java/lang/invoke/VarHandle" := by decide +kernel
theorem yp_yX5_isFor : (parseMethodDescriptor yX5_isFor.desc).map (fun d => d.parameters.length) = some 2 := by decide +kernel
theorem yd_yX5_lookFirst : yX5_lookFirst.cls ≠ "java/lang/invoke/MethodHandle" ∧ yX5_lookFirst.cls ≠ "java/lang/invoke/VarHandle" := by decide +kernel
theorem yp_yX5_lookFirst : (parseMethodDescriptor yX5_lookFirst.desc).map (fun d => d.parameters.length) = some 0 := by decide +kernel
theorem yd_yX5_travel : yX5_travel.cls ≠ "java/lang/invoke/MethodHandle" ∧ yX5_travel.cls ≠ "java/lang/invoke/VarHandle" := by decide +kernel
theorem yp_yX5_travel : (parseMethodDescriptor yX5_travel.desc).map (fun d => d.parameters.length) = some 2 := by decide +kernel
theorem yd_yX6_addLetter : yX6_addLetter.cls ≠ "java/lang/invoke/MethodHandle" ∧ yX6_addLetter.cls ≠ "java/lang/invoke/VarHandle" := by decide +kernel
theorem yp_yX6_addLetter : (parseMethodDescriptor yX6_addLetter.desc).map (fun d => d.parameters.length) = some 3 := by decide +kernel
theorem yd_yX6_addMending : yX6_addMending.cls ≠ "java/lang/invoke/MethodHandle" ∧ yX6_addMending.cls ≠ "java/lang/invoke/VarHandle" := by decide +kernel
theorem yp_yX6_addMending : (parseMethodDescriptor yX6_addMending.desc).map (fun d => d.parameters.length) = some 3 := by decide +kernel
theorem yd_yX6_chanceAfter : yX6_chanceAfter.cls ≠ "java/lang/invoke/MethodHandle" ∧ yX6_chanceAfter.cls ≠ "java/lang/invoke/VarHandle" := by decide +kernel
theorem yp_yX6_chanceAfter : (parseMethodDescriptor yX6_chanceAfter.desc).map (fun d => d.parameters.length) = some 3 := by decide +kernel
theorem yd_yX6_clear : yX6_clear.cls ≠ "java/lang/invoke/MethodHandle" ∧ yX6_clear.cls ≠ "java/lang/invoke/VarHandle" := by decide +kernel
theorem yp_yX6_clear : (parseMethodDescriptor yX6_clear.desc).map (fun d => d.parameters.length) = some 0 := by decide +kernel
theorem yd_yX6_coinsOf : yX6_coinsOf.cls ≠ "java/lang/invoke/MethodHandle" ∧ yX6_coinsOf.cls ≠ "java/lang/invoke/VarHandle" := by decide +kernel
theorem yp_yX6_coinsOf : (parseMethodDescriptor yX6_coinsOf.desc).map (fun d => d.parameters.length) = some 1 := by decide +kernel
theorem yd_yX6_copyOf : yX6_copyOf.cls ≠ "java/lang/invoke/MethodHandle" ∧ yX6_copyOf.cls ≠ "java/lang/invoke/VarHandle" := by decide +kernel
theorem yp_yX6_copyOf : (parseMethodDescriptor yX6_copyOf.desc).map (fun d => d.parameters.length) = some 1 := by decide +kernel
theorem yd_yX6_linesMended : yX6_linesMended.cls ≠ "java/lang/invoke/MethodHandle" ∧ yX6_linesMended.cls ≠ "java/lang/invoke/VarHandle" := by decide +kernel
theorem yp_yX6_linesMended : (parseMethodDescriptor yX6_linesMended.desc).map (fun d => d.parameters.length) = some 0 := by decide +kernel
theorem yd_yX7_carries : yX7_carries.cls ≠ "java/lang/invoke/MethodHandle" ∧ yX7_carries.cls ≠ "java/lang/invoke/VarHandle" := by decide +kernel
theorem yp_yX7_carries : (parseMethodDescriptor yX7_carries.desc).map (fun d => d.parameters.length) = some 1 := by decide +kernel
theorem yd_yX7_daysBetween : yX7_daysBetween.cls ≠ "java/lang/invoke/MethodHandle" ∧ yX7_daysBetween.cls ≠ "java/lang/invoke/VarHandle" := by decide +kernel
theorem yp_yX7_daysBetween : (parseMethodDescriptor yX7_daysBetween.desc).map (fun d => d.parameters.length) = some 3 := by decide +kernel
theorem yd_yX7_follow : yX7_follow.cls ≠ "java/lang/invoke/MethodHandle" ∧ yX7_follow.cls ≠ "java/lang/invoke/VarHandle" := by decide +kernel
theorem yp_yX7_follow : (parseMethodDescriptor yX7_follow.desc).map (fun d => d.parameters.length) = some 0 := by decide +kernel
theorem yd_yX7_goAlong : yX7_goAlong.cls ≠ "java/lang/invoke/MethodHandle" ∧ yX7_goAlong.cls ≠ "java/lang/invoke/VarHandle" := by decide +kernel
theorem yp_yX7_goAlong : (parseMethodDescriptor yX7_goAlong.desc).map (fun d => d.parameters.length) = some 1 := by decide +kernel
theorem yd_yX7_joinAt : yX7_joinAt.cls ≠ "java/lang/invoke/MethodHandle" ∧ yX7_joinAt.cls ≠ "java/lang/invoke/VarHandle" := by decide +kernel
theorem yp_yX7_joinAt : (parseMethodDescriptor yX7_joinAt.desc).map (fun d => d.parameters.length) = some 1 := by decide +kernel
theorem yd_yX7_joinedFor : yX7_joinedFor.cls ≠ "java/lang/invoke/MethodHandle" ∧ yX7_joinedFor.cls ≠ "java/lang/invoke/VarHandle" := by decide +kernel
theorem yp_yX7_joinedFor : (parseMethodDescriptor yX7_joinedFor.desc).map (fun d => d.parameters.length) = some 2 := by decide +kernel
theorem yd_yX7_joiningTrees : yX7_joiningTrees.cls ≠ "java/lang/invoke/MethodHandle" ∧ yX7_joiningTrees.cls ≠ "java/lang/invoke/VarHandle" := by decide +kernel
theorem yp_yX7_joiningTrees : (parseMethodDescriptor yX7_joiningTrees.desc).map (fun d => d.parameters.length) = some 0 := by decide +kernel
theorem yd_yX7_leads : yX7_leads.cls ≠ "java/lang/invoke/MethodHandle" ∧ yX7_leads.cls ≠ "java/lang/invoke/VarHandle" := by decide +kernel
theorem yp_yX7_leads : (parseMethodDescriptor yX7_leads.desc).map (fun d => d.parameters.length) = some 3 := by decide +kernel
theorem yd_yX7_leadsWithoutAny : yX7_leadsWithoutAny.cls ≠ "java/lang/invoke/MethodHandle" ∧ yX7_leadsWithoutAny.cls ≠ "java/lang/invoke/VarHandle" := by decide +kernel
theorem yp_yX7_leadsWithoutAny : (parseMethodDescriptor yX7_leadsWithoutAny.desc).map (fun d => d.parameters.length) = some 3 := by decide +kernel
theorem yd_yX7_neededPlaces : yX7_neededPlaces.cls ≠ "java/lang/invoke/MethodHandle" ∧ yX7_neededPlaces.cls ≠ "java/lang/invoke/VarHandle" := by decide +kernel
theorem yp_yX7_neededPlaces : (parseMethodDescriptor yX7_neededPlaces.desc).map (fun d => d.parameters.length) = some 0 := by decide +kernel
theorem yd_yX7_reached : yX7_reached.cls ≠ "java/lang/invoke/MethodHandle" ∧ yX7_reached.cls ≠ "java/lang/invoke/VarHandle" := by decide +kernel
theorem yp_yX7_reached : (parseMethodDescriptor yX7_reached.desc).map (fun d => d.parameters.length) = some 3 := by decide +kernel
theorem yd_yX8_decidesIn : yX8_decidesIn.cls ≠ "java/lang/invoke/MethodHandle" ∧ yX8_decidesIn.cls ≠ "java/lang/invoke/VarHandle" := by decide +kernel
theorem yp_yX8_decidesIn : (parseMethodDescriptor yX8_decidesIn.desc).map (fun d => d.parameters.length) = some 1 := by decide +kernel
theorem yd_yX8_drawn : yX8_drawn.cls ≠ "java/lang/invoke/MethodHandle" ∧ yX8_drawn.cls ≠ "java/lang/invoke/VarHandle" := by decide +kernel
theorem yp_yX8_drawn : (parseMethodDescriptor yX8_drawn.desc).map (fun d => d.parameters.length) = some 2 := by decide +kernel
theorem yd_yX8_given : yX8_given.cls ≠ "java/lang/invoke/MethodHandle" ∧ yX8_given.cls ≠ "java/lang/invoke/VarHandle" := by decide +kernel
theorem yp_yX8_given : (parseMethodDescriptor yX8_given.desc).map (fun d => d.parameters.length) = some 2 := by decide +kernel
theorem yd_yX8_isSixteenths : yX8_isSixteenths.cls ≠ "java/lang/invoke/MethodHandle" ∧ yX8_isSixteenths.cls ≠ "java/lang/invoke/VarHandle" := by decide +kernel
theorem yp_yX8_isSixteenths : (parseMethodDescriptor yX8_isSixteenths.desc).map (fun d => d.parameters.length) = some 3 := by decide +kernel
theorem yd_yX8_isThrough : yX8_isThrough.cls ≠ "java/lang/invoke/MethodHandle" ∧ yX8_isThrough.cls ≠ "java/lang/invoke/VarHandle" := by decide +kernel
theorem yp_yX8_isThrough : (parseMethodDescriptor yX8_isThrough.desc).map (fun d => d.parameters.length) = some 1 := by decide +kernel
theorem yd_yX8_isThroughAfter : yX8_isThroughAfter.cls ≠ "java/lang/invoke/MethodHandle" ∧ yX8_isThroughAfter.cls ≠ "java/lang/invoke/VarHandle" := by decide +kernel
theorem yp_yX8_isThroughAfter : (parseMethodDescriptor yX8_isThroughAfter.desc).map (fun d => d.parameters.length) = some 1 := by decide +kernel
theorem yd_yX8_lineSetsOf : yX8_lineSetsOf.cls ≠ "java/lang/invoke/MethodHandle" ∧ yX8_lineSetsOf.cls ≠ "java/lang/invoke/VarHandle" := by decide +kernel
theorem yp_yX8_lineSetsOf : (parseMethodDescriptor yX8_lineSetsOf.desc).map (fun d => d.parameters.length) = some 1 := by decide +kernel
theorem yd_yX8_makeRoom : yX8_makeRoom.cls ≠ "java/lang/invoke/MethodHandle" ∧ yX8_makeRoom.cls ≠ "java/lang/invoke/VarHandle" := by decide +kernel
theorem yp_yX8_makeRoom : (parseMethodDescriptor yX8_makeRoom.desc).map (fun d => d.parameters.length) = some 2 := by decide +kernel
theorem yd_yX8_openIn : yX8_openIn.cls ≠ "java/lang/invoke/MethodHandle" ∧ yX8_openIn.cls ≠ "java/lang/invoke/VarHandle" := by decide +kernel
theorem yp_yX8_openIn : (parseMethodDescriptor yX8_openIn.desc).map (fun d => d.parameters.length) = some 1 := by decide +kernel
theorem yd_yX8_power : yX8_power.cls ≠ "java/lang/invoke/MethodHandle" ∧ yX8_power.cls ≠ "java/lang/invoke/VarHandle" := by decide +kernel
theorem yp_yX8_power : (parseMethodDescriptor yX8_power.desc).map (fun d => d.parameters.length) = some 1 := by decide +kernel
theorem yd_yX8_spread : yX8_spread.cls ≠ "java/lang/invoke/MethodHandle" ∧ yX8_spread.cls ≠ "java/lang/invoke/VarHandle" := by decide +kernel
theorem yp_yX8_spread : (parseMethodDescriptor yX8_spread.desc).map (fun d => d.parameters.length) = some 0 := by decide +kernel
theorem yd_yX8_stand : yX8_stand.cls ≠ "java/lang/invoke/MethodHandle" ∧ yX8_stand.cls ≠ "java/lang/invoke/VarHandle" := by decide +kernel
theorem yp_yX8_stand : (parseMethodDescriptor yX8_stand.desc).map (fun d => d.parameters.length) = some 2 := by decide +kernel
theorem yd_yX8_throughApart : yX8_throughApart.cls ≠ "java/lang/invoke/MethodHandle" ∧ yX8_throughApart.cls ≠ "java/lang/invoke/VarHandle" := by decide +kernel
theorem yp_yX8_throughApart : (parseMethodDescriptor yX8_throughApart.desc).map (fun d => d.parameters.length) = some 0 := by decide +kernel
theorem yd_yX8_throughIn : yX8_throughIn.cls ≠ "java/lang/invoke/MethodHandle" ∧ yX8_throughIn.cls ≠ "java/lang/invoke/VarHandle" := by decide +kernel
theorem yp_yX8_throughIn : (parseMethodDescriptor yX8_throughIn.desc).map (fun d => d.parameters.length) = some 2 := by decide +kernel
theorem yd_yX8_times : yX8_times.cls ≠ "java/lang/invoke/MethodHandle" ∧ yX8_times.cls ≠ "java/lang/invoke/VarHandle" := by decide +kernel
theorem yp_yX8_times : (parseMethodDescriptor yX8_times.desc).map (fun d => d.parameters.length) = some 2 := by decide +kernel
theorem yd_yX8_weightOf : yX8_weightOf.cls ≠ "java/lang/invoke/MethodHandle" ∧ yX8_weightOf.cls ≠ "java/lang/invoke/VarHandle" := by decide +kernel
theorem yp_yX8_weightOf : (parseMethodDescriptor yX8_weightOf.desc).map (fun d => d.parameters.length) = some 1 := by decide +kernel
theorem yd_yX8_workOut : yX8_workOut.cls ≠ "java/lang/invoke/MethodHandle" ∧ yX8_workOut.cls ≠ "java/lang/invoke/VarHandle" := by decide +kernel
theorem yp_yX8_workOut : (parseMethodDescriptor yX8_workOut.desc).map (fun d => d.parameters.length) = some 0 := by decide +kernel
theorem yd_yX9_blame : yX9_blame.cls ≠ "java/lang/invoke/MethodHandle" ∧ yX9_blame.cls ≠ "java/lang/invoke/VarHandle" := by decide +kernel
theorem yp_yX9_blame : (parseMethodDescriptor yX9_blame.desc).map (fun d => d.parameters.length) = some 2 := by decide +kernel
theorem yd_yX9_clauseGoesOn : yX9_clauseGoesOn.cls ≠ "java/lang/invoke/MethodHandle" ∧ yX9_clauseGoesOn.cls ≠ "java/lang/invoke/VarHandle" := by decide +kernel
theorem yp_yX9_clauseGoesOn : (parseMethodDescriptor yX9_clauseGoesOn.desc).map (fun d => d.parameters.length) = some 0 := by decide +kernel
theorem yd_yX9_hasMore : yX9_hasMore.cls ≠ "java/lang/invoke/MethodHandle" ∧ yX9_hasMore.cls ≠ "java/lang/invoke/VarHandle" := by decide +kernel
theorem yp_yX9_hasMore : (parseMethodDescriptor yX9_hasMore.desc).map (fun d => d.parameters.length) = some 0 := by decide +kernel
theorem yd_yX9_hasRoom : yX9_hasRoom.cls ≠ "java/lang/invoke/MethodHandle" ∧ yX9_hasRoom.cls ≠ "java/lang/invoke/VarHandle" := by decide +kernel
theorem yp_yX9_hasRoom : (parseMethodDescriptor yX9_hasRoom.desc).map (fun d => d.parameters.length) = some 1 := by decide +kernel
theorem yd_yX9_isWord : yX9_isWord.cls ≠ "java/lang/invoke/MethodHandle" ∧ yX9_isWord.cls ≠ "java/lang/invoke/VarHandle" := by decide +kernel
theorem yp_yX9_isWord : (parseMethodDescriptor yX9_isWord.desc).map (fun d => d.parameters.length) = some 1 := by decide +kernel
theorem yd_yX9_put : yX9_put.cls ≠ "java/lang/invoke/MethodHandle" ∧ yX9_put.cls ≠ "java/lang/invoke/VarHandle" := by decide +kernel
theorem yp_yX9_put : (parseMethodDescriptor yX9_put.desc).map (fun d => d.parameters.length) = some 1 := by decide +kernel
theorem yd_yX9_readCause : yX9_readCause.cls ≠ "java/lang/invoke/MethodHandle" ∧ yX9_readCause.cls ≠ "java/lang/invoke/VarHandle" := by decide +kernel
theorem yp_yX9_readCause : (parseMethodDescriptor yX9_readCause.desc).map (fun d => d.parameters.length) = some 0 := by decide +kernel
theorem yd_yX9_readClause : yX9_readClause.cls ≠ "java/lang/invoke/MethodHandle" ∧ yX9_readClause.cls ≠ "java/lang/invoke/VarHandle" := by decide +kernel
theorem yp_yX9_readClause : (parseMethodDescriptor yX9_readClause.desc).map (fun d => d.parameters.length) = some 0 := by decide +kernel
theorem yd_yX9_readKeeper : yX9_readKeeper.cls ≠ "java/lang/invoke/MethodHandle" ∧ yX9_readKeeper.cls ≠ "java/lang/invoke/VarHandle" := by decide +kernel
theorem yp_yX9_readKeeper : (parseMethodDescriptor yX9_readKeeper.desc).map (fun d => d.parameters.length) = some 0 := by decide +kernel
theorem yd_yX9_readLand : yX9_readLand.cls ≠ "java/lang/invoke/MethodHandle" ∧ yX9_readLand.cls ≠ "java/lang/invoke/VarHandle" := by decide +kernel
theorem yp_yX9_readLand : (parseMethodDescriptor yX9_readLand.desc).map (fun d => d.parameters.length) = some 0 := by decide +kernel
theorem yd_yX9_readLine : yX9_readLine.cls ≠ "java/lang/invoke/MethodHandle" ∧ yX9_readLine.cls ≠ "java/lang/invoke/VarHandle" := by decide +kernel
theorem yp_yX9_readLine : (parseMethodDescriptor yX9_readLine.desc).map (fun d => d.parameters.length) = some 0 := by decide +kernel
theorem yd_yX9_readNumber : yX9_readNumber.cls ≠ "java/lang/invoke/MethodHandle" ∧ yX9_readNumber.cls ≠ "java/lang/invoke/VarHandle" := by decide +kernel
theorem yp_yX9_readNumber : (parseMethodDescriptor yX9_readNumber.desc).map (fun d => d.parameters.length) = some 2 := by decide +kernel
theorem yd_yX9_readPlace : yX9_readPlace.cls ≠ "java/lang/invoke/MethodHandle" ∧ yX9_readPlace.cls ≠ "java/lang/invoke/VarHandle" := by decide +kernel
theorem yp_yX9_readPlace : (parseMethodDescriptor yX9_readPlace.desc).map (fun d => d.parameters.length) = some 1 := by decide +kernel
theorem yd_yX9_readPlaces : yX9_readPlaces.cls ≠ "java/lang/invoke/MethodHandle" ∧ yX9_readPlaces.cls ≠ "java/lang/invoke/VarHandle" := by decide +kernel
theorem yp_yX9_readPlaces : (parseMethodDescriptor yX9_readPlaces.desc).map (fun d => d.parameters.length) = some 0 := by decide +kernel
theorem yd_yX9_readThrough : yX9_readThrough.cls ≠ "java/lang/invoke/MethodHandle" ∧ yX9_readThrough.cls ≠ "java/lang/invoke/VarHandle" := by decide +kernel
theorem yp_yX9_readThrough : (parseMethodDescriptor yX9_readThrough.desc).map (fun d => d.parameters.length) = some 0 := by decide +kernel
theorem yd_yX9_readWhat : yX9_readWhat.cls ≠ "java/lang/invoke/MethodHandle" ∧ yX9_readWhat.cls ≠ "java/lang/invoke/VarHandle" := by decide +kernel
theorem yp_yX9_readWhat : (parseMethodDescriptor yX9_readWhat.desc).map (fun d => d.parameters.length) = some 0 := by decide +kernel
theorem yd_yX9_readWord : yX9_readWord.cls ≠ "java/lang/invoke/MethodHandle" ∧ yX9_readWord.cls ≠ "java/lang/invoke/VarHandle" := by decide +kernel
theorem yp_yX9_readWord : (parseMethodDescriptor yX9_readWord.desc).map (fun d => d.parameters.length) = some 0 := by decide +kernel
theorem yd_yX9_refuseIf : yX9_refuseIf.cls ≠ "java/lang/invoke/MethodHandle" ∧ yX9_refuseIf.cls ≠ "java/lang/invoke/VarHandle" := by decide +kernel
theorem yp_yX9_refuseIf : (parseMethodDescriptor yX9_refuseIf.desc).map (fun d => d.parameters.length) = some 1 := by decide +kernel
theorem yd_yX9_skipBlanks : yX9_skipBlanks.cls ≠ "java/lang/invoke/MethodHandle" ∧ yX9_skipBlanks.cls ≠ "java/lang/invoke/VarHandle" := by decide +kernel
theorem yp_yX9_skipBlanks : (parseMethodDescriptor yX9_skipBlanks.desc).map (fun d => d.parameters.length) = some 0 := by decide +kernel
