/-! the constructors, leaves first: rows made by program (wip/whole/gen3) -/
theorem dfX0_ok : ∀ j, j < 9 → defaultValue (tyX0 j) = vp_V [.null, .null, .null, .null, .null, .int 0, .null, .null, .null] j := by
  intro j hj
  match j, hj with
  | 0, _ => rfl
  | 1, _ => rfl
  | 2, _ => rfl
  | 3, _ => rfl
  | 4, _ => rfl
  | 5, _ => rfl
  | 6, _ => rfl
  | 7, _ => rfl
  | 8, _ => rfl
  | n + 9, h => exact absurd h (by omega)
theorem dfX1_ok : ∀ j, j < 8 → defaultValue (tyX1 j) = vp_V [.int 0, .int 0, .long 0, .null, .null, .null, .null, .null] j := by
  intro j hj
  match j, hj with
  | 0, _ => rfl
  | 1, _ => rfl
  | 2, _ => rfl
  | 3, _ => rfl
  | 4, _ => rfl
  | 5, _ => rfl
  | 6, _ => rfl
  | 7, _ => rfl
  | n + 8, h => exact absurd h (by omega)
theorem dfX2_ok : ∀ j, j < 18 → defaultValue (tyX2 j) = vp_V [.int 0, .int 0, .null, .null, .null, .null, .null, .int 0, .null, .null, .int 0, .null, .null, .null, .int 0, .int 0, .int 0, .int 0] j := by
  intro j hj
  match j, hj with
  | 0, _ => rfl
  | 1, _ => rfl
  | 2, _ => rfl
  | 3, _ => rfl
  | 4, _ => rfl
  | 5, _ => rfl
  | 6, _ => rfl
  | 7, _ => rfl
  | 8, _ => rfl
  | 9, _ => rfl
  | 10, _ => rfl
  | 11, _ => rfl
  | 12, _ => rfl
  | 13, _ => rfl
  | 14, _ => rfl
  | 15, _ => rfl
  | 16, _ => rfl
  | 17, _ => rfl
  | n + 18, h => exact absurd h (by omega)
theorem dfX3_ok : ∀ j, j < 8 → defaultValue (tyX3 j) = vp_V [.int 0, .int 0, .null, .int 0, .null, .null, .null, .null] j := by
  intro j hj
  match j, hj with
  | 0, _ => rfl
  | 1, _ => rfl
  | 2, _ => rfl
  | 3, _ => rfl
  | 4, _ => rfl
  | 5, _ => rfl
  | 6, _ => rfl
  | 7, _ => rfl
  | n + 8, h => exact absurd h (by omega)
theorem dfX4_ok : ∀ j, j < 3 → defaultValue (tyX4 j) = vp_V [.null, .int 0, .null] j := by
  intro j hj
  match j, hj with
  | 0, _ => rfl
  | 1, _ => rfl
  | 2, _ => rfl
  | n + 3, h => exact absurd h (by omega)
theorem dfX5_ok : ∀ j, j < 6 → defaultValue (tyX5 j) = vp_V [.null, .null, .null, .int 0, .int 0, .null] j := by
  intro j hj
  match j, hj with
  | 0, _ => rfl
  | 1, _ => rfl
  | 2, _ => rfl
  | 3, _ => rfl
  | 4, _ => rfl
  | 5, _ => rfl
  | n + 6, h => exact absurd h (by omega)
theorem dfX6_ok : ∀ j, j < 8 → defaultValue (tyX6 j) = vp_V [.int 0, .null, .null, .null, .int 0, .null, .null, .null] j := by
  intro j hj
  match j, hj with
  | 0, _ => rfl
  | 1, _ => rfl
  | 2, _ => rfl
  | 3, _ => rfl
  | 4, _ => rfl
  | 5, _ => rfl
  | 6, _ => rfl
  | 7, _ => rfl
  | n + 8, h => exact absurd h (by omega)
theorem dfX7_ok : ∀ j, j < 10 → defaultValue (tyX7 j) = vp_V [.int 0, .int 0, .int 0, .int 0, .null, .null, .null, .null, .null, .null] j := by
  intro j hj
  match j, hj with
  | 0, _ => rfl
  | 1, _ => rfl
  | 2, _ => rfl
  | 3, _ => rfl
  | 4, _ => rfl
  | 5, _ => rfl
  | 6, _ => rfl
  | 7, _ => rfl
  | 8, _ => rfl
  | 9, _ => rfl
  | n + 10, h => exact absurd h (by omega)
theorem dfX8_ok : ∀ j, j < 9 → defaultValue (tyX8 j) = vp_V [.null, .null, .int 0, .int 0, .null, .null, .null, .null, .null] j := by
  intro j hj
  match j, hj with
  | 0, _ => rfl
  | 1, _ => rfl
  | 2, _ => rfl
  | 3, _ => rfl
  | 4, _ => rfl
  | 5, _ => rfl
  | 6, _ => rfl
  | 7, _ => rfl
  | 8, _ => rfl
  | n + 9, h => exact absurd h (by omega)
theorem dfX9_ok : ∀ j, j < 7 → defaultValue (tyX9 j) = vp_V [.int 0, .null, .int 0, .int 0, .int 0, .int 0, .null] j := by
  intro j hj
  match j, hj with
  | 0, _ => rfl
  | 1, _ => rfl
  | 2, _ => rfl
  | 3, _ => rfl
  | 4, _ => rfl
  | 5, _ => rfl
  | 6, _ => rfl
  | n + 7, h => exact absurd h (by omega)
theorem dfX10_ok : ∀ j, j < 5 → defaultValue (tyX10 j) = vp_V [.int 0, .null, .null, .null, .null] j := by
  intro j hj
  match j, hj with
  | 0, _ => rfl
  | 1, _ => rfl
  | 2, _ => rfl
  | 3, _ => rfl
  | 4, _ => rfl
  | n + 5, h => exact absurd h (by omega)
theorem dX2_init_0 : decode cX2_init 0 = .ok (.aload_n 0, 1) := by decide +kernel
theorem dX2_init_1 : decode cX2_init 1 = .ok (.invokespecial 3, 3) := by decide +kernel
theorem dX2_init_4 : decode cX2_init 4 = .ok (.aload_n 0, 1) := by decide +kernel
theorem dX2_init_5 : decode cX2_init 5 = .ok (.iconst 2, 1) := by decide +kernel
theorem dX2_init_6 : decode cX2_init 6 = .ok (.putfield 9, 3) := by decide +kernel
theorem dX2_init_9 : decode cX2_init 9 = .ok (.aload_n 0, 1) := by decide +kernel
theorem dX2_init_10 : decode cX2_init 10 = .ok (.bipush 13, 2) := by decide +kernel
theorem dX2_init_12 : decode cX2_init 12 = .ok (.newarray .int, 2) := by decide +kernel
theorem dX2_init_14 : decode cX2_init 14 = .ok (.putfield 15, 3) := by decide +kernel
theorem dX2_init_17 : decode cX2_init 17 = .ok (.aload_n 0, 1) := by decide +kernel
theorem dX2_init_18 : decode cX2_init 18 = .ok (.bipush 13, 2) := by decide +kernel
theorem dX2_init_20 : decode cX2_init 20 = .ok (.newarray .int, 2) := by decide +kernel
theorem dX2_init_22 : decode cX2_init 22 = .ok (.putfield 19, 3) := by decide +kernel
theorem dX2_init_25 : decode cX2_init 25 = .ok (.aload_n 0, 1) := by decide +kernel
theorem dX2_init_26 : decode cX2_init 26 = .ok (.bipush 13, 2) := by decide +kernel
theorem dX2_init_28 : decode cX2_init 28 = .ok (.newarray .int, 2) := by decide +kernel
theorem dX2_init_30 : decode cX2_init 30 = .ok (.putfield 22, 3) := by decide +kernel
theorem dX2_init_33 : decode cX2_init 33 = .ok (.aload_n 0, 1) := by decide +kernel
theorem dX2_init_34 : decode cX2_init 34 = .ok (.bipush 13, 2) := by decide +kernel
theorem dX2_init_36 : decode cX2_init 36 = .ok (.newarray .int, 2) := by decide +kernel
theorem dX2_init_38 : decode cX2_init 38 = .ok (.putfield 25, 3) := by decide +kernel
theorem dX2_init_41 : decode cX2_init 41 = .ok (.aload_n 0, 1) := by decide +kernel
theorem dX2_init_42 : decode cX2_init 42 = .ok (.bipush 13, 2) := by decide +kernel
theorem dX2_init_44 : decode cX2_init 44 = .ok (.newarray .int, 2) := by decide +kernel
theorem dX2_init_46 : decode cX2_init 46 = .ok (.putfield 28, 3) := by decide +kernel
theorem dX2_init_49 : decode cX2_init 49 = .ok (.aload_n 0, 1) := by decide +kernel
theorem dX2_init_50 : decode cX2_init 50 = .ok (.bipush 10, 2) := by decide +kernel
theorem dX2_init_52 : decode cX2_init 52 = .ok (.newarray .int, 2) := by decide +kernel
theorem dX2_init_54 : decode cX2_init 54 = .ok (.putfield 31, 3) := by decide +kernel
theorem dX2_init_57 : decode cX2_init 57 = .ok (.aload_n 0, 1) := by decide +kernel
theorem dX2_init_58 : decode cX2_init 58 = .ok (.bipush 10, 2) := by decide +kernel
theorem dX2_init_60 : decode cX2_init 60 = .ok (.newarray .int, 2) := by decide +kernel
theorem dX2_init_62 : decode cX2_init 62 = .ok (.putfield 34, 3) := by decide +kernel
theorem dX2_init_65 : decode cX2_init 65 = .ok (.aload_n 0, 1) := by decide +kernel
theorem dX2_init_66 : decode cX2_init 66 = .ok (.iconst 3, 1) := by decide +kernel
theorem dX2_init_67 : decode cX2_init 67 = .ok (.newarray .int, 2) := by decide +kernel
theorem dX2_init_69 : decode cX2_init 69 = .ok (.putfield 37, 3) := by decide +kernel
theorem dX2_init_72 : decode cX2_init 72 = .ok (.aload_n 0, 1) := by decide +kernel
theorem dX2_init_73 : decode cX2_init 73 = .ok (.iconst 3, 1) := by decide +kernel
theorem dX2_init_74 : decode cX2_init 74 = .ok (.newarray .int, 2) := by decide +kernel
theorem dX2_init_76 : decode cX2_init 76 = .ok (.putfield 40, 3) := by decide +kernel
theorem dX2_init_79 : decode cX2_init 79 = .ok (.aload_n 0, 1) := by decide +kernel
theorem dX2_init_80 : decode cX2_init 80 = .ok (.iconst 3, 1) := by decide +kernel
theorem dX2_init_81 : decode cX2_init 81 = .ok (.newarray .int, 2) := by decide +kernel
theorem dX2_init_83 : decode cX2_init 83 = .ok (.putfield 43, 3) := by decide +kernel
theorem dX2_init_86 : decode cX2_init 86 = .ok (.aload_n 0, 1) := by decide +kernel
theorem dX2_init_87 : decode cX2_init 87 = .ok (.iconst 1, 1) := by decide +kernel
theorem dX2_init_88 : decode cX2_init 88 = .ok (.putfield 46, 3) := by decide +kernel
theorem dX2_init_91 : decode cX2_init 91 = .ok (.return_, 1) := by decide +kernel
theorem dX6_init_0 : decode cX6_init 0 = .ok (.aload_n 0, 1) := by decide +kernel
theorem dX6_init_1 : decode cX6_init 1 = .ok (.invokespecial 3, 3) := by decide +kernel
theorem dX6_init_4 : decode cX6_init 4 = .ok (.aload_n 0, 1) := by decide +kernel
theorem dX6_init_5 : decode cX6_init 5 = .ok (.bipush 9, 2) := by decide +kernel
theorem dX6_init_7 : decode cX6_init 7 = .ok (.newarray .int, 2) := by decide +kernel
theorem dX6_init_9 : decode cX6_init 9 = .ok (.putfield 9, 3) := by decide +kernel
theorem dX6_init_12 : decode cX6_init 12 = .ok (.aload_n 0, 1) := by decide +kernel
theorem dX6_init_13 : decode cX6_init 13 = .ok (.bipush 9, 2) := by decide +kernel
theorem dX6_init_15 : decode cX6_init 15 = .ok (.newarray .int, 2) := by decide +kernel
theorem dX6_init_17 : decode cX6_init 17 = .ok (.putfield 15, 3) := by decide +kernel
theorem dX6_init_20 : decode cX6_init 20 = .ok (.aload_n 0, 1) := by decide +kernel
theorem dX6_init_21 : decode cX6_init 21 = .ok (.bipush 9, 2) := by decide +kernel
theorem dX6_init_23 : decode cX6_init 23 = .ok (.newarray .int, 2) := by decide +kernel
theorem dX6_init_25 : decode cX6_init 25 = .ok (.putfield 18, 3) := by decide +kernel
theorem dX6_init_28 : decode cX6_init 28 = .ok (.aload_n 0, 1) := by decide +kernel
theorem dX6_init_29 : decode cX6_init 29 = .ok (.bipush 6, 2) := by decide +kernel
theorem dX6_init_31 : decode cX6_init 31 = .ok (.newarray .int, 2) := by decide +kernel
theorem dX6_init_33 : decode cX6_init 33 = .ok (.putfield 21, 3) := by decide +kernel
theorem dX6_init_36 : decode cX6_init 36 = .ok (.aload_n 0, 1) := by decide +kernel
theorem dX6_init_37 : decode cX6_init 37 = .ok (.bipush 6, 2) := by decide +kernel
theorem dX6_init_39 : decode cX6_init 39 = .ok (.newarray .int, 2) := by decide +kernel
theorem dX6_init_41 : decode cX6_init 41 = .ok (.putfield 24, 3) := by decide +kernel
theorem dX6_init_44 : decode cX6_init 44 = .ok (.aload_n 0, 1) := by decide +kernel
theorem dX6_init_45 : decode cX6_init 45 = .ok (.bipush 6, 2) := by decide +kernel
theorem dX6_init_47 : decode cX6_init 47 = .ok (.newarray .int, 2) := by decide +kernel
theorem dX6_init_49 : decode cX6_init 49 = .ok (.putfield 27, 3) := by decide +kernel
theorem dX6_init_52 : decode cX6_init 52 = .ok (.return_, 1) := by decide +kernel
theorem dX7_init_0 : decode cX7_init 0 = .ok (.aload_n 0, 1) := by decide +kernel
theorem dX7_init_1 : decode cX7_init 1 = .ok (.invokespecial 3, 3) := by decide +kernel
theorem dX7_init_4 : decode cX7_init 4 = .ok (.aload_n 0, 1) := by decide +kernel
theorem dX7_init_5 : decode cX7_init 5 = .ok (.bipush 13, 2) := by decide +kernel
theorem dX7_init_7 : decode cX7_init 7 = .ok (.newarray .int, 2) := by decide +kernel
theorem dX7_init_9 : decode cX7_init 9 = .ok (.putfield 9, 3) := by decide +kernel
theorem dX7_init_12 : decode cX7_init 12 = .ok (.aload_n 0, 1) := by decide +kernel
theorem dX7_init_13 : decode cX7_init 13 = .ok (.bipush 13, 2) := by decide +kernel
theorem dX7_init_15 : decode cX7_init 15 = .ok (.newarray .int, 2) := by decide +kernel
theorem dX7_init_17 : decode cX7_init 17 = .ok (.putfield 15, 3) := by decide +kernel
theorem dX7_init_20 : decode cX7_init 20 = .ok (.aload_n 0, 1) := by decide +kernel
theorem dX7_init_21 : decode cX7_init 21 = .ok (.bipush 13, 2) := by decide +kernel
theorem dX7_init_23 : decode cX7_init 23 = .ok (.newarray .int, 2) := by decide +kernel
theorem dX7_init_25 : decode cX7_init 25 = .ok (.putfield 18, 3) := by decide +kernel
theorem dX7_init_28 : decode cX7_init 28 = .ok (.aload_n 0, 1) := by decide +kernel
theorem dX7_init_29 : decode cX7_init 29 = .ok (.bipush 10, 2) := by decide +kernel
theorem dX7_init_31 : decode cX7_init 31 = .ok (.newarray .int, 2) := by decide +kernel
theorem dX7_init_33 : decode cX7_init 33 = .ok (.putfield 21, 3) := by decide +kernel
theorem dX7_init_36 : decode cX7_init 36 = .ok (.aload_n 0, 1) := by decide +kernel
theorem dX7_init_37 : decode cX7_init 37 = .ok (.bipush 10, 2) := by decide +kernel
theorem dX7_init_39 : decode cX7_init 39 = .ok (.newarray .int, 2) := by decide +kernel
theorem dX7_init_41 : decode cX7_init 41 = .ok (.putfield 24, 3) := by decide +kernel
theorem dX7_init_44 : decode cX7_init 44 = .ok (.aload_n 0, 1) := by decide +kernel
theorem dX7_init_45 : decode cX7_init 45 = .ok (.aload_n 1, 1) := by decide +kernel
theorem dX7_init_46 : decode cX7_init 46 = .ok (.putfield 27, 3) := by decide +kernel
theorem dX7_init_49 : decode cX7_init 49 = .ok (.return_, 1) := by decide +kernel
theorem dX10_init_0 : decode cX10_init 0 = .ok (.aload_n 0, 1) := by decide +kernel
theorem dX10_init_1 : decode cX10_init 1 = .ok (.invokespecial 3, 3) := by decide +kernel
theorem dX10_init_4 : decode cX10_init 4 = .ok (.aload_n 0, 1) := by decide +kernel
theorem dX10_init_5 : decode cX10_init 5 = .ok (.bipush 15, 2) := by decide +kernel
theorem dX10_init_7 : decode cX10_init 7 = .ok (.newarray .int, 2) := by decide +kernel
theorem dX10_init_9 : decode cX10_init 9 = .ok (.putfield 9, 3) := by decide +kernel
theorem dX10_init_12 : decode cX10_init 12 = .ok (.aload_n 0, 1) := by decide +kernel
theorem dX10_init_13 : decode cX10_init 13 = .ok (.bipush 15, 2) := by decide +kernel
theorem dX10_init_15 : decode cX10_init 15 = .ok (.newarray .int, 2) := by decide +kernel
theorem dX10_init_17 : decode cX10_init 17 = .ok (.putfield 15, 3) := by decide +kernel
theorem dX10_init_20 : decode cX10_init 20 = .ok (.aload_n 0, 1) := by decide +kernel
theorem dX10_init_21 : decode cX10_init 21 = .ok (.aload_n 1, 1) := by decide +kernel
theorem dX10_init_22 : decode cX10_init 22 = .ok (.putfield 18, 3) := by decide +kernel
theorem dX10_init_25 : decode cX10_init 25 = .ok (.aload_n 0, 1) := by decide +kernel
theorem dX10_init_26 : decode cX10_init 26 = .ok (.aload_n 2, 1) := by decide +kernel
theorem dX10_init_27 : decode cX10_init 27 = .ok (.putfield 22, 3) := by decide +kernel
theorem dX10_init_30 : decode cX10_init 30 = .ok (.return_, 1) := by decide +kernel
theorem dX9_init_0 : decode cX9_init 0 = .ok (.aload_n 0, 1) := by decide +kernel
theorem dX9_init_1 : decode cX9_init 1 = .ok (.invokespecial 3, 3) := by decide +kernel
theorem dX9_init_4 : decode cX9_init 4 = .ok (.aload_n 0, 1) := by decide +kernel
theorem dX9_init_5 : decode cX9_init 5 = .ok (.sipush 400, 3) := by decide +kernel
theorem dX9_init_8 : decode cX9_init 8 = .ok (.newarray .int, 2) := by decide +kernel
theorem dX9_init_10 : decode cX9_init 10 = .ok (.putfield 9, 3) := by decide +kernel
theorem dX9_init_13 : decode cX9_init 13 = .ok (.aload_n 0, 1) := by decide +kernel
theorem dX9_init_14 : decode cX9_init 14 = .ok (.aload_n 1, 1) := by decide +kernel
theorem dX9_init_15 : decode cX9_init 15 = .ok (.putfield 15, 3) := by decide +kernel
theorem dX9_init_18 : decode cX9_init 18 = .ok (.return_, 1) := by decide +kernel
theorem dX8_init_0 : decode cX8_init 0 = .ok (.aload_n 0, 1) := by decide +kernel
theorem dX8_init_1 : decode cX8_init 1 = .ok (.invokespecial 3, 3) := by decide +kernel
theorem dX8_init_4 : decode cX8_init 4 = .ok (.aload_n 0, 1) := by decide +kernel
theorem dX8_init_5 : decode cX8_init 5 = .ok (.iconst 1, 1) := by decide +kernel
theorem dX8_init_6 : decode cX8_init 6 = .ok (.newarray .long, 2) := by decide +kernel
theorem dX8_init_8 : decode cX8_init 8 = .ok (.putfield 9, 3) := by decide +kernel
theorem dX8_init_11 : decode cX8_init 11 = .ok (.aload_n 0, 1) := by decide +kernel
theorem dX8_init_12 : decode cX8_init 12 = .ok (.iconst 1, 1) := by decide +kernel
theorem dX8_init_13 : decode cX8_init 13 = .ok (.newarray .long, 2) := by decide +kernel
theorem dX8_init_15 : decode cX8_init 15 = .ok (.putfield 15, 3) := by decide +kernel
theorem dX8_init_18 : decode cX8_init 18 = .ok (.aload_n 0, 1) := by decide +kernel
theorem dX8_init_19 : decode cX8_init 19 = .ok (.iconst 1, 1) := by decide +kernel
theorem dX8_init_20 : decode cX8_init 20 = .ok (.newarray .int, 2) := by decide +kernel
theorem dX8_init_22 : decode cX8_init 22 = .ok (.putfield 18, 3) := by decide +kernel
theorem dX8_init_25 : decode cX8_init 25 = .ok (.aload_n 0, 1) := by decide +kernel
theorem dX8_init_26 : decode cX8_init 26 = .ok (.iconst 1, 1) := by decide +kernel
theorem dX8_init_27 : decode cX8_init 27 = .ok (.newarray .byte, 2) := by decide +kernel
theorem dX8_init_29 : decode cX8_init 29 = .ok (.putfield 22, 3) := by decide +kernel
theorem dX8_init_32 : decode cX8_init 32 = .ok (.aload_n 0, 1) := by decide +kernel
theorem dX8_init_33 : decode cX8_init 33 = .ok (.new 26, 3) := by decide +kernel
theorem dX8_init_36 : decode cX8_init 36 = .ok (.dup, 1) := by decide +kernel
theorem dX8_init_37 : decode cX8_init 37 = .ok (.aload_n 1, 1) := by decide +kernel
theorem dX8_init_38 : decode cX8_init 38 = .ok (.invokespecial 28, 3) := by decide +kernel
theorem dX8_init_41 : decode cX8_init 41 = .ok (.putfield 31, 3) := by decide +kernel
theorem dX8_init_44 : decode cX8_init 44 = .ok (.aload_n 0, 1) := by decide +kernel
theorem dX8_init_45 : decode cX8_init 45 = .ok (.new 35, 3) := by decide +kernel
theorem dX8_init_48 : decode cX8_init 48 = .ok (.dup, 1) := by decide +kernel
theorem dX8_init_49 : decode cX8_init 49 = .ok (.aload_n 1, 1) := by decide +kernel
theorem dX8_init_50 : decode cX8_init 50 = .ok (.aload_n 0, 1) := by decide +kernel
theorem dX8_init_51 : decode cX8_init 51 = .ok (.getfield 31, 3) := by decide +kernel
theorem dX8_init_54 : decode cX8_init 54 = .ok (.invokespecial 37, 3) := by decide +kernel
theorem dX8_init_57 : decode cX8_init 57 = .ok (.putfield 40, 3) := by decide +kernel
theorem dX8_init_60 : decode cX8_init 60 = .ok (.aload_n 0, 1) := by decide +kernel
theorem dX8_init_61 : decode cX8_init 61 = .ok (.new 35, 3) := by decide +kernel
theorem dX8_init_64 : decode cX8_init 64 = .ok (.dup, 1) := by decide +kernel
theorem dX8_init_65 : decode cX8_init 65 = .ok (.aload_n 1, 1) := by decide +kernel
theorem dX8_init_66 : decode cX8_init 66 = .ok (.aload_n 0, 1) := by decide +kernel
theorem dX8_init_67 : decode cX8_init 67 = .ok (.getfield 31, 3) := by decide +kernel
theorem dX8_init_70 : decode cX8_init 70 = .ok (.invokespecial 37, 3) := by decide +kernel
theorem dX8_init_73 : decode cX8_init 73 = .ok (.putfield 44, 3) := by decide +kernel
theorem dX8_init_76 : decode cX8_init 76 = .ok (.return_, 1) := by decide +kernel
theorem dX3_init_0 : decode cX3_init 0 = .ok (.aload_n 0, 1) := by decide +kernel
theorem dX3_init_1 : decode cX3_init 1 = .ok (.invokespecial 3, 3) := by decide +kernel
theorem dX3_init_4 : decode cX3_init 4 = .ok (.aload_n 0, 1) := by decide +kernel
theorem dX3_init_5 : decode cX3_init 5 = .ok (.bipush 60, 2) := by decide +kernel
theorem dX3_init_7 : decode cX3_init 7 = .ok (.newarray .int, 2) := by decide +kernel
theorem dX3_init_9 : decode cX3_init 9 = .ok (.putfield 9, 3) := by decide +kernel
theorem dX3_init_12 : decode cX3_init 12 = .ok (.aload_n 0, 1) := by decide +kernel
theorem dX3_init_13 : decode cX3_init 13 = .ok (.bipush 60, 2) := by decide +kernel
theorem dX3_init_15 : decode cX3_init 15 = .ok (.newarray .long, 2) := by decide +kernel
theorem dX3_init_17 : decode cX3_init 17 = .ok (.putfield 15, 3) := by decide +kernel
theorem dX3_init_20 : decode cX3_init 20 = .ok (.aload_n 0, 1) := by decide +kernel
theorem dX3_init_21 : decode cX3_init 21 = .ok (.bipush 60, 2) := by decide +kernel
theorem dX3_init_23 : decode cX3_init 23 = .ok (.newarray .long, 2) := by decide +kernel
theorem dX3_init_25 : decode cX3_init 25 = .ok (.putfield 19, 3) := by decide +kernel
theorem dX3_init_28 : decode cX3_init 28 = .ok (.aload_n 0, 1) := by decide +kernel
theorem dX3_init_29 : decode cX3_init 29 = .ok (.aload_n 1, 1) := by decide +kernel
theorem dX3_init_30 : decode cX3_init 30 = .ok (.putfield 22, 3) := by decide +kernel
theorem dX3_init_33 : decode cX3_init 33 = .ok (.aload_n 0, 1) := by decide +kernel
theorem dX3_init_34 : decode cX3_init 34 = .ok (.aload_n 1, 1) := by decide +kernel
theorem dX3_init_35 : decode cX3_init 35 = .ok (.getfield 26, 3) := by decide +kernel
theorem dX3_init_38 : decode cX3_init 38 = .ok (.putfield 32, 3) := by decide +kernel
theorem dX3_init_41 : decode cX3_init 41 = .ok (.aload_n 0, 1) := by decide +kernel
theorem dX3_init_42 : decode cX3_init 42 = .ok (.iload_n 2, 1) := by decide +kernel
theorem dX3_init_43 : decode cX3_init 43 = .ok (.putfield 33, 3) := by decide +kernel
theorem dX3_init_46 : decode cX3_init 46 = .ok (.return_, 1) := by decide +kernel
theorem dX0_init_0 : decode cX0_init 0 = .ok (.aload_n 0, 1) := by decide +kernel
theorem dX0_init_1 : decode cX0_init 1 = .ok (.invokespecial 3, 3) := by decide +kernel
theorem dX0_init_4 : decode cX0_init 4 = .ok (.aload_n 0, 1) := by decide +kernel
theorem dX0_init_5 : decode cX0_init 5 = .ok (.iconst 1, 1) := by decide +kernel
theorem dX0_init_6 : decode cX0_init 6 = .ok (.newarray .long, 2) := by decide +kernel
theorem dX0_init_8 : decode cX0_init 8 = .ok (.putfield 9, 3) := by decide +kernel
theorem dX0_init_11 : decode cX0_init 11 = .ok (.aload_n 0, 1) := by decide +kernel
theorem dX0_init_12 : decode cX0_init 12 = .ok (.iconst 1, 1) := by decide +kernel
theorem dX0_init_13 : decode cX0_init 13 = .ok (.newarray .long, 2) := by decide +kernel
theorem dX0_init_15 : decode cX0_init 15 = .ok (.putfield 15, 3) := by decide +kernel
theorem dX0_init_18 : decode cX0_init 18 = .ok (.aload_n 0, 1) := by decide +kernel
theorem dX0_init_19 : decode cX0_init 19 = .ok (.iconst 1, 1) := by decide +kernel
theorem dX0_init_20 : decode cX0_init 20 = .ok (.newarray .long, 2) := by decide +kernel
theorem dX0_init_22 : decode cX0_init 22 = .ok (.putfield 18, 3) := by decide +kernel
theorem dX0_init_25 : decode cX0_init 25 = .ok (.aload_n 0, 1) := by decide +kernel
theorem dX0_init_26 : decode cX0_init 26 = .ok (.iconst 1, 1) := by decide +kernel
theorem dX0_init_27 : decode cX0_init 27 = .ok (.newarray .long, 2) := by decide +kernel
theorem dX0_init_29 : decode cX0_init 29 = .ok (.putfield 21, 3) := by decide +kernel
theorem dX0_init_32 : decode cX0_init 32 = .ok (.aload_n 0, 1) := by decide +kernel
theorem dX0_init_33 : decode cX0_init 33 = .ok (.iconst 1, 1) := by decide +kernel
theorem dX0_init_34 : decode cX0_init 34 = .ok (.newarray .long, 2) := by decide +kernel
theorem dX0_init_36 : decode cX0_init 36 = .ok (.putfield 24, 3) := by decide +kernel
theorem dX0_init_39 : decode cX0_init 39 = .ok (.aload_n 0, 1) := by decide +kernel
theorem dX0_init_40 : decode cX0_init 40 = .ok (.aload_n 1, 1) := by decide +kernel
theorem dX0_init_41 : decode cX0_init 41 = .ok (.putfield 27, 3) := by decide +kernel
theorem dX0_init_44 : decode cX0_init 44 = .ok (.aload_n 0, 1) := by decide +kernel
theorem dX0_init_45 : decode cX0_init 45 = .ok (.aload_n 2, 1) := by decide +kernel
theorem dX0_init_46 : decode cX0_init 46 = .ok (.putfield 31, 3) := by decide +kernel
theorem dX0_init_49 : decode cX0_init 49 = .ok (.aload_n 0, 1) := by decide +kernel
theorem dX0_init_50 : decode cX0_init 50 = .ok (.aload_n 3, 1) := by decide +kernel
theorem dX0_init_51 : decode cX0_init 51 = .ok (.putfield 35, 3) := by decide +kernel
theorem dX0_init_54 : decode cX0_init 54 = .ok (.return_, 1) := by decide +kernel
theorem dX5_init_0 : decode cX5_init 0 = .ok (.aload_n 0, 1) := by decide +kernel
theorem dX5_init_1 : decode cX5_init 1 = .ok (.invokespecial 3, 3) := by decide +kernel
theorem dX5_init_4 : decode cX5_init 4 = .ok (.aload_n 0, 1) := by decide +kernel
theorem dX5_init_5 : decode cX5_init 5 = .ok (.iconst 1, 1) := by decide +kernel
theorem dX5_init_6 : decode cX5_init 6 = .ok (.newarray .byte, 2) := by decide +kernel
theorem dX5_init_8 : decode cX5_init 8 = .ok (.putfield 9, 3) := by decide +kernel
theorem dX5_init_11 : decode cX5_init 11 = .ok (.aload_n 0, 1) := by decide +kernel
theorem dX5_init_12 : decode cX5_init 12 = .ok (.iconst (-1), 1) := by decide +kernel
theorem dX5_init_13 : decode cX5_init 13 = .ok (.putfield 15, 3) := by decide +kernel
theorem dX5_init_16 : decode cX5_init 16 = .ok (.aload_n 0, 1) := by decide +kernel
theorem dX5_init_17 : decode cX5_init 17 = .ok (.iconst (-1), 1) := by decide +kernel
theorem dX5_init_18 : decode cX5_init 18 = .ok (.putfield 19, 3) := by decide +kernel
theorem dX5_init_21 : decode cX5_init 21 = .ok (.aload_n 0, 1) := by decide +kernel
theorem dX5_init_22 : decode cX5_init 22 = .ok (.bipush 100, 2) := by decide +kernel
theorem dX5_init_24 : decode cX5_init 24 = .ok (.newarray .long, 2) := by decide +kernel
theorem dX5_init_26 : decode cX5_init 26 = .ok (.putfield 22, 3) := by decide +kernel
theorem dX5_init_29 : decode cX5_init 29 = .ok (.aload_n 0, 1) := by decide +kernel
theorem dX5_init_30 : decode cX5_init 30 = .ok (.aload_n 1, 1) := by decide +kernel
theorem dX5_init_31 : decode cX5_init 31 = .ok (.putfield 26, 3) := by decide +kernel
theorem dX5_init_34 : decode cX5_init 34 = .ok (.aload_n 0, 1) := by decide +kernel
theorem dX5_init_35 : decode cX5_init 35 = .ok (.aload_n 2, 1) := by decide +kernel
theorem dX5_init_36 : decode cX5_init 36 = .ok (.putfield 30, 3) := by decide +kernel
theorem dX5_init_39 : decode cX5_init 39 = .ok (.return_, 1) := by decide +kernel
theorem dX1_init_0 : decode cX1_init 0 = .ok (.aload_n 0, 1) := by decide +kernel
theorem dX1_init_1 : decode cX1_init 1 = .ok (.invokespecial 3, 3) := by decide +kernel
theorem dX1_init_4 : decode cX1_init 4 = .ok (.aload_n 0, 1) := by decide +kernel
theorem dX1_init_5 : decode cX1_init 5 = .ok (.new 9, 3) := by decide +kernel
theorem dX1_init_8 : decode cX1_init 8 = .ok (.dup, 1) := by decide +kernel
theorem dX1_init_9 : decode cX1_init 9 = .ok (.invokespecial 11, 3) := by decide +kernel
theorem dX1_init_12 : decode cX1_init 12 = .ok (.putfield 12, 3) := by decide +kernel
theorem dX1_init_15 : decode cX1_init 15 = .ok (.aload_n 0, 1) := by decide +kernel
theorem dX1_init_16 : decode cX1_init 16 = .ok (.new 18, 3) := by decide +kernel
theorem dX1_init_19 : decode cX1_init 19 = .ok (.dup, 1) := by decide +kernel
theorem dX1_init_20 : decode cX1_init 20 = .ok (.aload_n 0, 1) := by decide +kernel
theorem dX1_init_21 : decode cX1_init 21 = .ok (.getfield 12, 3) := by decide +kernel
theorem dX1_init_24 : decode cX1_init 24 = .ok (.invokespecial 20, 3) := by decide +kernel
theorem dX1_init_27 : decode cX1_init 27 = .ok (.putfield 23, 3) := by decide +kernel
theorem dX1_init_30 : decode cX1_init 30 = .ok (.aload_n 0, 1) := by decide +kernel
theorem dX1_init_31 : decode cX1_init 31 = .ok (.iconst 1, 1) := by decide +kernel
theorem dX1_init_32 : decode cX1_init 32 = .ok (.newarray .byte, 2) := by decide +kernel
theorem dX1_init_34 : decode cX1_init 34 = .ok (.putfield 27, 3) := by decide +kernel
theorem dX1_init_37 : decode cX1_init 37 = .ok (.aload_n 0, 1) := by decide +kernel
theorem dX1_init_38 : decode cX1_init 38 = .ok (.aload_n 1, 1) := by decide +kernel
theorem dX1_init_39 : decode cX1_init 39 = .ok (.putfield 31, 3) := by decide +kernel
theorem dX1_init_42 : decode cX1_init 42 = .ok (.aload_n 0, 1) := by decide +kernel
theorem dX1_init_43 : decode cX1_init 43 = .ok (.aload_n 2, 1) := by decide +kernel
theorem dX1_init_44 : decode cX1_init 44 = .ok (.putfield 34, 3) := by decide +kernel
theorem dX1_init_47 : decode cX1_init 47 = .ok (.return_, 1) := by decide +kernel
theorem dX4_init_0 : decode cX4_init 0 = .ok (.aload_n 0, 1) := by decide +kernel
theorem dX4_init_1 : decode cX4_init 1 = .ok (.invokespecial 3, 3) := by decide +kernel
theorem dX4_init_4 : decode cX4_init 4 = .ok (.aload_n 0, 1) := by decide +kernel
theorem dX4_init_5 : decode cX4_init 5 = .ok (.iconst 1, 1) := by decide +kernel
theorem dX4_init_6 : decode cX4_init 6 = .ok (.newarray .byte, 2) := by decide +kernel
theorem dX4_init_8 : decode cX4_init 8 = .ok (.putfield 9, 3) := by decide +kernel
theorem dX4_init_11 : decode cX4_init 11 = .ok (.aload_n 0, 1) := by decide +kernel
theorem dX4_init_12 : decode cX4_init 12 = .ok (.aload_n 1, 1) := by decide +kernel
theorem dX4_init_13 : decode cX4_init 13 = .ok (.putfield 15, 3) := by decide +kernel
theorem dX4_init_16 : decode cX4_init 16 = .ok (.return_, 1) := by decide +kernel
def wX2 (cy : Nat → ClassId) (h : Nat) (r : Nat → Nat) : va_W := [(h, .inr (2, [.int 2, .int 0, .ref (r 0), .ref (r 1), .ref (r 2), .ref (r 3), .ref (r 4), .int 0, .ref (r 5), .ref (r 6), .int 0, .ref (r 7), .ref (r 8), .ref (r 9), .int 1, .int 0, .int 0, .int 0])), ((r 0), .inl (cy 0, (13, .inl (fun _ => 0)))), ((r 1), .inl (cy 0, (13, .inl (fun _ => 0)))), ((r 2), .inl (cy 0, (13, .inl (fun _ => 0)))), ((r 3), .inl (cy 0, (13, .inl (fun _ => 0)))), ((r 4), .inl (cy 0, (13, .inl (fun _ => 0)))), ((r 5), .inl (cy 0, (10, .inl (fun _ => 0)))), ((r 6), .inl (cy 0, (10, .inl (fun _ => 0)))), ((r 7), .inl (cy 0, (3, .inl (fun _ => 0)))), ((r 8), .inl (cy 0, (3, .inl (fun _ => 0)))), ((r 9), .inl (cy 0, (3, .inl (fun _ => 0))))]
set_option maxRecDepth 20000 in
theorem k_X2_init (l : Launch) (D : va_G) (cy : Nat → ClassId) (z : (Nat → Nat) × (Nat → Nat) × Nat) (h : Nat) : CX l yX2_init cX2_init 1 ({ frames := 1, cells := 10, slots := 94, locals := 20 } : Room) D cy z [.ref h] [(h, .inr (2, [.int 0, .int 0, .null, .null, .null, .null, .null, .int 0, .null, .null, .int 0, .null, .null, .null, .int 0, .int 0, .int 0, .int 0]))] (fun r => wX2 cy h r) 10 94 := by
  refine cx_of (own := RX2) (lc := [(0, .ref h)]) (by decide +kernel) rfl rfl (Nat.le_of_ble_eq_true rfl) rfl ?_
  intro X hXl hXz hXD hXc hC hI hQ
  subst hXl; subst hXz; subst hXD; subst hXc
  refine gn_aload_n (pc' := 1) hC dX2_init_0 rfl rfl ?_
  refine gn_objInit (pc' := 4) hC mw_57 dX2_init_1 rfl (Nat.le_of_ble_eq_true rfl) (Nat.le_of_ble_eq_true rfl) ?_
  refine gn_aload_n (pc' := 5) hC dX2_init_4 rfl rfl ?_
  refine gn_iconst (v := (2 : Int32)) (pc' := 6) hC dX2_init_5 (by decide) rfl ?_
  refine gn_put (T := TX2) (ci := 2) (v := .int 2) (fs' := [.int 2, .int 0, .null, .null, .null, .null, .null, .int 0, .null, .null, .int 0, .null, .null, .null, .int 0, .int 0, .int 0, .int 0]) (ws' := [(h, .inr (2, [.int 2, .int 0, .null, .null, .null, .null, .null, .int 0, .null, .null, .int 0, .null, .null, .null, .int 0, .int 0, .int 0, .int 0]))]) (pc' := 9) hC 0 0 rfl rfl inlX2 tyX2_ok nmX2 (Nat.le_of_ble_eq_true rfl) mw_58 rfl rfl rfl (Nat.le_of_ble_eq_true rfl) rfl dX2_init_6 rfl rfl rfl ?_
  refine gn_aload_n (pc' := 10) hC dX2_init_9 rfl rfl ?_
  refine gn_bipush (v := (13 : Int32)) (pc' := 12) hC dX2_init_10 (by decide) rfl ?_
  refine gn_newI (ty := .int) (n0 := 13) (pc' := 14) (cells' := 1) (slots' := 13) hC 0 (Or.inl ⟨rfl, rfl⟩) mw_59 rfl (by decide) (Nat.le_of_ble_eq_true rfl) (Nat.le_of_ble_eq_true rfl) dX2_init_12 rfl rfl rfl rfl (fun q0 => ?_)
  refine gn_putF (T := TX2) (ci := 2) (v := .ref q0) (fs' := [.int 2, .int 0, .ref q0, .null, .null, .null, .null, .int 0, .null, .null, .int 0, .null, .null, .null, .int 0, .int 0, .int 0, .int 0]) (ws' := [(h, .inr (2, [.int 2, .int 0, .ref q0, .null, .null, .null, .null, .int 0, .null, .null, .int 0, .null, .null, .null, .int 0, .int 0, .int 0, .int 0])), (q0, .inl (x_cy X 0, (13, .inl (fun _ => 0))))]) (pc' := 17) hC hI 0 2 rfl rfl inlX2 tyX2_ok nmX2 (Nat.le_of_ble_eq_true rfl) mw_60 rfl rfl rfl (Nat.le_of_ble_eq_true rfl) rfl rfl dX2_init_14 rfl rfl rfl ?_
  refine gn_aload_n (pc' := 18) hC dX2_init_17 rfl rfl ?_
  refine gn_bipush (v := (13 : Int32)) (pc' := 20) hC dX2_init_18 (by decide) rfl ?_
  refine gn_newI (ty := .int) (n0 := 13) (pc' := 22) (cells' := 2) (slots' := 26) hC 0 (Or.inl ⟨rfl, rfl⟩) mw_59 rfl (by decide) (Nat.le_of_ble_eq_true rfl) (Nat.le_of_ble_eq_true rfl) dX2_init_20 rfl rfl rfl rfl (fun q1 => ?_)
  refine gn_putF (T := TX2) (ci := 2) (v := .ref q1) (fs' := [.int 2, .int 0, .ref q0, .ref q1, .null, .null, .null, .int 0, .null, .null, .int 0, .null, .null, .null, .int 0, .int 0, .int 0, .int 0]) (ws' := [(h, .inr (2, [.int 2, .int 0, .ref q0, .ref q1, .null, .null, .null, .int 0, .null, .null, .int 0, .null, .null, .null, .int 0, .int 0, .int 0, .int 0])), (q0, .inl (x_cy X 0, (13, .inl (fun _ => 0)))), (q1, .inl (x_cy X 0, (13, .inl (fun _ => 0))))]) (pc' := 25) hC hI 0 3 rfl rfl inlX2 tyX2_ok nmX2 (Nat.le_of_ble_eq_true rfl) mw_61 rfl rfl rfl (Nat.le_of_ble_eq_true rfl) rfl rfl dX2_init_22 rfl rfl rfl ?_
  refine gn_aload_n (pc' := 26) hC dX2_init_25 rfl rfl ?_
  refine gn_bipush (v := (13 : Int32)) (pc' := 28) hC dX2_init_26 (by decide) rfl ?_
  refine gn_newI (ty := .int) (n0 := 13) (pc' := 30) (cells' := 3) (slots' := 39) hC 0 (Or.inl ⟨rfl, rfl⟩) mw_59 rfl (by decide) (Nat.le_of_ble_eq_true rfl) (Nat.le_of_ble_eq_true rfl) dX2_init_28 rfl rfl rfl rfl (fun q2 => ?_)
  refine gn_putF (T := TX2) (ci := 2) (v := .ref q2) (fs' := [.int 2, .int 0, .ref q0, .ref q1, .ref q2, .null, .null, .int 0, .null, .null, .int 0, .null, .null, .null, .int 0, .int 0, .int 0, .int 0]) (ws' := [(h, .inr (2, [.int 2, .int 0, .ref q0, .ref q1, .ref q2, .null, .null, .int 0, .null, .null, .int 0, .null, .null, .null, .int 0, .int 0, .int 0, .int 0])), (q0, .inl (x_cy X 0, (13, .inl (fun _ => 0)))), (q1, .inl (x_cy X 0, (13, .inl (fun _ => 0)))), (q2, .inl (x_cy X 0, (13, .inl (fun _ => 0))))]) (pc' := 33) hC hI 0 4 rfl rfl inlX2 tyX2_ok nmX2 (Nat.le_of_ble_eq_true rfl) mw_62 rfl rfl rfl (Nat.le_of_ble_eq_true rfl) rfl rfl dX2_init_30 rfl rfl rfl ?_
  refine gn_aload_n (pc' := 34) hC dX2_init_33 rfl rfl ?_
  refine gn_bipush (v := (13 : Int32)) (pc' := 36) hC dX2_init_34 (by decide) rfl ?_
  refine gn_newI (ty := .int) (n0 := 13) (pc' := 38) (cells' := 4) (slots' := 52) hC 0 (Or.inl ⟨rfl, rfl⟩) mw_59 rfl (by decide) (Nat.le_of_ble_eq_true rfl) (Nat.le_of_ble_eq_true rfl) dX2_init_36 rfl rfl rfl rfl (fun q3 => ?_)
  refine gn_putF (T := TX2) (ci := 2) (v := .ref q3) (fs' := [.int 2, .int 0, .ref q0, .ref q1, .ref q2, .ref q3, .null, .int 0, .null, .null, .int 0, .null, .null, .null, .int 0, .int 0, .int 0, .int 0]) (ws' := [(h, .inr (2, [.int 2, .int 0, .ref q0, .ref q1, .ref q2, .ref q3, .null, .int 0, .null, .null, .int 0, .null, .null, .null, .int 0, .int 0, .int 0, .int 0])), (q0, .inl (x_cy X 0, (13, .inl (fun _ => 0)))), (q1, .inl (x_cy X 0, (13, .inl (fun _ => 0)))), (q2, .inl (x_cy X 0, (13, .inl (fun _ => 0)))), (q3, .inl (x_cy X 0, (13, .inl (fun _ => 0))))]) (pc' := 41) hC hI 0 5 rfl rfl inlX2 tyX2_ok nmX2 (Nat.le_of_ble_eq_true rfl) mw_63 rfl rfl rfl (Nat.le_of_ble_eq_true rfl) rfl rfl dX2_init_38 rfl rfl rfl ?_
  refine gn_aload_n (pc' := 42) hC dX2_init_41 rfl rfl ?_
  refine gn_bipush (v := (13 : Int32)) (pc' := 44) hC dX2_init_42 (by decide) rfl ?_
  refine gn_newI (ty := .int) (n0 := 13) (pc' := 46) (cells' := 5) (slots' := 65) hC 0 (Or.inl ⟨rfl, rfl⟩) mw_59 rfl (by decide) (Nat.le_of_ble_eq_true rfl) (Nat.le_of_ble_eq_true rfl) dX2_init_44 rfl rfl rfl rfl (fun q4 => ?_)
  refine gn_putF (T := TX2) (ci := 2) (v := .ref q4) (fs' := [.int 2, .int 0, .ref q0, .ref q1, .ref q2, .ref q3, .ref q4, .int 0, .null, .null, .int 0, .null, .null, .null, .int 0, .int 0, .int 0, .int 0]) (ws' := [(h, .inr (2, [.int 2, .int 0, .ref q0, .ref q1, .ref q2, .ref q3, .ref q4, .int 0, .null, .null, .int 0, .null, .null, .null, .int 0, .int 0, .int 0, .int 0])), (q0, .inl (x_cy X 0, (13, .inl (fun _ => 0)))), (q1, .inl (x_cy X 0, (13, .inl (fun _ => 0)))), (q2, .inl (x_cy X 0, (13, .inl (fun _ => 0)))), (q3, .inl (x_cy X 0, (13, .inl (fun _ => 0)))), (q4, .inl (x_cy X 0, (13, .inl (fun _ => 0))))]) (pc' := 49) hC hI 0 6 rfl rfl inlX2 tyX2_ok nmX2 (Nat.le_of_ble_eq_true rfl) mw_64 rfl rfl rfl (Nat.le_of_ble_eq_true rfl) rfl rfl dX2_init_46 rfl rfl rfl ?_
  refine gn_aload_n (pc' := 50) hC dX2_init_49 rfl rfl ?_
  refine gn_bipush (v := (10 : Int32)) (pc' := 52) hC dX2_init_50 (by decide) rfl ?_
  refine gn_newI (ty := .int) (n0 := 10) (pc' := 54) (cells' := 6) (slots' := 75) hC 0 (Or.inl ⟨rfl, rfl⟩) mw_59 rfl (by decide) (Nat.le_of_ble_eq_true rfl) (Nat.le_of_ble_eq_true rfl) dX2_init_52 rfl rfl rfl rfl (fun q5 => ?_)
  refine gn_putF (T := TX2) (ci := 2) (v := .ref q5) (fs' := [.int 2, .int 0, .ref q0, .ref q1, .ref q2, .ref q3, .ref q4, .int 0, .ref q5, .null, .int 0, .null, .null, .null, .int 0, .int 0, .int 0, .int 0]) (ws' := [(h, .inr (2, [.int 2, .int 0, .ref q0, .ref q1, .ref q2, .ref q3, .ref q4, .int 0, .ref q5, .null, .int 0, .null, .null, .null, .int 0, .int 0, .int 0, .int 0])), (q0, .inl (x_cy X 0, (13, .inl (fun _ => 0)))), (q1, .inl (x_cy X 0, (13, .inl (fun _ => 0)))), (q2, .inl (x_cy X 0, (13, .inl (fun _ => 0)))), (q3, .inl (x_cy X 0, (13, .inl (fun _ => 0)))), (q4, .inl (x_cy X 0, (13, .inl (fun _ => 0)))), (q5, .inl (x_cy X 0, (10, .inl (fun _ => 0))))]) (pc' := 57) hC hI 0 8 rfl rfl inlX2 tyX2_ok nmX2 (Nat.le_of_ble_eq_true rfl) mw_65 rfl rfl rfl (Nat.le_of_ble_eq_true rfl) rfl rfl dX2_init_54 rfl rfl rfl ?_
  refine gn_aload_n (pc' := 58) hC dX2_init_57 rfl rfl ?_
  refine gn_bipush (v := (10 : Int32)) (pc' := 60) hC dX2_init_58 (by decide) rfl ?_
  refine gn_newI (ty := .int) (n0 := 10) (pc' := 62) (cells' := 7) (slots' := 85) hC 0 (Or.inl ⟨rfl, rfl⟩) mw_59 rfl (by decide) (Nat.le_of_ble_eq_true rfl) (Nat.le_of_ble_eq_true rfl) dX2_init_60 rfl rfl rfl rfl (fun q6 => ?_)
  refine gn_putF (T := TX2) (ci := 2) (v := .ref q6) (fs' := [.int 2, .int 0, .ref q0, .ref q1, .ref q2, .ref q3, .ref q4, .int 0, .ref q5, .ref q6, .int 0, .null, .null, .null, .int 0, .int 0, .int 0, .int 0]) (ws' := [(h, .inr (2, [.int 2, .int 0, .ref q0, .ref q1, .ref q2, .ref q3, .ref q4, .int 0, .ref q5, .ref q6, .int 0, .null, .null, .null, .int 0, .int 0, .int 0, .int 0])), (q0, .inl (x_cy X 0, (13, .inl (fun _ => 0)))), (q1, .inl (x_cy X 0, (13, .inl (fun _ => 0)))), (q2, .inl (x_cy X 0, (13, .inl (fun _ => 0)))), (q3, .inl (x_cy X 0, (13, .inl (fun _ => 0)))), (q4, .inl (x_cy X 0, (13, .inl (fun _ => 0)))), (q5, .inl (x_cy X 0, (10, .inl (fun _ => 0)))), (q6, .inl (x_cy X 0, (10, .inl (fun _ => 0))))]) (pc' := 65) hC hI 0 9 rfl rfl inlX2 tyX2_ok nmX2 (Nat.le_of_ble_eq_true rfl) mw_66 rfl rfl rfl (Nat.le_of_ble_eq_true rfl) rfl rfl dX2_init_62 rfl rfl rfl ?_
  refine gn_aload_n (pc' := 66) hC dX2_init_65 rfl rfl ?_
  refine gn_iconst (v := (3 : Int32)) (pc' := 67) hC dX2_init_66 (by decide) rfl ?_
  refine gn_newI (ty := .int) (n0 := 3) (pc' := 69) (cells' := 8) (slots' := 88) hC 0 (Or.inl ⟨rfl, rfl⟩) mw_59 rfl (by decide) (Nat.le_of_ble_eq_true rfl) (Nat.le_of_ble_eq_true rfl) dX2_init_67 rfl rfl rfl rfl (fun q7 => ?_)
  refine gn_putF (T := TX2) (ci := 2) (v := .ref q7) (fs' := [.int 2, .int 0, .ref q0, .ref q1, .ref q2, .ref q3, .ref q4, .int 0, .ref q5, .ref q6, .int 0, .ref q7, .null, .null, .int 0, .int 0, .int 0, .int 0]) (ws' := [(h, .inr (2, [.int 2, .int 0, .ref q0, .ref q1, .ref q2, .ref q3, .ref q4, .int 0, .ref q5, .ref q6, .int 0, .ref q7, .null, .null, .int 0, .int 0, .int 0, .int 0])), (q0, .inl (x_cy X 0, (13, .inl (fun _ => 0)))), (q1, .inl (x_cy X 0, (13, .inl (fun _ => 0)))), (q2, .inl (x_cy X 0, (13, .inl (fun _ => 0)))), (q3, .inl (x_cy X 0, (13, .inl (fun _ => 0)))), (q4, .inl (x_cy X 0, (13, .inl (fun _ => 0)))), (q5, .inl (x_cy X 0, (10, .inl (fun _ => 0)))), (q6, .inl (x_cy X 0, (10, .inl (fun _ => 0)))), (q7, .inl (x_cy X 0, (3, .inl (fun _ => 0))))]) (pc' := 72) hC hI 0 11 rfl rfl inlX2 tyX2_ok nmX2 (Nat.le_of_ble_eq_true rfl) mw_67 rfl rfl rfl (Nat.le_of_ble_eq_true rfl) rfl rfl dX2_init_69 rfl rfl rfl ?_
  refine gn_aload_n (pc' := 73) hC dX2_init_72 rfl rfl ?_
  refine gn_iconst (v := (3 : Int32)) (pc' := 74) hC dX2_init_73 (by decide) rfl ?_
  refine gn_newI (ty := .int) (n0 := 3) (pc' := 76) (cells' := 9) (slots' := 91) hC 0 (Or.inl ⟨rfl, rfl⟩) mw_59 rfl (by decide) (Nat.le_of_ble_eq_true rfl) (Nat.le_of_ble_eq_true rfl) dX2_init_74 rfl rfl rfl rfl (fun q8 => ?_)
  refine gn_putF (T := TX2) (ci := 2) (v := .ref q8) (fs' := [.int 2, .int 0, .ref q0, .ref q1, .ref q2, .ref q3, .ref q4, .int 0, .ref q5, .ref q6, .int 0, .ref q7, .ref q8, .null, .int 0, .int 0, .int 0, .int 0]) (ws' := [(h, .inr (2, [.int 2, .int 0, .ref q0, .ref q1, .ref q2, .ref q3, .ref q4, .int 0, .ref q5, .ref q6, .int 0, .ref q7, .ref q8, .null, .int 0, .int 0, .int 0, .int 0])), (q0, .inl (x_cy X 0, (13, .inl (fun _ => 0)))), (q1, .inl (x_cy X 0, (13, .inl (fun _ => 0)))), (q2, .inl (x_cy X 0, (13, .inl (fun _ => 0)))), (q3, .inl (x_cy X 0, (13, .inl (fun _ => 0)))), (q4, .inl (x_cy X 0, (13, .inl (fun _ => 0)))), (q5, .inl (x_cy X 0, (10, .inl (fun _ => 0)))), (q6, .inl (x_cy X 0, (10, .inl (fun _ => 0)))), (q7, .inl (x_cy X 0, (3, .inl (fun _ => 0)))), (q8, .inl (x_cy X 0, (3, .inl (fun _ => 0))))]) (pc' := 79) hC hI 0 12 rfl rfl inlX2 tyX2_ok nmX2 (Nat.le_of_ble_eq_true rfl) mw_68 rfl rfl rfl (Nat.le_of_ble_eq_true rfl) rfl rfl dX2_init_76 rfl rfl rfl ?_
  refine gn_aload_n (pc' := 80) hC dX2_init_79 rfl rfl ?_
  refine gn_iconst (v := (3 : Int32)) (pc' := 81) hC dX2_init_80 (by decide) rfl ?_
  refine gn_newI (ty := .int) (n0 := 3) (pc' := 83) (cells' := 10) (slots' := 94) hC 0 (Or.inl ⟨rfl, rfl⟩) mw_59 rfl (by decide) (Nat.le_of_ble_eq_true rfl) (Nat.le_of_ble_eq_true rfl) dX2_init_81 rfl rfl rfl rfl (fun q9 => ?_)
  refine gn_putF (T := TX2) (ci := 2) (v := .ref q9) (fs' := [.int 2, .int 0, .ref q0, .ref q1, .ref q2, .ref q3, .ref q4, .int 0, .ref q5, .ref q6, .int 0, .ref q7, .ref q8, .ref q9, .int 0, .int 0, .int 0, .int 0]) (ws' := [(h, .inr (2, [.int 2, .int 0, .ref q0, .ref q1, .ref q2, .ref q3, .ref q4, .int 0, .ref q5, .ref q6, .int 0, .ref q7, .ref q8, .ref q9, .int 0, .int 0, .int 0, .int 0])), (q0, .inl (x_cy X 0, (13, .inl (fun _ => 0)))), (q1, .inl (x_cy X 0, (13, .inl (fun _ => 0)))), (q2, .inl (x_cy X 0, (13, .inl (fun _ => 0)))), (q3, .inl (x_cy X 0, (13, .inl (fun _ => 0)))), (q4, .inl (x_cy X 0, (13, .inl (fun _ => 0)))), (q5, .inl (x_cy X 0, (10, .inl (fun _ => 0)))), (q6, .inl (x_cy X 0, (10, .inl (fun _ => 0)))), (q7, .inl (x_cy X 0, (3, .inl (fun _ => 0)))), (q8, .inl (x_cy X 0, (3, .inl (fun _ => 0)))), (q9, .inl (x_cy X 0, (3, .inl (fun _ => 0))))]) (pc' := 86) hC hI 0 13 rfl rfl inlX2 tyX2_ok nmX2 (Nat.le_of_ble_eq_true rfl) mw_69 rfl rfl rfl (Nat.le_of_ble_eq_true rfl) rfl rfl dX2_init_83 rfl rfl rfl ?_
  refine gn_aload_n (pc' := 87) hC dX2_init_86 rfl rfl ?_
  refine gn_iconst (v := (1 : Int32)) (pc' := 88) hC dX2_init_87 (by decide) rfl ?_
  refine gn_put (T := TX2) (ci := 2) (v := .int 1) (fs' := [.int 2, .int 0, .ref q0, .ref q1, .ref q2, .ref q3, .ref q4, .int 0, .ref q5, .ref q6, .int 0, .ref q7, .ref q8, .ref q9, .int 1, .int 0, .int 0, .int 0]) (ws' := [(h, .inr (2, [.int 2, .int 0, .ref q0, .ref q1, .ref q2, .ref q3, .ref q4, .int 0, .ref q5, .ref q6, .int 0, .ref q7, .ref q8, .ref q9, .int 1, .int 0, .int 0, .int 0])), (q0, .inl (x_cy X 0, (13, .inl (fun _ => 0)))), (q1, .inl (x_cy X 0, (13, .inl (fun _ => 0)))), (q2, .inl (x_cy X 0, (13, .inl (fun _ => 0)))), (q3, .inl (x_cy X 0, (13, .inl (fun _ => 0)))), (q4, .inl (x_cy X 0, (13, .inl (fun _ => 0)))), (q5, .inl (x_cy X 0, (10, .inl (fun _ => 0)))), (q6, .inl (x_cy X 0, (10, .inl (fun _ => 0)))), (q7, .inl (x_cy X 0, (3, .inl (fun _ => 0)))), (q8, .inl (x_cy X 0, (3, .inl (fun _ => 0)))), (q9, .inl (x_cy X 0, (3, .inl (fun _ => 0))))]) (pc' := 91) hC 0 14 rfl rfl inlX2 tyX2_ok nmX2 (Nat.le_of_ble_eq_true rfl) mw_70 rfl rfl rfl (Nat.le_of_ble_eq_true rfl) rfl dX2_init_88 rfl rfl rfl ?_
  exact gn_vret hC hQ dX2_init_91 (fun i => [q0, q1, q2, q3, q4, q5, q6, q7, q8, q9].getD i 0) rfl
def wX6 (cy : Nat → ClassId) (h : Nat) (r : Nat → Nat) : va_W := [(h, .inr (6, [.int 0, .ref (r 0), .ref (r 1), .ref (r 2), .int 0, .ref (r 3), .ref (r 4), .ref (r 5)])), ((r 0), .inl (cy 0, (9, .inl (fun _ => 0)))), ((r 1), .inl (cy 0, (9, .inl (fun _ => 0)))), ((r 2), .inl (cy 0, (9, .inl (fun _ => 0)))), ((r 3), .inl (cy 0, (6, .inl (fun _ => 0)))), ((r 4), .inl (cy 0, (6, .inl (fun _ => 0)))), ((r 5), .inl (cy 0, (6, .inl (fun _ => 0))))]
set_option maxRecDepth 20000 in
theorem k_X6_init (l : Launch) (D : va_G) (cy : Nat → ClassId) (z : (Nat → Nat) × (Nat → Nat) × Nat) (h : Nat) : CX l yX6_init cX6_init 1 ({ frames := 1, cells := 6, slots := 45, locals := 20 } : Room) D cy z [.ref h] [(h, .inr (6, [.int 0, .null, .null, .null, .int 0, .null, .null, .null]))] (fun r => wX6 cy h r) 6 45 := by
  refine cx_of (own := RX6) (lc := [(0, .ref h)]) (by decide +kernel) rfl rfl (Nat.le_of_ble_eq_true rfl) rfl ?_
  intro X hXl hXz hXD hXc hC hI hQ
  subst hXl; subst hXz; subst hXD; subst hXc
  refine gn_aload_n (pc' := 1) hC dX6_init_0 rfl rfl ?_
  refine gn_objInit (pc' := 4) hC mw_80 dX6_init_1 rfl (Nat.le_of_ble_eq_true rfl) (Nat.le_of_ble_eq_true rfl) ?_
  refine gn_aload_n (pc' := 5) hC dX6_init_4 rfl rfl ?_
  refine gn_bipush (v := (9 : Int32)) (pc' := 7) hC dX6_init_5 (by decide) rfl ?_
  refine gn_newI (ty := .int) (n0 := 9) (pc' := 9) (cells' := 1) (slots' := 9) hC 0 (Or.inl ⟨rfl, rfl⟩) mw_59 rfl (by decide) (Nat.le_of_ble_eq_true rfl) (Nat.le_of_ble_eq_true rfl) dX6_init_7 rfl rfl rfl rfl (fun q0 => ?_)
  refine gn_putF (T := TX6) (ci := 6) (v := .ref q0) (fs' := [.int 0, .ref q0, .null, .null, .int 0, .null, .null, .null]) (ws' := [(h, .inr (6, [.int 0, .ref q0, .null, .null, .int 0, .null, .null, .null])), (q0, .inl (x_cy X 0, (9, .inl (fun _ => 0))))]) (pc' := 12) hC hI 0 1 rfl rfl inlX6 tyX6_ok nmX6 (Nat.le_of_ble_eq_true rfl) mw_81 rfl rfl rfl (Nat.le_of_ble_eq_true rfl) rfl rfl dX6_init_9 rfl rfl rfl ?_
  refine gn_aload_n (pc' := 13) hC dX6_init_12 rfl rfl ?_
  refine gn_bipush (v := (9 : Int32)) (pc' := 15) hC dX6_init_13 (by decide) rfl ?_
  refine gn_newI (ty := .int) (n0 := 9) (pc' := 17) (cells' := 2) (slots' := 18) hC 0 (Or.inl ⟨rfl, rfl⟩) mw_59 rfl (by decide) (Nat.le_of_ble_eq_true rfl) (Nat.le_of_ble_eq_true rfl) dX6_init_15 rfl rfl rfl rfl (fun q1 => ?_)
  refine gn_putF (T := TX6) (ci := 6) (v := .ref q1) (fs' := [.int 0, .ref q0, .ref q1, .null, .int 0, .null, .null, .null]) (ws' := [(h, .inr (6, [.int 0, .ref q0, .ref q1, .null, .int 0, .null, .null, .null])), (q0, .inl (x_cy X 0, (9, .inl (fun _ => 0)))), (q1, .inl (x_cy X 0, (9, .inl (fun _ => 0))))]) (pc' := 20) hC hI 0 2 rfl rfl inlX6 tyX6_ok nmX6 (Nat.le_of_ble_eq_true rfl) mw_82 rfl rfl rfl (Nat.le_of_ble_eq_true rfl) rfl rfl dX6_init_17 rfl rfl rfl ?_
  refine gn_aload_n (pc' := 21) hC dX6_init_20 rfl rfl ?_
  refine gn_bipush (v := (9 : Int32)) (pc' := 23) hC dX6_init_21 (by decide) rfl ?_
  refine gn_newI (ty := .int) (n0 := 9) (pc' := 25) (cells' := 3) (slots' := 27) hC 0 (Or.inl ⟨rfl, rfl⟩) mw_59 rfl (by decide) (Nat.le_of_ble_eq_true rfl) (Nat.le_of_ble_eq_true rfl) dX6_init_23 rfl rfl rfl rfl (fun q2 => ?_)
  refine gn_putF (T := TX6) (ci := 6) (v := .ref q2) (fs' := [.int 0, .ref q0, .ref q1, .ref q2, .int 0, .null, .null, .null]) (ws' := [(h, .inr (6, [.int 0, .ref q0, .ref q1, .ref q2, .int 0, .null, .null, .null])), (q0, .inl (x_cy X 0, (9, .inl (fun _ => 0)))), (q1, .inl (x_cy X 0, (9, .inl (fun _ => 0)))), (q2, .inl (x_cy X 0, (9, .inl (fun _ => 0))))]) (pc' := 28) hC hI 0 3 rfl rfl inlX6 tyX6_ok nmX6 (Nat.le_of_ble_eq_true rfl) mw_83 rfl rfl rfl (Nat.le_of_ble_eq_true rfl) rfl rfl dX6_init_25 rfl rfl rfl ?_
  refine gn_aload_n (pc' := 29) hC dX6_init_28 rfl rfl ?_
  refine gn_bipush (v := (6 : Int32)) (pc' := 31) hC dX6_init_29 (by decide) rfl ?_
  refine gn_newI (ty := .int) (n0 := 6) (pc' := 33) (cells' := 4) (slots' := 33) hC 0 (Or.inl ⟨rfl, rfl⟩) mw_59 rfl (by decide) (Nat.le_of_ble_eq_true rfl) (Nat.le_of_ble_eq_true rfl) dX6_init_31 rfl rfl rfl rfl (fun q3 => ?_)
  refine gn_putF (T := TX6) (ci := 6) (v := .ref q3) (fs' := [.int 0, .ref q0, .ref q1, .ref q2, .int 0, .ref q3, .null, .null]) (ws' := [(h, .inr (6, [.int 0, .ref q0, .ref q1, .ref q2, .int 0, .ref q3, .null, .null])), (q0, .inl (x_cy X 0, (9, .inl (fun _ => 0)))), (q1, .inl (x_cy X 0, (9, .inl (fun _ => 0)))), (q2, .inl (x_cy X 0, (9, .inl (fun _ => 0)))), (q3, .inl (x_cy X 0, (6, .inl (fun _ => 0))))]) (pc' := 36) hC hI 0 5 rfl rfl inlX6 tyX6_ok nmX6 (Nat.le_of_ble_eq_true rfl) mw_84 rfl rfl rfl (Nat.le_of_ble_eq_true rfl) rfl rfl dX6_init_33 rfl rfl rfl ?_
  refine gn_aload_n (pc' := 37) hC dX6_init_36 rfl rfl ?_
  refine gn_bipush (v := (6 : Int32)) (pc' := 39) hC dX6_init_37 (by decide) rfl ?_
  refine gn_newI (ty := .int) (n0 := 6) (pc' := 41) (cells' := 5) (slots' := 39) hC 0 (Or.inl ⟨rfl, rfl⟩) mw_59 rfl (by decide) (Nat.le_of_ble_eq_true rfl) (Nat.le_of_ble_eq_true rfl) dX6_init_39 rfl rfl rfl rfl (fun q4 => ?_)
  refine gn_putF (T := TX6) (ci := 6) (v := .ref q4) (fs' := [.int 0, .ref q0, .ref q1, .ref q2, .int 0, .ref q3, .ref q4, .null]) (ws' := [(h, .inr (6, [.int 0, .ref q0, .ref q1, .ref q2, .int 0, .ref q3, .ref q4, .null])), (q0, .inl (x_cy X 0, (9, .inl (fun _ => 0)))), (q1, .inl (x_cy X 0, (9, .inl (fun _ => 0)))), (q2, .inl (x_cy X 0, (9, .inl (fun _ => 0)))), (q3, .inl (x_cy X 0, (6, .inl (fun _ => 0)))), (q4, .inl (x_cy X 0, (6, .inl (fun _ => 0))))]) (pc' := 44) hC hI 0 6 rfl rfl inlX6 tyX6_ok nmX6 (Nat.le_of_ble_eq_true rfl) mw_85 rfl rfl rfl (Nat.le_of_ble_eq_true rfl) rfl rfl dX6_init_41 rfl rfl rfl ?_
  refine gn_aload_n (pc' := 45) hC dX6_init_44 rfl rfl ?_
  refine gn_bipush (v := (6 : Int32)) (pc' := 47) hC dX6_init_45 (by decide) rfl ?_
  refine gn_newI (ty := .int) (n0 := 6) (pc' := 49) (cells' := 6) (slots' := 45) hC 0 (Or.inl ⟨rfl, rfl⟩) mw_59 rfl (by decide) (Nat.le_of_ble_eq_true rfl) (Nat.le_of_ble_eq_true rfl) dX6_init_47 rfl rfl rfl rfl (fun q5 => ?_)
  refine gn_putF (T := TX6) (ci := 6) (v := .ref q5) (fs' := [.int 0, .ref q0, .ref q1, .ref q2, .int 0, .ref q3, .ref q4, .ref q5]) (ws' := [(h, .inr (6, [.int 0, .ref q0, .ref q1, .ref q2, .int 0, .ref q3, .ref q4, .ref q5])), (q0, .inl (x_cy X 0, (9, .inl (fun _ => 0)))), (q1, .inl (x_cy X 0, (9, .inl (fun _ => 0)))), (q2, .inl (x_cy X 0, (9, .inl (fun _ => 0)))), (q3, .inl (x_cy X 0, (6, .inl (fun _ => 0)))), (q4, .inl (x_cy X 0, (6, .inl (fun _ => 0)))), (q5, .inl (x_cy X 0, (6, .inl (fun _ => 0))))]) (pc' := 52) hC hI 0 7 rfl rfl inlX6 tyX6_ok nmX6 (Nat.le_of_ble_eq_true rfl) mw_86 rfl rfl rfl (Nat.le_of_ble_eq_true rfl) rfl rfl dX6_init_49 rfl rfl rfl ?_
  exact gn_vret hC hQ dX6_init_52 (fun i => [q0, q1, q2, q3, q4, q5].getD i 0) rfl
def wX7 (cy : Nat → ClassId) (h : Nat) (a1 : Nat) (r : Nat → Nat) : va_W := [(h, .inr (7, [.int 0, .int 0, .int 0, .int 0, .ref a1, .ref (r 0), .ref (r 1), .ref (r 2), .ref (r 3), .ref (r 4)])), ((r 0), .inl (cy 0, (13, .inl (fun _ => 0)))), ((r 1), .inl (cy 0, (13, .inl (fun _ => 0)))), ((r 2), .inl (cy 0, (13, .inl (fun _ => 0)))), ((r 3), .inl (cy 0, (10, .inl (fun _ => 0)))), ((r 4), .inl (cy 0, (10, .inl (fun _ => 0))))]
set_option maxRecDepth 20000 in
theorem k_X7_init (l : Launch) (D : va_G) (cy : Nat → ClassId) (z : (Nat → Nat) × (Nat → Nat) × Nat) (h : Nat) (a1 : Nat) : CX l yX7_init cX7_init 2 ({ frames := 1, cells := 5, slots := 59, locals := 20 } : Room) D cy z [.ref h, .ref a1] [(h, .inr (7, [.int 0, .int 0, .int 0, .int 0, .null, .null, .null, .null, .null, .null]))] (fun r => wX7 cy h a1 r) 5 59 := by
  refine cx_of (own := RX7) (lc := [(0, .ref h), (1, .ref a1)]) (by decide +kernel) rfl rfl (Nat.le_of_ble_eq_true rfl) rfl ?_
  intro X hXl hXz hXD hXc hC hI hQ
  subst hXl; subst hXz; subst hXD; subst hXc
  refine gn_aload_n (pc' := 1) hC dX7_init_0 rfl rfl ?_
  refine gn_objInit (pc' := 4) hC mw_109 dX7_init_1 rfl (Nat.le_of_ble_eq_true rfl) (Nat.le_of_ble_eq_true rfl) ?_
  refine gn_aload_n (pc' := 5) hC dX7_init_4 rfl rfl ?_
  refine gn_bipush (v := (13 : Int32)) (pc' := 7) hC dX7_init_5 (by decide) rfl ?_
  refine gn_newI (ty := .int) (n0 := 13) (pc' := 9) (cells' := 1) (slots' := 13) hC 0 (Or.inl ⟨rfl, rfl⟩) mw_59 rfl (by decide) (Nat.le_of_ble_eq_true rfl) (Nat.le_of_ble_eq_true rfl) dX7_init_7 rfl rfl rfl rfl (fun q0 => ?_)
  refine gn_putF (T := TX7) (ci := 7) (v := .ref q0) (fs' := [.int 0, .int 0, .int 0, .int 0, .null, .ref q0, .null, .null, .null, .null]) (ws' := [(h, .inr (7, [.int 0, .int 0, .int 0, .int 0, .null, .ref q0, .null, .null, .null, .null])), (q0, .inl (x_cy X 0, (13, .inl (fun _ => 0))))]) (pc' := 12) hC hI 0 5 rfl rfl inlX7 tyX7_ok nmX7 (Nat.le_of_ble_eq_true rfl) mw_110 rfl rfl rfl (Nat.le_of_ble_eq_true rfl) rfl rfl dX7_init_9 rfl rfl rfl ?_
  refine gn_aload_n (pc' := 13) hC dX7_init_12 rfl rfl ?_
  refine gn_bipush (v := (13 : Int32)) (pc' := 15) hC dX7_init_13 (by decide) rfl ?_
  refine gn_newI (ty := .int) (n0 := 13) (pc' := 17) (cells' := 2) (slots' := 26) hC 0 (Or.inl ⟨rfl, rfl⟩) mw_59 rfl (by decide) (Nat.le_of_ble_eq_true rfl) (Nat.le_of_ble_eq_true rfl) dX7_init_15 rfl rfl rfl rfl (fun q1 => ?_)
  refine gn_putF (T := TX7) (ci := 7) (v := .ref q1) (fs' := [.int 0, .int 0, .int 0, .int 0, .null, .ref q0, .ref q1, .null, .null, .null]) (ws' := [(h, .inr (7, [.int 0, .int 0, .int 0, .int 0, .null, .ref q0, .ref q1, .null, .null, .null])), (q0, .inl (x_cy X 0, (13, .inl (fun _ => 0)))), (q1, .inl (x_cy X 0, (13, .inl (fun _ => 0))))]) (pc' := 20) hC hI 0 6 rfl rfl inlX7 tyX7_ok nmX7 (Nat.le_of_ble_eq_true rfl) mw_111 rfl rfl rfl (Nat.le_of_ble_eq_true rfl) rfl rfl dX7_init_17 rfl rfl rfl ?_
  refine gn_aload_n (pc' := 21) hC dX7_init_20 rfl rfl ?_
  refine gn_bipush (v := (13 : Int32)) (pc' := 23) hC dX7_init_21 (by decide) rfl ?_
  refine gn_newI (ty := .int) (n0 := 13) (pc' := 25) (cells' := 3) (slots' := 39) hC 0 (Or.inl ⟨rfl, rfl⟩) mw_59 rfl (by decide) (Nat.le_of_ble_eq_true rfl) (Nat.le_of_ble_eq_true rfl) dX7_init_23 rfl rfl rfl rfl (fun q2 => ?_)
  refine gn_putF (T := TX7) (ci := 7) (v := .ref q2) (fs' := [.int 0, .int 0, .int 0, .int 0, .null, .ref q0, .ref q1, .ref q2, .null, .null]) (ws' := [(h, .inr (7, [.int 0, .int 0, .int 0, .int 0, .null, .ref q0, .ref q1, .ref q2, .null, .null])), (q0, .inl (x_cy X 0, (13, .inl (fun _ => 0)))), (q1, .inl (x_cy X 0, (13, .inl (fun _ => 0)))), (q2, .inl (x_cy X 0, (13, .inl (fun _ => 0))))]) (pc' := 28) hC hI 0 7 rfl rfl inlX7 tyX7_ok nmX7 (Nat.le_of_ble_eq_true rfl) mw_112 rfl rfl rfl (Nat.le_of_ble_eq_true rfl) rfl rfl dX7_init_25 rfl rfl rfl ?_
  refine gn_aload_n (pc' := 29) hC dX7_init_28 rfl rfl ?_
  refine gn_bipush (v := (10 : Int32)) (pc' := 31) hC dX7_init_29 (by decide) rfl ?_
  refine gn_newI (ty := .int) (n0 := 10) (pc' := 33) (cells' := 4) (slots' := 49) hC 0 (Or.inl ⟨rfl, rfl⟩) mw_59 rfl (by decide) (Nat.le_of_ble_eq_true rfl) (Nat.le_of_ble_eq_true rfl) dX7_init_31 rfl rfl rfl rfl (fun q3 => ?_)
  refine gn_putF (T := TX7) (ci := 7) (v := .ref q3) (fs' := [.int 0, .int 0, .int 0, .int 0, .null, .ref q0, .ref q1, .ref q2, .ref q3, .null]) (ws' := [(h, .inr (7, [.int 0, .int 0, .int 0, .int 0, .null, .ref q0, .ref q1, .ref q2, .ref q3, .null])), (q0, .inl (x_cy X 0, (13, .inl (fun _ => 0)))), (q1, .inl (x_cy X 0, (13, .inl (fun _ => 0)))), (q2, .inl (x_cy X 0, (13, .inl (fun _ => 0)))), (q3, .inl (x_cy X 0, (10, .inl (fun _ => 0))))]) (pc' := 36) hC hI 0 8 rfl rfl inlX7 tyX7_ok nmX7 (Nat.le_of_ble_eq_true rfl) mw_113 rfl rfl rfl (Nat.le_of_ble_eq_true rfl) rfl rfl dX7_init_33 rfl rfl rfl ?_
  refine gn_aload_n (pc' := 37) hC dX7_init_36 rfl rfl ?_
  refine gn_bipush (v := (10 : Int32)) (pc' := 39) hC dX7_init_37 (by decide) rfl ?_
  refine gn_newI (ty := .int) (n0 := 10) (pc' := 41) (cells' := 5) (slots' := 59) hC 0 (Or.inl ⟨rfl, rfl⟩) mw_59 rfl (by decide) (Nat.le_of_ble_eq_true rfl) (Nat.le_of_ble_eq_true rfl) dX7_init_39 rfl rfl rfl rfl (fun q4 => ?_)
  refine gn_putF (T := TX7) (ci := 7) (v := .ref q4) (fs' := [.int 0, .int 0, .int 0, .int 0, .null, .ref q0, .ref q1, .ref q2, .ref q3, .ref q4]) (ws' := [(h, .inr (7, [.int 0, .int 0, .int 0, .int 0, .null, .ref q0, .ref q1, .ref q2, .ref q3, .ref q4])), (q0, .inl (x_cy X 0, (13, .inl (fun _ => 0)))), (q1, .inl (x_cy X 0, (13, .inl (fun _ => 0)))), (q2, .inl (x_cy X 0, (13, .inl (fun _ => 0)))), (q3, .inl (x_cy X 0, (10, .inl (fun _ => 0)))), (q4, .inl (x_cy X 0, (10, .inl (fun _ => 0))))]) (pc' := 44) hC hI 0 9 rfl rfl inlX7 tyX7_ok nmX7 (Nat.le_of_ble_eq_true rfl) mw_114 rfl rfl rfl (Nat.le_of_ble_eq_true rfl) rfl rfl dX7_init_41 rfl rfl rfl ?_
  refine gn_aload_n (pc' := 45) hC dX7_init_44 rfl rfl ?_
  refine gn_aload_n (pc' := 46) hC dX7_init_45 rfl rfl ?_
  refine gn_putF (T := TX7) (ci := 7) (v := .ref a1) (fs' := [.int 0, .int 0, .int 0, .int 0, .ref a1, .ref q0, .ref q1, .ref q2, .ref q3, .ref q4]) (ws' := [(h, .inr (7, [.int 0, .int 0, .int 0, .int 0, .ref a1, .ref q0, .ref q1, .ref q2, .ref q3, .ref q4])), (q0, .inl (x_cy X 0, (13, .inl (fun _ => 0)))), (q1, .inl (x_cy X 0, (13, .inl (fun _ => 0)))), (q2, .inl (x_cy X 0, (13, .inl (fun _ => 0)))), (q3, .inl (x_cy X 0, (10, .inl (fun _ => 0)))), (q4, .inl (x_cy X 0, (10, .inl (fun _ => 0))))]) (pc' := 49) hC hI 0 4 rfl rfl inlX7 tyX7_ok nmX7 (Nat.le_of_ble_eq_true rfl) mw_115 rfl rfl rfl (Nat.le_of_ble_eq_true rfl) rfl rfl dX7_init_46 rfl rfl rfl ?_
  exact gn_vret hC hQ dX7_init_49 (fun i => [q0, q1, q2, q3, q4].getD i 0) rfl
def wX10 (cy : Nat → ClassId) (h : Nat) (a1 : Nat) (a2 : Nat) (r : Nat → Nat) : va_W := [(h, .inr (10, [.int 0, .ref (r 0), .ref (r 1), .ref a1, .ref a2])), ((r 0), .inl (cy 0, (15, .inl (fun _ => 0)))), ((r 1), .inl (cy 0, (15, .inl (fun _ => 0))))]
set_option maxRecDepth 20000 in
theorem k_X10_init (l : Launch) (D : va_G) (cy : Nat → ClassId) (z : (Nat → Nat) × (Nat → Nat) × Nat) (h : Nat) (a1 : Nat) (a2 : Nat) : CX l yX10_init cX10_init 3 ({ frames := 1, cells := 2, slots := 30, locals := 20 } : Room) D cy z [.ref h, .ref a1, .ref a2] [(h, .inr (10, [.int 0, .null, .null, .null, .null]))] (fun r => wX10 cy h a1 a2 r) 2 30 := by
  refine cx_of (own := RX10) (lc := [(0, .ref h), (1, .ref a1), (2, .ref a2)]) (by decide +kernel) rfl rfl (Nat.le_of_ble_eq_true rfl) rfl ?_
  intro X hXl hXz hXD hXc hC hI hQ
  subst hXl; subst hXz; subst hXD; subst hXc
  refine gn_aload_n (pc' := 1) hC dX10_init_0 rfl rfl ?_
  refine gn_objInit (pc' := 4) hC mw_119 dX10_init_1 rfl (Nat.le_of_ble_eq_true rfl) (Nat.le_of_ble_eq_true rfl) ?_
  refine gn_aload_n (pc' := 5) hC dX10_init_4 rfl rfl ?_
  refine gn_bipush (v := (15 : Int32)) (pc' := 7) hC dX10_init_5 (by decide) rfl ?_
  refine gn_newI (ty := .int) (n0 := 15) (pc' := 9) (cells' := 1) (slots' := 15) hC 0 (Or.inl ⟨rfl, rfl⟩) mw_59 rfl (by decide) (Nat.le_of_ble_eq_true rfl) (Nat.le_of_ble_eq_true rfl) dX10_init_7 rfl rfl rfl rfl (fun q0 => ?_)
  refine gn_putF (T := TX10) (ci := 10) (v := .ref q0) (fs' := [.int 0, .ref q0, .null, .null, .null]) (ws' := [(h, .inr (10, [.int 0, .ref q0, .null, .null, .null])), (q0, .inl (x_cy X 0, (15, .inl (fun _ => 0))))]) (pc' := 12) hC hI 0 1 rfl rfl inlX10 tyX10_ok nmX10 (Nat.le_of_ble_eq_true rfl) mw_120 rfl rfl rfl (Nat.le_of_ble_eq_true rfl) rfl rfl dX10_init_9 rfl rfl rfl ?_
  refine gn_aload_n (pc' := 13) hC dX10_init_12 rfl rfl ?_
  refine gn_bipush (v := (15 : Int32)) (pc' := 15) hC dX10_init_13 (by decide) rfl ?_
  refine gn_newI (ty := .int) (n0 := 15) (pc' := 17) (cells' := 2) (slots' := 30) hC 0 (Or.inl ⟨rfl, rfl⟩) mw_59 rfl (by decide) (Nat.le_of_ble_eq_true rfl) (Nat.le_of_ble_eq_true rfl) dX10_init_15 rfl rfl rfl rfl (fun q1 => ?_)
  refine gn_putF (T := TX10) (ci := 10) (v := .ref q1) (fs' := [.int 0, .ref q0, .ref q1, .null, .null]) (ws' := [(h, .inr (10, [.int 0, .ref q0, .ref q1, .null, .null])), (q0, .inl (x_cy X 0, (15, .inl (fun _ => 0)))), (q1, .inl (x_cy X 0, (15, .inl (fun _ => 0))))]) (pc' := 20) hC hI 0 2 rfl rfl inlX10 tyX10_ok nmX10 (Nat.le_of_ble_eq_true rfl) mw_121 rfl rfl rfl (Nat.le_of_ble_eq_true rfl) rfl rfl dX10_init_17 rfl rfl rfl ?_
  refine gn_aload_n (pc' := 21) hC dX10_init_20 rfl rfl ?_
  refine gn_aload_n (pc' := 22) hC dX10_init_21 rfl rfl ?_
  refine gn_putF (T := TX10) (ci := 10) (v := .ref a1) (fs' := [.int 0, .ref q0, .ref q1, .ref a1, .null]) (ws' := [(h, .inr (10, [.int 0, .ref q0, .ref q1, .ref a1, .null])), (q0, .inl (x_cy X 0, (15, .inl (fun _ => 0)))), (q1, .inl (x_cy X 0, (15, .inl (fun _ => 0))))]) (pc' := 25) hC hI 0 3 rfl rfl inlX10 tyX10_ok nmX10 (Nat.le_of_ble_eq_true rfl) mw_122 rfl rfl rfl (Nat.le_of_ble_eq_true rfl) rfl rfl dX10_init_22 rfl rfl rfl ?_
  refine gn_aload_n (pc' := 26) hC dX10_init_25 rfl rfl ?_
  refine gn_aload_n (pc' := 27) hC dX10_init_26 rfl rfl ?_
  refine gn_putF (T := TX10) (ci := 10) (v := .ref a2) (fs' := [.int 0, .ref q0, .ref q1, .ref a1, .ref a2]) (ws' := [(h, .inr (10, [.int 0, .ref q0, .ref q1, .ref a1, .ref a2])), (q0, .inl (x_cy X 0, (15, .inl (fun _ => 0)))), (q1, .inl (x_cy X 0, (15, .inl (fun _ => 0))))]) (pc' := 30) hC hI 0 4 rfl rfl inlX10 tyX10_ok nmX10 (Nat.le_of_ble_eq_true rfl) mw_123 rfl rfl rfl (Nat.le_of_ble_eq_true rfl) rfl rfl dX10_init_27 rfl rfl rfl ?_
  exact gn_vret hC hQ dX10_init_30 (fun i => [q0, q1].getD i 0) rfl
def wX9 (cy : Nat → ClassId) (h : Nat) (a1 : Nat) (r : Nat → Nat) : va_W := [(h, .inr (9, [.int 0, .ref (r 0), .int 0, .int 0, .int 0, .int 0, .ref a1])), ((r 0), .inl (cy 0, (400, .inl (fun _ => 0))))]
set_option maxRecDepth 20000 in
theorem k_X9_init (l : Launch) (D : va_G) (cy : Nat → ClassId) (z : (Nat → Nat) × (Nat → Nat) × Nat) (h : Nat) (a1 : Nat) : CX l yX9_init cX9_init 2 ({ frames := 1, cells := 1, slots := 400, locals := 20 } : Room) D cy z [.ref h, .ref a1] [(h, .inr (9, [.int 0, .null, .int 0, .int 0, .int 0, .int 0, .null]))] (fun r => wX9 cy h a1 r) 1 400 := by
  refine cx_of (own := RX9) (lc := [(0, .ref h), (1, .ref a1)]) (by decide +kernel) rfl rfl (Nat.le_of_ble_eq_true rfl) rfl ?_
  intro X hXl hXz hXD hXc hC hI hQ
  subst hXl; subst hXz; subst hXD; subst hXc
  refine gn_aload_n (pc' := 1) hC dX9_init_0 rfl rfl ?_
  refine gn_objInit (pc' := 4) hC mw_74 dX9_init_1 rfl (Nat.le_of_ble_eq_true rfl) (Nat.le_of_ble_eq_true rfl) ?_
  refine gn_aload_n (pc' := 5) hC dX9_init_4 rfl rfl ?_
  refine gn_sipush (v := (400 : Int32)) (pc' := 8) hC dX9_init_5 (by decide) rfl ?_
  refine gn_newI (ty := .int) (n0 := 400) (pc' := 10) (cells' := 1) (slots' := 400) hC 0 (Or.inl ⟨rfl, rfl⟩) mw_59 rfl (by decide) (Nat.le_of_ble_eq_true rfl) (Nat.le_of_ble_eq_true rfl) dX9_init_8 rfl rfl rfl rfl (fun q0 => ?_)
  refine gn_putF (T := TX9) (ci := 9) (v := .ref q0) (fs' := [.int 0, .ref q0, .int 0, .int 0, .int 0, .int 0, .null]) (ws' := [(h, .inr (9, [.int 0, .ref q0, .int 0, .int 0, .int 0, .int 0, .null])), (q0, .inl (x_cy X 0, (400, .inl (fun _ => 0))))]) (pc' := 13) hC hI 0 1 rfl rfl inlX9 tyX9_ok nmX9 (Nat.le_of_ble_eq_true rfl) mw_75 rfl rfl rfl (Nat.le_of_ble_eq_true rfl) rfl rfl dX9_init_10 rfl rfl rfl ?_
  refine gn_aload_n (pc' := 14) hC dX9_init_13 rfl rfl ?_
  refine gn_aload_n (pc' := 15) hC dX9_init_14 rfl rfl ?_
  refine gn_putF (T := TX9) (ci := 9) (v := .ref a1) (fs' := [.int 0, .ref q0, .int 0, .int 0, .int 0, .int 0, .ref a1]) (ws' := [(h, .inr (9, [.int 0, .ref q0, .int 0, .int 0, .int 0, .int 0, .ref a1])), (q0, .inl (x_cy X 0, (400, .inl (fun _ => 0))))]) (pc' := 18) hC hI 0 6 rfl rfl inlX9 tyX9_ok nmX9 (Nat.le_of_ble_eq_true rfl) mw_76 rfl rfl rfl (Nat.le_of_ble_eq_true rfl) rfl rfl dX9_init_15 rfl rfl rfl ?_
  exact gn_vret hC hQ dX9_init_18 (fun i => [q0].getD i 0) rfl
def wX8 (cy : Nat → ClassId) (h : Nat) (a1 : Nat) (r : Nat → Nat) : va_W := [(h, .inr (8, [.ref (r 4), .ref (r 10), .int 0, .int 0, .ref (r 0), .ref (r 1), .ref (r 2), .ref (r 3), .ref (r 13)])), ((r 0), .inl (cy 3, (1, .inr (.inl (fun _ => 0))))), ((r 1), .inl (cy 3, (1, .inr (.inl (fun _ => 0))))), ((r 2), .inl (cy 0, (1, .inl (fun _ => 0)))), ((r 3), .inl (cy 1, (1, .inl (fun _ => 0)))), ((r 4), .inr (7, [.int 0, .int 0, .int 0, .int 0, .ref a1, .ref (r 5), .ref (r 6), .ref (r 7), .ref (r 8), .ref (r 9)])), ((r 5), .inl (cy 0, (13, .inl (fun _ => 0)))), ((r 6), .inl (cy 0, (13, .inl (fun _ => 0)))), ((r 7), .inl (cy 0, (13, .inl (fun _ => 0)))), ((r 8), .inl (cy 0, (10, .inl (fun _ => 0)))), ((r 9), .inl (cy 0, (10, .inl (fun _ => 0)))), ((r 10), .inr (10, [.int 0, .ref (r 11), .ref (r 12), .ref a1, .ref (r 4)])), ((r 11), .inl (cy 0, (15, .inl (fun _ => 0)))), ((r 12), .inl (cy 0, (15, .inl (fun _ => 0)))), ((r 13), .inr (10, [.int 0, .ref (r 14), .ref (r 15), .ref a1, .ref (r 4)])), ((r 14), .inl (cy 0, (15, .inl (fun _ => 0)))), ((r 15), .inl (cy 0, (15, .inl (fun _ => 0))))]
set_option maxRecDepth 20000 in
theorem k_X8_init (l : Launch) (D : va_G) (cy : Nat → ClassId) (z : (Nat → Nat) × (Nat → Nat) × Nat) (h : Nat) (a1 : Nat) : CX l yX8_init cX8_init 2 ({ frames := 2, cells := 16, slots := 143, locals := 52 } : Room) D cy z [.ref h, .ref a1] [(h, .inr (8, [.null, .null, .int 0, .int 0, .null, .null, .null, .null, .null]))] (fun r => wX8 cy h a1 r) 16 143 := by
  refine cx_of (own := RX8) (lc := [(0, .ref h), (1, .ref a1)]) (by decide +kernel) rfl rfl (Nat.le_of_ble_eq_true rfl) rfl ?_
  intro X hXl hXz hXD hXc hC hI hQ
  subst hXl; subst hXz; subst hXD; subst hXc
  refine gn_aload_n (pc' := 1) hC dX8_init_0 rfl rfl ?_
  refine gn_objInit (pc' := 4) hC mw_90 dX8_init_1 rfl (Nat.le_of_ble_eq_true rfl) (Nat.le_of_ble_eq_true rfl) ?_
  refine gn_aload_n (pc' := 5) hC dX8_init_4 rfl rfl ?_
  refine gn_iconst (v := (1 : Int32)) (pc' := 6) hC dX8_init_5 (by decide) rfl ?_
  refine gn_newL (n0 := 1) (pc' := 8) (cells' := 1) (slots' := 1) hC rfl (by decide) (Nat.le_of_ble_eq_true rfl) (Nat.le_of_ble_eq_true rfl) dX8_init_6 rfl rfl rfl rfl (fun q0 => ?_)
  refine gn_put (T := TX8) (ci := 8) (v := .ref q0) (fs' := [.null, .null, .int 0, .int 0, .ref q0, .null, .null, .null, .null]) (ws' := [(h, .inr (8, [.null, .null, .int 0, .int 0, .ref q0, .null, .null, .null, .null])), (q0, .inl (x_cy X 3, (1, .inr (.inl (fun _ => 0)))))]) (pc' := 11) hC 0 4 rfl rfl inlX8 tyX8_ok nmX8 (Nat.le_of_ble_eq_true rfl) mw_92 rfl rfl rfl (Nat.le_of_ble_eq_true rfl) rfl dX8_init_8 rfl rfl rfl ?_
  refine gn_aload_n (pc' := 12) hC dX8_init_11 rfl rfl ?_
  refine gn_iconst (v := (1 : Int32)) (pc' := 13) hC dX8_init_12 (by decide) rfl ?_
  refine gn_newL (n0 := 1) (pc' := 15) (cells' := 2) (slots' := 2) hC rfl (by decide) (Nat.le_of_ble_eq_true rfl) (Nat.le_of_ble_eq_true rfl) dX8_init_13 rfl rfl rfl rfl (fun q1 => ?_)
  refine gn_put (T := TX8) (ci := 8) (v := .ref q1) (fs' := [.null, .null, .int 0, .int 0, .ref q0, .ref q1, .null, .null, .null]) (ws' := [(h, .inr (8, [.null, .null, .int 0, .int 0, .ref q0, .ref q1, .null, .null, .null])), (q0, .inl (x_cy X 3, (1, .inr (.inl (fun _ => 0))))), (q1, .inl (x_cy X 3, (1, .inr (.inl (fun _ => 0)))))]) (pc' := 18) hC 0 5 rfl rfl inlX8 tyX8_ok nmX8 (Nat.le_of_ble_eq_true rfl) mw_93 rfl rfl rfl (Nat.le_of_ble_eq_true rfl) rfl dX8_init_15 rfl rfl rfl ?_
  refine gn_aload_n (pc' := 19) hC dX8_init_18 rfl rfl ?_
  refine gn_iconst (v := (1 : Int32)) (pc' := 20) hC dX8_init_19 (by decide) rfl ?_
  refine gn_newI (ty := .int) (n0 := 1) (pc' := 22) (cells' := 3) (slots' := 3) hC 0 (Or.inl ⟨rfl, rfl⟩) mw_59 rfl (by decide) (Nat.le_of_ble_eq_true rfl) (Nat.le_of_ble_eq_true rfl) dX8_init_20 rfl rfl rfl rfl (fun q2 => ?_)
  refine gn_put (T := TX8) (ci := 8) (v := .ref q2) (fs' := [.null, .null, .int 0, .int 0, .ref q0, .ref q1, .ref q2, .null, .null]) (ws' := [(h, .inr (8, [.null, .null, .int 0, .int 0, .ref q0, .ref q1, .ref q2, .null, .null])), (q0, .inl (x_cy X 3, (1, .inr (.inl (fun _ => 0))))), (q1, .inl (x_cy X 3, (1, .inr (.inl (fun _ => 0))))), (q2, .inl (x_cy X 0, (1, .inl (fun _ => 0))))]) (pc' := 25) hC 0 6 rfl rfl inlX8 tyX8_ok nmX8 (Nat.le_of_ble_eq_true rfl) mw_94 rfl rfl rfl (Nat.le_of_ble_eq_true rfl) rfl dX8_init_22 rfl rfl rfl ?_
  refine gn_aload_n (pc' := 26) hC dX8_init_25 rfl rfl ?_
  refine gn_iconst (v := (1 : Int32)) (pc' := 27) hC dX8_init_26 (by decide) rfl ?_
  refine gn_newI (ty := .byte) (n0 := 1) (pc' := 29) (cells' := 4) (slots' := 4) hC 1 (Or.inr (Or.inl ⟨rfl, rfl⟩)) mw_95 rfl (by decide) (Nat.le_of_ble_eq_true rfl) (Nat.le_of_ble_eq_true rfl) dX8_init_27 rfl rfl rfl rfl (fun q3 => ?_)
  refine gn_put (T := TX8) (ci := 8) (v := .ref q3) (fs' := [.null, .null, .int 0, .int 0, .ref q0, .ref q1, .ref q2, .ref q3, .null]) (ws' := [(h, .inr (8, [.null, .null, .int 0, .int 0, .ref q0, .ref q1, .ref q2, .ref q3, .null])), (q0, .inl (x_cy X 3, (1, .inr (.inl (fun _ => 0))))), (q1, .inl (x_cy X 3, (1, .inr (.inl (fun _ => 0))))), (q2, .inl (x_cy X 0, (1, .inl (fun _ => 0)))), (q3, .inl (x_cy X 1, (1, .inl (fun _ => 0))))]) (pc' := 32) hC 0 7 rfl rfl inlX8 tyX8_ok nmX8 (Nat.le_of_ble_eq_true rfl) mw_96 rfl rfl rfl (Nat.le_of_ble_eq_true rfl) rfl dX8_init_29 rfl rfl rfl ?_
  refine gn_aload_n (pc' := 33) hC dX8_init_32 rfl rfl ?_
  refine gn_new (T := TX7) (ci := 7) (fs := [.int 0, .int 0, .int 0, .int 0, .null, .null, .null, .null, .null, .null]) (pc' := 36) (cells' := 5) (slots' := 14) hC rfl inlX7 tyX7_ok mw_97 mw_98 mw_99 dfX7_ok (Nat.le_of_ble_eq_true rfl) (Nat.le_of_ble_eq_true rfl) dX8_init_33 rfl rfl rfl (fun q4 => ?_)
  refine gn_dup (pc' := 37) hC dX8_init_36 rfl rfl ?_
  refine gn_aload_n (pc' := 38) hC dX8_init_37 rfl rfl ?_
  refine gn_sub (ws' := [(q4, .inr (7, [.int 0, .int 0, .int 0, .int 0, .null, .null, .null, .null, .null, .null])), (h, .inr (8, [.null, .null, .int 0, .int 0, .ref q0, .ref q1, .ref q2, .ref q3, .null])), (q0, .inl (x_cy X 3, (1, .inr (.inl (fun _ => 0))))), (q1, .inl (x_cy X 3, (1, .inr (.inl (fun _ => 0))))), (q2, .inl (x_cy X 0, (1, .inl (fun _ => 0)))), (q3, .inl (x_cy X 1, (1, .inl (fun _ => 0))))]) [5, 0, 1, 2, 3, 4] (by decide) rfl ?_
  refine gn_callI (n := 1) (rc := ({ frames := 1, cells := 5, slots := 59, locals := 20 } : Room)) (As := [.ref a1]) (pre := [(q4, .inr (7, [.int 0, .int 0, .int 0, .int 0, .null, .null, .null, .null, .null, .null]))]) (rest := [(h, .inr (8, [.null, .null, .int 0, .int 0, .ref q0, .ref q1, .ref q2, .ref q3, .null])), (q0, .inl (x_cy X 3, (1, .inr (.inl (fun _ => 0))))), (q1, .inl (x_cy X 3, (1, .inr (.inl (fun _ => 0))))), (q2, .inl (x_cy X 0, (1, .inl (fun _ => 0)))), (q3, .inl (x_cy X 1, (1, .inl (fun _ => 0))))]) (st := [.ref q4, .ref h]) (pc' := 41) (cells' := 10) (slots' := 73) hC dX8_init_38 ⟨mw_106, mw_108, mw_99, ⟨by decide +kernel, by decide +kernel⟩, by decide +kernel, Nat.le_of_ble_eq_true rfl, Nat.le_of_ble_eq_true rfl, Nat.le_of_ble_eq_true rfl, Nat.le_of_ble_eq_true rfl⟩ mw_107 rfl rfl rfl (Nat.le_of_ble_eq_true rfl) (k_X7_init (x_l X) (x_D X) (x_cy X) (x_z X) q4 a1) rfl rfl rfl rfl (fun r5 => ?_)
  refine gn_eq (ws' := [(q4, .inr (7, [.int 0, .int 0, .int 0, .int 0, .ref a1, .ref (r5 0), .ref (r5 1), .ref (r5 2), .ref (r5 3), .ref (r5 4)])), ((r5 0), .inl (x_cy X 0, (13, .inl (fun _ => 0)))), ((r5 1), .inl (x_cy X 0, (13, .inl (fun _ => 0)))), ((r5 2), .inl (x_cy X 0, (13, .inl (fun _ => 0)))), ((r5 3), .inl (x_cy X 0, (10, .inl (fun _ => 0)))), ((r5 4), .inl (x_cy X 0, (10, .inl (fun _ => 0)))), (h, .inr (8, [.null, .null, .int 0, .int 0, .ref q0, .ref q1, .ref q2, .ref q3, .null])), (q0, .inl (x_cy X 3, (1, .inr (.inl (fun _ => 0))))), (q1, .inl (x_cy X 3, (1, .inr (.inl (fun _ => 0))))), (q2, .inl (x_cy X 0, (1, .inl (fun _ => 0)))), (q3, .inl (x_cy X 1, (1, .inl (fun _ => 0))))]) rfl ?_
  refine gn_sub (ws' := [(h, .inr (8, [.null, .null, .int 0, .int 0, .ref q0, .ref q1, .ref q2, .ref q3, .null])), (q0, .inl (x_cy X 3, (1, .inr (.inl (fun _ => 0))))), (q1, .inl (x_cy X 3, (1, .inr (.inl (fun _ => 0))))), (q2, .inl (x_cy X 0, (1, .inl (fun _ => 0)))), (q3, .inl (x_cy X 1, (1, .inl (fun _ => 0)))), (q4, .inr (7, [.int 0, .int 0, .int 0, .int 0, .ref a1, .ref (r5 0), .ref (r5 1), .ref (r5 2), .ref (r5 3), .ref (r5 4)])), ((r5 0), .inl (x_cy X 0, (13, .inl (fun _ => 0)))), ((r5 1), .inl (x_cy X 0, (13, .inl (fun _ => 0)))), ((r5 2), .inl (x_cy X 0, (13, .inl (fun _ => 0)))), ((r5 3), .inl (x_cy X 0, (10, .inl (fun _ => 0)))), ((r5 4), .inl (x_cy X 0, (10, .inl (fun _ => 0))))]) [6, 7, 8, 9, 10, 0, 1, 2, 3, 4, 5] (by decide) rfl ?_
  refine gn_putF (T := TX8) (ci := 8) (v := .ref q4) (fs' := [.ref q4, .null, .int 0, .int 0, .ref q0, .ref q1, .ref q2, .ref q3, .null]) (ws' := [(h, .inr (8, [.ref q4, .null, .int 0, .int 0, .ref q0, .ref q1, .ref q2, .ref q3, .null])), (q0, .inl (x_cy X 3, (1, .inr (.inl (fun _ => 0))))), (q1, .inl (x_cy X 3, (1, .inr (.inl (fun _ => 0))))), (q2, .inl (x_cy X 0, (1, .inl (fun _ => 0)))), (q3, .inl (x_cy X 1, (1, .inl (fun _ => 0)))), (q4, .inr (7, [.int 0, .int 0, .int 0, .int 0, .ref a1, .ref (r5 0), .ref (r5 1), .ref (r5 2), .ref (r5 3), .ref (r5 4)])), ((r5 0), .inl (x_cy X 0, (13, .inl (fun _ => 0)))), ((r5 1), .inl (x_cy X 0, (13, .inl (fun _ => 0)))), ((r5 2), .inl (x_cy X 0, (13, .inl (fun _ => 0)))), ((r5 3), .inl (x_cy X 0, (10, .inl (fun _ => 0)))), ((r5 4), .inl (x_cy X 0, (10, .inl (fun _ => 0))))]) (pc' := 44) hC hI 0 0 rfl rfl inlX8 tyX8_ok nmX8 (Nat.le_of_ble_eq_true rfl) mw_100 rfl rfl rfl (Nat.le_of_ble_eq_true rfl) rfl rfl dX8_init_41 rfl rfl rfl ?_
  refine gn_aload_n (pc' := 45) hC dX8_init_44 rfl rfl ?_
  refine gn_new (T := TX10) (ci := 10) (fs := [.int 0, .null, .null, .null, .null]) (pc' := 48) (cells' := 11) (slots' := 78) hC rfl inlX10 tyX10_ok mw_101 mw_102 mw_103 dfX10_ok (Nat.le_of_ble_eq_true rfl) (Nat.le_of_ble_eq_true rfl) dX8_init_45 rfl rfl rfl (fun q6 => ?_)
  refine gn_dup (pc' := 49) hC dX8_init_48 rfl rfl ?_
  refine gn_aload_n (pc' := 50) hC dX8_init_49 rfl rfl ?_
  refine gn_aload_n (pc' := 51) hC dX8_init_50 rfl rfl ?_
  refine gn_get (T := TX8) (ci := 8) (fs := [.ref q4, .null, .int 0, .int 0, .ref q0, .ref q1, .ref q2, .ref q3, .null]) (v := .ref q4) (pc' := 54) hC 0 0 rfl rfl inlX8 (Nat.le_of_ble_eq_true rfl) mw_100 rfl rfl dX8_init_51 rfl ?_
  refine gn_sub (ws' := [(q6, .inr (10, [.int 0, .null, .null, .null, .null])), (h, .inr (8, [.ref q4, .null, .int 0, .int 0, .ref q0, .ref q1, .ref q2, .ref q3, .null])), (q0, .inl (x_cy X 3, (1, .inr (.inl (fun _ => 0))))), (q1, .inl (x_cy X 3, (1, .inr (.inl (fun _ => 0))))), (q2, .inl (x_cy X 0, (1, .inl (fun _ => 0)))), (q3, .inl (x_cy X 1, (1, .inl (fun _ => 0)))), (q4, .inr (7, [.int 0, .int 0, .int 0, .int 0, .ref a1, .ref (r5 0), .ref (r5 1), .ref (r5 2), .ref (r5 3), .ref (r5 4)])), ((r5 0), .inl (x_cy X 0, (13, .inl (fun _ => 0)))), ((r5 1), .inl (x_cy X 0, (13, .inl (fun _ => 0)))), ((r5 2), .inl (x_cy X 0, (13, .inl (fun _ => 0)))), ((r5 3), .inl (x_cy X 0, (10, .inl (fun _ => 0)))), ((r5 4), .inl (x_cy X 0, (10, .inl (fun _ => 0))))]) [11, 0, 1, 2, 3, 4, 5, 6, 7, 8, 9, 10] (by decide) rfl ?_
  refine gn_callI (n := 2) (rc := ({ frames := 1, cells := 2, slots := 30, locals := 20 } : Room)) (As := [.ref a1, .ref q4]) (pre := [(q6, .inr (10, [.int 0, .null, .null, .null, .null]))]) (rest := [(h, .inr (8, [.ref q4, .null, .int 0, .int 0, .ref q0, .ref q1, .ref q2, .ref q3, .null])), (q0, .inl (x_cy X 3, (1, .inr (.inl (fun _ => 0))))), (q1, .inl (x_cy X 3, (1, .inr (.inl (fun _ => 0))))), (q2, .inl (x_cy X 0, (1, .inl (fun _ => 0)))), (q3, .inl (x_cy X 1, (1, .inl (fun _ => 0)))), (q4, .inr (7, [.int 0, .int 0, .int 0, .int 0, .ref a1, .ref (r5 0), .ref (r5 1), .ref (r5 2), .ref (r5 3), .ref (r5 4)])), ((r5 0), .inl (x_cy X 0, (13, .inl (fun _ => 0)))), ((r5 1), .inl (x_cy X 0, (13, .inl (fun _ => 0)))), ((r5 2), .inl (x_cy X 0, (13, .inl (fun _ => 0)))), ((r5 3), .inl (x_cy X 0, (10, .inl (fun _ => 0)))), ((r5 4), .inl (x_cy X 0, (10, .inl (fun _ => 0))))]) (st := [.ref q6, .ref h]) (pc' := 57) (cells' := 13) (slots' := 108) hC dX8_init_54 ⟨mw_116, mw_118, mw_103, ⟨by decide +kernel, by decide +kernel⟩, by decide +kernel, Nat.le_of_ble_eq_true rfl, Nat.le_of_ble_eq_true rfl, Nat.le_of_ble_eq_true rfl, Nat.le_of_ble_eq_true rfl⟩ mw_117 rfl rfl rfl (Nat.le_of_ble_eq_true rfl) (k_X10_init (x_l X) (x_D X) (x_cy X) (x_z X) q6 a1 q4) rfl rfl rfl rfl (fun r7 => ?_)
  refine gn_eq (ws' := [(q6, .inr (10, [.int 0, .ref (r7 0), .ref (r7 1), .ref a1, .ref q4])), ((r7 0), .inl (x_cy X 0, (15, .inl (fun _ => 0)))), ((r7 1), .inl (x_cy X 0, (15, .inl (fun _ => 0)))), (h, .inr (8, [.ref q4, .null, .int 0, .int 0, .ref q0, .ref q1, .ref q2, .ref q3, .null])), (q0, .inl (x_cy X 3, (1, .inr (.inl (fun _ => 0))))), (q1, .inl (x_cy X 3, (1, .inr (.inl (fun _ => 0))))), (q2, .inl (x_cy X 0, (1, .inl (fun _ => 0)))), (q3, .inl (x_cy X 1, (1, .inl (fun _ => 0)))), (q4, .inr (7, [.int 0, .int 0, .int 0, .int 0, .ref a1, .ref (r5 0), .ref (r5 1), .ref (r5 2), .ref (r5 3), .ref (r5 4)])), ((r5 0), .inl (x_cy X 0, (13, .inl (fun _ => 0)))), ((r5 1), .inl (x_cy X 0, (13, .inl (fun _ => 0)))), ((r5 2), .inl (x_cy X 0, (13, .inl (fun _ => 0)))), ((r5 3), .inl (x_cy X 0, (10, .inl (fun _ => 0)))), ((r5 4), .inl (x_cy X 0, (10, .inl (fun _ => 0))))]) rfl ?_
  refine gn_sub (ws' := [(h, .inr (8, [.ref q4, .null, .int 0, .int 0, .ref q0, .ref q1, .ref q2, .ref q3, .null])), (q0, .inl (x_cy X 3, (1, .inr (.inl (fun _ => 0))))), (q1, .inl (x_cy X 3, (1, .inr (.inl (fun _ => 0))))), (q2, .inl (x_cy X 0, (1, .inl (fun _ => 0)))), (q3, .inl (x_cy X 1, (1, .inl (fun _ => 0)))), (q4, .inr (7, [.int 0, .int 0, .int 0, .int 0, .ref a1, .ref (r5 0), .ref (r5 1), .ref (r5 2), .ref (r5 3), .ref (r5 4)])), ((r5 0), .inl (x_cy X 0, (13, .inl (fun _ => 0)))), ((r5 1), .inl (x_cy X 0, (13, .inl (fun _ => 0)))), ((r5 2), .inl (x_cy X 0, (13, .inl (fun _ => 0)))), ((r5 3), .inl (x_cy X 0, (10, .inl (fun _ => 0)))), ((r5 4), .inl (x_cy X 0, (10, .inl (fun _ => 0)))), (q6, .inr (10, [.int 0, .ref (r7 0), .ref (r7 1), .ref a1, .ref q4])), ((r7 0), .inl (x_cy X 0, (15, .inl (fun _ => 0)))), ((r7 1), .inl (x_cy X 0, (15, .inl (fun _ => 0))))]) [3, 4, 5, 6, 7, 8, 9, 10, 11, 12, 13, 0, 1, 2] (by decide) rfl ?_
  refine gn_putF (T := TX8) (ci := 8) (v := .ref q6) (fs' := [.ref q4, .ref q6, .int 0, .int 0, .ref q0, .ref q1, .ref q2, .ref q3, .null]) (ws' := [(h, .inr (8, [.ref q4, .ref q6, .int 0, .int 0, .ref q0, .ref q1, .ref q2, .ref q3, .null])), (q0, .inl (x_cy X 3, (1, .inr (.inl (fun _ => 0))))), (q1, .inl (x_cy X 3, (1, .inr (.inl (fun _ => 0))))), (q2, .inl (x_cy X 0, (1, .inl (fun _ => 0)))), (q3, .inl (x_cy X 1, (1, .inl (fun _ => 0)))), (q4, .inr (7, [.int 0, .int 0, .int 0, .int 0, .ref a1, .ref (r5 0), .ref (r5 1), .ref (r5 2), .ref (r5 3), .ref (r5 4)])), ((r5 0), .inl (x_cy X 0, (13, .inl (fun _ => 0)))), ((r5 1), .inl (x_cy X 0, (13, .inl (fun _ => 0)))), ((r5 2), .inl (x_cy X 0, (13, .inl (fun _ => 0)))), ((r5 3), .inl (x_cy X 0, (10, .inl (fun _ => 0)))), ((r5 4), .inl (x_cy X 0, (10, .inl (fun _ => 0)))), (q6, .inr (10, [.int 0, .ref (r7 0), .ref (r7 1), .ref a1, .ref q4])), ((r7 0), .inl (x_cy X 0, (15, .inl (fun _ => 0)))), ((r7 1), .inl (x_cy X 0, (15, .inl (fun _ => 0))))]) (pc' := 60) hC hI 0 1 rfl rfl inlX8 tyX8_ok nmX8 (Nat.le_of_ble_eq_true rfl) mw_104 rfl rfl rfl (Nat.le_of_ble_eq_true rfl) rfl rfl dX8_init_57 rfl rfl rfl ?_
  refine gn_aload_n (pc' := 61) hC dX8_init_60 rfl rfl ?_
  refine gn_new (T := TX10) (ci := 10) (fs := [.int 0, .null, .null, .null, .null]) (pc' := 64) (cells' := 14) (slots' := 113) hC rfl inlX10 tyX10_ok mw_101 mw_102 mw_103 dfX10_ok (Nat.le_of_ble_eq_true rfl) (Nat.le_of_ble_eq_true rfl) dX8_init_61 rfl rfl rfl (fun q8 => ?_)
  refine gn_dup (pc' := 65) hC dX8_init_64 rfl rfl ?_
  refine gn_aload_n (pc' := 66) hC dX8_init_65 rfl rfl ?_
  refine gn_aload_n (pc' := 67) hC dX8_init_66 rfl rfl ?_
  refine gn_get (T := TX8) (ci := 8) (fs := [.ref q4, .ref q6, .int 0, .int 0, .ref q0, .ref q1, .ref q2, .ref q3, .null]) (v := .ref q4) (pc' := 70) hC 0 0 rfl rfl inlX8 (Nat.le_of_ble_eq_true rfl) mw_100 rfl rfl dX8_init_67 rfl ?_
  refine gn_sub (ws' := [(q8, .inr (10, [.int 0, .null, .null, .null, .null])), (h, .inr (8, [.ref q4, .ref q6, .int 0, .int 0, .ref q0, .ref q1, .ref q2, .ref q3, .null])), (q0, .inl (x_cy X 3, (1, .inr (.inl (fun _ => 0))))), (q1, .inl (x_cy X 3, (1, .inr (.inl (fun _ => 0))))), (q2, .inl (x_cy X 0, (1, .inl (fun _ => 0)))), (q3, .inl (x_cy X 1, (1, .inl (fun _ => 0)))), (q4, .inr (7, [.int 0, .int 0, .int 0, .int 0, .ref a1, .ref (r5 0), .ref (r5 1), .ref (r5 2), .ref (r5 3), .ref (r5 4)])), ((r5 0), .inl (x_cy X 0, (13, .inl (fun _ => 0)))), ((r5 1), .inl (x_cy X 0, (13, .inl (fun _ => 0)))), ((r5 2), .inl (x_cy X 0, (13, .inl (fun _ => 0)))), ((r5 3), .inl (x_cy X 0, (10, .inl (fun _ => 0)))), ((r5 4), .inl (x_cy X 0, (10, .inl (fun _ => 0)))), (q6, .inr (10, [.int 0, .ref (r7 0), .ref (r7 1), .ref a1, .ref q4])), ((r7 0), .inl (x_cy X 0, (15, .inl (fun _ => 0)))), ((r7 1), .inl (x_cy X 0, (15, .inl (fun _ => 0))))]) [14, 0, 1, 2, 3, 4, 5, 6, 7, 8, 9, 10, 11, 12, 13] (by decide) rfl ?_
  refine gn_callI (n := 2) (rc := ({ frames := 1, cells := 2, slots := 30, locals := 20 } : Room)) (As := [.ref a1, .ref q4]) (pre := [(q8, .inr (10, [.int 0, .null, .null, .null, .null]))]) (rest := [(h, .inr (8, [.ref q4, .ref q6, .int 0, .int 0, .ref q0, .ref q1, .ref q2, .ref q3, .null])), (q0, .inl (x_cy X 3, (1, .inr (.inl (fun _ => 0))))), (q1, .inl (x_cy X 3, (1, .inr (.inl (fun _ => 0))))), (q2, .inl (x_cy X 0, (1, .inl (fun _ => 0)))), (q3, .inl (x_cy X 1, (1, .inl (fun _ => 0)))), (q4, .inr (7, [.int 0, .int 0, .int 0, .int 0, .ref a1, .ref (r5 0), .ref (r5 1), .ref (r5 2), .ref (r5 3), .ref (r5 4)])), ((r5 0), .inl (x_cy X 0, (13, .inl (fun _ => 0)))), ((r5 1), .inl (x_cy X 0, (13, .inl (fun _ => 0)))), ((r5 2), .inl (x_cy X 0, (13, .inl (fun _ => 0)))), ((r5 3), .inl (x_cy X 0, (10, .inl (fun _ => 0)))), ((r5 4), .inl (x_cy X 0, (10, .inl (fun _ => 0)))), (q6, .inr (10, [.int 0, .ref (r7 0), .ref (r7 1), .ref a1, .ref q4])), ((r7 0), .inl (x_cy X 0, (15, .inl (fun _ => 0)))), ((r7 1), .inl (x_cy X 0, (15, .inl (fun _ => 0))))]) (st := [.ref q8, .ref h]) (pc' := 73) (cells' := 16) (slots' := 143) hC dX8_init_70 ⟨mw_116, mw_118, mw_103, ⟨by decide +kernel, by decide +kernel⟩, by decide +kernel, Nat.le_of_ble_eq_true rfl, Nat.le_of_ble_eq_true rfl, Nat.le_of_ble_eq_true rfl, Nat.le_of_ble_eq_true rfl⟩ mw_117 rfl rfl rfl (Nat.le_of_ble_eq_true rfl) (k_X10_init (x_l X) (x_D X) (x_cy X) (x_z X) q8 a1 q4) rfl rfl rfl rfl (fun r9 => ?_)
  refine gn_eq (ws' := [(q8, .inr (10, [.int 0, .ref (r9 0), .ref (r9 1), .ref a1, .ref q4])), ((r9 0), .inl (x_cy X 0, (15, .inl (fun _ => 0)))), ((r9 1), .inl (x_cy X 0, (15, .inl (fun _ => 0)))), (h, .inr (8, [.ref q4, .ref q6, .int 0, .int 0, .ref q0, .ref q1, .ref q2, .ref q3, .null])), (q0, .inl (x_cy X 3, (1, .inr (.inl (fun _ => 0))))), (q1, .inl (x_cy X 3, (1, .inr (.inl (fun _ => 0))))), (q2, .inl (x_cy X 0, (1, .inl (fun _ => 0)))), (q3, .inl (x_cy X 1, (1, .inl (fun _ => 0)))), (q4, .inr (7, [.int 0, .int 0, .int 0, .int 0, .ref a1, .ref (r5 0), .ref (r5 1), .ref (r5 2), .ref (r5 3), .ref (r5 4)])), ((r5 0), .inl (x_cy X 0, (13, .inl (fun _ => 0)))), ((r5 1), .inl (x_cy X 0, (13, .inl (fun _ => 0)))), ((r5 2), .inl (x_cy X 0, (13, .inl (fun _ => 0)))), ((r5 3), .inl (x_cy X 0, (10, .inl (fun _ => 0)))), ((r5 4), .inl (x_cy X 0, (10, .inl (fun _ => 0)))), (q6, .inr (10, [.int 0, .ref (r7 0), .ref (r7 1), .ref a1, .ref q4])), ((r7 0), .inl (x_cy X 0, (15, .inl (fun _ => 0)))), ((r7 1), .inl (x_cy X 0, (15, .inl (fun _ => 0))))]) rfl ?_
  refine gn_sub (ws' := [(h, .inr (8, [.ref q4, .ref q6, .int 0, .int 0, .ref q0, .ref q1, .ref q2, .ref q3, .null])), (q0, .inl (x_cy X 3, (1, .inr (.inl (fun _ => 0))))), (q1, .inl (x_cy X 3, (1, .inr (.inl (fun _ => 0))))), (q2, .inl (x_cy X 0, (1, .inl (fun _ => 0)))), (q3, .inl (x_cy X 1, (1, .inl (fun _ => 0)))), (q4, .inr (7, [.int 0, .int 0, .int 0, .int 0, .ref a1, .ref (r5 0), .ref (r5 1), .ref (r5 2), .ref (r5 3), .ref (r5 4)])), ((r5 0), .inl (x_cy X 0, (13, .inl (fun _ => 0)))), ((r5 1), .inl (x_cy X 0, (13, .inl (fun _ => 0)))), ((r5 2), .inl (x_cy X 0, (13, .inl (fun _ => 0)))), ((r5 3), .inl (x_cy X 0, (10, .inl (fun _ => 0)))), ((r5 4), .inl (x_cy X 0, (10, .inl (fun _ => 0)))), (q6, .inr (10, [.int 0, .ref (r7 0), .ref (r7 1), .ref a1, .ref q4])), ((r7 0), .inl (x_cy X 0, (15, .inl (fun _ => 0)))), ((r7 1), .inl (x_cy X 0, (15, .inl (fun _ => 0)))), (q8, .inr (10, [.int 0, .ref (r9 0), .ref (r9 1), .ref a1, .ref q4])), ((r9 0), .inl (x_cy X 0, (15, .inl (fun _ => 0)))), ((r9 1), .inl (x_cy X 0, (15, .inl (fun _ => 0))))]) [3, 4, 5, 6, 7, 8, 9, 10, 11, 12, 13, 14, 15, 16, 0, 1, 2] (by decide) rfl ?_
  refine gn_putF (T := TX8) (ci := 8) (v := .ref q8) (fs' := [.ref q4, .ref q6, .int 0, .int 0, .ref q0, .ref q1, .ref q2, .ref q3, .ref q8]) (ws' := [(h, .inr (8, [.ref q4, .ref q6, .int 0, .int 0, .ref q0, .ref q1, .ref q2, .ref q3, .ref q8])), (q0, .inl (x_cy X 3, (1, .inr (.inl (fun _ => 0))))), (q1, .inl (x_cy X 3, (1, .inr (.inl (fun _ => 0))))), (q2, .inl (x_cy X 0, (1, .inl (fun _ => 0)))), (q3, .inl (x_cy X 1, (1, .inl (fun _ => 0)))), (q4, .inr (7, [.int 0, .int 0, .int 0, .int 0, .ref a1, .ref (r5 0), .ref (r5 1), .ref (r5 2), .ref (r5 3), .ref (r5 4)])), ((r5 0), .inl (x_cy X 0, (13, .inl (fun _ => 0)))), ((r5 1), .inl (x_cy X 0, (13, .inl (fun _ => 0)))), ((r5 2), .inl (x_cy X 0, (13, .inl (fun _ => 0)))), ((r5 3), .inl (x_cy X 0, (10, .inl (fun _ => 0)))), ((r5 4), .inl (x_cy X 0, (10, .inl (fun _ => 0)))), (q6, .inr (10, [.int 0, .ref (r7 0), .ref (r7 1), .ref a1, .ref q4])), ((r7 0), .inl (x_cy X 0, (15, .inl (fun _ => 0)))), ((r7 1), .inl (x_cy X 0, (15, .inl (fun _ => 0)))), (q8, .inr (10, [.int 0, .ref (r9 0), .ref (r9 1), .ref a1, .ref q4])), ((r9 0), .inl (x_cy X 0, (15, .inl (fun _ => 0)))), ((r9 1), .inl (x_cy X 0, (15, .inl (fun _ => 0))))]) (pc' := 76) hC hI 0 8 rfl rfl inlX8 tyX8_ok nmX8 (Nat.le_of_ble_eq_true rfl) mw_105 rfl rfl rfl (Nat.le_of_ble_eq_true rfl) rfl rfl dX8_init_73 rfl rfl rfl ?_
  exact gn_vret hC hQ dX8_init_76 (fun i => [q0, q1, q2, q3, q4, (r5 0), (r5 1), (r5 2), (r5 3), (r5 4), q6, (r7 0), (r7 1), q8, (r9 0), (r9 1)].getD i 0) rfl
def wX3 (cy : Nat → ClassId) (h : Nat) (a1 : Nat) (b1 : Int32) (sv0 sv2 sv3 sv4 sv5 sv6 sv7 sv8 : Value) (tq : Nat) (r : Nat → Nat) : va_W := [(h, .inr (3, [.int 0, .int 0, .ref (r 0), .int b1, .ref (r 1), .ref (r 2), .ref a1, .ref tq])), (a1, .inr (8, [sv0, .ref tq, sv2, sv3, sv4, sv5, sv6, sv7, sv8])), ((r 0), .inl (cy 0, (60, .inl (fun _ => 0)))), ((r 1), .inl (cy 3, (60, .inr (.inl (fun _ => 0))))), ((r 2), .inl (cy 3, (60, .inr (.inl (fun _ => 0)))))]
set_option maxRecDepth 20000 in
theorem k_X3_init (l : Launch) (D : va_G) (cy : Nat → ClassId) (z : (Nat → Nat) × (Nat → Nat) × Nat) (h : Nat) (a1 : Nat) (b1 : Int32) (sv0 sv2 sv3 sv4 sv5 sv6 sv7 sv8 : Value) (tq : Nat) (hz1 : narrow .boolean (.int b1) = .int b1) (hz2 : fits .boolean (.int b1) = true) : CX l yX3_init cX3_init 3 ({ frames := 1, cells := 3, slots := 180, locals := 20 } : Room) D cy z [.ref h, .ref a1, .int b1] [(h, .inr (3, [.int 0, .int 0, .null, .int 0, .null, .null, .null, .null])), (a1, .inr (8, [sv0, .ref tq, sv2, sv3, sv4, sv5, sv6, sv7, sv8]))] (fun r => wX3 cy h a1 b1 sv0 sv2 sv3 sv4 sv5 sv6 sv7 sv8 tq r) 3 180 := by
  refine cx_of (own := RX3) (lc := [(0, .ref h), (1, .ref a1), (2, .int b1)]) (by decide +kernel) rfl rfl (Nat.le_of_ble_eq_true rfl) rfl ?_
  intro X hXl hXz hXD hXc hC hI hQ
  subst hXl; subst hXz; subst hXD; subst hXc
  refine gn_aload_n (pc' := 1) hC dX3_init_0 rfl rfl ?_
  refine gn_objInit (pc' := 4) hC mw_127 dX3_init_1 rfl (Nat.le_of_ble_eq_true rfl) (Nat.le_of_ble_eq_true rfl) ?_
  refine gn_aload_n (pc' := 5) hC dX3_init_4 rfl rfl ?_
  refine gn_bipush (v := (60 : Int32)) (pc' := 7) hC dX3_init_5 (by decide) rfl ?_
  refine gn_newI (ty := .int) (n0 := 60) (pc' := 9) (cells' := 1) (slots' := 60) hC 0 (Or.inl ⟨rfl, rfl⟩) mw_59 rfl (by decide) (Nat.le_of_ble_eq_true rfl) (Nat.le_of_ble_eq_true rfl) dX3_init_7 rfl rfl rfl rfl (fun q0 => ?_)
  refine gn_putF (T := TX3) (ci := 3) (v := .ref q0) (fs' := [.int 0, .int 0, .ref q0, .int 0, .null, .null, .null, .null]) (ws' := [(h, .inr (3, [.int 0, .int 0, .ref q0, .int 0, .null, .null, .null, .null])), (a1, .inr (8, [sv0, .ref tq, sv2, sv3, sv4, sv5, sv6, sv7, sv8])), (q0, .inl (x_cy X 0, (60, .inl (fun _ => 0))))]) (pc' := 12) hC hI 0 2 rfl rfl inlX3 tyX3_ok nmX3 (Nat.le_of_ble_eq_true rfl) mw_128 rfl rfl rfl (Nat.le_of_ble_eq_true rfl) rfl rfl dX3_init_9 rfl rfl rfl ?_
  refine gn_aload_n (pc' := 13) hC dX3_init_12 rfl rfl ?_
  refine gn_bipush (v := (60 : Int32)) (pc' := 15) hC dX3_init_13 (by decide) rfl ?_
  refine gn_newL (n0 := 60) (pc' := 17) (cells' := 2) (slots' := 120) hC rfl (by decide) (Nat.le_of_ble_eq_true rfl) (Nat.le_of_ble_eq_true rfl) dX3_init_15 rfl rfl rfl rfl (fun q1 => ?_)
  refine gn_putF (T := TX3) (ci := 3) (v := .ref q1) (fs' := [.int 0, .int 0, .ref q0, .int 0, .ref q1, .null, .null, .null]) (ws' := [(h, .inr (3, [.int 0, .int 0, .ref q0, .int 0, .ref q1, .null, .null, .null])), (a1, .inr (8, [sv0, .ref tq, sv2, sv3, sv4, sv5, sv6, sv7, sv8])), (q0, .inl (x_cy X 0, (60, .inl (fun _ => 0)))), (q1, .inl (x_cy X 3, (60, .inr (.inl (fun _ => 0)))))]) (pc' := 20) hC hI 0 4 rfl rfl inlX3 tyX3_ok nmX3 (Nat.le_of_ble_eq_true rfl) mw_129 rfl rfl rfl (Nat.le_of_ble_eq_true rfl) rfl rfl dX3_init_17 rfl rfl rfl ?_
  refine gn_aload_n (pc' := 21) hC dX3_init_20 rfl rfl ?_
  refine gn_bipush (v := (60 : Int32)) (pc' := 23) hC dX3_init_21 (by decide) rfl ?_
  refine gn_newL (n0 := 60) (pc' := 25) (cells' := 3) (slots' := 180) hC rfl (by decide) (Nat.le_of_ble_eq_true rfl) (Nat.le_of_ble_eq_true rfl) dX3_init_23 rfl rfl rfl rfl (fun q2 => ?_)
  refine gn_putF (T := TX3) (ci := 3) (v := .ref q2) (fs' := [.int 0, .int 0, .ref q0, .int 0, .ref q1, .ref q2, .null, .null]) (ws' := [(h, .inr (3, [.int 0, .int 0, .ref q0, .int 0, .ref q1, .ref q2, .null, .null])), (a1, .inr (8, [sv0, .ref tq, sv2, sv3, sv4, sv5, sv6, sv7, sv8])), (q0, .inl (x_cy X 0, (60, .inl (fun _ => 0)))), (q1, .inl (x_cy X 3, (60, .inr (.inl (fun _ => 0))))), (q2, .inl (x_cy X 3, (60, .inr (.inl (fun _ => 0)))))]) (pc' := 28) hC hI 0 5 rfl rfl inlX3 tyX3_ok nmX3 (Nat.le_of_ble_eq_true rfl) mw_130 rfl rfl rfl (Nat.le_of_ble_eq_true rfl) rfl rfl dX3_init_25 rfl rfl rfl ?_
  refine gn_aload_n (pc' := 29) hC dX3_init_28 rfl rfl ?_
  refine gn_aload_n (pc' := 30) hC dX3_init_29 rfl rfl ?_
  refine gn_putF (T := TX3) (ci := 3) (v := .ref a1) (fs' := [.int 0, .int 0, .ref q0, .int 0, .ref q1, .ref q2, .ref a1, .null]) (ws' := [(h, .inr (3, [.int 0, .int 0, .ref q0, .int 0, .ref q1, .ref q2, .ref a1, .null])), (a1, .inr (8, [sv0, .ref tq, sv2, sv3, sv4, sv5, sv6, sv7, sv8])), (q0, .inl (x_cy X 0, (60, .inl (fun _ => 0)))), (q1, .inl (x_cy X 3, (60, .inr (.inl (fun _ => 0))))), (q2, .inl (x_cy X 3, (60, .inr (.inl (fun _ => 0)))))]) (pc' := 33) hC hI 0 6 rfl rfl inlX3 tyX3_ok nmX3 (Nat.le_of_ble_eq_true rfl) mw_131 rfl rfl rfl (Nat.le_of_ble_eq_true rfl) rfl rfl dX3_init_30 rfl rfl rfl ?_
  refine gn_aload_n (pc' := 34) hC dX3_init_33 rfl rfl ?_
  refine gn_aload_n (pc' := 35) hC dX3_init_34 rfl rfl ?_
  refine gn_get (T := TX8) (ci := 8) (fs := [sv0, .ref tq, sv2, sv3, sv4, sv5, sv6, sv7, sv8]) (v := .ref tq) (pc' := 38) hC 1 1 rfl rfl inlX8 (Nat.le_of_ble_eq_true rfl) mw_132 rfl rfl dX3_init_35 rfl ?_
  refine gn_putF (T := TX3) (ci := 3) (v := .ref tq) (fs' := [.int 0, .int 0, .ref q0, .int 0, .ref q1, .ref q2, .ref a1, .ref tq]) (ws' := [(h, .inr (3, [.int 0, .int 0, .ref q0, .int 0, .ref q1, .ref q2, .ref a1, .ref tq])), (a1, .inr (8, [sv0, .ref tq, sv2, sv3, sv4, sv5, sv6, sv7, sv8])), (q0, .inl (x_cy X 0, (60, .inl (fun _ => 0)))), (q1, .inl (x_cy X 3, (60, .inr (.inl (fun _ => 0))))), (q2, .inl (x_cy X 3, (60, .inr (.inl (fun _ => 0)))))]) (pc' := 41) hC hI 0 7 rfl rfl inlX3 tyX3_ok nmX3 (Nat.le_of_ble_eq_true rfl) mw_133 rfl rfl rfl (Nat.le_of_ble_eq_true rfl) rfl rfl dX3_init_38 rfl rfl rfl ?_
  refine gn_aload_n (pc' := 42) hC dX3_init_41 rfl rfl ?_
  refine gn_iload_n (pc' := 43) hC dX3_init_42 rfl rfl ?_
  refine gn_putF (T := TX3) (ci := 3) (v := .int b1) (fs' := [.int 0, .int 0, .ref q0, .int b1, .ref q1, .ref q2, .ref a1, .ref tq]) (ws' := [(h, .inr (3, [.int 0, .int 0, .ref q0, .int b1, .ref q1, .ref q2, .ref a1, .ref tq])), (a1, .inr (8, [sv0, .ref tq, sv2, sv3, sv4, sv5, sv6, sv7, sv8])), (q0, .inl (x_cy X 0, (60, .inl (fun _ => 0)))), (q1, .inl (x_cy X 3, (60, .inr (.inl (fun _ => 0))))), (q2, .inl (x_cy X 3, (60, .inr (.inl (fun _ => 0)))))]) (pc' := 46) hC hI 0 3 rfl rfl inlX3 tyX3_ok nmX3 (Nat.le_of_ble_eq_true rfl) mw_134 rfl hz1 hz2 (Nat.le_of_ble_eq_true rfl) rfl rfl dX3_init_43 rfl rfl rfl ?_
  exact gn_vret hC hQ dX3_init_46 (fun i => [q0, q1, q2].getD i 0) rfl
def wX0 (cy : Nat → ClassId) (h : Nat) (a1 : Nat) (a2 : Nat) (a3 : Nat) (r : Nat → Nat) : va_W := [(h, .inr (0, [.ref (r 0), .ref (r 1), .ref a1, .ref a2, .ref a3, .int 0, .ref (r 2), .ref (r 3), .ref (r 4)])), ((r 0), .inl (cy 3, (1, .inr (.inl (fun _ => 0))))), ((r 1), .inl (cy 3, (1, .inr (.inl (fun _ => 0))))), ((r 2), .inl (cy 3, (1, .inr (.inl (fun _ => 0))))), ((r 3), .inl (cy 3, (1, .inr (.inl (fun _ => 0))))), ((r 4), .inl (cy 3, (1, .inr (.inl (fun _ => 0)))))]
set_option maxRecDepth 20000 in
theorem k_X0_init (l : Launch) (D : va_G) (cy : Nat → ClassId) (z : (Nat → Nat) × (Nat → Nat) × Nat) (h : Nat) (a1 : Nat) (a2 : Nat) (a3 : Nat) : CX l yX0_init cX0_init 4 ({ frames := 1, cells := 5, slots := 5, locals := 20 } : Room) D cy z [.ref h, .ref a1, .ref a2, .ref a3] [(h, .inr (0, [.null, .null, .null, .null, .null, .int 0, .null, .null, .null]))] (fun r => wX0 cy h a1 a2 a3 r) 5 5 := by
  refine cx_of (own := RX0) (lc := [(0, .ref h), (1, .ref a1), (2, .ref a2), (3, .ref a3)]) (by decide +kernel) rfl rfl (Nat.le_of_ble_eq_true rfl) rfl ?_
  intro X hXl hXz hXD hXc hC hI hQ
  subst hXl; subst hXz; subst hXD; subst hXc
  refine gn_aload_n (pc' := 1) hC dX0_init_0 rfl rfl ?_
  refine gn_objInit (pc' := 4) hC mw_138 dX0_init_1 rfl (Nat.le_of_ble_eq_true rfl) (Nat.le_of_ble_eq_true rfl) ?_
  refine gn_aload_n (pc' := 5) hC dX0_init_4 rfl rfl ?_
  refine gn_iconst (v := (1 : Int32)) (pc' := 6) hC dX0_init_5 (by decide) rfl ?_
  refine gn_newL (n0 := 1) (pc' := 8) (cells' := 1) (slots' := 1) hC rfl (by decide) (Nat.le_of_ble_eq_true rfl) (Nat.le_of_ble_eq_true rfl) dX0_init_6 rfl rfl rfl rfl (fun q0 => ?_)
  refine gn_put (T := TX0) (ci := 0) (v := .ref q0) (fs' := [.ref q0, .null, .null, .null, .null, .int 0, .null, .null, .null]) (ws' := [(h, .inr (0, [.ref q0, .null, .null, .null, .null, .int 0, .null, .null, .null])), (q0, .inl (x_cy X 3, (1, .inr (.inl (fun _ => 0)))))]) (pc' := 11) hC 0 0 rfl rfl inlX0 tyX0_ok nmX0 (Nat.le_of_ble_eq_true rfl) mw_139 rfl rfl rfl (Nat.le_of_ble_eq_true rfl) rfl dX0_init_8 rfl rfl rfl ?_
  refine gn_aload_n (pc' := 12) hC dX0_init_11 rfl rfl ?_
  refine gn_iconst (v := (1 : Int32)) (pc' := 13) hC dX0_init_12 (by decide) rfl ?_
  refine gn_newL (n0 := 1) (pc' := 15) (cells' := 2) (slots' := 2) hC rfl (by decide) (Nat.le_of_ble_eq_true rfl) (Nat.le_of_ble_eq_true rfl) dX0_init_13 rfl rfl rfl rfl (fun q1 => ?_)
  refine gn_put (T := TX0) (ci := 0) (v := .ref q1) (fs' := [.ref q0, .ref q1, .null, .null, .null, .int 0, .null, .null, .null]) (ws' := [(h, .inr (0, [.ref q0, .ref q1, .null, .null, .null, .int 0, .null, .null, .null])), (q0, .inl (x_cy X 3, (1, .inr (.inl (fun _ => 0))))), (q1, .inl (x_cy X 3, (1, .inr (.inl (fun _ => 0)))))]) (pc' := 18) hC 0 1 rfl rfl inlX0 tyX0_ok nmX0 (Nat.le_of_ble_eq_true rfl) mw_140 rfl rfl rfl (Nat.le_of_ble_eq_true rfl) rfl dX0_init_15 rfl rfl rfl ?_
  refine gn_aload_n (pc' := 19) hC dX0_init_18 rfl rfl ?_
  refine gn_iconst (v := (1 : Int32)) (pc' := 20) hC dX0_init_19 (by decide) rfl ?_
  refine gn_newL (n0 := 1) (pc' := 22) (cells' := 3) (slots' := 3) hC rfl (by decide) (Nat.le_of_ble_eq_true rfl) (Nat.le_of_ble_eq_true rfl) dX0_init_20 rfl rfl rfl rfl (fun q2 => ?_)
  refine gn_put (T := TX0) (ci := 0) (v := .ref q2) (fs' := [.ref q0, .ref q1, .null, .null, .null, .int 0, .ref q2, .null, .null]) (ws' := [(h, .inr (0, [.ref q0, .ref q1, .null, .null, .null, .int 0, .ref q2, .null, .null])), (q0, .inl (x_cy X 3, (1, .inr (.inl (fun _ => 0))))), (q1, .inl (x_cy X 3, (1, .inr (.inl (fun _ => 0))))), (q2, .inl (x_cy X 3, (1, .inr (.inl (fun _ => 0)))))]) (pc' := 25) hC 0 6 rfl rfl inlX0 tyX0_ok nmX0 (Nat.le_of_ble_eq_true rfl) mw_141 rfl rfl rfl (Nat.le_of_ble_eq_true rfl) rfl dX0_init_22 rfl rfl rfl ?_
  refine gn_aload_n (pc' := 26) hC dX0_init_25 rfl rfl ?_
  refine gn_iconst (v := (1 : Int32)) (pc' := 27) hC dX0_init_26 (by decide) rfl ?_
  refine gn_newL (n0 := 1) (pc' := 29) (cells' := 4) (slots' := 4) hC rfl (by decide) (Nat.le_of_ble_eq_true rfl) (Nat.le_of_ble_eq_true rfl) dX0_init_27 rfl rfl rfl rfl (fun q3 => ?_)
  refine gn_put (T := TX0) (ci := 0) (v := .ref q3) (fs' := [.ref q0, .ref q1, .null, .null, .null, .int 0, .ref q2, .ref q3, .null]) (ws' := [(h, .inr (0, [.ref q0, .ref q1, .null, .null, .null, .int 0, .ref q2, .ref q3, .null])), (q0, .inl (x_cy X 3, (1, .inr (.inl (fun _ => 0))))), (q1, .inl (x_cy X 3, (1, .inr (.inl (fun _ => 0))))), (q2, .inl (x_cy X 3, (1, .inr (.inl (fun _ => 0))))), (q3, .inl (x_cy X 3, (1, .inr (.inl (fun _ => 0)))))]) (pc' := 32) hC 0 7 rfl rfl inlX0 tyX0_ok nmX0 (Nat.le_of_ble_eq_true rfl) mw_142 rfl rfl rfl (Nat.le_of_ble_eq_true rfl) rfl dX0_init_29 rfl rfl rfl ?_
  refine gn_aload_n (pc' := 33) hC dX0_init_32 rfl rfl ?_
  refine gn_iconst (v := (1 : Int32)) (pc' := 34) hC dX0_init_33 (by decide) rfl ?_
  refine gn_newL (n0 := 1) (pc' := 36) (cells' := 5) (slots' := 5) hC rfl (by decide) (Nat.le_of_ble_eq_true rfl) (Nat.le_of_ble_eq_true rfl) dX0_init_34 rfl rfl rfl rfl (fun q4 => ?_)
  refine gn_put (T := TX0) (ci := 0) (v := .ref q4) (fs' := [.ref q0, .ref q1, .null, .null, .null, .int 0, .ref q2, .ref q3, .ref q4]) (ws' := [(h, .inr (0, [.ref q0, .ref q1, .null, .null, .null, .int 0, .ref q2, .ref q3, .ref q4])), (q0, .inl (x_cy X 3, (1, .inr (.inl (fun _ => 0))))), (q1, .inl (x_cy X 3, (1, .inr (.inl (fun _ => 0))))), (q2, .inl (x_cy X 3, (1, .inr (.inl (fun _ => 0))))), (q3, .inl (x_cy X 3, (1, .inr (.inl (fun _ => 0))))), (q4, .inl (x_cy X 3, (1, .inr (.inl (fun _ => 0)))))]) (pc' := 39) hC 0 8 rfl rfl inlX0 tyX0_ok nmX0 (Nat.le_of_ble_eq_true rfl) mw_143 rfl rfl rfl (Nat.le_of_ble_eq_true rfl) rfl dX0_init_36 rfl rfl rfl ?_
  refine gn_aload_n (pc' := 40) hC dX0_init_39 rfl rfl ?_
  refine gn_aload_n (pc' := 41) hC dX0_init_40 rfl rfl ?_
  refine gn_putF (T := TX0) (ci := 0) (v := .ref a1) (fs' := [.ref q0, .ref q1, .ref a1, .null, .null, .int 0, .ref q2, .ref q3, .ref q4]) (ws' := [(h, .inr (0, [.ref q0, .ref q1, .ref a1, .null, .null, .int 0, .ref q2, .ref q3, .ref q4])), (q0, .inl (x_cy X 3, (1, .inr (.inl (fun _ => 0))))), (q1, .inl (x_cy X 3, (1, .inr (.inl (fun _ => 0))))), (q2, .inl (x_cy X 3, (1, .inr (.inl (fun _ => 0))))), (q3, .inl (x_cy X 3, (1, .inr (.inl (fun _ => 0))))), (q4, .inl (x_cy X 3, (1, .inr (.inl (fun _ => 0)))))]) (pc' := 44) hC hI 0 2 rfl rfl inlX0 tyX0_ok nmX0 (Nat.le_of_ble_eq_true rfl) mw_144 rfl rfl rfl (Nat.le_of_ble_eq_true rfl) rfl rfl dX0_init_41 rfl rfl rfl ?_
  refine gn_aload_n (pc' := 45) hC dX0_init_44 rfl rfl ?_
  refine gn_aload_n (pc' := 46) hC dX0_init_45 rfl rfl ?_
  refine gn_putF (T := TX0) (ci := 0) (v := .ref a2) (fs' := [.ref q0, .ref q1, .ref a1, .ref a2, .null, .int 0, .ref q2, .ref q3, .ref q4]) (ws' := [(h, .inr (0, [.ref q0, .ref q1, .ref a1, .ref a2, .null, .int 0, .ref q2, .ref q3, .ref q4])), (q0, .inl (x_cy X 3, (1, .inr (.inl (fun _ => 0))))), (q1, .inl (x_cy X 3, (1, .inr (.inl (fun _ => 0))))), (q2, .inl (x_cy X 3, (1, .inr (.inl (fun _ => 0))))), (q3, .inl (x_cy X 3, (1, .inr (.inl (fun _ => 0))))), (q4, .inl (x_cy X 3, (1, .inr (.inl (fun _ => 0)))))]) (pc' := 49) hC hI 0 3 rfl rfl inlX0 tyX0_ok nmX0 (Nat.le_of_ble_eq_true rfl) mw_145 rfl rfl rfl (Nat.le_of_ble_eq_true rfl) rfl rfl dX0_init_46 rfl rfl rfl ?_
  refine gn_aload_n (pc' := 50) hC dX0_init_49 rfl rfl ?_
  refine gn_aload_n (pc' := 51) hC dX0_init_50 rfl rfl ?_
  refine gn_putF (T := TX0) (ci := 0) (v := .ref a3) (fs' := [.ref q0, .ref q1, .ref a1, .ref a2, .ref a3, .int 0, .ref q2, .ref q3, .ref q4]) (ws' := [(h, .inr (0, [.ref q0, .ref q1, .ref a1, .ref a2, .ref a3, .int 0, .ref q2, .ref q3, .ref q4])), (q0, .inl (x_cy X 3, (1, .inr (.inl (fun _ => 0))))), (q1, .inl (x_cy X 3, (1, .inr (.inl (fun _ => 0))))), (q2, .inl (x_cy X 3, (1, .inr (.inl (fun _ => 0))))), (q3, .inl (x_cy X 3, (1, .inr (.inl (fun _ => 0))))), (q4, .inl (x_cy X 3, (1, .inr (.inl (fun _ => 0)))))]) (pc' := 54) hC hI 0 4 rfl rfl inlX0 tyX0_ok nmX0 (Nat.le_of_ble_eq_true rfl) mw_146 rfl rfl rfl (Nat.le_of_ble_eq_true rfl) rfl rfl dX0_init_51 rfl rfl rfl ?_
  exact gn_vret hC hQ dX0_init_54 (fun i => [q0, q1, q2, q3, q4].getD i 0) rfl
def wX5 (cy : Nat → ClassId) (h : Nat) (a1 : Nat) (a2 : Nat) (r : Nat → Nat) : va_W := [(h, .inr (5, [.ref a1, .ref a2, .ref (r 0), .int (-1), .int (-1), .ref (r 1)])), ((r 0), .inl (cy 1, (1, .inl (fun _ => 0)))), ((r 1), .inl (cy 3, (100, .inr (.inl (fun _ => 0)))))]
set_option maxRecDepth 20000 in
theorem k_X5_init (l : Launch) (D : va_G) (cy : Nat → ClassId) (z : (Nat → Nat) × (Nat → Nat) × Nat) (h : Nat) (a1 : Nat) (a2 : Nat) : CX l yX5_init cX5_init 3 ({ frames := 1, cells := 2, slots := 101, locals := 20 } : Room) D cy z [.ref h, .ref a1, .ref a2] [(h, .inr (5, [.null, .null, .null, .int 0, .int 0, .null]))] (fun r => wX5 cy h a1 a2 r) 2 101 := by
  refine cx_of (own := RX5) (lc := [(0, .ref h), (1, .ref a1), (2, .ref a2)]) (by decide +kernel) rfl rfl (Nat.le_of_ble_eq_true rfl) rfl ?_
  intro X hXl hXz hXD hXc hC hI hQ
  subst hXl; subst hXz; subst hXD; subst hXc
  refine gn_aload_n (pc' := 1) hC dX5_init_0 rfl rfl ?_
  refine gn_objInit (pc' := 4) hC mw_150 dX5_init_1 rfl (Nat.le_of_ble_eq_true rfl) (Nat.le_of_ble_eq_true rfl) ?_
  refine gn_aload_n (pc' := 5) hC dX5_init_4 rfl rfl ?_
  refine gn_iconst (v := (1 : Int32)) (pc' := 6) hC dX5_init_5 (by decide) rfl ?_
  refine gn_newI (ty := .byte) (n0 := 1) (pc' := 8) (cells' := 1) (slots' := 1) hC 1 (Or.inr (Or.inl ⟨rfl, rfl⟩)) mw_95 rfl (by decide) (Nat.le_of_ble_eq_true rfl) (Nat.le_of_ble_eq_true rfl) dX5_init_6 rfl rfl rfl rfl (fun q0 => ?_)
  refine gn_put (T := TX5) (ci := 5) (v := .ref q0) (fs' := [.null, .null, .ref q0, .int 0, .int 0, .null]) (ws' := [(h, .inr (5, [.null, .null, .ref q0, .int 0, .int 0, .null])), (q0, .inl (x_cy X 1, (1, .inl (fun _ => 0))))]) (pc' := 11) hC 0 2 rfl rfl inlX5 tyX5_ok nmX5 (Nat.le_of_ble_eq_true rfl) mw_151 rfl rfl rfl (Nat.le_of_ble_eq_true rfl) rfl dX5_init_8 rfl rfl rfl ?_
  refine gn_aload_n (pc' := 12) hC dX5_init_11 rfl rfl ?_
  refine gn_iconst (v := (-1 : Int32)) (pc' := 13) hC dX5_init_12 (by decide) rfl ?_
  refine gn_put (T := TX5) (ci := 5) (v := .int (-1)) (fs' := [.null, .null, .ref q0, .int (-1), .int 0, .null]) (ws' := [(h, .inr (5, [.null, .null, .ref q0, .int (-1), .int 0, .null])), (q0, .inl (x_cy X 1, (1, .inl (fun _ => 0))))]) (pc' := 16) hC 0 3 rfl rfl inlX5 tyX5_ok nmX5 (Nat.le_of_ble_eq_true rfl) mw_152 rfl rfl rfl (Nat.le_of_ble_eq_true rfl) rfl dX5_init_13 rfl rfl rfl ?_
  refine gn_aload_n (pc' := 17) hC dX5_init_16 rfl rfl ?_
  refine gn_iconst (v := (-1 : Int32)) (pc' := 18) hC dX5_init_17 (by decide) rfl ?_
  refine gn_put (T := TX5) (ci := 5) (v := .int (-1)) (fs' := [.null, .null, .ref q0, .int (-1), .int (-1), .null]) (ws' := [(h, .inr (5, [.null, .null, .ref q0, .int (-1), .int (-1), .null])), (q0, .inl (x_cy X 1, (1, .inl (fun _ => 0))))]) (pc' := 21) hC 0 4 rfl rfl inlX5 tyX5_ok nmX5 (Nat.le_of_ble_eq_true rfl) mw_153 rfl rfl rfl (Nat.le_of_ble_eq_true rfl) rfl dX5_init_18 rfl rfl rfl ?_
  refine gn_aload_n (pc' := 22) hC dX5_init_21 rfl rfl ?_
  refine gn_bipush (v := (100 : Int32)) (pc' := 24) hC dX5_init_22 (by decide) rfl ?_
  refine gn_newL (n0 := 100) (pc' := 26) (cells' := 2) (slots' := 101) hC rfl (by decide) (Nat.le_of_ble_eq_true rfl) (Nat.le_of_ble_eq_true rfl) dX5_init_24 rfl rfl rfl rfl (fun q1 => ?_)
  refine gn_putF (T := TX5) (ci := 5) (v := .ref q1) (fs' := [.null, .null, .ref q0, .int (-1), .int (-1), .ref q1]) (ws' := [(h, .inr (5, [.null, .null, .ref q0, .int (-1), .int (-1), .ref q1])), (q0, .inl (x_cy X 1, (1, .inl (fun _ => 0)))), (q1, .inl (x_cy X 3, (100, .inr (.inl (fun _ => 0)))))]) (pc' := 29) hC hI 0 5 rfl rfl inlX5 tyX5_ok nmX5 (Nat.le_of_ble_eq_true rfl) mw_154 rfl rfl rfl (Nat.le_of_ble_eq_true rfl) rfl rfl dX5_init_26 rfl rfl rfl ?_
  refine gn_aload_n (pc' := 30) hC dX5_init_29 rfl rfl ?_
  refine gn_aload_n (pc' := 31) hC dX5_init_30 rfl rfl ?_
  refine gn_putF (T := TX5) (ci := 5) (v := .ref a1) (fs' := [.ref a1, .null, .ref q0, .int (-1), .int (-1), .ref q1]) (ws' := [(h, .inr (5, [.ref a1, .null, .ref q0, .int (-1), .int (-1), .ref q1])), (q0, .inl (x_cy X 1, (1, .inl (fun _ => 0)))), (q1, .inl (x_cy X 3, (100, .inr (.inl (fun _ => 0)))))]) (pc' := 34) hC hI 0 0 rfl rfl inlX5 tyX5_ok nmX5 (Nat.le_of_ble_eq_true rfl) mw_155 rfl rfl rfl (Nat.le_of_ble_eq_true rfl) rfl rfl dX5_init_31 rfl rfl rfl ?_
  refine gn_aload_n (pc' := 35) hC dX5_init_34 rfl rfl ?_
  refine gn_aload_n (pc' := 36) hC dX5_init_35 rfl rfl ?_
  refine gn_putF (T := TX5) (ci := 5) (v := .ref a2) (fs' := [.ref a1, .ref a2, .ref q0, .int (-1), .int (-1), .ref q1]) (ws' := [(h, .inr (5, [.ref a1, .ref a2, .ref q0, .int (-1), .int (-1), .ref q1])), (q0, .inl (x_cy X 1, (1, .inl (fun _ => 0)))), (q1, .inl (x_cy X 3, (100, .inr (.inl (fun _ => 0)))))]) (pc' := 39) hC hI 0 1 rfl rfl inlX5 tyX5_ok nmX5 (Nat.le_of_ble_eq_true rfl) mw_156 rfl rfl rfl (Nat.le_of_ble_eq_true rfl) rfl rfl dX5_init_36 rfl rfl rfl ?_
  exact gn_vret hC hQ dX5_init_39 (fun i => [q0, q1].getD i 0) rfl
def wX1 (cy : Nat → ClassId) (h : Nat) (a1 : Nat) (a2 : Nat) (r : Nat → Nat) : va_W := [(h, .inr (1, [.int 0, .int 0, .long 0, .ref a1, .ref a2, .ref (r 0), .ref (r 11), .ref (r 17)])), ((r 0), .inr (2, [.int 2, .int 0, .ref (r 1), .ref (r 2), .ref (r 3), .ref (r 4), .ref (r 5), .int 0, .ref (r 6), .ref (r 7), .int 0, .ref (r 8), .ref (r 9), .ref (r 10), .int 1, .int 0, .int 0, .int 0])), ((r 1), .inl (cy 0, (13, .inl (fun _ => 0)))), ((r 2), .inl (cy 0, (13, .inl (fun _ => 0)))), ((r 3), .inl (cy 0, (13, .inl (fun _ => 0)))), ((r 4), .inl (cy 0, (13, .inl (fun _ => 0)))), ((r 5), .inl (cy 0, (13, .inl (fun _ => 0)))), ((r 6), .inl (cy 0, (10, .inl (fun _ => 0)))), ((r 7), .inl (cy 0, (10, .inl (fun _ => 0)))), ((r 8), .inl (cy 0, (3, .inl (fun _ => 0)))), ((r 9), .inl (cy 0, (3, .inl (fun _ => 0)))), ((r 10), .inl (cy 0, (3, .inl (fun _ => 0)))), ((r 11), .inr (7, [.int 0, .int 0, .int 0, .int 0, .ref (r 0), .ref (r 12), .ref (r 13), .ref (r 14), .ref (r 15), .ref (r 16)])), ((r 12), .inl (cy 0, (13, .inl (fun _ => 0)))), ((r 13), .inl (cy 0, (13, .inl (fun _ => 0)))), ((r 14), .inl (cy 0, (13, .inl (fun _ => 0)))), ((r 15), .inl (cy 0, (10, .inl (fun _ => 0)))), ((r 16), .inl (cy 0, (10, .inl (fun _ => 0)))), ((r 17), .inl (cy 1, (1, .inl (fun _ => 0))))]
set_option maxRecDepth 20000 in
theorem k_X1_init (l : Launch) (D : va_G) (cy : Nat → ClassId) (z : (Nat → Nat) × (Nat → Nat) × Nat) (h : Nat) (a1 : Nat) (a2 : Nat) : CX l yX1_init cX1_init 3 ({ frames := 2, cells := 18, slots := 182, locals := 51 } : Room) D cy z [.ref h, .ref a1, .ref a2] [(h, .inr (1, [.int 0, .int 0, .long 0, .null, .null, .null, .null, .null]))] (fun r => wX1 cy h a1 a2 r) 18 182 := by
  refine cx_of (own := RX1) (lc := [(0, .ref h), (1, .ref a1), (2, .ref a2)]) (by decide +kernel) rfl rfl (Nat.le_of_ble_eq_true rfl) rfl ?_
  intro X hXl hXz hXD hXc hC hI hQ
  subst hXl; subst hXz; subst hXD; subst hXc
  refine gn_aload_n (pc' := 1) hC dX1_init_0 rfl rfl ?_
  refine gn_objInit (pc' := 4) hC mw_160 dX1_init_1 rfl (Nat.le_of_ble_eq_true rfl) (Nat.le_of_ble_eq_true rfl) ?_
  refine gn_aload_n (pc' := 5) hC dX1_init_4 rfl rfl ?_
  refine gn_new (T := TX2) (ci := 2) (fs := [.int 0, .int 0, .null, .null, .null, .null, .null, .int 0, .null, .null, .int 0, .null, .null, .null, .int 0, .int 0, .int 0, .int 0]) (pc' := 8) (cells' := 1) (slots' := 18) hC rfl inlX2 tyX2_ok mw_161 mw_13 mw_14 dfX2_ok (Nat.le_of_ble_eq_true rfl) (Nat.le_of_ble_eq_true rfl) dX1_init_5 rfl rfl rfl (fun q0 => ?_)
  refine gn_dup (pc' := 9) hC dX1_init_8 rfl rfl ?_
  refine gn_sub (ws' := [(q0, .inr (2, [.int 0, .int 0, .null, .null, .null, .null, .null, .int 0, .null, .null, .int 0, .null, .null, .null, .int 0, .int 0, .int 0, .int 0])), (h, .inr (1, [.int 0, .int 0, .long 0, .null, .null, .null, .null, .null]))]) [1, 0] (by decide) rfl ?_
  refine gn_callI (n := 0) (rc := ({ frames := 1, cells := 10, slots := 94, locals := 20 } : Room)) (As := []) (pre := [(q0, .inr (2, [.int 0, .int 0, .null, .null, .null, .null, .null, .int 0, .null, .null, .int 0, .null, .null, .null, .int 0, .int 0, .int 0, .int 0]))]) (rest := [(h, .inr (1, [.int 0, .int 0, .long 0, .null, .null, .null, .null, .null]))]) (st := [.ref q0, .ref h]) (pc' := 12) (cells' := 11) (slots' := 112) hC dX1_init_9 ⟨mw_168, mw_56, mw_14, ⟨by decide +kernel, by decide +kernel⟩, by decide +kernel, Nat.le_of_ble_eq_true rfl, Nat.le_of_ble_eq_true rfl, Nat.le_of_ble_eq_true rfl, Nat.le_of_ble_eq_true rfl⟩ mw_55 rfl rfl rfl (Nat.le_of_ble_eq_true rfl) (k_X2_init (x_l X) (x_D X) (x_cy X) (x_z X) q0) rfl rfl rfl rfl (fun r1 => ?_)
  refine gn_eq (ws' := [(q0, .inr (2, [.int 2, .int 0, .ref (r1 0), .ref (r1 1), .ref (r1 2), .ref (r1 3), .ref (r1 4), .int 0, .ref (r1 5), .ref (r1 6), .int 0, .ref (r1 7), .ref (r1 8), .ref (r1 9), .int 1, .int 0, .int 0, .int 0])), ((r1 0), .inl (x_cy X 0, (13, .inl (fun _ => 0)))), ((r1 1), .inl (x_cy X 0, (13, .inl (fun _ => 0)))), ((r1 2), .inl (x_cy X 0, (13, .inl (fun _ => 0)))), ((r1 3), .inl (x_cy X 0, (13, .inl (fun _ => 0)))), ((r1 4), .inl (x_cy X 0, (13, .inl (fun _ => 0)))), ((r1 5), .inl (x_cy X 0, (10, .inl (fun _ => 0)))), ((r1 6), .inl (x_cy X 0, (10, .inl (fun _ => 0)))), ((r1 7), .inl (x_cy X 0, (3, .inl (fun _ => 0)))), ((r1 8), .inl (x_cy X 0, (3, .inl (fun _ => 0)))), ((r1 9), .inl (x_cy X 0, (3, .inl (fun _ => 0)))), (h, .inr (1, [.int 0, .int 0, .long 0, .null, .null, .null, .null, .null]))]) rfl ?_
  refine gn_sub (ws' := [(h, .inr (1, [.int 0, .int 0, .long 0, .null, .null, .null, .null, .null])), (q0, .inr (2, [.int 2, .int 0, .ref (r1 0), .ref (r1 1), .ref (r1 2), .ref (r1 3), .ref (r1 4), .int 0, .ref (r1 5), .ref (r1 6), .int 0, .ref (r1 7), .ref (r1 8), .ref (r1 9), .int 1, .int 0, .int 0, .int 0])), ((r1 0), .inl (x_cy X 0, (13, .inl (fun _ => 0)))), ((r1 1), .inl (x_cy X 0, (13, .inl (fun _ => 0)))), ((r1 2), .inl (x_cy X 0, (13, .inl (fun _ => 0)))), ((r1 3), .inl (x_cy X 0, (13, .inl (fun _ => 0)))), ((r1 4), .inl (x_cy X 0, (13, .inl (fun _ => 0)))), ((r1 5), .inl (x_cy X 0, (10, .inl (fun _ => 0)))), ((r1 6), .inl (x_cy X 0, (10, .inl (fun _ => 0)))), ((r1 7), .inl (x_cy X 0, (3, .inl (fun _ => 0)))), ((r1 8), .inl (x_cy X 0, (3, .inl (fun _ => 0)))), ((r1 9), .inl (x_cy X 0, (3, .inl (fun _ => 0))))]) [11, 0, 1, 2, 3, 4, 5, 6, 7, 8, 9, 10] (by decide) rfl ?_
  refine gn_putF (T := TX1) (ci := 1) (v := .ref q0) (fs' := [.int 0, .int 0, .long 0, .null, .null, .ref q0, .null, .null]) (ws' := [(h, .inr (1, [.int 0, .int 0, .long 0, .null, .null, .ref q0, .null, .null])), (q0, .inr (2, [.int 2, .int 0, .ref (r1 0), .ref (r1 1), .ref (r1 2), .ref (r1 3), .ref (r1 4), .int 0, .ref (r1 5), .ref (r1 6), .int 0, .ref (r1 7), .ref (r1 8), .ref (r1 9), .int 1, .int 0, .int 0, .int 0])), ((r1 0), .inl (x_cy X 0, (13, .inl (fun _ => 0)))), ((r1 1), .inl (x_cy X 0, (13, .inl (fun _ => 0)))), ((r1 2), .inl (x_cy X 0, (13, .inl (fun _ => 0)))), ((r1 3), .inl (x_cy X 0, (13, .inl (fun _ => 0)))), ((r1 4), .inl (x_cy X 0, (13, .inl (fun _ => 0)))), ((r1 5), .inl (x_cy X 0, (10, .inl (fun _ => 0)))), ((r1 6), .inl (x_cy X 0, (10, .inl (fun _ => 0)))), ((r1 7), .inl (x_cy X 0, (3, .inl (fun _ => 0)))), ((r1 8), .inl (x_cy X 0, (3, .inl (fun _ => 0)))), ((r1 9), .inl (x_cy X 0, (3, .inl (fun _ => 0))))]) (pc' := 15) hC hI 0 5 rfl rfl inlX1 tyX1_ok nmX1 (Nat.le_of_ble_eq_true rfl) mw_162 rfl rfl rfl (Nat.le_of_ble_eq_true rfl) rfl rfl dX1_init_12 rfl rfl rfl ?_
  refine gn_aload_n (pc' := 16) hC dX1_init_15 rfl rfl ?_
  refine gn_new (T := TX7) (ci := 7) (fs := [.int 0, .int 0, .int 0, .int 0, .null, .null, .null, .null, .null, .null]) (pc' := 19) (cells' := 12) (slots' := 122) hC rfl inlX7 tyX7_ok mw_163 mw_98 mw_99 dfX7_ok (Nat.le_of_ble_eq_true rfl) (Nat.le_of_ble_eq_true rfl) dX1_init_16 rfl rfl rfl (fun q2 => ?_)
  refine gn_dup (pc' := 20) hC dX1_init_19 rfl rfl ?_
  refine gn_aload_n (pc' := 21) hC dX1_init_20 rfl rfl ?_
  refine gn_get (T := TX1) (ci := 1) (fs := [.int 0, .int 0, .long 0, .null, .null, .ref q0, .null, .null]) (v := .ref q0) (pc' := 24) hC 0 5 rfl rfl inlX1 (Nat.le_of_ble_eq_true rfl) mw_162 rfl rfl dX1_init_21 rfl ?_
  refine gn_sub (ws' := [(q2, .inr (7, [.int 0, .int 0, .int 0, .int 0, .null, .null, .null, .null, .null, .null])), (h, .inr (1, [.int 0, .int 0, .long 0, .null, .null, .ref q0, .null, .null])), (q0, .inr (2, [.int 2, .int 0, .ref (r1 0), .ref (r1 1), .ref (r1 2), .ref (r1 3), .ref (r1 4), .int 0, .ref (r1 5), .ref (r1 6), .int 0, .ref (r1 7), .ref (r1 8), .ref (r1 9), .int 1, .int 0, .int 0, .int 0])), ((r1 0), .inl (x_cy X 0, (13, .inl (fun _ => 0)))), ((r1 1), .inl (x_cy X 0, (13, .inl (fun _ => 0)))), ((r1 2), .inl (x_cy X 0, (13, .inl (fun _ => 0)))), ((r1 3), .inl (x_cy X 0, (13, .inl (fun _ => 0)))), ((r1 4), .inl (x_cy X 0, (13, .inl (fun _ => 0)))), ((r1 5), .inl (x_cy X 0, (10, .inl (fun _ => 0)))), ((r1 6), .inl (x_cy X 0, (10, .inl (fun _ => 0)))), ((r1 7), .inl (x_cy X 0, (3, .inl (fun _ => 0)))), ((r1 8), .inl (x_cy X 0, (3, .inl (fun _ => 0)))), ((r1 9), .inl (x_cy X 0, (3, .inl (fun _ => 0))))]) [12, 0, 1, 2, 3, 4, 5, 6, 7, 8, 9, 10, 11] (by decide) rfl ?_
  refine gn_callI (n := 1) (rc := ({ frames := 1, cells := 5, slots := 59, locals := 20 } : Room)) (As := [.ref q0]) (pre := [(q2, .inr (7, [.int 0, .int 0, .int 0, .int 0, .null, .null, .null, .null, .null, .null]))]) (rest := [(h, .inr (1, [.int 0, .int 0, .long 0, .null, .null, .ref q0, .null, .null])), (q0, .inr (2, [.int 2, .int 0, .ref (r1 0), .ref (r1 1), .ref (r1 2), .ref (r1 3), .ref (r1 4), .int 0, .ref (r1 5), .ref (r1 6), .int 0, .ref (r1 7), .ref (r1 8), .ref (r1 9), .int 1, .int 0, .int 0, .int 0])), ((r1 0), .inl (x_cy X 0, (13, .inl (fun _ => 0)))), ((r1 1), .inl (x_cy X 0, (13, .inl (fun _ => 0)))), ((r1 2), .inl (x_cy X 0, (13, .inl (fun _ => 0)))), ((r1 3), .inl (x_cy X 0, (13, .inl (fun _ => 0)))), ((r1 4), .inl (x_cy X 0, (13, .inl (fun _ => 0)))), ((r1 5), .inl (x_cy X 0, (10, .inl (fun _ => 0)))), ((r1 6), .inl (x_cy X 0, (10, .inl (fun _ => 0)))), ((r1 7), .inl (x_cy X 0, (3, .inl (fun _ => 0)))), ((r1 8), .inl (x_cy X 0, (3, .inl (fun _ => 0)))), ((r1 9), .inl (x_cy X 0, (3, .inl (fun _ => 0))))]) (st := [.ref q2, .ref h]) (pc' := 27) (cells' := 17) (slots' := 181) hC dX1_init_24 ⟨mw_169, mw_108, mw_99, ⟨by decide +kernel, by decide +kernel⟩, by decide +kernel, Nat.le_of_ble_eq_true rfl, Nat.le_of_ble_eq_true rfl, Nat.le_of_ble_eq_true rfl, Nat.le_of_ble_eq_true rfl⟩ mw_107 rfl rfl rfl (Nat.le_of_ble_eq_true rfl) (k_X7_init (x_l X) (x_D X) (x_cy X) (x_z X) q2 q0) rfl rfl rfl rfl (fun r3 => ?_)
  refine gn_eq (ws' := [(q2, .inr (7, [.int 0, .int 0, .int 0, .int 0, .ref q0, .ref (r3 0), .ref (r3 1), .ref (r3 2), .ref (r3 3), .ref (r3 4)])), ((r3 0), .inl (x_cy X 0, (13, .inl (fun _ => 0)))), ((r3 1), .inl (x_cy X 0, (13, .inl (fun _ => 0)))), ((r3 2), .inl (x_cy X 0, (13, .inl (fun _ => 0)))), ((r3 3), .inl (x_cy X 0, (10, .inl (fun _ => 0)))), ((r3 4), .inl (x_cy X 0, (10, .inl (fun _ => 0)))), (h, .inr (1, [.int 0, .int 0, .long 0, .null, .null, .ref q0, .null, .null])), (q0, .inr (2, [.int 2, .int 0, .ref (r1 0), .ref (r1 1), .ref (r1 2), .ref (r1 3), .ref (r1 4), .int 0, .ref (r1 5), .ref (r1 6), .int 0, .ref (r1 7), .ref (r1 8), .ref (r1 9), .int 1, .int 0, .int 0, .int 0])), ((r1 0), .inl (x_cy X 0, (13, .inl (fun _ => 0)))), ((r1 1), .inl (x_cy X 0, (13, .inl (fun _ => 0)))), ((r1 2), .inl (x_cy X 0, (13, .inl (fun _ => 0)))), ((r1 3), .inl (x_cy X 0, (13, .inl (fun _ => 0)))), ((r1 4), .inl (x_cy X 0, (13, .inl (fun _ => 0)))), ((r1 5), .inl (x_cy X 0, (10, .inl (fun _ => 0)))), ((r1 6), .inl (x_cy X 0, (10, .inl (fun _ => 0)))), ((r1 7), .inl (x_cy X 0, (3, .inl (fun _ => 0)))), ((r1 8), .inl (x_cy X 0, (3, .inl (fun _ => 0)))), ((r1 9), .inl (x_cy X 0, (3, .inl (fun _ => 0))))]) rfl ?_
  refine gn_sub (ws' := [(h, .inr (1, [.int 0, .int 0, .long 0, .null, .null, .ref q0, .null, .null])), (q0, .inr (2, [.int 2, .int 0, .ref (r1 0), .ref (r1 1), .ref (r1 2), .ref (r1 3), .ref (r1 4), .int 0, .ref (r1 5), .ref (r1 6), .int 0, .ref (r1 7), .ref (r1 8), .ref (r1 9), .int 1, .int 0, .int 0, .int 0])), ((r1 0), .inl (x_cy X 0, (13, .inl (fun _ => 0)))), ((r1 1), .inl (x_cy X 0, (13, .inl (fun _ => 0)))), ((r1 2), .inl (x_cy X 0, (13, .inl (fun _ => 0)))), ((r1 3), .inl (x_cy X 0, (13, .inl (fun _ => 0)))), ((r1 4), .inl (x_cy X 0, (13, .inl (fun _ => 0)))), ((r1 5), .inl (x_cy X 0, (10, .inl (fun _ => 0)))), ((r1 6), .inl (x_cy X 0, (10, .inl (fun _ => 0)))), ((r1 7), .inl (x_cy X 0, (3, .inl (fun _ => 0)))), ((r1 8), .inl (x_cy X 0, (3, .inl (fun _ => 0)))), ((r1 9), .inl (x_cy X 0, (3, .inl (fun _ => 0)))), (q2, .inr (7, [.int 0, .int 0, .int 0, .int 0, .ref q0, .ref (r3 0), .ref (r3 1), .ref (r3 2), .ref (r3 3), .ref (r3 4)])), ((r3 0), .inl (x_cy X 0, (13, .inl (fun _ => 0)))), ((r3 1), .inl (x_cy X 0, (13, .inl (fun _ => 0)))), ((r3 2), .inl (x_cy X 0, (13, .inl (fun _ => 0)))), ((r3 3), .inl (x_cy X 0, (10, .inl (fun _ => 0)))), ((r3 4), .inl (x_cy X 0, (10, .inl (fun _ => 0))))]) [6, 7, 8, 9, 10, 11, 12, 13, 14, 15, 16, 17, 0, 1, 2, 3, 4, 5] (by decide) rfl ?_
  refine gn_putF (T := TX1) (ci := 1) (v := .ref q2) (fs' := [.int 0, .int 0, .long 0, .null, .null, .ref q0, .ref q2, .null]) (ws' := [(h, .inr (1, [.int 0, .int 0, .long 0, .null, .null, .ref q0, .ref q2, .null])), (q0, .inr (2, [.int 2, .int 0, .ref (r1 0), .ref (r1 1), .ref (r1 2), .ref (r1 3), .ref (r1 4), .int 0, .ref (r1 5), .ref (r1 6), .int 0, .ref (r1 7), .ref (r1 8), .ref (r1 9), .int 1, .int 0, .int 0, .int 0])), ((r1 0), .inl (x_cy X 0, (13, .inl (fun _ => 0)))), ((r1 1), .inl (x_cy X 0, (13, .inl (fun _ => 0)))), ((r1 2), .inl (x_cy X 0, (13, .inl (fun _ => 0)))), ((r1 3), .inl (x_cy X 0, (13, .inl (fun _ => 0)))), ((r1 4), .inl (x_cy X 0, (13, .inl (fun _ => 0)))), ((r1 5), .inl (x_cy X 0, (10, .inl (fun _ => 0)))), ((r1 6), .inl (x_cy X 0, (10, .inl (fun _ => 0)))), ((r1 7), .inl (x_cy X 0, (3, .inl (fun _ => 0)))), ((r1 8), .inl (x_cy X 0, (3, .inl (fun _ => 0)))), ((r1 9), .inl (x_cy X 0, (3, .inl (fun _ => 0)))), (q2, .inr (7, [.int 0, .int 0, .int 0, .int 0, .ref q0, .ref (r3 0), .ref (r3 1), .ref (r3 2), .ref (r3 3), .ref (r3 4)])), ((r3 0), .inl (x_cy X 0, (13, .inl (fun _ => 0)))), ((r3 1), .inl (x_cy X 0, (13, .inl (fun _ => 0)))), ((r3 2), .inl (x_cy X 0, (13, .inl (fun _ => 0)))), ((r3 3), .inl (x_cy X 0, (10, .inl (fun _ => 0)))), ((r3 4), .inl (x_cy X 0, (10, .inl (fun _ => 0))))]) (pc' := 30) hC hI 0 6 rfl rfl inlX1 tyX1_ok nmX1 (Nat.le_of_ble_eq_true rfl) mw_164 rfl rfl rfl (Nat.le_of_ble_eq_true rfl) rfl rfl dX1_init_27 rfl rfl rfl ?_
  refine gn_aload_n (pc' := 31) hC dX1_init_30 rfl rfl ?_
  refine gn_iconst (v := (1 : Int32)) (pc' := 32) hC dX1_init_31 (by decide) rfl ?_
  refine gn_newI (ty := .byte) (n0 := 1) (pc' := 34) (cells' := 18) (slots' := 182) hC 1 (Or.inr (Or.inl ⟨rfl, rfl⟩)) mw_95 rfl (by decide) (Nat.le_of_ble_eq_true rfl) (Nat.le_of_ble_eq_true rfl) dX1_init_32 rfl rfl rfl rfl (fun q4 => ?_)
  refine gn_put (T := TX1) (ci := 1) (v := .ref q4) (fs' := [.int 0, .int 0, .long 0, .null, .null, .ref q0, .ref q2, .ref q4]) (ws' := [(h, .inr (1, [.int 0, .int 0, .long 0, .null, .null, .ref q0, .ref q2, .ref q4])), (q0, .inr (2, [.int 2, .int 0, .ref (r1 0), .ref (r1 1), .ref (r1 2), .ref (r1 3), .ref (r1 4), .int 0, .ref (r1 5), .ref (r1 6), .int 0, .ref (r1 7), .ref (r1 8), .ref (r1 9), .int 1, .int 0, .int 0, .int 0])), ((r1 0), .inl (x_cy X 0, (13, .inl (fun _ => 0)))), ((r1 1), .inl (x_cy X 0, (13, .inl (fun _ => 0)))), ((r1 2), .inl (x_cy X 0, (13, .inl (fun _ => 0)))), ((r1 3), .inl (x_cy X 0, (13, .inl (fun _ => 0)))), ((r1 4), .inl (x_cy X 0, (13, .inl (fun _ => 0)))), ((r1 5), .inl (x_cy X 0, (10, .inl (fun _ => 0)))), ((r1 6), .inl (x_cy X 0, (10, .inl (fun _ => 0)))), ((r1 7), .inl (x_cy X 0, (3, .inl (fun _ => 0)))), ((r1 8), .inl (x_cy X 0, (3, .inl (fun _ => 0)))), ((r1 9), .inl (x_cy X 0, (3, .inl (fun _ => 0)))), (q2, .inr (7, [.int 0, .int 0, .int 0, .int 0, .ref q0, .ref (r3 0), .ref (r3 1), .ref (r3 2), .ref (r3 3), .ref (r3 4)])), ((r3 0), .inl (x_cy X 0, (13, .inl (fun _ => 0)))), ((r3 1), .inl (x_cy X 0, (13, .inl (fun _ => 0)))), ((r3 2), .inl (x_cy X 0, (13, .inl (fun _ => 0)))), ((r3 3), .inl (x_cy X 0, (10, .inl (fun _ => 0)))), ((r3 4), .inl (x_cy X 0, (10, .inl (fun _ => 0)))), (q4, .inl (x_cy X 1, (1, .inl (fun _ => 0))))]) (pc' := 37) hC 0 7 rfl rfl inlX1 tyX1_ok nmX1 (Nat.le_of_ble_eq_true rfl) mw_165 rfl rfl rfl (Nat.le_of_ble_eq_true rfl) rfl dX1_init_34 rfl rfl rfl ?_
  refine gn_aload_n (pc' := 38) hC dX1_init_37 rfl rfl ?_
  refine gn_aload_n (pc' := 39) hC dX1_init_38 rfl rfl ?_
  refine gn_putF (T := TX1) (ci := 1) (v := .ref a1) (fs' := [.int 0, .int 0, .long 0, .ref a1, .null, .ref q0, .ref q2, .ref q4]) (ws' := [(h, .inr (1, [.int 0, .int 0, .long 0, .ref a1, .null, .ref q0, .ref q2, .ref q4])), (q0, .inr (2, [.int 2, .int 0, .ref (r1 0), .ref (r1 1), .ref (r1 2), .ref (r1 3), .ref (r1 4), .int 0, .ref (r1 5), .ref (r1 6), .int 0, .ref (r1 7), .ref (r1 8), .ref (r1 9), .int 1, .int 0, .int 0, .int 0])), ((r1 0), .inl (x_cy X 0, (13, .inl (fun _ => 0)))), ((r1 1), .inl (x_cy X 0, (13, .inl (fun _ => 0)))), ((r1 2), .inl (x_cy X 0, (13, .inl (fun _ => 0)))), ((r1 3), .inl (x_cy X 0, (13, .inl (fun _ => 0)))), ((r1 4), .inl (x_cy X 0, (13, .inl (fun _ => 0)))), ((r1 5), .inl (x_cy X 0, (10, .inl (fun _ => 0)))), ((r1 6), .inl (x_cy X 0, (10, .inl (fun _ => 0)))), ((r1 7), .inl (x_cy X 0, (3, .inl (fun _ => 0)))), ((r1 8), .inl (x_cy X 0, (3, .inl (fun _ => 0)))), ((r1 9), .inl (x_cy X 0, (3, .inl (fun _ => 0)))), (q2, .inr (7, [.int 0, .int 0, .int 0, .int 0, .ref q0, .ref (r3 0), .ref (r3 1), .ref (r3 2), .ref (r3 3), .ref (r3 4)])), ((r3 0), .inl (x_cy X 0, (13, .inl (fun _ => 0)))), ((r3 1), .inl (x_cy X 0, (13, .inl (fun _ => 0)))), ((r3 2), .inl (x_cy X 0, (13, .inl (fun _ => 0)))), ((r3 3), .inl (x_cy X 0, (10, .inl (fun _ => 0)))), ((r3 4), .inl (x_cy X 0, (10, .inl (fun _ => 0)))), (q4, .inl (x_cy X 1, (1, .inl (fun _ => 0))))]) (pc' := 42) hC hI 0 3 rfl rfl inlX1 tyX1_ok nmX1 (Nat.le_of_ble_eq_true rfl) mw_166 rfl rfl rfl (Nat.le_of_ble_eq_true rfl) rfl rfl dX1_init_39 rfl rfl rfl ?_
  refine gn_aload_n (pc' := 43) hC dX1_init_42 rfl rfl ?_
  refine gn_aload_n (pc' := 44) hC dX1_init_43 rfl rfl ?_
  refine gn_putF (T := TX1) (ci := 1) (v := .ref a2) (fs' := [.int 0, .int 0, .long 0, .ref a1, .ref a2, .ref q0, .ref q2, .ref q4]) (ws' := [(h, .inr (1, [.int 0, .int 0, .long 0, .ref a1, .ref a2, .ref q0, .ref q2, .ref q4])), (q0, .inr (2, [.int 2, .int 0, .ref (r1 0), .ref (r1 1), .ref (r1 2), .ref (r1 3), .ref (r1 4), .int 0, .ref (r1 5), .ref (r1 6), .int 0, .ref (r1 7), .ref (r1 8), .ref (r1 9), .int 1, .int 0, .int 0, .int 0])), ((r1 0), .inl (x_cy X 0, (13, .inl (fun _ => 0)))), ((r1 1), .inl (x_cy X 0, (13, .inl (fun _ => 0)))), ((r1 2), .inl (x_cy X 0, (13, .inl (fun _ => 0)))), ((r1 3), .inl (x_cy X 0, (13, .inl (fun _ => 0)))), ((r1 4), .inl (x_cy X 0, (13, .inl (fun _ => 0)))), ((r1 5), .inl (x_cy X 0, (10, .inl (fun _ => 0)))), ((r1 6), .inl (x_cy X 0, (10, .inl (fun _ => 0)))), ((r1 7), .inl (x_cy X 0, (3, .inl (fun _ => 0)))), ((r1 8), .inl (x_cy X 0, (3, .inl (fun _ => 0)))), ((r1 9), .inl (x_cy X 0, (3, .inl (fun _ => 0)))), (q2, .inr (7, [.int 0, .int 0, .int 0, .int 0, .ref q0, .ref (r3 0), .ref (r3 1), .ref (r3 2), .ref (r3 3), .ref (r3 4)])), ((r3 0), .inl (x_cy X 0, (13, .inl (fun _ => 0)))), ((r3 1), .inl (x_cy X 0, (13, .inl (fun _ => 0)))), ((r3 2), .inl (x_cy X 0, (13, .inl (fun _ => 0)))), ((r3 3), .inl (x_cy X 0, (10, .inl (fun _ => 0)))), ((r3 4), .inl (x_cy X 0, (10, .inl (fun _ => 0)))), (q4, .inl (x_cy X 1, (1, .inl (fun _ => 0))))]) (pc' := 47) hC hI 0 4 rfl rfl inlX1 tyX1_ok nmX1 (Nat.le_of_ble_eq_true rfl) mw_167 rfl rfl rfl (Nat.le_of_ble_eq_true rfl) rfl rfl dX1_init_44 rfl rfl rfl ?_
  exact gn_vret hC hQ dX1_init_47 (fun i => [q0, (r1 0), (r1 1), (r1 2), (r1 3), (r1 4), (r1 5), (r1 6), (r1 7), (r1 8), (r1 9), q2, (r3 0), (r3 1), (r3 2), (r3 3), (r3 4), q4].getD i 0) rfl
def wX4 (cy : Nat → ClassId) (h : Nat) (a1 : Nat) (r : Nat → Nat) : va_W := [(h, .inr (4, [.ref a1, .int 0, .ref (r 0)])), ((r 0), .inl (cy 1, (1, .inl (fun _ => 0))))]
set_option maxRecDepth 20000 in
theorem k_X4_init (l : Launch) (D : va_G) (cy : Nat → ClassId) (z : (Nat → Nat) × (Nat → Nat) × Nat) (h : Nat) (a1 : Nat) : CX l yX4_init cX4_init 2 ({ frames := 1, cells := 1, slots := 1, locals := 20 } : Room) D cy z [.ref h, .ref a1] [(h, .inr (4, [.null, .int 0, .null]))] (fun r => wX4 cy h a1 r) 1 1 := by
  refine cx_of (own := RX4) (lc := [(0, .ref h), (1, .ref a1)]) (by decide +kernel) rfl rfl (Nat.le_of_ble_eq_true rfl) rfl ?_
  intro X hXl hXz hXD hXc hC hI hQ
  subst hXl; subst hXz; subst hXD; subst hXc
  refine gn_aload_n (pc' := 1) hC dX4_init_0 rfl rfl ?_
  refine gn_objInit (pc' := 4) hC mw_173 dX4_init_1 rfl (Nat.le_of_ble_eq_true rfl) (Nat.le_of_ble_eq_true rfl) ?_
  refine gn_aload_n (pc' := 5) hC dX4_init_4 rfl rfl ?_
  refine gn_iconst (v := (1 : Int32)) (pc' := 6) hC dX4_init_5 (by decide) rfl ?_
  refine gn_newI (ty := .byte) (n0 := 1) (pc' := 8) (cells' := 1) (slots' := 1) hC 1 (Or.inr (Or.inl ⟨rfl, rfl⟩)) mw_95 rfl (by decide) (Nat.le_of_ble_eq_true rfl) (Nat.le_of_ble_eq_true rfl) dX4_init_6 rfl rfl rfl rfl (fun q0 => ?_)
  refine gn_put (T := TX4) (ci := 4) (v := .ref q0) (fs' := [.null, .int 0, .ref q0]) (ws' := [(h, .inr (4, [.null, .int 0, .ref q0])), (q0, .inl (x_cy X 1, (1, .inl (fun _ => 0))))]) (pc' := 11) hC 0 2 rfl rfl inlX4 tyX4_ok nmX4 (Nat.le_of_ble_eq_true rfl) mw_174 rfl rfl rfl (Nat.le_of_ble_eq_true rfl) rfl dX4_init_8 rfl rfl rfl ?_
  refine gn_aload_n (pc' := 12) hC dX4_init_11 rfl rfl ?_
  refine gn_aload_n (pc' := 13) hC dX4_init_12 rfl rfl ?_
  refine gn_putF (T := TX4) (ci := 4) (v := .ref a1) (fs' := [.ref a1, .int 0, .ref q0]) (ws' := [(h, .inr (4, [.ref a1, .int 0, .ref q0])), (q0, .inl (x_cy X 1, (1, .inl (fun _ => 0))))]) (pc' := 16) hC hI 0 0 rfl rfl inlX4 tyX4_ok nmX4 (Nat.le_of_ble_eq_true rfl) mw_175 rfl rfl rfl (Nat.le_of_ble_eq_true rfl) rfl rfl dX4_init_13 rfl rfl rfl ?_
  exact gn_vret hC hQ dX4_init_16 (fun i => [q0].getD i 0) rfl
