theorem dX9_readClause_0 : decode cX9_readClause 0 = .ok (.aload_n 0, 1) := by decide +kernel
theorem dX9_readClause_1 : decode cX9_readClause 1 = .ok (.invokevirtual 80, 3) := by decide +kernel
theorem dX9_readClause_4 : decode cX9_readClause 4 = .ok (.aload_n 0, 1) := by decide +kernel
theorem dX9_readClause_5 : decode cX9_readClause 5 = .ok (.ldc 88, 2) := by decide +kernel
theorem dX9_readClause_7 : decode cX9_readClause 7 = .ok (.invokevirtual 84, 3) := by decide +kernel
theorem dX9_readClause_10 : decode cX9_readClause 10 = .ok (.ifCond .eq 10, 3) := by decide +kernel
theorem dX9_readClause_13 : decode cX9_readClause 13 = .ok (.aload_n 0, 1) := by decide +kernel
theorem dX9_readClause_14 : decode cX9_readClause 14 = .ok (.invokevirtual 90, 3) := by decide +kernel
theorem dX9_readClause_17 : decode cX9_readClause 17 = .ok (.goto 60, 3) := by decide +kernel
theorem dX9_readClause_20 : decode cX9_readClause 20 = .ok (.aload_n 0, 1) := by decide +kernel
theorem dX9_readClause_21 : decode cX9_readClause 21 = .ok (.ldc 93, 2) := by decide +kernel
theorem dX9_readClause_23 : decode cX9_readClause 23 = .ok (.invokevirtual 84, 3) := by decide +kernel
theorem dX9_readClause_26 : decode cX9_readClause 26 = .ok (.ifCond .eq 10, 3) := by decide +kernel
theorem dX9_readClause_29 : decode cX9_readClause 29 = .ok (.aload_n 0, 1) := by decide +kernel
theorem dX9_readClause_30 : decode cX9_readClause 30 = .ok (.invokevirtual 95, 3) := by decide +kernel
theorem dX9_readClause_33 : decode cX9_readClause 33 = .ok (.goto 44, 3) := by decide +kernel
theorem dX9_readClause_36 : decode cX9_readClause 36 = .ok (.aload_n 0, 1) := by decide +kernel
theorem dX9_readClause_37 : decode cX9_readClause 37 = .ok (.ldc 98, 2) := by decide +kernel
theorem dX9_readClause_39 : decode cX9_readClause 39 = .ok (.invokevirtual 84, 3) := by decide +kernel
theorem dX9_readClause_42 : decode cX9_readClause 42 = .ok (.ifCond .eq 10, 3) := by decide +kernel
theorem dX9_readClause_45 : decode cX9_readClause 45 = .ok (.aload_n 0, 1) := by decide +kernel
theorem dX9_readClause_46 : decode cX9_readClause 46 = .ok (.invokevirtual 100, 3) := by decide +kernel
theorem dX9_readClause_49 : decode cX9_readClause 49 = .ok (.goto 28, 3) := by decide +kernel
theorem dX9_readClause_52 : decode cX9_readClause 52 = .ok (.aload_n 0, 1) := by decide +kernel
theorem dX9_readClause_53 : decode cX9_readClause 53 = .ok (.ldc 103, 2) := by decide +kernel
theorem dX9_readClause_55 : decode cX9_readClause 55 = .ok (.invokevirtual 84, 3) := by decide +kernel
theorem dX9_readClause_58 : decode cX9_readClause 58 = .ok (.ifCond .eq 10, 3) := by decide +kernel
theorem dX9_readClause_61 : decode cX9_readClause 61 = .ok (.aload_n 0, 1) := by decide +kernel
theorem dX9_readClause_62 : decode cX9_readClause 62 = .ok (.invokevirtual 105, 3) := by decide +kernel
theorem dX9_readClause_65 : decode cX9_readClause 65 = .ok (.goto 12, 3) := by decide +kernel
theorem dX9_readClause_68 : decode cX9_readClause 68 = .ok (.aload_n 0, 1) := by decide +kernel
theorem dX9_readClause_69 : decode cX9_readClause 69 = .ok (.aload_n 0, 1) := by decide +kernel
theorem dX9_readClause_70 : decode cX9_readClause 70 = .ok (.getfield 55, 3) := by decide +kernel
theorem dX9_readClause_73 : decode cX9_readClause 73 = .ok (.iconst 0, 1) := by decide +kernel
theorem dX9_readClause_74 : decode cX9_readClause 74 = .ok (.invokevirtual 45, 3) := by decide +kernel
theorem dX9_readClause_77 : decode cX9_readClause 77 = .ok (.return_, 1) := by decide +kernel
abbrev o_X9_readClause_q14 : Type := Int32 × Int32 × Int32 × Int32 × Int32 × Int32 × Int32 × Int32 × Int32 × Int32 × Int32 × (Nat → Int32) × (Nat → Int32) × (Nat → Int32) × (Nat → Int32) × (Nat → Int32) × (Nat → Int32) × (Nat → Int32) × (Nat → Int32) × (Nat → Int32) × (Nat → Int32)
def f_X9_readClause_q14 (S : wd_W) : Option o_X9_readClause_q14 :=
bd (f_X9_readWord_q14 (wd_o S [(301, (S.1 301)), (307, (S.1 307)), (310, (S.1 310)), (314, (S.1 314)), (315, (S.1 315)), (316, (S.1 316)), (317, (S.1 317)), (1402, (S.1 1402)), (1403, (S.1 1403)), (1404, (S.1 1404)), (1405, (S.1 1405))] [] [(4, (S.2.2.1 4)), (5, (S.2.2.1 5)), (6, (S.2.2.1 6)), (7, (S.2.2.1 7)), (8, (S.2.2.1 8)), (9, (S.2.2.1 9)), (10, (S.2.2.1 10)), (11, (S.2.2.1 11)), (12, (S.2.2.1 12)), (13, (S.2.2.1 13))] [] [])) fun o1 =>
bd (f_X9_isWord_q14_str1 (wd_o S [(301, (S.1 301)), (307, (S.1 307)), (310, (S.1 310)), (314, (S.1 314)), (315, (S.1 315)), (316, (S.1 316)), (317, (S.1 317)), (1402, o1.1), (1403, o1.2), (1404, (S.1 1404)), (1405, (S.1 1405))] [] [(4, (S.2.2.1 4)), (5, (S.2.2.1 5)), (6, (S.2.2.1 6)), (7, (S.2.2.1 7)), (8, (S.2.2.1 8)), (9, (S.2.2.1 9)), (10, (S.2.2.1 10)), (11, (S.2.2.1 11)), (12, (S.2.2.1 12)), (13, (S.2.2.1 13))] [] [])) fun o2 =>
if o2 = 0 then (
bd (f_X9_isWord_q14_str4 (wd_o S [(301, (S.1 301)), (307, (S.1 307)), (310, (S.1 310)), (314, (S.1 314)), (315, (S.1 315)), (316, (S.1 316)), (317, (S.1 317)), (1402, o1.1), (1403, o1.2), (1404, (S.1 1404)), (1405, (S.1 1405))] [] [(4, (S.2.2.1 4)), (5, (S.2.2.1 5)), (6, (S.2.2.1 6)), (7, (S.2.2.1 7)), (8, (S.2.2.1 8)), (9, (S.2.2.1 9)), (10, (S.2.2.1 10)), (11, (S.2.2.1 11)), (12, (S.2.2.1 12)), (13, (S.2.2.1 13))] [] [])) fun o3 =>
if o3 = 0 then (
bd (f_X9_isWord_q14_str5 (wd_o S [(301, (S.1 301)), (307, (S.1 307)), (310, (S.1 310)), (314, (S.1 314)), (315, (S.1 315)), (316, (S.1 316)), (317, (S.1 317)), (1402, o1.1), (1403, o1.2), (1404, (S.1 1404)), (1405, (S.1 1405))] [] [(4, (S.2.2.1 4)), (5, (S.2.2.1 5)), (6, (S.2.2.1 6)), (7, (S.2.2.1 7)), (8, (S.2.2.1 8)), (9, (S.2.2.1 9)), (10, (S.2.2.1 10)), (11, (S.2.2.1 11)), (12, (S.2.2.1 12)), (13, (S.2.2.1 13))] [] [])) fun o4 =>
if o4 = 0 then (
bd (f_X9_isWord_q14_str7 (wd_o S [(301, (S.1 301)), (307, (S.1 307)), (310, (S.1 310)), (314, (S.1 314)), (315, (S.1 315)), (316, (S.1 316)), (317, (S.1 317)), (1402, o1.1), (1403, o1.2), (1404, (S.1 1404)), (1405, (S.1 1405))] [] [(4, (S.2.2.1 4)), (5, (S.2.2.1 5)), (6, (S.2.2.1 6)), (7, (S.2.2.1 7)), (8, (S.2.2.1 8)), (9, (S.2.2.1 9)), (10, (S.2.2.1 10)), (11, (S.2.2.1 11)), (12, (S.2.2.1 12)), (13, (S.2.2.1 13))] [] [])) fun o5 =>
if o5 = 0 then (
bd (f_X9_blame_q14 (wd_o S [(301, (S.1 301)), (307, (S.1 307)), (310, (S.1 310)), (314, (S.1 314)), (315, (S.1 315)), (316, (S.1 316)), (317, (S.1 317)), (1402, o1.1), (1403, o1.2), (1404, (S.1 1404)), (1405, (S.1 1405))] [] [(4, (S.2.2.1 4)), (5, (S.2.2.1 5)), (6, (S.2.2.1 6)), (7, (S.2.2.1 7)), (8, (S.2.2.1 8)), (9, (S.2.2.1 9)), (10, (S.2.2.1 10)), (11, (S.2.2.1 11)), (12, (S.2.2.1 12)), (13, (S.2.2.1 13))] [] []) o1.2 (0 : Int32)) fun o6 =>
some ((S.1 301), (S.1 307), (S.1 310), (S.1 314), (S.1 315), (S.1 316), (S.1 317), o1.1, o1.2, o6, (S.1 1405), (S.2.2.1 4), (S.2.2.1 5), (S.2.2.1 6), (S.2.2.1 7), (S.2.2.1 8), (S.2.2.1 9), (S.2.2.1 10), (S.2.2.1 11), (S.2.2.1 12), (S.2.2.1 13))) else (
bd (f_X9_readThrough_q14 (wd_o S [(301, (S.1 301)), (307, (S.1 307)), (310, (S.1 310)), (314, (S.1 314)), (315, (S.1 315)), (316, (S.1 316)), (317, (S.1 317)), (1402, o1.1), (1403, o1.2), (1404, (S.1 1404)), (1405, (S.1 1405))] [] [(4, (S.2.2.1 4)), (5, (S.2.2.1 5)), (6, (S.2.2.1 6)), (7, (S.2.2.1 7)), (8, (S.2.2.1 8)), (9, (S.2.2.1 9)), (10, (S.2.2.1 10)), (11, (S.2.2.1 11)), (12, (S.2.2.1 12)), (13, (S.2.2.1 13))] [] [])) fun o7 =>
some ((S.1 301), (S.1 307), (S.1 310), o7.1, o7.2.1, o7.2.2.1, o7.2.2.2.1, o7.2.2.2.2.1, o7.2.2.2.2.2.1, o7.2.2.2.2.2.2.1, o7.2.2.2.2.2.2.2, (S.2.2.1 4), (S.2.2.1 5), (S.2.2.1 6), (S.2.2.1 7), (S.2.2.1 8), (S.2.2.1 9), (S.2.2.1 10), (S.2.2.1 11), (S.2.2.1 12), (S.2.2.1 13)))) else (
bd (f_X9_readCause_q14 (wd_o S [(301, (S.1 301)), (307, (S.1 307)), (310, (S.1 310)), (314, (S.1 314)), (315, (S.1 315)), (316, (S.1 316)), (317, (S.1 317)), (1402, o1.1), (1403, o1.2), (1404, (S.1 1404)), (1405, (S.1 1405))] [] [(4, (S.2.2.1 4)), (5, (S.2.2.1 5)), (6, (S.2.2.1 6)), (7, (S.2.2.1 7)), (8, (S.2.2.1 8)), (9, (S.2.2.1 9)), (10, (S.2.2.1 10)), (11, (S.2.2.1 11)), (12, (S.2.2.1 12)), (13, (S.2.2.1 13))] [] [])) fun o9 =>
some ((S.1 301), (S.1 307), o9.1, (S.1 314), (S.1 315), (S.1 316), (S.1 317), o9.2.1, o9.2.2.1, o9.2.2.2.1, (S.1 1405), (S.2.2.1 4), (S.2.2.1 5), (S.2.2.1 6), (S.2.2.1 7), (S.2.2.1 8), (S.2.2.1 9), (S.2.2.1 10), o9.2.2.2.2.1, o9.2.2.2.2.2.1, o9.2.2.2.2.2.2))) else (
bd (f_X9_readKeeper_q14 (wd_o S [(301, (S.1 301)), (307, (S.1 307)), (310, (S.1 310)), (314, (S.1 314)), (315, (S.1 315)), (316, (S.1 316)), (317, (S.1 317)), (1402, o1.1), (1403, o1.2), (1404, (S.1 1404)), (1405, (S.1 1405))] [] [(4, (S.2.2.1 4)), (5, (S.2.2.1 5)), (6, (S.2.2.1 6)), (7, (S.2.2.1 7)), (8, (S.2.2.1 8)), (9, (S.2.2.1 9)), (10, (S.2.2.1 10)), (11, (S.2.2.1 11)), (12, (S.2.2.1 12)), (13, (S.2.2.1 13))] [] [])) fun o11 =>
some ((S.1 301), o11.1, (S.1 310), (S.1 314), (S.1 315), (S.1 316), (S.1 317), o11.2.1, o11.2.2.1, o11.2.2.2.1, (S.1 1405), (S.2.2.1 4), (S.2.2.1 5), (S.2.2.1 6), (S.2.2.1 7), (S.2.2.1 8), o11.2.2.2.2.1, o11.2.2.2.2.2, (S.2.2.1 11), (S.2.2.1 12), (S.2.2.1 13)))) else (
bd (f_X9_readLine_q14 (wd_o S [(301, (S.1 301)), (307, (S.1 307)), (310, (S.1 310)), (314, (S.1 314)), (315, (S.1 315)), (316, (S.1 316)), (317, (S.1 317)), (1402, o1.1), (1403, o1.2), (1404, (S.1 1404)), (1405, (S.1 1405))] [] [(4, (S.2.2.1 4)), (5, (S.2.2.1 5)), (6, (S.2.2.1 6)), (7, (S.2.2.1 7)), (8, (S.2.2.1 8)), (9, (S.2.2.1 9)), (10, (S.2.2.1 10)), (11, (S.2.2.1 11)), (12, (S.2.2.1 12)), (13, (S.2.2.1 13))] [] [])) fun o13 =>
some (o13.1, (S.1 307), (S.1 310), (S.1 314), (S.1 315), (S.1 316), (S.1 317), o13.2.1, o13.2.2.1, o13.2.2.2.1, (S.1 1405), o13.2.2.2.2.1, o13.2.2.2.2.2.1, o13.2.2.2.2.2.2.1, o13.2.2.2.2.2.2.2.1, o13.2.2.2.2.2.2.2.2, (S.2.2.1 9), (S.2.2.1 10), (S.2.2.1 11), (S.2.2.1 12), (S.2.2.1 13)))
set_option maxRecDepth 100000 in
set_option maxHeartbeats 4000000 in
theorem c_X9_readClause_q14 (l : Launch) (D : va_G) (q g : Nat → Nat) (cy : Nat → ClassId) (z : (Nat → Nat) × (Nat → Nat) × Nat) (S : wd_W) (o : o_X9_readClause_q14) (hf : f_X9_readClause_q14 S = some o) : MX layX l yX9_readClause cX9_readClause 1 none ({ frames := 7, cells := 0, slots := 0, locals := 151 } : Room) D q g cy z [.ref (q 14)] S false (none) (wd_o S [(301, o.1), (307, o.2.1), (310, o.2.2.1), (314, o.2.2.2.1), (315, o.2.2.2.2.1), (316, o.2.2.2.2.2.1), (317, o.2.2.2.2.2.2.1), (1402, o.2.2.2.2.2.2.2.1), (1403, o.2.2.2.2.2.2.2.2.1), (1404, o.2.2.2.2.2.2.2.2.2.1), (1405, o.2.2.2.2.2.2.2.2.2.2.1)] [] [(4, o.2.2.2.2.2.2.2.2.2.2.2.1), (5, o.2.2.2.2.2.2.2.2.2.2.2.2.1), (6, o.2.2.2.2.2.2.2.2.2.2.2.2.2.1), (7, o.2.2.2.2.2.2.2.2.2.2.2.2.2.2.1), (8, o.2.2.2.2.2.2.2.2.2.2.2.2.2.2.2.1), (9, o.2.2.2.2.2.2.2.2.2.2.2.2.2.2.2.2.1), (10, o.2.2.2.2.2.2.2.2.2.2.2.2.2.2.2.2.2.1), (11, o.2.2.2.2.2.2.2.2.2.2.2.2.2.2.2.2.2.2.1), (12, o.2.2.2.2.2.2.2.2.2.2.2.2.2.2.2.2.2.2.2.1), (13, o.2.2.2.2.2.2.2.2.2.2.2.2.2.2.2.2.2.2.2.2)] [] []) 0 0 := by
  refine mx_of (own := RX9) (lc := [(0, .ref (q 14))]) (by decide +kernel) rfl layX_ok (Nat.le_of_ble_eq_true rfl) rfl ?_
  intro X hXl hXq hXz hC hQ
  subst hXl; subst hXq; subst hXz
  unfold f_X9_readClause_q14 at hf
  refine go_keys (L1 := [(301, (S.1 301)), (307, (S.1 307)), (310, (S.1 310)), (314, (S.1 314)), (315, (S.1 315)), (316, (S.1 316)), (317, (S.1 317)), (1402, (S.1 1402)), (1403, (S.1 1403)), (1404, (S.1 1404)), (1405, (S.1 1405))]) (L2 := []) (L3 := [(4, (S.2.2.1 4)), (5, (S.2.2.1 5)), (6, (S.2.2.1 6)), (7, (S.2.2.1 7)), (8, (S.2.2.1 8)), (9, (S.2.2.1 9)), (10, (S.2.2.1 10)), (11, (S.2.2.1 11)), (12, (S.2.2.1 12)), (13, (S.2.2.1 13))]) (L4 := []) (L5 := []) [301, 307, 310, 314, 315, 316, 317, 1402, 1403, 1404, 1405] [] [4, 5, 6, 7, 8, 9, 10, 11, 12, 13] [] [] rfl rfl rfl rfl rfl ?_
  refine go_aload_n (pc' := 1) hC dX9_readClause_0 rfl rfl ?_
  obtain ⟨o1, ho1, hf⟩ := bd_e hf
  refine go_callV1 (pc' := 4) (As := []) (st := []) (st' := []) (L1' := [(301, (S.1 301)), (307, (S.1 307)), (310, (S.1 310)), (314, (S.1 314)), (315, (S.1 315)), (316, (S.1 316)), (317, (S.1 317)), (1402, o1.1), (1403, o1.2), (1404, (S.1 1404)), (1405, (S.1 1405))]) (L2' := []) (L3' := [(4, (S.2.2.1 4)), (5, (S.2.2.1 5)), (6, (S.2.2.1 6)), (7, (S.2.2.1 7)), (8, (S.2.2.1 8)), (9, (S.2.2.1 9)), (10, (S.2.2.1 10)), (11, (S.2.2.1 11)), (12, (S.2.2.1 12)), (13, (S.2.2.1 13))]) (L4' := []) (L5' := []) (cells' := 0) (slots' := 0)  (b := 14) hC dX9_readClause_1 ⟨mw_325, mw_328, mw_18, yd_yX9_readWord, yp_yX9_readWord, Nat.le_of_ble_eq_true rfl, Nat.le_of_ble_eq_true rfl, (Nat.le_of_ble_eq_true rfl), (Nat.le_of_ble_eq_true rfl)⟩ mw_326 mw_327 layX_14 rfl rfl rfl (Nat.le_of_ble_eq_true rfl) (c_X9_readWord_q14 (x_l X) (x_D X) (x_q X) g (x_cy X) (x_z X) _  o1 ho1) rfl rfl rfl rfl rfl rfl rfl rfl rfl rfl rfl rfl rfl rfl ?_
  refine go_aload_n (pc' := 5) hC dX9_readClause_4 rfl rfl ?_
  refine go_ldcS (pc' := 7) hC 1 dX9_readClause_5 rfl rfl rfl ?_
  obtain ⟨o2, ho2, hf⟩ := bd_e hf
  refine go_callV0 (pc' := 10) (As := [.ref ((x_z X).1 1)]) (st := []) (st' := [.int o2])    (b := 14) hC dX9_readClause_7 ⟨mw_333, mw_336, mw_18, yd_yX9_isWord, yp_yX9_isWord, Nat.le_of_ble_eq_true rfl, Nat.le_of_ble_eq_true rfl, (Nat.le_of_ble_eq_true rfl), (Nat.le_of_ble_eq_true rfl)⟩ mw_334 mw_335 layX_14 rfl rfl rfl (Nat.le_of_ble_eq_true rfl) (c_X9_isWord_q14_str1 (x_l X) (x_D X) (x_q X) g (x_cy X) (x_z X) _  o2 ho2) rfl rfl ?_
  refine go_if_eq (tgt := 20) (pc' := 13) hC dX9_readClause_10 (by decide) rfl (fun h14 => ?_) (fun h14 => ?_)
  · have hf := ite_t h14 hf
    refine go_aload_n (pc' := 21) hC dX9_readClause_20 rfl rfl ?_
    refine go_ldcS (pc' := 23) hC 4 dX9_readClause_21 rfl rfl rfl ?_
    obtain ⟨o3, ho3, hf⟩ := bd_e hf
    refine go_callV0 (pc' := 26) (As := [.ref ((x_z X).1 4)]) (st := []) (st' := [.int o3])    (b := 14) hC dX9_readClause_23 ⟨mw_333, mw_336, mw_18, yd_yX9_isWord, yp_yX9_isWord, Nat.le_of_ble_eq_true rfl, Nat.le_of_ble_eq_true rfl, (Nat.le_of_ble_eq_true rfl), (Nat.le_of_ble_eq_true rfl)⟩ mw_334 mw_335 layX_14 rfl rfl rfl (Nat.le_of_ble_eq_true rfl) (c_X9_isWord_q14_str4 (x_l X) (x_D X) (x_q X) g (x_cy X) (x_z X) _  o3 ho3) rfl rfl ?_
    refine go_if_eq (tgt := 36) (pc' := 29) hC dX9_readClause_26 (by decide) rfl (fun h12 => ?_) (fun h12 => ?_)
    · have hf := ite_t h12 hf
      refine go_aload_n (pc' := 37) hC dX9_readClause_36 rfl rfl ?_
      refine go_ldcS (pc' := 39) hC 5 dX9_readClause_37 rfl rfl rfl ?_
      obtain ⟨o4, ho4, hf⟩ := bd_e hf
      refine go_callV0 (pc' := 42) (As := [.ref ((x_z X).1 5)]) (st := []) (st' := [.int o4])    (b := 14) hC dX9_readClause_39 ⟨mw_333, mw_336, mw_18, yd_yX9_isWord, yp_yX9_isWord, Nat.le_of_ble_eq_true rfl, Nat.le_of_ble_eq_true rfl, (Nat.le_of_ble_eq_true rfl), (Nat.le_of_ble_eq_true rfl)⟩ mw_334 mw_335 layX_14 rfl rfl rfl (Nat.le_of_ble_eq_true rfl) (c_X9_isWord_q14_str5 (x_l X) (x_D X) (x_q X) g (x_cy X) (x_z X) _  o4 ho4) rfl rfl ?_
      refine go_if_eq (tgt := 52) (pc' := 45) hC dX9_readClause_42 (by decide) rfl (fun h10 => ?_) (fun h10 => ?_)
      · have hf := ite_t h10 hf
        refine go_aload_n (pc' := 53) hC dX9_readClause_52 rfl rfl ?_
        refine go_ldcS (pc' := 55) hC 7 dX9_readClause_53 rfl rfl rfl ?_
        obtain ⟨o5, ho5, hf⟩ := bd_e hf
        refine go_callV0 (pc' := 58) (As := [.ref ((x_z X).1 7)]) (st := []) (st' := [.int o5])    (b := 14) hC dX9_readClause_55 ⟨mw_333, mw_336, mw_18, yd_yX9_isWord, yp_yX9_isWord, Nat.le_of_ble_eq_true rfl, Nat.le_of_ble_eq_true rfl, (Nat.le_of_ble_eq_true rfl), (Nat.le_of_ble_eq_true rfl)⟩ mw_334 mw_335 layX_14 rfl rfl rfl (Nat.le_of_ble_eq_true rfl) (c_X9_isWord_q14_str7 (x_l X) (x_D X) (x_q X) g (x_cy X) (x_z X) _  o5 ho5) rfl rfl ?_
        refine go_if_eq (tgt := 68) (pc' := 61) hC dX9_readClause_58 (by decide) rfl (fun h8 => ?_) (fun h8 => ?_)
        · have hf := ite_t h8 hf
          refine go_aload_n (pc' := 69) hC dX9_readClause_68 rfl rfl ?_
          refine go_aload_n (pc' := 70) hC dX9_readClause_69 rfl rfl ?_
          refine go_geti (v := o1.2) (pc' := 73) hC 14 3 layX_14 rfl rfl inlX9 (Nat.le_of_ble_eq_true rfl) mw_323 rfl dX9_readClause_70 rfl rfl ?_
          refine go_iconst (pc' := 74) hC dX9_readClause_73 ki_0 rfl ?_
          obtain ⟨o6, ho6, hf⟩ := bd_e hf
          refine go_callV1 (pc' := 77) (As := [.int o1.2, .int (0 : Int32)]) (st := []) (st' := []) (L1' := [(301, (S.1 301)), (307, (S.1 307)), (310, (S.1 310)), (314, (S.1 314)), (315, (S.1 315)), (316, (S.1 316)), (317, (S.1 317)), (1402, o1.1), (1403, o1.2), (1404, o6), (1405, (S.1 1405))]) (L2' := []) (L3' := [(4, (S.2.2.1 4)), (5, (S.2.2.1 5)), (6, (S.2.2.1 6)), (7, (S.2.2.1 7)), (8, (S.2.2.1 8)), (9, (S.2.2.1 9)), (10, (S.2.2.1 10)), (11, (S.2.2.1 11)), (12, (S.2.2.1 12)), (13, (S.2.2.1 13))]) (L4' := []) (L5' := []) (cells' := 0) (slots' := 0)  (b := 14) hC dX9_readClause_74 ⟨mw_386, mw_389, mw_18, yd_yX9_blame, yp_yX9_blame, Nat.le_of_ble_eq_true rfl, Nat.le_of_ble_eq_true rfl, (Nat.le_of_ble_eq_true rfl), (Nat.le_of_ble_eq_true rfl)⟩ mw_387 mw_388 layX_14 rfl rfl rfl (Nat.le_of_ble_eq_true rfl) (c_X9_blame_q14 (x_l X) (x_D X) (x_q X) g (x_cy X) (x_z X) _ o1.2 (0 : Int32) o6 ho6) rfl rfl rfl rfl rfl rfl rfl rfl rfl rfl rfl rfl rfl rfl ?_
          obtain rfl := Option.some.inj hf
          exact go_vret hC hQ dX9_readClause_77 rfl rfl rfl (fun _ => rfl) rfl rfl
        · have hf := ite_f h8 hf
          refine go_aload_n (pc' := 62) hC dX9_readClause_61 rfl rfl ?_
          obtain ⟨o7, ho7, hf⟩ := bd_e hf
          refine go_callV1 (pc' := 65) (As := []) (st := []) (st' := []) (L1' := [(301, (S.1 301)), (307, (S.1 307)), (310, (S.1 310)), (314, o7.1), (315, o7.2.1), (316, o7.2.2.1), (317, o7.2.2.2.1), (1402, o7.2.2.2.2.1), (1403, o7.2.2.2.2.2.1), (1404, o7.2.2.2.2.2.2.1), (1405, o7.2.2.2.2.2.2.2)]) (L2' := []) (L3' := [(4, (S.2.2.1 4)), (5, (S.2.2.1 5)), (6, (S.2.2.1 6)), (7, (S.2.2.1 7)), (8, (S.2.2.1 8)), (9, (S.2.2.1 9)), (10, (S.2.2.1 10)), (11, (S.2.2.1 11)), (12, (S.2.2.1 12)), (13, (S.2.2.1 13))]) (L4' := []) (L5' := []) (cells' := 0) (slots' := 0)  (b := 14) hC dX9_readClause_62 ⟨mw_452, mw_455, mw_18, yd_yX9_readThrough, yp_yX9_readThrough, Nat.le_of_ble_eq_true rfl, Nat.le_of_ble_eq_true rfl, (Nat.le_of_ble_eq_true rfl), (Nat.le_of_ble_eq_true rfl)⟩ mw_453 mw_454 layX_14 rfl rfl rfl (Nat.le_of_ble_eq_true rfl) (c_X9_readThrough_q14 (x_l X) (x_D X) (x_q X) g (x_cy X) (x_z X) _  o7 ho7) rfl rfl rfl rfl rfl rfl rfl rfl rfl rfl rfl rfl rfl rfl ?_
          refine go_goto (tgt := 77) hC dX9_readClause_65 (by decide) ?_
          obtain rfl := Option.some.inj hf
          exact go_vret hC hQ dX9_readClause_77 rfl rfl rfl (fun _ => rfl) rfl rfl
      · have hf := ite_f h10 hf
        refine go_aload_n (pc' := 46) hC dX9_readClause_45 rfl rfl ?_
        obtain ⟨o9, ho9, hf⟩ := bd_e hf
        refine go_callV1 (pc' := 49) (As := []) (st := []) (st' := []) (L1' := [(301, (S.1 301)), (307, (S.1 307)), (310, o9.1), (314, (S.1 314)), (315, (S.1 315)), (316, (S.1 316)), (317, (S.1 317)), (1402, o9.2.1), (1403, o9.2.2.1), (1404, o9.2.2.2.1), (1405, (S.1 1405))]) (L2' := []) (L3' := [(4, (S.2.2.1 4)), (5, (S.2.2.1 5)), (6, (S.2.2.1 6)), (7, (S.2.2.1 7)), (8, (S.2.2.1 8)), (9, (S.2.2.1 9)), (10, (S.2.2.1 10)), (11, o9.2.2.2.2.1), (12, o9.2.2.2.2.2.1), (13, o9.2.2.2.2.2.2)]) (L4' := []) (L5' := []) (cells' := 0) (slots' := 0)  (b := 14) hC dX9_readClause_46 ⟨mw_443, mw_446, mw_18, yd_yX9_readCause, yp_yX9_readCause, Nat.le_of_ble_eq_true rfl, Nat.le_of_ble_eq_true rfl, (Nat.le_of_ble_eq_true rfl), (Nat.le_of_ble_eq_true rfl)⟩ mw_444 mw_445 layX_14 rfl rfl rfl (Nat.le_of_ble_eq_true rfl) (c_X9_readCause_q14 (x_l X) (x_D X) (x_q X) g (x_cy X) (x_z X) _  o9 ho9) rfl rfl rfl rfl rfl rfl rfl rfl rfl rfl rfl rfl rfl rfl ?_
        refine go_goto (tgt := 77) hC dX9_readClause_49 (by decide) ?_
        obtain rfl := Option.some.inj hf
        exact go_vret hC hQ dX9_readClause_77 rfl rfl rfl (fun _ => rfl) rfl rfl
    · have hf := ite_f h12 hf
      refine go_aload_n (pc' := 30) hC dX9_readClause_29 rfl rfl ?_
      obtain ⟨o11, ho11, hf⟩ := bd_e hf
      refine go_callV1 (pc' := 33) (As := []) (st := []) (st' := []) (L1' := [(301, (S.1 301)), (307, o11.1), (310, (S.1 310)), (314, (S.1 314)), (315, (S.1 315)), (316, (S.1 316)), (317, (S.1 317)), (1402, o11.2.1), (1403, o11.2.2.1), (1404, o11.2.2.2.1), (1405, (S.1 1405))]) (L2' := []) (L3' := [(4, (S.2.2.1 4)), (5, (S.2.2.1 5)), (6, (S.2.2.1 6)), (7, (S.2.2.1 7)), (8, (S.2.2.1 8)), (9, o11.2.2.2.2.1), (10, o11.2.2.2.2.2), (11, (S.2.2.1 11)), (12, (S.2.2.1 12)), (13, (S.2.2.1 13))]) (L4' := []) (L5' := []) (cells' := 0) (slots' := 0)  (b := 14) hC dX9_readClause_30 ⟨mw_431, mw_434, mw_18, yd_yX9_readKeeper, yp_yX9_readKeeper, Nat.le_of_ble_eq_true rfl, Nat.le_of_ble_eq_true rfl, (Nat.le_of_ble_eq_true rfl), (Nat.le_of_ble_eq_true rfl)⟩ mw_432 mw_433 layX_14 rfl rfl rfl (Nat.le_of_ble_eq_true rfl) (c_X9_readKeeper_q14 (x_l X) (x_D X) (x_q X) g (x_cy X) (x_z X) _  o11 ho11) rfl rfl rfl rfl rfl rfl rfl rfl rfl rfl rfl rfl rfl rfl ?_
      refine go_goto (tgt := 77) hC dX9_readClause_33 (by decide) ?_
      obtain rfl := Option.some.inj hf
      exact go_vret hC hQ dX9_readClause_77 rfl rfl rfl (fun _ => rfl) rfl rfl
  · have hf := ite_f h14 hf
    refine go_aload_n (pc' := 14) hC dX9_readClause_13 rfl rfl ?_
    obtain ⟨o13, ho13, hf⟩ := bd_e hf
    refine go_callV1 (pc' := 17) (As := []) (st := []) (st' := []) (L1' := [(301, o13.1), (307, (S.1 307)), (310, (S.1 310)), (314, (S.1 314)), (315, (S.1 315)), (316, (S.1 316)), (317, (S.1 317)), (1402, o13.2.1), (1403, o13.2.2.1), (1404, o13.2.2.2.1), (1405, (S.1 1405))]) (L2' := []) (L3' := [(4, o13.2.2.2.2.1), (5, o13.2.2.2.2.2.1), (6, o13.2.2.2.2.2.2.1), (7, o13.2.2.2.2.2.2.2.1), (8, o13.2.2.2.2.2.2.2.2), (9, (S.2.2.1 9)), (10, (S.2.2.1 10)), (11, (S.2.2.1 11)), (12, (S.2.2.1 12)), (13, (S.2.2.1 13))]) (L4' := []) (L5' := []) (cells' := 0) (slots' := 0)  (b := 14) hC dX9_readClause_14 ⟨mw_406, mw_409, mw_18, yd_yX9_readLine, yp_yX9_readLine, Nat.le_of_ble_eq_true rfl, Nat.le_of_ble_eq_true rfl, (Nat.le_of_ble_eq_true rfl), (Nat.le_of_ble_eq_true rfl)⟩ mw_407 mw_408 layX_14 rfl rfl rfl (Nat.le_of_ble_eq_true rfl) (c_X9_readLine_q14 (x_l X) (x_D X) (x_q X) g (x_cy X) (x_z X) _  o13 ho13) rfl rfl rfl rfl rfl rfl rfl rfl rfl rfl rfl rfl rfl rfl ?_
    refine go_goto (tgt := 77) hC dX9_readClause_17 (by decide) ?_
    obtain rfl := Option.some.inj hf
    exact go_vret hC hQ dX9_readClause_77 rfl rfl rfl (fun _ => rfl) rfl rfl
theorem dX9_readLand_0 : decode cX9_readLand 0 = .ok (.aload_n 0, 1) := by decide +kernel
theorem dX9_readLand_1 : decode cX9_readLand 1 = .ok (.getfield 15, 3) := by decide +kernel
theorem dX9_readLand_4 : decode cX9_readLand 4 = .ok (.invokevirtual 23, 3) := by decide +kernel
theorem dX9_readLand_7 : decode cX9_readLand 7 = .ok (.aload_n 0, 1) := by decide +kernel
theorem dX9_readLand_8 : decode cX9_readLand 8 = .ok (.iconst 0, 1) := by decide +kernel
theorem dX9_readLand_9 : decode cX9_readLand 9 = .ok (.putfield 28, 3) := by decide +kernel
theorem dX9_readLand_12 : decode cX9_readLand 12 = .ok (.aload_n 0, 1) := by decide +kernel
theorem dX9_readLand_13 : decode cX9_readLand 13 = .ok (.iconst 0, 1) := by decide +kernel
theorem dX9_readLand_14 : decode cX9_readLand 14 = .ok (.putfield 31, 3) := by decide +kernel
theorem dX9_readLand_17 : decode cX9_readLand 17 = .ok (.aload_n 0, 1) := by decide +kernel
theorem dX9_readLand_18 : decode cX9_readLand 18 = .ok (.iconst 0, 1) := by decide +kernel
theorem dX9_readLand_19 : decode cX9_readLand 19 = .ok (.putfield 34, 3) := by decide +kernel
theorem dX9_readLand_22 : decode cX9_readLand 22 = .ok (.aload_n 0, 1) := by decide +kernel
theorem dX9_readLand_23 : decode cX9_readLand 23 = .ok (.invokevirtual 38, 3) := by decide +kernel
theorem dX9_readLand_26 : decode cX9_readLand 26 = .ok (.iconst 0, 1) := by decide +kernel
theorem dX9_readLand_27 : decode cX9_readLand 27 = .ok (.istore_n 1, 1) := by decide +kernel
theorem dX9_readLand_28 : decode cX9_readLand 28 = .ok (.iload_n 1, 1) := by decide +kernel
theorem dX9_readLand_29 : decode cX9_readLand 29 = .ok (.aload_n 0, 1) := by decide +kernel
theorem dX9_readLand_30 : decode cX9_readLand 30 = .ok (.getfield 19, 3) := by decide +kernel
theorem dX9_readLand_33 : decode cX9_readLand 33 = .ok (.if_icmp .ge 63, 3) := by decide +kernel
theorem dX9_readLand_36 : decode cX9_readLand 36 = .ok (.aload_n 0, 1) := by decide +kernel
theorem dX9_readLand_37 : decode cX9_readLand 37 = .ok (.getfield 31, 3) := by decide +kernel
theorem dX9_readLand_40 : decode cX9_readLand 40 = .ok (.ifCond .ne 56, 3) := by decide +kernel
theorem dX9_readLand_43 : decode cX9_readLand 43 = .ok (.aload_n 0, 1) := by decide +kernel
theorem dX9_readLand_44 : decode cX9_readLand 44 = .ok (.invokevirtual 41, 3) := by decide +kernel
theorem dX9_readLand_47 : decode cX9_readLand 47 = .ok (.ifCond .eq 49, 3) := by decide +kernel
theorem dX9_readLand_50 : decode cX9_readLand 50 = .ok (.aload_n 0, 1) := by decide +kernel
theorem dX9_readLand_51 : decode cX9_readLand 51 = .ok (.getfield 9, 3) := by decide +kernel
theorem dX9_readLand_54 : decode cX9_readLand 54 = .ok (.aload_n 0, 1) := by decide +kernel
theorem dX9_readLand_55 : decode cX9_readLand 55 = .ok (.getfield 28, 3) := by decide +kernel
theorem dX9_readLand_58 : decode cX9_readLand 58 = .ok (.iaload, 1) := by decide +kernel
theorem dX9_readLand_59 : decode cX9_readLand 59 = .ok (.bipush 59, 2) := by decide +kernel
theorem dX9_readLand_61 : decode cX9_readLand 61 = .ok (.if_icmp .eq 15, 3) := by decide +kernel
theorem dX9_readLand_64 : decode cX9_readLand 64 = .ok (.aload_n 0, 1) := by decide +kernel
theorem dX9_readLand_65 : decode cX9_readLand 65 = .ok (.aload_n 0, 1) := by decide +kernel
theorem dX9_readLand_66 : decode cX9_readLand 66 = .ok (.getfield 28, 3) := by decide +kernel
theorem dX9_readLand_69 : decode cX9_readLand 69 = .ok (.iconst 0, 1) := by decide +kernel
theorem dX9_readLand_70 : decode cX9_readLand 70 = .ok (.invokevirtual 45, 3) := by decide +kernel
theorem dX9_readLand_73 : decode cX9_readLand 73 = .ok (.goto 17, 3) := by decide +kernel
theorem dX9_readLand_76 : decode cX9_readLand 76 = .ok (.aload_n 0, 1) := by decide +kernel
theorem dX9_readLand_77 : decode cX9_readLand 77 = .ok (.dup, 1) := by decide +kernel
theorem dX9_readLand_78 : decode cX9_readLand 78 = .ok (.getfield 28, 3) := by decide +kernel
theorem dX9_readLand_81 : decode cX9_readLand 81 = .ok (.iconst 1, 1) := by decide +kernel
theorem dX9_readLand_82 : decode cX9_readLand 82 = .ok (.iadd, 1) := by decide +kernel
theorem dX9_readLand_83 : decode cX9_readLand 83 = .ok (.putfield 28, 3) := by decide +kernel
theorem dX9_readLand_86 : decode cX9_readLand 86 = .ok (.aload_n 0, 1) := by decide +kernel
theorem dX9_readLand_87 : decode cX9_readLand 87 = .ok (.invokevirtual 49, 3) := by decide +kernel
theorem dX9_readLand_90 : decode cX9_readLand 90 = .ok (.iinc 1 1, 3) := by decide +kernel
theorem dX9_readLand_93 : decode cX9_readLand 93 = .ok (.goto (-65), 3) := by decide +kernel
theorem dX9_readLand_96 : decode cX9_readLand 96 = .ok (.aload_n 0, 1) := by decide +kernel
theorem dX9_readLand_97 : decode cX9_readLand 97 = .ok (.getfield 31, 3) := by decide +kernel
theorem dX9_readLand_100 : decode cX9_readLand 100 = .ok (.ireturn, 1) := by decide +kernel
abbrev o_X9_readLand_q14 : Type := Int32 × Int32 × Int32 × Int32 × Int32 × Int32 × Int32 × Int32 × Int32 × Int32 × Int32 × Int32 × Int32 × (Nat → Int32) × (Nat → Int32) × (Nat → Int32) × (Nat → Int32) × (Nat → Int32) × (Nat → Int32) × (Nat → Int32) × (Nat → Int32) × (Nat → Int32) × (Nat → Int32)
def f_X9_readLand_q14_L28 (S : wd_W) (o2 : o_X9_readPlaces_q14) (k96_24 : (Int32) → (Int32) → (Int32) → (Int32) → (Int32) → (Int32) → (Int32) → (Int32) → (Int32) → (Int32) → (Int32) → (Nat → Int32) → (Nat → Int32) → (Nat → Int32) → (Nat → Int32) → (Nat → Int32) → (Nat → Int32) → (Nat → Int32) → (Nat → Int32) → (Nat → Int32) → (Nat → Int32) → (Option o_X9_readLand_q14)) (r47 : (Int32) → (Int32) → (Int32) → (Int32) → (Int32) → (Int32) → (Int32) → (Int32) → (Int32) → (Int32) → (Int32) → (Int32) → (Nat → Int32) → (Nat → Int32) → (Nat → Int32) → (Nat → Int32) → (Nat → Int32) → (Nat → Int32) → (Nat → Int32) → (Nat → Int32) → (Nat → Int32) → (Nat → Int32) → (Option o_X9_readLand_q14)) (x25 : Int32) (x26 : Int32) (x27 : Int32) (x28 : Int32) (x29 : Int32) (x30 : Int32) (x31 : Int32) (x32 : Int32) (x33 : Int32) (x34 : Int32) (x35 : Int32) (x36 : Int32) (a37 : Nat → Int32) (a38 : Nat → Int32) (a39 : Nat → Int32) (a40 : Nat → Int32) (a41 : Nat → Int32) (a42 : Nat → Int32) (a43 : Nat → Int32) (a44 : Nat → Int32) (a45 : Nat → Int32) (a46 : Nat → Int32) : Option o_X9_readLand_q14 :=
if (S.1 1400) ≤ x25 then (
k96_24 x26 x27 x28 x29 x30 x31 x32 x33 x34 x35 x36 a37 a38 a39 a40 a41 a42 a43 a44 a45 a46) else (
if x35 = 0 then (
bd (f_X9_hasMore_q14 (wd_o S [(300, o2.1), (301, x26), (307, x27), (310, x28), (314, x29), (315, x30), (316, x31), (317, x32), (1402, x33), (1403, x34), (1404, x35), (1405, x36)] [] [(4, a37), (5, a38), (6, a39), (7, a40), (8, a41), (9, a42), (10, a43), (11, a44), (12, a45), (13, a46)] [] [])) fun o48 =>
if o48.1 = 0 then (
k96_24 x26 x27 x28 x29 x30 x31 x32 o48.2 x34 x35 x36 a37 a38 a39 a40 a41 a42 a43 a44 a45 a46) else (
gd (okx o48.2 400) <|
lk (fun x50 x51 x52 x53 x54 x55 x56 x57 x58 x59 x60 a61 a62 a63 a64 a65 a66 a67 a68 a69 a70 =>
r47 (x25 + (1 : Int32)) x50 x51 x52 x53 x54 x55 x56 x57 x58 x59 x60 a61 a62 a63 a64 a65 a66 a67 a68 a69 a70) fun k90_71 =>
if ((S.2.2.1 15) o48.2.toNatClampNeg) = (59 : Int32) then (
lz (o48.2 + (1 : Int32)) fun x72 =>
bd (f_X9_readClause_q14 (wd_o S [(300, o2.1), (301, x26), (307, x27), (310, x28), (314, x29), (315, x30), (316, x31), (317, x32), (1402, x72), (1403, x34), (1404, x35), (1405, x36)] [] [(4, a37), (5, a38), (6, a39), (7, a40), (8, a41), (9, a42), (10, a43), (11, a44), (12, a45), (13, a46)] [] [])) fun o73 =>
k90_71 o73.1 o73.2.1 o73.2.2.1 o73.2.2.2.1 o73.2.2.2.2.1 o73.2.2.2.2.2.1 o73.2.2.2.2.2.2.1 o73.2.2.2.2.2.2.2.1 o73.2.2.2.2.2.2.2.2.1 o73.2.2.2.2.2.2.2.2.2.1 o73.2.2.2.2.2.2.2.2.2.2.1 o73.2.2.2.2.2.2.2.2.2.2.2.1 o73.2.2.2.2.2.2.2.2.2.2.2.2.1 o73.2.2.2.2.2.2.2.2.2.2.2.2.2.1 o73.2.2.2.2.2.2.2.2.2.2.2.2.2.2.1 o73.2.2.2.2.2.2.2.2.2.2.2.2.2.2.2.1 o73.2.2.2.2.2.2.2.2.2.2.2.2.2.2.2.2.1 o73.2.2.2.2.2.2.2.2.2.2.2.2.2.2.2.2.2.1 o73.2.2.2.2.2.2.2.2.2.2.2.2.2.2.2.2.2.2.1 o73.2.2.2.2.2.2.2.2.2.2.2.2.2.2.2.2.2.2.2.1 o73.2.2.2.2.2.2.2.2.2.2.2.2.2.2.2.2.2.2.2.2) else (
bd (f_X9_blame_q14 (wd_o S [(300, o2.1), (301, x26), (307, x27), (310, x28), (314, x29), (315, x30), (316, x31), (317, x32), (1402, o48.2), (1403, x34), (1404, x35), (1405, x36)] [] [(4, a37), (5, a38), (6, a39), (7, a40), (8, a41), (9, a42), (10, a43), (11, a44), (12, a45), (13, a46)] [] []) o48.2 (0 : Int32)) fun o74 =>
k90_71 x26 x27 x28 x29 x30 x31 x32 o48.2 x34 o74 x36 a37 a38 a39 a40 a41 a42 a43 a44 a45 a46))) else (
k96_24 x26 x27 x28 x29 x30 x31 x32 x33 x34 x35 x36 a37 a38 a39 a40 a41 a42 a43 a44 a45 a46))
def f_X9_readLand_q14 (S : wd_W) : Option o_X9_readLand_q14 :=
bd (f_X2_clear_q3 (wd_o S [(300, (S.1 300)), (301, (S.1 301)), (307, (S.1 307)), (310, (S.1 310)), (314, (S.1 314)), (315, (S.1 315)), (316, (S.1 316)), (317, (S.1 317)), (1402, (S.1 1402)), (1403, (S.1 1403)), (1404, (S.1 1404)), (1405, (S.1 1405))] [] [(4, (S.2.2.1 4)), (5, (S.2.2.1 5)), (6, (S.2.2.1 6)), (7, (S.2.2.1 7)), (8, (S.2.2.1 8)), (9, (S.2.2.1 9)), (10, (S.2.2.1 10)), (11, (S.2.2.1 11)), (12, (S.2.2.1 12)), (13, (S.2.2.1 13))] [] [])) fun o1 =>
bd (f_X9_readPlaces_q14 (wd_o S [(300, o1.1), (301, o1.2.1), (307, o1.2.2.1), (310, o1.2.2.2.1), (314, o1.2.2.2.2.1), (315, o1.2.2.2.2.2.1), (316, o1.2.2.2.2.2.2.1), (317, o1.2.2.2.2.2.2.2), (1402, (0 : Int32)), (1403, (S.1 1403)), (1404, (0 : Int32)), (1405, (0 : Int32))] [] [(4, (S.2.2.1 4)), (5, (S.2.2.1 5)), (6, (S.2.2.1 6)), (7, (S.2.2.1 7)), (8, (S.2.2.1 8)), (9, (S.2.2.1 9)), (10, (S.2.2.1 10)), (11, (S.2.2.1 11)), (12, (S.2.2.1 12)), (13, (S.2.2.1 13))] [] [])) fun o2 =>
lk (fun x3 x4 x5 x6 x7 x8 x9 x10 x11 x12 x13 a14 a15 a16 a17 a18 a19 a20 a21 a22 a23 =>
some (x12, o2.1, x3, x4, x5, x6, x7, x8, x9, x10, x11, x12, x13, a14, a15, a16, a17, a18, a19, a20, a21, a22, a23)) fun k96_24 =>
it22 (f_X9_readLand_q14_L28 S o2 k96_24) fuel (0 : Int32) o1.2.1 o1.2.2.1 o1.2.2.2.1 o1.2.2.2.2.1 o1.2.2.2.2.2.1 o1.2.2.2.2.2.2.1 o1.2.2.2.2.2.2.2 o2.2.1 o2.2.2.1 o2.2.2.2 (0 : Int32) (S.2.2.1 4) (S.2.2.1 5) (S.2.2.1 6) (S.2.2.1 7) (S.2.2.1 8) (S.2.2.1 9) (S.2.2.1 10) (S.2.2.1 11) (S.2.2.1 12) (S.2.2.1 13)
set_option maxRecDepth 100000 in
set_option maxHeartbeats 4000000 in
theorem c_X9_readLand_q14 (l : Launch) (D : va_G) (q g : Nat → Nat) (cy : Nat → ClassId) (z : (Nat → Nat) × (Nat → Nat) × Nat) (S : wd_W) (o : o_X9_readLand_q14) (hf : f_X9_readLand_q14 S = some o) : MX layX l yX9_readLand cX9_readLand 2 (some .int) ({ frames := 8, cells := 0, slots := 0, locals := 171 } : Room) D q g cy z [.ref (q 14)] S false (some (.int o.1)) (wd_o S [(300, o.2.1), (301, o.2.2.1), (307, o.2.2.2.1), (310, o.2.2.2.2.1), (314, o.2.2.2.2.2.1), (315, o.2.2.2.2.2.2.1), (316, o.2.2.2.2.2.2.2.1), (317, o.2.2.2.2.2.2.2.2.1), (1402, o.2.2.2.2.2.2.2.2.2.1), (1403, o.2.2.2.2.2.2.2.2.2.2.1), (1404, o.2.2.2.2.2.2.2.2.2.2.2.1), (1405, o.2.2.2.2.2.2.2.2.2.2.2.2.1)] [] [(4, o.2.2.2.2.2.2.2.2.2.2.2.2.2.1), (5, o.2.2.2.2.2.2.2.2.2.2.2.2.2.2.1), (6, o.2.2.2.2.2.2.2.2.2.2.2.2.2.2.2.1), (7, o.2.2.2.2.2.2.2.2.2.2.2.2.2.2.2.2.1), (8, o.2.2.2.2.2.2.2.2.2.2.2.2.2.2.2.2.2.1), (9, o.2.2.2.2.2.2.2.2.2.2.2.2.2.2.2.2.2.2.1), (10, o.2.2.2.2.2.2.2.2.2.2.2.2.2.2.2.2.2.2.2.1), (11, o.2.2.2.2.2.2.2.2.2.2.2.2.2.2.2.2.2.2.2.2.1), (12, o.2.2.2.2.2.2.2.2.2.2.2.2.2.2.2.2.2.2.2.2.2.1), (13, o.2.2.2.2.2.2.2.2.2.2.2.2.2.2.2.2.2.2.2.2.2.2)] [] []) 0 0 := by
  refine mx_of (own := RX9) (lc := [(0, .ref (q 14))]) (by decide +kernel) rfl layX_ok (Nat.le_of_ble_eq_true rfl) rfl ?_
  intro X hXl hXq hXz hC hQ
  subst hXl; subst hXq; subst hXz
  unfold f_X9_readLand_q14 at hf
  refine go_keys (L1 := [(300, (S.1 300)), (301, (S.1 301)), (307, (S.1 307)), (310, (S.1 310)), (314, (S.1 314)), (315, (S.1 315)), (316, (S.1 316)), (317, (S.1 317)), (1402, (S.1 1402)), (1403, (S.1 1403)), (1404, (S.1 1404)), (1405, (S.1 1405))]) (L2 := []) (L3 := [(4, (S.2.2.1 4)), (5, (S.2.2.1 5)), (6, (S.2.2.1 6)), (7, (S.2.2.1 7)), (8, (S.2.2.1 8)), (9, (S.2.2.1 9)), (10, (S.2.2.1 10)), (11, (S.2.2.1 11)), (12, (S.2.2.1 12)), (13, (S.2.2.1 13))]) (L4 := []) (L5 := []) [300, 301, 307, 310, 314, 315, 316, 317, 1402, 1403, 1404, 1405] [] [4, 5, 6, 7, 8, 9, 10, 11, 12, 13] [] [] rfl rfl rfl rfl rfl ?_
  refine go_aload_n (pc' := 1) hC dX9_readLand_0 rfl rfl ?_
  refine go_getq (pc' := 4) hC 14 6 layX_14 rfl rfl inlX9 (Nat.le_of_ble_eq_true rfl) mw_76 rfl dX9_readLand_1 rfl ?_
  obtain ⟨o1, ho1, hf⟩ := bd_e hf
  refine go_callV1 (pc' := 7) (As := []) (st := []) (st' := []) (L1' := [(300, o1.1), (301, o1.2.1), (307, o1.2.2.1), (310, o1.2.2.2.1), (314, o1.2.2.2.2.1), (315, o1.2.2.2.2.2.1), (316, o1.2.2.2.2.2.2.1), (317, o1.2.2.2.2.2.2.2), (1402, (S.1 1402)), (1403, (S.1 1403)), (1404, (S.1 1404)), (1405, (S.1 1405))]) (L2' := []) (L3' := [(4, (S.2.2.1 4)), (5, (S.2.2.1 5)), (6, (S.2.2.1 6)), (7, (S.2.2.1 7)), (8, (S.2.2.1 8)), (9, (S.2.2.1 9)), (10, (S.2.2.1 10)), (11, (S.2.2.1 11)), (12, (S.2.2.1 12)), (13, (S.2.2.1 13))]) (L4' := []) (L5' := []) (cells' := 0) (slots' := 0)  (b := 3) hC dX9_readLand_4 ⟨mw_305, mw_308, mw_14, yd_yX2_clear, yp_yX2_clear, Nat.le_of_ble_eq_true rfl, Nat.le_of_ble_eq_true rfl, (Nat.le_of_ble_eq_true rfl), (Nat.le_of_ble_eq_true rfl)⟩ mw_306 mw_307 layX_3 rfl rfl rfl (Nat.le_of_ble_eq_true rfl) (c_X2_clear_q3 (x_l X) (x_D X) (x_q X) g (x_cy X) (x_z X) _  o1 ho1) rfl rfl rfl rfl rfl rfl rfl rfl rfl rfl rfl rfl rfl rfl ?_
  refine go_aload_n (pc' := 8) hC dX9_readLand_7 rfl rfl ?_
  refine go_iconst (pc' := 9) hC dX9_readLand_8 ki_0 rfl ?_
  refine go_puti (L1' := [(300, o1.1), (301, o1.2.1), (307, o1.2.2.1), (310, o1.2.2.2.1), (314, o1.2.2.2.2.1), (315, o1.2.2.2.2.2.1), (316, o1.2.2.2.2.2.2.1), (317, o1.2.2.2.2.2.2.2), (1402, (0 : Int32)), (1403, (S.1 1403)), (1404, (S.1 1404)), (1405, (S.1 1405))]) (pc' := 12) hC 14 2 layX_14 rfl rfl inlX9 tyX9_ok nmX9 (Nat.le_of_ble_eq_true rfl) mw_302 rfl rfl rfl rfl dX9_readLand_9 rfl rfl rfl ?_
  refine go_aload_n (pc' := 13) hC dX9_readLand_12 rfl rfl ?_
  refine go_iconst (pc' := 14) hC dX9_readLand_13 ki_0 rfl ?_
  refine go_puti (L1' := [(300, o1.1), (301, o1.2.1), (307, o1.2.2.1), (310, o1.2.2.2.1), (314, o1.2.2.2.2.1), (315, o1.2.2.2.2.2.1), (316, o1.2.2.2.2.2.2.1), (317, o1.2.2.2.2.2.2.2), (1402, (0 : Int32)), (1403, (S.1 1403)), (1404, (0 : Int32)), (1405, (S.1 1405))]) (pc' := 17) hC 14 4 layX_14 rfl rfl inlX9 tyX9_ok nmX9 (Nat.le_of_ble_eq_true rfl) mw_303 rfl rfl rfl rfl dX9_readLand_14 rfl rfl rfl ?_
  refine go_aload_n (pc' := 18) hC dX9_readLand_17 rfl rfl ?_
  refine go_iconst (pc' := 19) hC dX9_readLand_18 ki_0 rfl ?_
  refine go_puti (L1' := [(300, o1.1), (301, o1.2.1), (307, o1.2.2.1), (310, o1.2.2.2.1), (314, o1.2.2.2.2.1), (315, o1.2.2.2.2.2.1), (316, o1.2.2.2.2.2.2.1), (317, o1.2.2.2.2.2.2.2), (1402, (0 : Int32)), (1403, (S.1 1403)), (1404, (0 : Int32)), (1405, (0 : Int32))]) (pc' := 22) hC 14 5 layX_14 rfl rfl inlX9 tyX9_ok nmX9 (Nat.le_of_ble_eq_true rfl) mw_304 rfl rfl rfl rfl dX9_readLand_19 rfl rfl rfl ?_
  refine go_aload_n (pc' := 23) hC dX9_readLand_22 rfl rfl ?_
  obtain ⟨o2, ho2, hf⟩ := bd_e hf
  refine go_callV1 (pc' := 26) (As := []) (st := []) (st' := []) (L1' := [(300, o2.1), (301, o1.2.1), (307, o1.2.2.1), (310, o1.2.2.2.1), (314, o1.2.2.2.2.1), (315, o1.2.2.2.2.2.1), (316, o1.2.2.2.2.2.2.1), (317, o1.2.2.2.2.2.2.2), (1402, o2.2.1), (1403, o2.2.2.1), (1404, o2.2.2.2), (1405, (0 : Int32))]) (L2' := []) (L3' := [(4, (S.2.2.1 4)), (5, (S.2.2.1 5)), (6, (S.2.2.1 6)), (7, (S.2.2.1 7)), (8, (S.2.2.1 8)), (9, (S.2.2.1 9)), (10, (S.2.2.1 10)), (11, (S.2.2.1 11)), (12, (S.2.2.1 12)), (13, (S.2.2.1 13))]) (L4' := []) (L5' := []) (cells' := 0) (slots' := 0)  (b := 14) hC dX9_readLand_23 ⟨mw_319, mw_322, mw_18, yd_yX9_readPlaces, yp_yX9_readPlaces, Nat.le_of_ble_eq_true rfl, Nat.le_of_ble_eq_true rfl, (Nat.le_of_ble_eq_true rfl), (Nat.le_of_ble_eq_true rfl)⟩ mw_320 mw_321 layX_14 rfl rfl rfl (Nat.le_of_ble_eq_true rfl) (c_X9_readPlaces_q14 (x_l X) (x_D X) (x_q X) g (x_cy X) (x_z X) _  o2 ho2) rfl rfl rfl rfl rfl rfl rfl rfl rfl rfl rfl rfl rfl rfl ?_
  refine go_iconst (pc' := 27) hC dX9_readLand_26 ki_0 rfl ?_
  refine go_istore_n (lc' := [(0, .ref (x_q X 14)), (1, .int (0 : Int32))]) (pc' := 28) hC dX9_readLand_27 (Nat.le_of_ble_eq_true rfl) rfl rfl ?_
  obtain ⟨k96_24, hk96_24, hf⟩ := lk_e21 hf
  have jk96_24 : ∀ (x3 : Int32) (x4 : Int32) (x5 : Int32) (x6 : Int32) (x7 : Int32) (x8 : Int32) (x9 : Int32) (x10 : Int32) (x11 : Int32) (x12 : Int32) (x13 : Int32) (a14 : Nat → Int32) (a15 : Nat → Int32) (a16 : Nat → Int32) (a17 : Nat → Int32) (a18 : Nat → Int32) (a19 : Nat → Int32) (a20 : Nat → Int32) (a21 : Nat → Int32) (a22 : Nat → Int32) (a23 : Nat → Int32), k96_24 x3 x4 x5 x6 x7 x8 x9 x10 x11 x12 x13 a14 a15 a16 a17 a18 a19 a20 a21 a22 a23 = some o → Go X layX S 96 [(0, .ref (x_q X 14))] [] g [(300, o2.1), (301, x3), (307, x4), (310, x5), (314, x6), (315, x7), (316, x8), (317, x9), (1402, x10), (1403, x11), (1404, x12), (1405, x13)] [] [(4, a14), (5, a15), (6, a16), (7, a17), (8, a18), (9, a19), (10, a20), (11, a21), (12, a22), (13, a23)] [] [] 0 0 := by
    intro x3 x4 x5 x6 x7 x8 x9 x10 x11 x12 x13 a14 a15 a16 a17 a18 a19 a20 a21 a22 a23 hf
    have hf := hk96_24 x3 x4 x5 x6 x7 x8 x9 x10 x11 x12 x13 a14 a15 a16 a17 a18 a19 a20 a21 a22 a23 hf
    clear hk96_24
    refine go_aload_n (pc' := 97) hC dX9_readLand_96 rfl rfl ?_
    refine go_geti (v := x12) (pc' := 100) hC 14 4 layX_14 rfl rfl inlX9 (Nat.le_of_ble_eq_true rfl) mw_303 rfl dX9_readLand_97 rfl rfl ?_
    obtain rfl := Option.some.inj hf
    exact go_iret hC hQ dX9_readLand_100 rfl rfl rfl rfl (fun _ => rfl) rfl rfl
  clear hk96_24
  have l28_79 : ∀ (nn : Nat) (x25 : Int32) (x26 : Int32) (x27 : Int32) (x28 : Int32) (x29 : Int32) (x30 : Int32) (x31 : Int32) (x32 : Int32) (x33 : Int32) (x34 : Int32) (x35 : Int32) (x36 : Int32) (a37 : Nat → Int32) (a38 : Nat → Int32) (a39 : Nat → Int32) (a40 : Nat → Int32) (a41 : Nat → Int32) (a42 : Nat → Int32) (a43 : Nat → Int32) (a44 : Nat → Int32) (a45 : Nat → Int32) (a46 : Nat → Int32), it22 (f_X9_readLand_q14_L28 S o2 k96_24) nn x25 x26 x27 x28 x29 x30 x31 x32 x33 x34 x35 x36 a37 a38 a39 a40 a41 a42 a43 a44 a45 a46 = some o → Go X layX S 28 [(0, .ref (x_q X 14)), (1, .int x25)] [] g [(300, o2.1), (301, x26), (307, x27), (310, x28), (314, x29), (315, x30), (316, x31), (317, x32), (1402, x33), (1403, x34), (1404, x35), (1405, x36)] [] [(4, a37), (5, a38), (6, a39), (7, a40), (8, a41), (9, a42), (10, a43), (11, a44), (12, a45), (13, a46)] [] [] 0 0 := by
    intro nn
    induction nn with
    | zero =>
      intro x25 x26 x27 x28 x29 x30 x31 x32 x33 x34 x35 x36 a37 a38 a39 a40 a41 a42 a43 a44 a45 a46 hf
      exact none_no hf
    | succ nn ih =>
      intro x25 x26 x27 x28 x29 x30 x31 x32 x33 x34 x35 x36 a37 a38 a39 a40 a41 a42 a43 a44 a45 a46 hf
      have hf : f_X9_readLand_q14_L28 S o2 k96_24 (it22 (f_X9_readLand_q14_L28 S o2 k96_24) nn) x25 x26 x27 x28 x29 x30 x31 x32 x33 x34 x35 x36 a37 a38 a39 a40 a41 a42 a43 a44 a45 a46 = some o := hf
      generalize it22 (f_X9_readLand_q14_L28 S o2 k96_24) nn = r47 at ih hf
      unfold f_X9_readLand_q14_L28 at hf
      refine go_iload_n (pc' := 29) hC dX9_readLand_28 rfl rfl ?_
      refine go_aload_n (pc' := 30) hC dX9_readLand_29 rfl rfl ?_
      refine go_geti (v := (S.1 1400)) (pc' := 33) hC 14 0 layX_14 rfl rfl inlX9 (Nat.le_of_ble_eq_true rfl) mw_272 rfl dX9_readLand_30 rfl rfl ?_
      refine go_icmp_ge (tgt := 96) (pc' := 36) hC dX9_readLand_33 (by decide) rfl (fun h78 => ?_) (fun h78 => ?_)
      · have hf := ite_t h78 hf
        refine go_sub [0] rfl ?_
        exact jk96_24 x26 x27 x28 x29 x30 x31 x32 x33 x34 x35 x36 a37 a38 a39 a40 a41 a42 a43 a44 a45 a46 hf
      · have hf := ite_f h78 hf
        refine go_aload_n (pc' := 37) hC dX9_readLand_36 rfl rfl ?_
        refine go_geti (v := x35) (pc' := 40) hC 14 4 layX_14 rfl rfl inlX9 (Nat.le_of_ble_eq_true rfl) mw_303 rfl dX9_readLand_37 rfl rfl ?_
        refine go_if_ne (tgt := 96) (pc' := 43) hC dX9_readLand_40 (by decide) rfl (fun h77 => ?_) (fun h77 => ?_)
        · have hf := ite_f h77 hf
          refine go_sub [0] rfl ?_
          exact jk96_24 x26 x27 x28 x29 x30 x31 x32 x33 x34 x35 x36 a37 a38 a39 a40 a41 a42 a43 a44 a45 a46 hf
        · have hf := ite_t h77 hf
          refine go_aload_n (pc' := 44) hC dX9_readLand_43 rfl rfl ?_
          obtain ⟨o48, ho48, hf⟩ := bd_e hf
          refine go_callV1 (pc' := 47) (As := []) (st := []) (st' := [.int o48.1]) (L1' := [(300, o2.1), (301, x26), (307, x27), (310, x28), (314, x29), (315, x30), (316, x31), (317, x32), (1402, o48.2), (1403, x34), (1404, x35), (1405, x36)]) (L2' := []) (L3' := [(4, a37), (5, a38), (6, a39), (7, a40), (8, a41), (9, a42), (10, a43), (11, a44), (12, a45), (13, a46)]) (L4' := []) (L5' := []) (cells' := 0) (slots' := 0)  (b := 14) hC dX9_readLand_44 ⟨mw_398, mw_401, mw_18, yd_yX9_hasMore, yp_yX9_hasMore, Nat.le_of_ble_eq_true rfl, Nat.le_of_ble_eq_true rfl, (Nat.le_of_ble_eq_true rfl), (Nat.le_of_ble_eq_true rfl)⟩ mw_399 mw_400 layX_14 rfl rfl rfl (Nat.le_of_ble_eq_true rfl) (c_X9_hasMore_q14 (x_l X) (x_D X) (x_q X) g (x_cy X) (x_z X) _  o48 ho48) rfl rfl rfl rfl rfl rfl rfl rfl rfl rfl rfl rfl rfl rfl ?_
          refine go_if_eq (tgt := 96) (pc' := 50) hC dX9_readLand_47 (by decide) rfl (fun h76 => ?_) (fun h76 => ?_)
          · have hf := ite_t h76 hf
            refine go_sub [0] rfl ?_
            exact jk96_24 x26 x27 x28 x29 x30 x31 x32 o48.2 x34 x35 x36 a37 a38 a39 a40 a41 a42 a43 a44 a45 a46 hf
          · have hf := ite_f h76 hf
            refine go_aload_n (pc' := 51) hC dX9_readLand_50 rfl rfl ?_
            refine go_getq (pc' := 54) hC 14 1 layX_14 rfl rfl inlX9 (Nat.le_of_ble_eq_true rfl) mw_75 rfl dX9_readLand_51 rfl ?_
            refine go_aload_n (pc' := 55) hC dX9_readLand_54 rfl rfl ?_
            refine go_geti (v := o48.2) (pc' := 58) hC 14 2 layX_14 rfl rfl inlX9 (Nat.le_of_ble_eq_true rfl) mw_302 rfl dX9_readLand_55 rfl rfl ?_
            obtain ⟨h49, hf⟩ := gd_e hf
            refine go_iald (f := (S.2.2.1 15)) (pc' := 59) hC 15 layX_15 rfl rfl dX9_readLand_58 (okx_in h49) rfl ?_
            refine go_bipush (pc' := 61) hC dX9_readLand_59 kb_59 rfl ?_
            obtain ⟨k90_71, hk90_71, hf⟩ := lk_e21 hf
            have jk90_71 : ∀ (x50 : Int32) (x51 : Int32) (x52 : Int32) (x53 : Int32) (x54 : Int32) (x55 : Int32) (x56 : Int32) (x57 : Int32) (x58 : Int32) (x59 : Int32) (x60 : Int32) (a61 : Nat → Int32) (a62 : Nat → Int32) (a63 : Nat → Int32) (a64 : Nat → Int32) (a65 : Nat → Int32) (a66 : Nat → Int32) (a67 : Nat → Int32) (a68 : Nat → Int32) (a69 : Nat → Int32) (a70 : Nat → Int32), k90_71 x50 x51 x52 x53 x54 x55 x56 x57 x58 x59 x60 a61 a62 a63 a64 a65 a66 a67 a68 a69 a70 = some o → Go X layX S 90 [(0, .ref (x_q X 14)), (1, .int x25)] [] g [(300, o2.1), (301, x50), (307, x51), (310, x52), (314, x53), (315, x54), (316, x55), (317, x56), (1402, x57), (1403, x58), (1404, x59), (1405, x60)] [] [(4, a61), (5, a62), (6, a63), (7, a64), (8, a65), (9, a66), (10, a67), (11, a68), (12, a69), (13, a70)] [] [] 0 0 := by
              intro x50 x51 x52 x53 x54 x55 x56 x57 x58 x59 x60 a61 a62 a63 a64 a65 a66 a67 a68 a69 a70 hf
              have hf := hk90_71 x50 x51 x52 x53 x54 x55 x56 x57 x58 x59 x60 a61 a62 a63 a64 a65 a66 a67 a68 a69 a70 hf
              clear hk90_71
              refine go_iinc (lc' := [(0, .ref (x_q X 14)), (1, .int (x25 + (1 : Int32)))]) (pc' := 93) hC dX9_readLand_90 rfl ki_1 (Nat.le_of_ble_eq_true rfl) rfl rfl ?_
              refine go_goto (tgt := 28) hC dX9_readLand_93 (by decide) ?_
              exact ih (x25 + (1 : Int32)) x50 x51 x52 x53 x54 x55 x56 x57 x58 x59 x60 a61 a62 a63 a64 a65 a66 a67 a68 a69 a70 hf
            clear hk90_71
            refine go_icmp_eq (tgt := 76) (pc' := 64) hC dX9_readLand_61 (by decide) rfl (fun h75 => ?_) (fun h75 => ?_)
            · have hf := ite_t h75 hf
              refine go_aload_n (pc' := 77) hC dX9_readLand_76 rfl rfl ?_
              refine go_dup (pc' := 78) hC dX9_readLand_77 rfl rfl ?_
              refine go_geti (v := o48.2) (pc' := 81) hC 14 2 layX_14 rfl rfl inlX9 (Nat.le_of_ble_eq_true rfl) mw_302 rfl dX9_readLand_78 rfl rfl ?_
              refine go_iconst (pc' := 82) hC dX9_readLand_81 ki_1 rfl ?_
              refine go_iadd (pc' := 83) hC dX9_readLand_82 rfl ?_
              refine go_namei (fun x72 hx => ?_)
              have hf := lz_r hx hf
              clear hx
              refine go_puti (L1' := [(300, o2.1), (301, x26), (307, x27), (310, x28), (314, x29), (315, x30), (316, x31), (317, x32), (1402, x72), (1403, x34), (1404, x35), (1405, x36)]) (pc' := 86) hC 14 2 layX_14 rfl rfl inlX9 tyX9_ok nmX9 (Nat.le_of_ble_eq_true rfl) mw_302 rfl rfl rfl rfl dX9_readLand_83 rfl rfl rfl ?_
              refine go_aload_n (pc' := 87) hC dX9_readLand_86 rfl rfl ?_
              obtain ⟨o73, ho73, hf⟩ := bd_e hf
              refine go_callV1 (pc' := 90) (As := []) (st := []) (st' := []) (L1' := [(300, o2.1), (301, o73.1), (307, o73.2.1), (310, o73.2.2.1), (314, o73.2.2.2.1), (315, o73.2.2.2.2.1), (316, o73.2.2.2.2.2.1), (317, o73.2.2.2.2.2.2.1), (1402, o73.2.2.2.2.2.2.2.1), (1403, o73.2.2.2.2.2.2.2.2.1), (1404, o73.2.2.2.2.2.2.2.2.2.1), (1405, o73.2.2.2.2.2.2.2.2.2.2.1)]) (L2' := []) (L3' := [(4, o73.2.2.2.2.2.2.2.2.2.2.2.1), (5, o73.2.2.2.2.2.2.2.2.2.2.2.2.1), (6, o73.2.2.2.2.2.2.2.2.2.2.2.2.2.1), (7, o73.2.2.2.2.2.2.2.2.2.2.2.2.2.2.1), (8, o73.2.2.2.2.2.2.2.2.2.2.2.2.2.2.2.1), (9, o73.2.2.2.2.2.2.2.2.2.2.2.2.2.2.2.2.1), (10, o73.2.2.2.2.2.2.2.2.2.2.2.2.2.2.2.2.2.1), (11, o73.2.2.2.2.2.2.2.2.2.2.2.2.2.2.2.2.2.2.1), (12, o73.2.2.2.2.2.2.2.2.2.2.2.2.2.2.2.2.2.2.2.1), (13, o73.2.2.2.2.2.2.2.2.2.2.2.2.2.2.2.2.2.2.2.2)]) (L4' := []) (L5' := []) (cells' := 0) (slots' := 0)  (b := 14) hC dX9_readLand_87 ⟨mw_402, mw_405, mw_18, yd_yX9_readClause, yp_yX9_readClause, Nat.le_of_ble_eq_true rfl, Nat.le_of_ble_eq_true rfl, (Nat.le_of_ble_eq_true rfl), (Nat.le_of_ble_eq_true rfl)⟩ mw_403 mw_404 layX_14 rfl rfl rfl (Nat.le_of_ble_eq_true rfl) (c_X9_readClause_q14 (x_l X) (x_D X) (x_q X) g (x_cy X) (x_z X) _  o73 ho73) rfl rfl rfl rfl rfl rfl rfl rfl rfl rfl rfl rfl rfl rfl ?_
              exact jk90_71 o73.1 o73.2.1 o73.2.2.1 o73.2.2.2.1 o73.2.2.2.2.1 o73.2.2.2.2.2.1 o73.2.2.2.2.2.2.1 o73.2.2.2.2.2.2.2.1 o73.2.2.2.2.2.2.2.2.1 o73.2.2.2.2.2.2.2.2.2.1 o73.2.2.2.2.2.2.2.2.2.2.1 o73.2.2.2.2.2.2.2.2.2.2.2.1 o73.2.2.2.2.2.2.2.2.2.2.2.2.1 o73.2.2.2.2.2.2.2.2.2.2.2.2.2.1 o73.2.2.2.2.2.2.2.2.2.2.2.2.2.2.1 o73.2.2.2.2.2.2.2.2.2.2.2.2.2.2.2.1 o73.2.2.2.2.2.2.2.2.2.2.2.2.2.2.2.2.1 o73.2.2.2.2.2.2.2.2.2.2.2.2.2.2.2.2.2.1 o73.2.2.2.2.2.2.2.2.2.2.2.2.2.2.2.2.2.2.1 o73.2.2.2.2.2.2.2.2.2.2.2.2.2.2.2.2.2.2.2.1 o73.2.2.2.2.2.2.2.2.2.2.2.2.2.2.2.2.2.2.2.2 hf
            · have hf := ite_f h75 hf
              refine go_aload_n (pc' := 65) hC dX9_readLand_64 rfl rfl ?_
              refine go_aload_n (pc' := 66) hC dX9_readLand_65 rfl rfl ?_
              refine go_geti (v := o48.2) (pc' := 69) hC 14 2 layX_14 rfl rfl inlX9 (Nat.le_of_ble_eq_true rfl) mw_302 rfl dX9_readLand_66 rfl rfl ?_
              refine go_iconst (pc' := 70) hC dX9_readLand_69 ki_0 rfl ?_
              obtain ⟨o74, ho74, hf⟩ := bd_e hf
              refine go_callV1 (pc' := 73) (As := [.int o48.2, .int (0 : Int32)]) (st := []) (st' := []) (L1' := [(300, o2.1), (301, x26), (307, x27), (310, x28), (314, x29), (315, x30), (316, x31), (317, x32), (1402, o48.2), (1403, x34), (1404, o74), (1405, x36)]) (L2' := []) (L3' := [(4, a37), (5, a38), (6, a39), (7, a40), (8, a41), (9, a42), (10, a43), (11, a44), (12, a45), (13, a46)]) (L4' := []) (L5' := []) (cells' := 0) (slots' := 0)  (b := 14) hC dX9_readLand_70 ⟨mw_386, mw_389, mw_18, yd_yX9_blame, yp_yX9_blame, Nat.le_of_ble_eq_true rfl, Nat.le_of_ble_eq_true rfl, (Nat.le_of_ble_eq_true rfl), (Nat.le_of_ble_eq_true rfl)⟩ mw_387 mw_388 layX_14 rfl rfl rfl (Nat.le_of_ble_eq_true rfl) (c_X9_blame_q14 (x_l X) (x_D X) (x_q X) g (x_cy X) (x_z X) _ o48.2 (0 : Int32) o74 ho74) rfl rfl rfl rfl rfl rfl rfl rfl rfl rfl rfl rfl rfl rfl ?_
              refine go_goto (tgt := 90) hC dX9_readLand_73 (by decide) ?_
              exact jk90_71 x26 x27 x28 x29 x30 x31 x32 o48.2 x34 o74 x36 a37 a38 a39 a40 a41 a42 a43 a44 a45 a46 hf
  exact l28_79 fuel (0 : Int32) o1.2.1 o1.2.2.1 o1.2.2.2.1 o1.2.2.2.2.1 o1.2.2.2.2.2.1 o1.2.2.2.2.2.2.1 o1.2.2.2.2.2.2.2 o2.2.1 o2.2.2.1 o2.2.2.2 (0 : Int32) (S.2.2.1 4) (S.2.2.1 5) (S.2.2.1 6) (S.2.2.1 7) (S.2.2.1 8) (S.2.2.1 9) (S.2.2.1 10) (S.2.2.1 11) (S.2.2.1 12) (S.2.2.1 13) hf
abbrev o_X2_countBy_q16 : Type := Int32 × Int32 × Int32 × Int32
def f_X2_countBy_q16 (S : wd_W) (p1 : Int32) (p2 : Int32) (p3 : Int32) (p4 : Int32) : Option o_X2_countBy_q16 :=
some (p1, p2, p3, p4)
set_option maxRecDepth 100000 in
set_option maxHeartbeats 4000000 in
theorem c_X2_countBy_q16 (l : Launch) (D : va_G) (q g : Nat → Nat) (cy : Nat → ClassId) (z : (Nat → Nat) × (Nat → Nat) × Nat) (S : wd_W) (p1 : Int32) (p2 : Int32) (p3 : Int32) (p4 : Int32) (o : o_X2_countBy_q16) (hf : f_X2_countBy_q16 S p1 p2 p3 p4 = some o) : MX layX l yX2_countBy cX2_countBy 5 none ({ frames := 0, cells := 0, slots := 0, locals := 0 } : Room) D q g cy z [.ref (q 16), .int p1, .int p2, .int p3, .int p4] S false (none) (wd_o S [(1614, o.1), (1615, o.2.1), (1616, o.2.2.1), (1617, o.2.2.2)] [] [] [] []) 0 0 := by
  refine mx_of (own := RX2) (lc := [(0, .ref (q 16)), (1, .int p1), (2, .int p2), (3, .int p3), (4, .int p4)]) (by decide +kernel) rfl layX_ok (Nat.le_of_ble_eq_true rfl) rfl ?_
  intro X hXl hXq hXz hC hQ
  subst hXl; subst hXq; subst hXz
  unfold f_X2_countBy_q16 at hf
  refine go_keys (L1 := [(1614, (S.1 1614)), (1615, (S.1 1615)), (1616, (S.1 1616)), (1617, (S.1 1617))]) (L2 := []) (L3 := []) (L4 := []) (L5 := []) [1614, 1615, 1616, 1617] [] [] [] [] rfl rfl rfl rfl rfl ?_
  refine go_aload_n (pc' := 1) hC dX2_countBy_0 rfl rfl ?_
  refine go_iload_n (pc' := 2) hC dX2_countBy_1 rfl rfl ?_
  refine go_puti (L1' := [(1614, p1), (1615, (S.1 1615)), (1616, (S.1 1616)), (1617, (S.1 1617))]) (pc' := 5) hC 16 14 layX_16 rfl rfl inlX2 tyX2_ok nmX2 (Nat.le_of_ble_eq_true rfl) mw_70 rfl rfl rfl rfl dX2_countBy_2 rfl rfl rfl ?_
  refine go_aload_n (pc' := 6) hC dX2_countBy_5 rfl rfl ?_
  refine go_iload_n (pc' := 7) hC dX2_countBy_6 rfl rfl ?_
  refine go_puti (L1' := [(1614, p1), (1615, p2), (1616, (S.1 1616)), (1617, (S.1 1617))]) (pc' := 10) hC 16 15 layX_16 rfl rfl inlX2 tyX2_ok nmX2 (Nat.le_of_ble_eq_true rfl) mw_316 rfl rfl rfl rfl dX2_countBy_7 rfl rfl rfl ?_
  refine go_aload_n (pc' := 11) hC dX2_countBy_10 rfl rfl ?_
  refine go_iload_n (pc' := 12) hC dX2_countBy_11 rfl rfl ?_
  refine go_puti (L1' := [(1614, p1), (1615, p2), (1616, p3), (1617, (S.1 1617))]) (pc' := 15) hC 16 16 layX_16 rfl rfl inlX2 tyX2_ok nmX2 (Nat.le_of_ble_eq_true rfl) mw_317 rfl rfl rfl rfl dX2_countBy_12 rfl rfl rfl ?_
  refine go_aload_n (pc' := 16) hC dX2_countBy_15 rfl rfl ?_
  refine go_iload (pc' := 18) hC dX2_countBy_16 rfl rfl ?_
  refine go_puti (L1' := [(1614, p1), (1615, p2), (1616, p3), (1617, p4)]) (pc' := 21) hC 16 17 layX_16 rfl rfl inlX2 tyX2_ok nmX2 (Nat.le_of_ble_eq_true rfl) mw_318 rfl rfl rfl rfl dX2_countBy_18 rfl rfl rfl ?_
  obtain rfl := Option.some.inj hf
  exact go_vret hC hQ dX2_countBy_21 rfl rfl rfl (fun _ => rfl) rfl rfl
theorem dX2_copyOf_0 : decode cX2_copyOf 0 = .ok (.aload_n 0, 1) := by decide +kernel
theorem dX2_copyOf_1 : decode cX2_copyOf 1 = .ok (.aload_n 1, 1) := by decide +kernel
theorem dX2_copyOf_2 : decode cX2_copyOf 2 = .ok (.getfield 9, 3) := by decide +kernel
theorem dX2_copyOf_5 : decode cX2_copyOf 5 = .ok (.putfield 9, 3) := by decide +kernel
theorem dX2_copyOf_8 : decode cX2_copyOf 8 = .ok (.aload_n 0, 1) := by decide +kernel
theorem dX2_copyOf_9 : decode cX2_copyOf 9 = .ok (.aload_n 1, 1) := by decide +kernel
theorem dX2_copyOf_10 : decode cX2_copyOf 10 = .ok (.getfield 49, 3) := by decide +kernel
theorem dX2_copyOf_13 : decode cX2_copyOf 13 = .ok (.putfield 49, 3) := by decide +kernel
theorem dX2_copyOf_16 : decode cX2_copyOf 16 = .ok (.aload_n 0, 1) := by decide +kernel
theorem dX2_copyOf_17 : decode cX2_copyOf 17 = .ok (.aload_n 1, 1) := by decide +kernel
theorem dX2_copyOf_18 : decode cX2_copyOf 18 = .ok (.getfield 52, 3) := by decide +kernel
theorem dX2_copyOf_21 : decode cX2_copyOf 21 = .ok (.putfield 52, 3) := by decide +kernel
theorem dX2_copyOf_24 : decode cX2_copyOf 24 = .ok (.aload_n 0, 1) := by decide +kernel
theorem dX2_copyOf_25 : decode cX2_copyOf 25 = .ok (.aload_n 1, 1) := by decide +kernel
theorem dX2_copyOf_26 : decode cX2_copyOf 26 = .ok (.getfield 55, 3) := by decide +kernel
theorem dX2_copyOf_29 : decode cX2_copyOf 29 = .ok (.putfield 55, 3) := by decide +kernel
theorem dX2_copyOf_32 : decode cX2_copyOf 32 = .ok (.aload_n 0, 1) := by decide +kernel
theorem dX2_copyOf_33 : decode cX2_copyOf 33 = .ok (.aload_n 1, 1) := by decide +kernel
theorem dX2_copyOf_34 : decode cX2_copyOf 34 = .ok (.getfield 46, 3) := by decide +kernel
theorem dX2_copyOf_37 : decode cX2_copyOf 37 = .ok (.aload_n 1, 1) := by decide +kernel
theorem dX2_copyOf_38 : decode cX2_copyOf 38 = .ok (.getfield 62, 3) := by decide +kernel
theorem dX2_copyOf_41 : decode cX2_copyOf 41 = .ok (.aload_n 1, 1) := by decide +kernel
theorem dX2_copyOf_42 : decode cX2_copyOf 42 = .ok (.getfield 65, 3) := by decide +kernel
theorem dX2_copyOf_45 : decode cX2_copyOf 45 = .ok (.aload_n 1, 1) := by decide +kernel
theorem dX2_copyOf_46 : decode cX2_copyOf 46 = .ok (.getfield 68, 3) := by decide +kernel
theorem dX2_copyOf_49 : decode cX2_copyOf 49 = .ok (.invokevirtual 58, 3) := by decide +kernel
theorem dX2_copyOf_52 : decode cX2_copyOf 52 = .ok (.aload_n 1, 1) := by decide +kernel
theorem dX2_copyOf_53 : decode cX2_copyOf 53 = .ok (.getfield 15, 3) := by decide +kernel
theorem dX2_copyOf_56 : decode cX2_copyOf 56 = .ok (.aload_n 0, 1) := by decide +kernel
theorem dX2_copyOf_57 : decode cX2_copyOf 57 = .ok (.getfield 15, 3) := by decide +kernel
theorem dX2_copyOf_60 : decode cX2_copyOf 60 = .ok (.invokestatic 71, 3) := by decide +kernel
theorem dX2_copyOf_63 : decode cX2_copyOf 63 = .ok (.aload_n 1, 1) := by decide +kernel
theorem dX2_copyOf_64 : decode cX2_copyOf 64 = .ok (.getfield 19, 3) := by decide +kernel
theorem dX2_copyOf_67 : decode cX2_copyOf 67 = .ok (.aload_n 0, 1) := by decide +kernel
theorem dX2_copyOf_68 : decode cX2_copyOf 68 = .ok (.getfield 19, 3) := by decide +kernel
theorem dX2_copyOf_71 : decode cX2_copyOf 71 = .ok (.invokestatic 71, 3) := by decide +kernel
theorem dX2_copyOf_74 : decode cX2_copyOf 74 = .ok (.aload_n 1, 1) := by decide +kernel
theorem dX2_copyOf_75 : decode cX2_copyOf 75 = .ok (.getfield 22, 3) := by decide +kernel
theorem dX2_copyOf_78 : decode cX2_copyOf 78 = .ok (.aload_n 0, 1) := by decide +kernel
theorem dX2_copyOf_79 : decode cX2_copyOf 79 = .ok (.getfield 22, 3) := by decide +kernel
theorem dX2_copyOf_82 : decode cX2_copyOf 82 = .ok (.invokestatic 71, 3) := by decide +kernel
theorem dX2_copyOf_85 : decode cX2_copyOf 85 = .ok (.aload_n 1, 1) := by decide +kernel
theorem dX2_copyOf_86 : decode cX2_copyOf 86 = .ok (.getfield 25, 3) := by decide +kernel
theorem dX2_copyOf_89 : decode cX2_copyOf 89 = .ok (.aload_n 0, 1) := by decide +kernel
theorem dX2_copyOf_90 : decode cX2_copyOf 90 = .ok (.getfield 25, 3) := by decide +kernel
theorem dX2_copyOf_93 : decode cX2_copyOf 93 = .ok (.invokestatic 71, 3) := by decide +kernel
theorem dX2_copyOf_96 : decode cX2_copyOf 96 = .ok (.aload_n 1, 1) := by decide +kernel
theorem dX2_copyOf_97 : decode cX2_copyOf 97 = .ok (.getfield 28, 3) := by decide +kernel
theorem dX2_copyOf_100 : decode cX2_copyOf 100 = .ok (.aload_n 0, 1) := by decide +kernel
theorem dX2_copyOf_101 : decode cX2_copyOf 101 = .ok (.getfield 28, 3) := by decide +kernel
theorem dX2_copyOf_104 : decode cX2_copyOf 104 = .ok (.invokestatic 71, 3) := by decide +kernel
theorem dX2_copyOf_107 : decode cX2_copyOf 107 = .ok (.aload_n 1, 1) := by decide +kernel
theorem dX2_copyOf_108 : decode cX2_copyOf 108 = .ok (.getfield 31, 3) := by decide +kernel
theorem dX2_copyOf_111 : decode cX2_copyOf 111 = .ok (.aload_n 0, 1) := by decide +kernel
theorem dX2_copyOf_112 : decode cX2_copyOf 112 = .ok (.getfield 31, 3) := by decide +kernel
theorem dX2_copyOf_115 : decode cX2_copyOf 115 = .ok (.invokestatic 71, 3) := by decide +kernel
theorem dX2_copyOf_118 : decode cX2_copyOf 118 = .ok (.aload_n 1, 1) := by decide +kernel
theorem dX2_copyOf_119 : decode cX2_copyOf 119 = .ok (.getfield 34, 3) := by decide +kernel
theorem dX2_copyOf_122 : decode cX2_copyOf 122 = .ok (.aload_n 0, 1) := by decide +kernel
theorem dX2_copyOf_123 : decode cX2_copyOf 123 = .ok (.getfield 34, 3) := by decide +kernel
theorem dX2_copyOf_126 : decode cX2_copyOf 126 = .ok (.invokestatic 71, 3) := by decide +kernel
theorem dX2_copyOf_129 : decode cX2_copyOf 129 = .ok (.aload_n 1, 1) := by decide +kernel
theorem dX2_copyOf_130 : decode cX2_copyOf 130 = .ok (.getfield 37, 3) := by decide +kernel
theorem dX2_copyOf_133 : decode cX2_copyOf 133 = .ok (.aload_n 0, 1) := by decide +kernel
theorem dX2_copyOf_134 : decode cX2_copyOf 134 = .ok (.getfield 37, 3) := by decide +kernel
theorem dX2_copyOf_137 : decode cX2_copyOf 137 = .ok (.invokestatic 71, 3) := by decide +kernel
theorem dX2_copyOf_140 : decode cX2_copyOf 140 = .ok (.aload_n 1, 1) := by decide +kernel
theorem dX2_copyOf_141 : decode cX2_copyOf 141 = .ok (.getfield 40, 3) := by decide +kernel
theorem dX2_copyOf_144 : decode cX2_copyOf 144 = .ok (.aload_n 0, 1) := by decide +kernel
theorem dX2_copyOf_145 : decode cX2_copyOf 145 = .ok (.getfield 40, 3) := by decide +kernel
theorem dX2_copyOf_148 : decode cX2_copyOf 148 = .ok (.invokestatic 71, 3) := by decide +kernel
theorem dX2_copyOf_151 : decode cX2_copyOf 151 = .ok (.aload_n 1, 1) := by decide +kernel
theorem dX2_copyOf_152 : decode cX2_copyOf 152 = .ok (.getfield 43, 3) := by decide +kernel
theorem dX2_copyOf_155 : decode cX2_copyOf 155 = .ok (.aload_n 0, 1) := by decide +kernel
theorem dX2_copyOf_156 : decode cX2_copyOf 156 = .ok (.getfield 43, 3) := by decide +kernel
theorem dX2_copyOf_159 : decode cX2_copyOf 159 = .ok (.invokestatic 71, 3) := by decide +kernel
theorem dX2_copyOf_162 : decode cX2_copyOf 162 = .ok (.return_, 1) := by decide +kernel
abbrev o_X2_copyOf_q16_q3 : Type := Int32 × Int32 × Int32 × Int32 × Int32 × Int32 × Int32 × Int32 × (Nat → Int32) × (Nat → Int32) × (Nat → Int32) × (Nat → Int32) × (Nat → Int32) × (Nat → Int32) × (Nat → Int32) × (Nat → Int32) × (Nat → Int32) × (Nat → Int32)
def f_X2_copyOf_q16_q3 (S : wd_W) : Option o_X2_copyOf_q16_q3 :=
lz ((S.1 300)) fun x1 =>
lz ((S.1 301)) fun x2 =>
lz ((S.1 307)) fun x3 =>
lz ((S.1 310)) fun x4 =>
bd (f_X2_countBy_q16 (wd_o S [(1600, x1), (1601, x2), (1607, x3), (1610, x4), (1614, (S.1 1614)), (1615, (S.1 1615)), (1616, (S.1 1616)), (1617, (S.1 1617))] [] [(17, (S.2.2.1 17)), (18, (S.2.2.1 18)), (19, (S.2.2.1 19)), (20, (S.2.2.1 20)), (21, (S.2.2.1 21)), (22, (S.2.2.1 22)), (23, (S.2.2.1 23)), (24, (S.2.2.1 24)), (25, (S.2.2.1 25)), (26, (S.2.2.1 26))] [] []) (S.1 314) (S.1 315) (S.1 316) (S.1 317)) fun o5 =>
some (x1, x2, x3, x4, o5.1, o5.2.1, o5.2.2.1, o5.2.2.2, (va_cpy (S.2.2.1 4) (S.2.2.1 17) 0 0 13), (va_cpy (S.2.2.1 5) (S.2.2.1 18) 0 0 13), (va_cpy (S.2.2.1 6) (S.2.2.1 19) 0 0 13), (va_cpy (S.2.2.1 7) (S.2.2.1 20) 0 0 13), (va_cpy (S.2.2.1 8) (S.2.2.1 21) 0 0 13), (va_cpy (S.2.2.1 9) (S.2.2.1 22) 0 0 10), (va_cpy (S.2.2.1 10) (S.2.2.1 23) 0 0 10), (va_cpy (S.2.2.1 11) (S.2.2.1 24) 0 0 3), (va_cpy (S.2.2.1 12) (S.2.2.1 25) 0 0 3), (va_cpy (S.2.2.1 13) (S.2.2.1 26) 0 0 3))
set_option maxRecDepth 100000 in
set_option maxHeartbeats 4000000 in
theorem c_X2_copyOf_q16_q3 (l : Launch) (D : va_G) (q g : Nat → Nat) (cy : Nat → ClassId) (z : (Nat → Nat) × (Nat → Nat) × Nat) (S : wd_W) (o : o_X2_copyOf_q16_q3) (hf : f_X2_copyOf_q16_q3 S = some o) : MX layX l yX2_copyOf cX2_copyOf 2 none ({ frames := 2, cells := 0, slots := 0, locals := 81 } : Room) D q g cy z [.ref (q 16), .ref (q 3)] S false (none) (wd_o S [(1600, o.1), (1601, o.2.1), (1607, o.2.2.1), (1610, o.2.2.2.1), (1614, o.2.2.2.2.1), (1615, o.2.2.2.2.2.1), (1616, o.2.2.2.2.2.2.1), (1617, o.2.2.2.2.2.2.2.1)] [] [(17, o.2.2.2.2.2.2.2.2.1), (18, o.2.2.2.2.2.2.2.2.2.1), (19, o.2.2.2.2.2.2.2.2.2.2.1), (20, o.2.2.2.2.2.2.2.2.2.2.2.1), (21, o.2.2.2.2.2.2.2.2.2.2.2.2.1), (22, o.2.2.2.2.2.2.2.2.2.2.2.2.2.1), (23, o.2.2.2.2.2.2.2.2.2.2.2.2.2.2.1), (24, o.2.2.2.2.2.2.2.2.2.2.2.2.2.2.2.1), (25, o.2.2.2.2.2.2.2.2.2.2.2.2.2.2.2.2.1), (26, o.2.2.2.2.2.2.2.2.2.2.2.2.2.2.2.2.2)] [] []) 0 0 := by
  refine mx_of (own := RX2) (lc := [(0, .ref (q 16)), (1, .ref (q 3))]) (by decide +kernel) rfl layX_ok (Nat.le_of_ble_eq_true rfl) rfl ?_
  intro X hXl hXq hXz hC hQ
  subst hXl; subst hXq; subst hXz
  unfold f_X2_copyOf_q16_q3 at hf
  refine go_keys (L1 := [(1600, (S.1 1600)), (1601, (S.1 1601)), (1607, (S.1 1607)), (1610, (S.1 1610)), (1614, (S.1 1614)), (1615, (S.1 1615)), (1616, (S.1 1616)), (1617, (S.1 1617))]) (L2 := []) (L3 := [(17, (S.2.2.1 17)), (18, (S.2.2.1 18)), (19, (S.2.2.1 19)), (20, (S.2.2.1 20)), (21, (S.2.2.1 21)), (22, (S.2.2.1 22)), (23, (S.2.2.1 23)), (24, (S.2.2.1 24)), (25, (S.2.2.1 25)), (26, (S.2.2.1 26))]) (L4 := []) (L5 := []) [1600, 1601, 1607, 1610, 1614, 1615, 1616, 1617] [] [17, 18, 19, 20, 21, 22, 23, 24, 25, 26] [] [] rfl rfl rfl rfl rfl ?_
  refine go_aload_n (pc' := 1) hC dX2_copyOf_0 rfl rfl ?_
  refine go_aload_n (pc' := 2) hC dX2_copyOf_1 rfl rfl ?_
  refine go_geti (v := (S.1 300)) (pc' := 5) hC 3 0 layX_3 rfl rfl inlX2 (Nat.le_of_ble_eq_true rfl) mw_58 rfl dX2_copyOf_2 rfl rfl ?_
  refine go_namei (fun x1 hx => ?_)
  have hf := lz_r hx hf
  clear hx
  refine go_puti (L1' := [(1600, x1), (1601, (S.1 1601)), (1607, (S.1 1607)), (1610, (S.1 1610)), (1614, (S.1 1614)), (1615, (S.1 1615)), (1616, (S.1 1616)), (1617, (S.1 1617))]) (pc' := 8) hC 16 0 layX_16 rfl rfl inlX2 tyX2_ok nmX2 (Nat.le_of_ble_eq_true rfl) mw_58 rfl rfl rfl rfl dX2_copyOf_5 rfl rfl rfl ?_
  refine go_aload_n (pc' := 9) hC dX2_copyOf_8 rfl rfl ?_
  refine go_aload_n (pc' := 10) hC dX2_copyOf_9 rfl rfl ?_
  refine go_geti (v := (S.1 301)) (pc' := 13) hC 3 1 layX_3 rfl rfl inlX2 (Nat.le_of_ble_eq_true rfl) mw_309 rfl dX2_copyOf_10 rfl rfl ?_
  refine go_namei (fun x2 hx => ?_)
  have hf := lz_r hx hf
  clear hx
  refine go_puti (L1' := [(1600, x1), (1601, x2), (1607, (S.1 1607)), (1610, (S.1 1610)), (1614, (S.1 1614)), (1615, (S.1 1615)), (1616, (S.1 1616)), (1617, (S.1 1617))]) (pc' := 16) hC 16 1 layX_16 rfl rfl inlX2 tyX2_ok nmX2 (Nat.le_of_ble_eq_true rfl) mw_309 rfl rfl rfl rfl dX2_copyOf_13 rfl rfl rfl ?_
  refine go_aload_n (pc' := 17) hC dX2_copyOf_16 rfl rfl ?_
  refine go_aload_n (pc' := 18) hC dX2_copyOf_17 rfl rfl ?_
  refine go_geti (v := (S.1 307)) (pc' := 21) hC 3 7 layX_3 rfl rfl inlX2 (Nat.le_of_ble_eq_true rfl) mw_310 rfl dX2_copyOf_18 rfl rfl ?_
  refine go_namei (fun x3 hx => ?_)
  have hf := lz_r hx hf
  clear hx
  refine go_puti (L1' := [(1600, x1), (1601, x2), (1607, x3), (1610, (S.1 1610)), (1614, (S.1 1614)), (1615, (S.1 1615)), (1616, (S.1 1616)), (1617, (S.1 1617))]) (pc' := 24) hC 16 7 layX_16 rfl rfl inlX2 tyX2_ok nmX2 (Nat.le_of_ble_eq_true rfl) mw_310 rfl rfl rfl rfl dX2_copyOf_21 rfl rfl rfl ?_
  refine go_aload_n (pc' := 25) hC dX2_copyOf_24 rfl rfl ?_
  refine go_aload_n (pc' := 26) hC dX2_copyOf_25 rfl rfl ?_
  refine go_geti (v := (S.1 310)) (pc' := 29) hC 3 10 layX_3 rfl rfl inlX2 (Nat.le_of_ble_eq_true rfl) mw_311 rfl dX2_copyOf_26 rfl rfl ?_
  refine go_namei (fun x4 hx => ?_)
  have hf := lz_r hx hf
  clear hx
  refine go_puti (L1' := [(1600, x1), (1601, x2), (1607, x3), (1610, x4), (1614, (S.1 1614)), (1615, (S.1 1615)), (1616, (S.1 1616)), (1617, (S.1 1617))]) (pc' := 32) hC 16 10 layX_16 rfl rfl inlX2 tyX2_ok nmX2 (Nat.le_of_ble_eq_true rfl) mw_311 rfl rfl rfl rfl dX2_copyOf_29 rfl rfl rfl ?_
  refine go_aload_n (pc' := 33) hC dX2_copyOf_32 rfl rfl ?_
  refine go_aload_n (pc' := 34) hC dX2_copyOf_33 rfl rfl ?_
  refine go_geti (v := (S.1 314)) (pc' := 37) hC 3 14 layX_3 rfl rfl inlX2 (Nat.le_of_ble_eq_true rfl) mw_70 rfl dX2_copyOf_34 rfl rfl ?_
  refine go_aload_n (pc' := 38) hC dX2_copyOf_37 rfl rfl ?_
  refine go_geti (v := (S.1 315)) (pc' := 41) hC 3 15 layX_3 rfl rfl inlX2 (Nat.le_of_ble_eq_true rfl) mw_316 rfl dX2_copyOf_38 rfl rfl ?_
  refine go_aload_n (pc' := 42) hC dX2_copyOf_41 rfl rfl ?_
  refine go_geti (v := (S.1 316)) (pc' := 45) hC 3 16 layX_3 rfl rfl inlX2 (Nat.le_of_ble_eq_true rfl) mw_317 rfl dX2_copyOf_42 rfl rfl ?_
  refine go_aload_n (pc' := 46) hC dX2_copyOf_45 rfl rfl ?_
  refine go_geti (v := (S.1 317)) (pc' := 49) hC 3 17 layX_3 rfl rfl inlX2 (Nat.le_of_ble_eq_true rfl) mw_318 rfl dX2_copyOf_46 rfl rfl ?_
  obtain ⟨o5, ho5, hf⟩ := bd_e hf
  refine go_callV1 (pc' := 52) (As := [.int (S.1 314), .int (S.1 315), .int (S.1 316), .int (S.1 317)]) (st := []) (st' := []) (L1' := [(1600, x1), (1601, x2), (1607, x3), (1610, x4), (1614, o5.1), (1615, o5.2.1), (1616, o5.2.2.1), (1617, o5.2.2.2)]) (L2' := []) (L3' := [(17, (S.2.2.1 17)), (18, (S.2.2.1 18)), (19, (S.2.2.1 19)), (20, (S.2.2.1 20)), (21, (S.2.2.1 21)), (22, (S.2.2.1 22)), (23, (S.2.2.1 23)), (24, (S.2.2.1 24)), (25, (S.2.2.1 25)), (26, (S.2.2.1 26))]) (L4' := []) (L5' := []) (cells' := 0) (slots' := 0)  (b := 16) hC dX2_copyOf_49 ⟨mw_312, mw_315, mw_14, yd_yX2_countBy, yp_yX2_countBy, Nat.le_of_ble_eq_true rfl, Nat.le_of_ble_eq_true rfl, (Nat.le_of_ble_eq_true rfl), (Nat.le_of_ble_eq_true rfl)⟩ mw_313 mw_314 layX_16 rfl rfl rfl (Nat.le_of_ble_eq_true rfl) (c_X2_countBy_q16 (x_l X) (x_D X) (x_q X) g (x_cy X) (x_z X) _ (S.1 314) (S.1 315) (S.1 316) (S.1 317) o5 ho5) rfl rfl rfl rfl rfl rfl rfl rfl rfl rfl rfl rfl rfl rfl ?_
  refine go_aload_n (pc' := 53) hC dX2_copyOf_52 rfl rfl ?_
  refine go_getq (pc' := 56) hC 3 2 layX_3 rfl rfl inlX2 (Nat.le_of_ble_eq_true rfl) mw_60 rfl dX2_copyOf_53 rfl ?_
  refine go_aload_n (pc' := 57) hC dX2_copyOf_56 rfl rfl ?_
  refine go_getq (pc' := 60) hC 16 2 layX_16 rfl rfl inlX2 (Nat.le_of_ble_eq_true rfl) mw_60 rfl dX2_copyOf_57 rfl ?_
  refine go_callS1 (pc' := 63) (As := [.ref (x_q X 4), .ref (x_q X 17)]) (st := []) (st' := []) (L1' := [(1600, x1), (1601, x2), (1607, x3), (1610, x4), (1614, o5.1), (1615, o5.2.1), (1616, o5.2.2.1), (1617, o5.2.2.2)]) (L2' := []) (L3' := [(17, (va_cpy (S.2.2.1 4) (S.2.2.1 17) 0 0 13)), (18, (S.2.2.1 18)), (19, (S.2.2.1 19)), (20, (S.2.2.1 20)), (21, (S.2.2.1 21)), (22, (S.2.2.1 22)), (23, (S.2.2.1 23)), (24, (S.2.2.1 24)), (25, (S.2.2.1 25)), (26, (S.2.2.1 26))]) (L4' := []) (L5' := []) (cells' := 0) (slots' := 0) hC dX2_copyOf_60 ⟨mw_465, mw_467, mw_14, yd_yX2_copyRow, yp_yX2_copyRow, Nat.le_of_ble_eq_true rfl, Nat.le_of_ble_eq_true rfl, Nat.le_of_ble_eq_true rfl, Nat.le_of_ble_eq_true rfl⟩ mw_466 rfl rfl (Nat.le_of_ble_eq_true rfl) (c_copyRow (x_l X) (x_D X) (x_q X) g (x_cy X) (x_z X) _ layX layX_ok 4 17 13 layX_4 layX_17 (by decide)) rfl rfl rfl rfl rfl rfl rfl rfl rfl rfl rfl rfl rfl rfl ?_
  refine go_aload_n (pc' := 64) hC dX2_copyOf_63 rfl rfl ?_
  refine go_getq (pc' := 67) hC 3 3 layX_3 rfl rfl inlX2 (Nat.le_of_ble_eq_true rfl) mw_61 rfl dX2_copyOf_64 rfl ?_
  refine go_aload_n (pc' := 68) hC dX2_copyOf_67 rfl rfl ?_
  refine go_getq (pc' := 71) hC 16 3 layX_16 rfl rfl inlX2 (Nat.le_of_ble_eq_true rfl) mw_61 rfl dX2_copyOf_68 rfl ?_
  refine go_callS1 (pc' := 74) (As := [.ref (x_q X 5), .ref (x_q X 18)]) (st := []) (st' := []) (L1' := [(1600, x1), (1601, x2), (1607, x3), (1610, x4), (1614, o5.1), (1615, o5.2.1), (1616, o5.2.2.1), (1617, o5.2.2.2)]) (L2' := []) (L3' := [(17, (va_cpy (S.2.2.1 4) (S.2.2.1 17) 0 0 13)), (18, (va_cpy (S.2.2.1 5) (S.2.2.1 18) 0 0 13)), (19, (S.2.2.1 19)), (20, (S.2.2.1 20)), (21, (S.2.2.1 21)), (22, (S.2.2.1 22)), (23, (S.2.2.1 23)), (24, (S.2.2.1 24)), (25, (S.2.2.1 25)), (26, (S.2.2.1 26))]) (L4' := []) (L5' := []) (cells' := 0) (slots' := 0) hC dX2_copyOf_71 ⟨mw_465, mw_467, mw_14, yd_yX2_copyRow, yp_yX2_copyRow, Nat.le_of_ble_eq_true rfl, Nat.le_of_ble_eq_true rfl, Nat.le_of_ble_eq_true rfl, Nat.le_of_ble_eq_true rfl⟩ mw_466 rfl rfl (Nat.le_of_ble_eq_true rfl) (c_copyRow (x_l X) (x_D X) (x_q X) g (x_cy X) (x_z X) _ layX layX_ok 5 18 13 layX_5 layX_18 (by decide)) rfl rfl rfl rfl rfl rfl rfl rfl rfl rfl rfl rfl rfl rfl ?_
  refine go_aload_n (pc' := 75) hC dX2_copyOf_74 rfl rfl ?_
  refine go_getq (pc' := 78) hC 3 4 layX_3 rfl rfl inlX2 (Nat.le_of_ble_eq_true rfl) mw_62 rfl dX2_copyOf_75 rfl ?_
  refine go_aload_n (pc' := 79) hC dX2_copyOf_78 rfl rfl ?_
  refine go_getq (pc' := 82) hC 16 4 layX_16 rfl rfl inlX2 (Nat.le_of_ble_eq_true rfl) mw_62 rfl dX2_copyOf_79 rfl ?_
  refine go_callS1 (pc' := 85) (As := [.ref (x_q X 6), .ref (x_q X 19)]) (st := []) (st' := []) (L1' := [(1600, x1), (1601, x2), (1607, x3), (1610, x4), (1614, o5.1), (1615, o5.2.1), (1616, o5.2.2.1), (1617, o5.2.2.2)]) (L2' := []) (L3' := [(17, (va_cpy (S.2.2.1 4) (S.2.2.1 17) 0 0 13)), (18, (va_cpy (S.2.2.1 5) (S.2.2.1 18) 0 0 13)), (19, (va_cpy (S.2.2.1 6) (S.2.2.1 19) 0 0 13)), (20, (S.2.2.1 20)), (21, (S.2.2.1 21)), (22, (S.2.2.1 22)), (23, (S.2.2.1 23)), (24, (S.2.2.1 24)), (25, (S.2.2.1 25)), (26, (S.2.2.1 26))]) (L4' := []) (L5' := []) (cells' := 0) (slots' := 0) hC dX2_copyOf_82 ⟨mw_465, mw_467, mw_14, yd_yX2_copyRow, yp_yX2_copyRow, Nat.le_of_ble_eq_true rfl, Nat.le_of_ble_eq_true rfl, Nat.le_of_ble_eq_true rfl, Nat.le_of_ble_eq_true rfl⟩ mw_466 rfl rfl (Nat.le_of_ble_eq_true rfl) (c_copyRow (x_l X) (x_D X) (x_q X) g (x_cy X) (x_z X) _ layX layX_ok 6 19 13 layX_6 layX_19 (by decide)) rfl rfl rfl rfl rfl rfl rfl rfl rfl rfl rfl rfl rfl rfl ?_
  refine go_aload_n (pc' := 86) hC dX2_copyOf_85 rfl rfl ?_
  refine go_getq (pc' := 89) hC 3 5 layX_3 rfl rfl inlX2 (Nat.le_of_ble_eq_true rfl) mw_63 rfl dX2_copyOf_86 rfl ?_
  refine go_aload_n (pc' := 90) hC dX2_copyOf_89 rfl rfl ?_
  refine go_getq (pc' := 93) hC 16 5 layX_16 rfl rfl inlX2 (Nat.le_of_ble_eq_true rfl) mw_63 rfl dX2_copyOf_90 rfl ?_
  refine go_callS1 (pc' := 96) (As := [.ref (x_q X 7), .ref (x_q X 20)]) (st := []) (st' := []) (L1' := [(1600, x1), (1601, x2), (1607, x3), (1610, x4), (1614, o5.1), (1615, o5.2.1), (1616, o5.2.2.1), (1617, o5.2.2.2)]) (L2' := []) (L3' := [(17, (va_cpy (S.2.2.1 4) (S.2.2.1 17) 0 0 13)), (18, (va_cpy (S.2.2.1 5) (S.2.2.1 18) 0 0 13)), (19, (va_cpy (S.2.2.1 6) (S.2.2.1 19) 0 0 13)), (20, (va_cpy (S.2.2.1 7) (S.2.2.1 20) 0 0 13)), (21, (S.2.2.1 21)), (22, (S.2.2.1 22)), (23, (S.2.2.1 23)), (24, (S.2.2.1 24)), (25, (S.2.2.1 25)), (26, (S.2.2.1 26))]) (L4' := []) (L5' := []) (cells' := 0) (slots' := 0) hC dX2_copyOf_93 ⟨mw_465, mw_467, mw_14, yd_yX2_copyRow, yp_yX2_copyRow, Nat.le_of_ble_eq_true rfl, Nat.le_of_ble_eq_true rfl, Nat.le_of_ble_eq_true rfl, Nat.le_of_ble_eq_true rfl⟩ mw_466 rfl rfl (Nat.le_of_ble_eq_true rfl) (c_copyRow (x_l X) (x_D X) (x_q X) g (x_cy X) (x_z X) _ layX layX_ok 7 20 13 layX_7 layX_20 (by decide)) rfl rfl rfl rfl rfl rfl rfl rfl rfl rfl rfl rfl rfl rfl ?_
  refine go_aload_n (pc' := 97) hC dX2_copyOf_96 rfl rfl ?_
  refine go_getq (pc' := 100) hC 3 6 layX_3 rfl rfl inlX2 (Nat.le_of_ble_eq_true rfl) mw_64 rfl dX2_copyOf_97 rfl ?_
  refine go_aload_n (pc' := 101) hC dX2_copyOf_100 rfl rfl ?_
  refine go_getq (pc' := 104) hC 16 6 layX_16 rfl rfl inlX2 (Nat.le_of_ble_eq_true rfl) mw_64 rfl dX2_copyOf_101 rfl ?_
  refine go_callS1 (pc' := 107) (As := [.ref (x_q X 8), .ref (x_q X 21)]) (st := []) (st' := []) (L1' := [(1600, x1), (1601, x2), (1607, x3), (1610, x4), (1614, o5.1), (1615, o5.2.1), (1616, o5.2.2.1), (1617, o5.2.2.2)]) (L2' := []) (L3' := [(17, (va_cpy (S.2.2.1 4) (S.2.2.1 17) 0 0 13)), (18, (va_cpy (S.2.2.1 5) (S.2.2.1 18) 0 0 13)), (19, (va_cpy (S.2.2.1 6) (S.2.2.1 19) 0 0 13)), (20, (va_cpy (S.2.2.1 7) (S.2.2.1 20) 0 0 13)), (21, (va_cpy (S.2.2.1 8) (S.2.2.1 21) 0 0 13)), (22, (S.2.2.1 22)), (23, (S.2.2.1 23)), (24, (S.2.2.1 24)), (25, (S.2.2.1 25)), (26, (S.2.2.1 26))]) (L4' := []) (L5' := []) (cells' := 0) (slots' := 0) hC dX2_copyOf_104 ⟨mw_465, mw_467, mw_14, yd_yX2_copyRow, yp_yX2_copyRow, Nat.le_of_ble_eq_true rfl, Nat.le_of_ble_eq_true rfl, Nat.le_of_ble_eq_true rfl, Nat.le_of_ble_eq_true rfl⟩ mw_466 rfl rfl (Nat.le_of_ble_eq_true rfl) (c_copyRow (x_l X) (x_D X) (x_q X) g (x_cy X) (x_z X) _ layX layX_ok 8 21 13 layX_8 layX_21 (by decide)) rfl rfl rfl rfl rfl rfl rfl rfl rfl rfl rfl rfl rfl rfl ?_
  refine go_aload_n (pc' := 108) hC dX2_copyOf_107 rfl rfl ?_
  refine go_getq (pc' := 111) hC 3 8 layX_3 rfl rfl inlX2 (Nat.le_of_ble_eq_true rfl) mw_65 rfl dX2_copyOf_108 rfl ?_
  refine go_aload_n (pc' := 112) hC dX2_copyOf_111 rfl rfl ?_
  refine go_getq (pc' := 115) hC 16 8 layX_16 rfl rfl inlX2 (Nat.le_of_ble_eq_true rfl) mw_65 rfl dX2_copyOf_112 rfl ?_
  refine go_callS1 (pc' := 118) (As := [.ref (x_q X 9), .ref (x_q X 22)]) (st := []) (st' := []) (L1' := [(1600, x1), (1601, x2), (1607, x3), (1610, x4), (1614, o5.1), (1615, o5.2.1), (1616, o5.2.2.1), (1617, o5.2.2.2)]) (L2' := []) (L3' := [(17, (va_cpy (S.2.2.1 4) (S.2.2.1 17) 0 0 13)), (18, (va_cpy (S.2.2.1 5) (S.2.2.1 18) 0 0 13)), (19, (va_cpy (S.2.2.1 6) (S.2.2.1 19) 0 0 13)), (20, (va_cpy (S.2.2.1 7) (S.2.2.1 20) 0 0 13)), (21, (va_cpy (S.2.2.1 8) (S.2.2.1 21) 0 0 13)), (22, (va_cpy (S.2.2.1 9) (S.2.2.1 22) 0 0 10)), (23, (S.2.2.1 23)), (24, (S.2.2.1 24)), (25, (S.2.2.1 25)), (26, (S.2.2.1 26))]) (L4' := []) (L5' := []) (cells' := 0) (slots' := 0) hC dX2_copyOf_115 ⟨mw_465, mw_467, mw_14, yd_yX2_copyRow, yp_yX2_copyRow, Nat.le_of_ble_eq_true rfl, Nat.le_of_ble_eq_true rfl, Nat.le_of_ble_eq_true rfl, Nat.le_of_ble_eq_true rfl⟩ mw_466 rfl rfl (Nat.le_of_ble_eq_true rfl) (c_copyRow (x_l X) (x_D X) (x_q X) g (x_cy X) (x_z X) _ layX layX_ok 9 22 10 layX_9 layX_22 (by decide)) rfl rfl rfl rfl rfl rfl rfl rfl rfl rfl rfl rfl rfl rfl ?_
  refine go_aload_n (pc' := 119) hC dX2_copyOf_118 rfl rfl ?_
  refine go_getq (pc' := 122) hC 3 9 layX_3 rfl rfl inlX2 (Nat.le_of_ble_eq_true rfl) mw_66 rfl dX2_copyOf_119 rfl ?_
  refine go_aload_n (pc' := 123) hC dX2_copyOf_122 rfl rfl ?_
  refine go_getq (pc' := 126) hC 16 9 layX_16 rfl rfl inlX2 (Nat.le_of_ble_eq_true rfl) mw_66 rfl dX2_copyOf_123 rfl ?_
  refine go_callS1 (pc' := 129) (As := [.ref (x_q X 10), .ref (x_q X 23)]) (st := []) (st' := []) (L1' := [(1600, x1), (1601, x2), (1607, x3), (1610, x4), (1614, o5.1), (1615, o5.2.1), (1616, o5.2.2.1), (1617, o5.2.2.2)]) (L2' := []) (L3' := [(17, (va_cpy (S.2.2.1 4) (S.2.2.1 17) 0 0 13)), (18, (va_cpy (S.2.2.1 5) (S.2.2.1 18) 0 0 13)), (19, (va_cpy (S.2.2.1 6) (S.2.2.1 19) 0 0 13)), (20, (va_cpy (S.2.2.1 7) (S.2.2.1 20) 0 0 13)), (21, (va_cpy (S.2.2.1 8) (S.2.2.1 21) 0 0 13)), (22, (va_cpy (S.2.2.1 9) (S.2.2.1 22) 0 0 10)), (23, (va_cpy (S.2.2.1 10) (S.2.2.1 23) 0 0 10)), (24, (S.2.2.1 24)), (25, (S.2.2.1 25)), (26, (S.2.2.1 26))]) (L4' := []) (L5' := []) (cells' := 0) (slots' := 0) hC dX2_copyOf_126 ⟨mw_465, mw_467, mw_14, yd_yX2_copyRow, yp_yX2_copyRow, Nat.le_of_ble_eq_true rfl, Nat.le_of_ble_eq_true rfl, Nat.le_of_ble_eq_true rfl, Nat.le_of_ble_eq_true rfl⟩ mw_466 rfl rfl (Nat.le_of_ble_eq_true rfl) (c_copyRow (x_l X) (x_D X) (x_q X) g (x_cy X) (x_z X) _ layX layX_ok 10 23 10 layX_10 layX_23 (by decide)) rfl rfl rfl rfl rfl rfl rfl rfl rfl rfl rfl rfl rfl rfl ?_
  refine go_aload_n (pc' := 130) hC dX2_copyOf_129 rfl rfl ?_
  refine go_getq (pc' := 133) hC 3 11 layX_3 rfl rfl inlX2 (Nat.le_of_ble_eq_true rfl) mw_67 rfl dX2_copyOf_130 rfl ?_
  refine go_aload_n (pc' := 134) hC dX2_copyOf_133 rfl rfl ?_
  refine go_getq (pc' := 137) hC 16 11 layX_16 rfl rfl inlX2 (Nat.le_of_ble_eq_true rfl) mw_67 rfl dX2_copyOf_134 rfl ?_
  refine go_callS1 (pc' := 140) (As := [.ref (x_q X 11), .ref (x_q X 24)]) (st := []) (st' := []) (L1' := [(1600, x1), (1601, x2), (1607, x3), (1610, x4), (1614, o5.1), (1615, o5.2.1), (1616, o5.2.2.1), (1617, o5.2.2.2)]) (L2' := []) (L3' := [(17, (va_cpy (S.2.2.1 4) (S.2.2.1 17) 0 0 13)), (18, (va_cpy (S.2.2.1 5) (S.2.2.1 18) 0 0 13)), (19, (va_cpy (S.2.2.1 6) (S.2.2.1 19) 0 0 13)), (20, (va_cpy (S.2.2.1 7) (S.2.2.1 20) 0 0 13)), (21, (va_cpy (S.2.2.1 8) (S.2.2.1 21) 0 0 13)), (22, (va_cpy (S.2.2.1 9) (S.2.2.1 22) 0 0 10)), (23, (va_cpy (S.2.2.1 10) (S.2.2.1 23) 0 0 10)), (24, (va_cpy (S.2.2.1 11) (S.2.2.1 24) 0 0 3)), (25, (S.2.2.1 25)), (26, (S.2.2.1 26))]) (L4' := []) (L5' := []) (cells' := 0) (slots' := 0) hC dX2_copyOf_137 ⟨mw_465, mw_467, mw_14, yd_yX2_copyRow, yp_yX2_copyRow, Nat.le_of_ble_eq_true rfl, Nat.le_of_ble_eq_true rfl, Nat.le_of_ble_eq_true rfl, Nat.le_of_ble_eq_true rfl⟩ mw_466 rfl rfl (Nat.le_of_ble_eq_true rfl) (c_copyRow (x_l X) (x_D X) (x_q X) g (x_cy X) (x_z X) _ layX layX_ok 11 24 3 layX_11 layX_24 (by decide)) rfl rfl rfl rfl rfl rfl rfl rfl rfl rfl rfl rfl rfl rfl ?_
  refine go_aload_n (pc' := 141) hC dX2_copyOf_140 rfl rfl ?_
  refine go_getq (pc' := 144) hC 3 12 layX_3 rfl rfl inlX2 (Nat.le_of_ble_eq_true rfl) mw_68 rfl dX2_copyOf_141 rfl ?_
  refine go_aload_n (pc' := 145) hC dX2_copyOf_144 rfl rfl ?_
  refine go_getq (pc' := 148) hC 16 12 layX_16 rfl rfl inlX2 (Nat.le_of_ble_eq_true rfl) mw_68 rfl dX2_copyOf_145 rfl ?_
  refine go_callS1 (pc' := 151) (As := [.ref (x_q X 12), .ref (x_q X 25)]) (st := []) (st' := []) (L1' := [(1600, x1), (1601, x2), (1607, x3), (1610, x4), (1614, o5.1), (1615, o5.2.1), (1616, o5.2.2.1), (1617, o5.2.2.2)]) (L2' := []) (L3' := [(17, (va_cpy (S.2.2.1 4) (S.2.2.1 17) 0 0 13)), (18, (va_cpy (S.2.2.1 5) (S.2.2.1 18) 0 0 13)), (19, (va_cpy (S.2.2.1 6) (S.2.2.1 19) 0 0 13)), (20, (va_cpy (S.2.2.1 7) (S.2.2.1 20) 0 0 13)), (21, (va_cpy (S.2.2.1 8) (S.2.2.1 21) 0 0 13)), (22, (va_cpy (S.2.2.1 9) (S.2.2.1 22) 0 0 10)), (23, (va_cpy (S.2.2.1 10) (S.2.2.1 23) 0 0 10)), (24, (va_cpy (S.2.2.1 11) (S.2.2.1 24) 0 0 3)), (25, (va_cpy (S.2.2.1 12) (S.2.2.1 25) 0 0 3)), (26, (S.2.2.1 26))]) (L4' := []) (L5' := []) (cells' := 0) (slots' := 0) hC dX2_copyOf_148 ⟨mw_465, mw_467, mw_14, yd_yX2_copyRow, yp_yX2_copyRow, Nat.le_of_ble_eq_true rfl, Nat.le_of_ble_eq_true rfl, Nat.le_of_ble_eq_true rfl, Nat.le_of_ble_eq_true rfl⟩ mw_466 rfl rfl (Nat.le_of_ble_eq_true rfl) (c_copyRow (x_l X) (x_D X) (x_q X) g (x_cy X) (x_z X) _ layX layX_ok 12 25 3 layX_12 layX_25 (by decide)) rfl rfl rfl rfl rfl rfl rfl rfl rfl rfl rfl rfl rfl rfl ?_
  refine go_aload_n (pc' := 152) hC dX2_copyOf_151 rfl rfl ?_
  refine go_getq (pc' := 155) hC 3 13 layX_3 rfl rfl inlX2 (Nat.le_of_ble_eq_true rfl) mw_69 rfl dX2_copyOf_152 rfl ?_
  refine go_aload_n (pc' := 156) hC dX2_copyOf_155 rfl rfl ?_
  refine go_getq (pc' := 159) hC 16 13 layX_16 rfl rfl inlX2 (Nat.le_of_ble_eq_true rfl) mw_69 rfl dX2_copyOf_156 rfl ?_
  refine go_callS1 (pc' := 162) (As := [.ref (x_q X 13), .ref (x_q X 26)]) (st := []) (st' := []) (L1' := [(1600, x1), (1601, x2), (1607, x3), (1610, x4), (1614, o5.1), (1615, o5.2.1), (1616, o5.2.2.1), (1617, o5.2.2.2)]) (L2' := []) (L3' := [(17, (va_cpy (S.2.2.1 4) (S.2.2.1 17) 0 0 13)), (18, (va_cpy (S.2.2.1 5) (S.2.2.1 18) 0 0 13)), (19, (va_cpy (S.2.2.1 6) (S.2.2.1 19) 0 0 13)), (20, (va_cpy (S.2.2.1 7) (S.2.2.1 20) 0 0 13)), (21, (va_cpy (S.2.2.1 8) (S.2.2.1 21) 0 0 13)), (22, (va_cpy (S.2.2.1 9) (S.2.2.1 22) 0 0 10)), (23, (va_cpy (S.2.2.1 10) (S.2.2.1 23) 0 0 10)), (24, (va_cpy (S.2.2.1 11) (S.2.2.1 24) 0 0 3)), (25, (va_cpy (S.2.2.1 12) (S.2.2.1 25) 0 0 3)), (26, (va_cpy (S.2.2.1 13) (S.2.2.1 26) 0 0 3))]) (L4' := []) (L5' := []) (cells' := 0) (slots' := 0) hC dX2_copyOf_159 ⟨mw_465, mw_467, mw_14, yd_yX2_copyRow, yp_yX2_copyRow, Nat.le_of_ble_eq_true rfl, Nat.le_of_ble_eq_true rfl, Nat.le_of_ble_eq_true rfl, Nat.le_of_ble_eq_true rfl⟩ mw_466 rfl rfl (Nat.le_of_ble_eq_true rfl) (c_copyRow (x_l X) (x_D X) (x_q X) g (x_cy X) (x_z X) _ layX layX_ok 13 26 3 layX_13 layX_26 (by decide)) rfl rfl rfl rfl rfl rfl rfl rfl rfl rfl rfl rfl rfl rfl ?_
  obtain rfl := Option.some.inj hf
  exact go_vret hC hQ dX2_copyOf_162 rfl rfl rfl (fun _ => rfl) rfl rfl
theorem dX6_clear_0 : decode cX6_clear 0 = .ok (.aload_n 0, 1) := by decide +kernel
theorem dX6_clear_1 : decode cX6_clear 1 = .ok (.iconst 0, 1) := by decide +kernel
theorem dX6_clear_2 : decode cX6_clear 2 = .ok (.putfield 30, 3) := by decide +kernel
theorem dX6_clear_5 : decode cX6_clear 5 = .ok (.aload_n 0, 1) := by decide +kernel
theorem dX6_clear_6 : decode cX6_clear 6 = .ok (.iconst 0, 1) := by decide +kernel
theorem dX6_clear_7 : decode cX6_clear 7 = .ok (.putfield 34, 3) := by decide +kernel
theorem dX6_clear_10 : decode cX6_clear 10 = .ok (.return_, 1) := by decide +kernel
abbrev o_X6_clear_q27 : Type := Int32 × Int32
def f_X6_clear_q27 (S : wd_W) : Option o_X6_clear_q27 :=
some ((0 : Int32), (0 : Int32))
set_option maxRecDepth 100000 in
set_option maxHeartbeats 4000000 in
theorem c_X6_clear_q27 (l : Launch) (D : va_G) (q g : Nat → Nat) (cy : Nat → ClassId) (z : (Nat → Nat) × (Nat → Nat) × Nat) (S : wd_W) (o : o_X6_clear_q27) (hf : f_X6_clear_q27 S = some o) : MX layX l yX6_clear cX6_clear 1 none ({ frames := 0, cells := 0, slots := 0, locals := 0 } : Room) D q g cy z [.ref (q 27)] S false (none) (wd_o S [(2700, o.1), (2704, o.2)] [] [] [] []) 0 0 := by
  refine mx_of (own := RX6) (lc := [(0, .ref (q 27))]) (by decide +kernel) rfl layX_ok (Nat.le_of_ble_eq_true rfl) rfl ?_
  intro X hXl hXq hXz hC hQ
  subst hXl; subst hXq; subst hXz
  unfold f_X6_clear_q27 at hf
  refine go_keys (L1 := [(2700, (S.1 2700)), (2704, (S.1 2704))]) (L2 := []) (L3 := []) (L4 := []) (L5 := []) [2700, 2704] [] [] [] [] rfl rfl rfl rfl rfl ?_
  refine go_aload_n (pc' := 1) hC dX6_clear_0 rfl rfl ?_
  refine go_iconst (pc' := 2) hC dX6_clear_1 ki_0 rfl ?_
  refine go_puti (L1' := [(2700, (0 : Int32)), (2704, (S.1 2704))]) (pc' := 5) hC 27 0 layX_27 rfl rfl inlX6 tyX6_ok nmX6 (Nat.le_of_ble_eq_true rfl) mw_477 rfl rfl rfl rfl dX6_clear_2 rfl rfl rfl ?_
  refine go_aload_n (pc' := 6) hC dX6_clear_5 rfl rfl ?_
  refine go_iconst (pc' := 7) hC dX6_clear_6 ki_0 rfl ?_
  refine go_puti (L1' := [(2700, (0 : Int32)), (2704, (0 : Int32))]) (pc' := 10) hC 27 4 layX_27 rfl rfl inlX6 tyX6_ok nmX6 (Nat.le_of_ble_eq_true rfl) mw_478 rfl rfl rfl rfl dX6_clear_7 rfl rfl rfl ?_
  obtain rfl := Option.some.inj hf
  exact go_vret hC hQ dX6_clear_10 rfl rfl rfl (fun _ => rfl) rfl rfl
theorem dX11_forget_0 : decode cX11_forget 0 = .ok (.aload_n 0, 1) := by decide +kernel
theorem dX11_forget_1 : decode cX11_forget 1 = .ok (.iconst 0, 1) := by decide +kernel
theorem dX11_forget_2 : decode cX11_forget 2 = .ok (.putfield 225, 3) := by decide +kernel
theorem dX11_forget_5 : decode cX11_forget 5 = .ok (.aload_n 0, 1) := by decide +kernel
theorem dX11_forget_6 : decode cX11_forget 6 = .ok (.iconst (-1), 1) := by decide +kernel
theorem dX11_forget_7 : decode cX11_forget 7 = .ok (.putfield 43, 3) := by decide +kernel
theorem dX11_forget_10 : decode cX11_forget 10 = .ok (.aload_n 0, 1) := by decide +kernel
theorem dX11_forget_11 : decode cX11_forget 11 = .ok (.iconst (-1), 1) := by decide +kernel
theorem dX11_forget_12 : decode cX11_forget 12 = .ok (.putfield 47, 3) := by decide +kernel
theorem dX11_forget_15 : decode cX11_forget 15 = .ok (.return_, 1) := by decide +kernel
abbrev o_X11_forget : Type := Int32 × Int32 × Int32
def f_X11_forget (S : wd_W) : Option o_X11_forget :=
some ((0 : Int32), (-1 : Int32), (-1 : Int32))
set_option maxRecDepth 100000 in
set_option maxHeartbeats 4000000 in
theorem c_X11_forget (l : Launch) (D : va_G) (q g : Nat → Nat) (cy : Nat → ClassId) (z : (Nat → Nat) × (Nat → Nat) × Nat) (S : wd_W) (o : o_X11_forget) (hf : f_X11_forget S = some o) : MX layX l yX11_forget cX11_forget 1 none ({ frames := 0, cells := 0, slots := 0, locals := 0 } : Room) D q g cy z [.ref (q 0)] S false (none) (wd_o S [(7, o.1), (8, o.2.1), (9, o.2.2)] [] [] [] []) 0 0 := by
  refine mx_of (own := RX11) (lc := [(0, .ref (q 0))]) (by decide +kernel) rfl layX_ok (Nat.le_of_ble_eq_true rfl) rfl ?_
  intro X hXl hXq hXz hC hQ
  subst hXl; subst hXq; subst hXz
  unfold f_X11_forget at hf
  refine go_keys (L1 := [(7, (S.1 7)), (8, (S.1 8)), (9, (S.1 9))]) (L2 := []) (L3 := []) (L4 := []) (L5 := []) [7, 8, 9] [] [] [] [] rfl rfl rfl rfl rfl ?_
  refine go_aload_n (pc' := 1) hC dX11_forget_0 rfl rfl ?_
  refine go_iconst (pc' := 2) hC dX11_forget_1 ki_0 rfl ?_
  refine go_puti (L1' := [(7, (0 : Int32)), (8, (S.1 8)), (9, (S.1 9))]) (pc' := 5) hC 0 7 layX_0 rfl rfl inlX11 tyX11_ok nmX11 (Nat.le_of_ble_eq_true rfl) mw_483 rfl rfl rfl rfl dX11_forget_2 rfl rfl rfl ?_
  refine go_aload_n (pc' := 6) hC dX11_forget_5 rfl rfl ?_
  refine go_iconst (pc' := 7) hC dX11_forget_6 ki_m1 rfl ?_
  refine go_puti (L1' := [(7, (0 : Int32)), (8, (-1 : Int32)), (9, (S.1 9))]) (pc' := 10) hC 0 8 layX_0 rfl rfl inlX11 tyX11_ok nmX11 (Nat.le_of_ble_eq_true rfl) mw_27 rfl rfl rfl rfl dX11_forget_7 rfl rfl rfl ?_
  refine go_aload_n (pc' := 11) hC dX11_forget_10 rfl rfl ?_
  refine go_iconst (pc' := 12) hC dX11_forget_11 ki_m1 rfl ?_
  refine go_puti (L1' := [(7, (0 : Int32)), (8, (-1 : Int32)), (9, (-1 : Int32))]) (pc' := 15) hC 0 9 layX_0 rfl rfl inlX11 tyX11_ok nmX11 (Nat.le_of_ble_eq_true rfl) mw_28 rfl rfl rfl rfl dX11_forget_12 rfl rfl rfl ?_
  obtain rfl := Option.some.inj hf
  exact go_vret hC hQ dX11_forget_15 rfl rfl rfl (fun _ => rfl) rfl rfl
abbrev o_X2_things_q16 : Type := Int32
def f_X2_things_q16 (S : wd_W) : Option o_X2_things_q16 :=
some (((S.1 1601) + (S.1 1607)) + (S.1 1610))
set_option maxRecDepth 100000 in
set_option maxHeartbeats 4000000 in
theorem c_X2_things_q16 (l : Launch) (D : va_G) (q g : Nat → Nat) (cy : Nat → ClassId) (z : (Nat → Nat) × (Nat → Nat) × Nat) (S : wd_W) (o : o_X2_things_q16) (hf : f_X2_things_q16 S = some o) : MX layX l yX2_things cX2_things 1 (some .int) ({ frames := 0, cells := 0, slots := 0, locals := 0 } : Room) D q g cy z [.ref (q 16)] S false (some (.int o)) (wd_o S [] [] [] [] []) 0 0 := by
  refine mx_of (own := RX2) (lc := [(0, .ref (q 16))]) (by decide +kernel) rfl layX_ok (Nat.le_of_ble_eq_true rfl) rfl ?_
  intro X hXl hXq hXz hC hQ
  subst hXl; subst hXq; subst hXz
  unfold f_X2_things_q16 at hf
  refine go_aload_n (pc' := 1) hC dX2_things_0 rfl rfl ?_
  refine go_geti (v := (S.1 1601)) (pc' := 4) hC 16 1 layX_16 rfl rfl inlX2 (Nat.le_of_ble_eq_true rfl) mw_309 rfl dX2_things_1 rfl rfl ?_
  refine go_aload_n (pc' := 5) hC dX2_things_4 rfl rfl ?_
  refine go_geti (v := (S.1 1607)) (pc' := 8) hC 16 7 layX_16 rfl rfl inlX2 (Nat.le_of_ble_eq_true rfl) mw_310 rfl dX2_things_5 rfl rfl ?_
  refine go_iadd (pc' := 9) hC dX2_things_8 rfl ?_
  refine go_aload_n (pc' := 10) hC dX2_things_9 rfl rfl ?_
  refine go_geti (v := (S.1 1610)) (pc' := 13) hC 16 10 layX_16 rfl rfl inlX2 (Nat.le_of_ble_eq_true rfl) mw_311 rfl dX2_things_10 rfl rfl ?_
  refine go_iadd (pc' := 14) hC dX2_things_13 rfl ?_
  obtain rfl := Option.some.inj hf
  exact go_iret hC hQ dX2_things_14 rfl rfl rfl rfl (fun _ => rfl) rfl rfl
theorem dX11_land_0 : decode cX11_land 0 = .ok (.aload_n 0, 1) := by decide +kernel
theorem dX11_land_1 : decode cX11_land 1 = .ok (.getfield 21, 3) := by decide +kernel
theorem dX11_land_4 : decode cX11_land 4 = .ok (.invokevirtual 116, 3) := by decide +kernel
theorem dX11_land_7 : decode cX11_land 7 = .ok (.istore_n 1, 1) := by decide +kernel
theorem dX11_land_8 : decode cX11_land 8 = .ok (.aload_n 0, 1) := by decide +kernel
theorem dX11_land_9 : decode cX11_land 9 = .ok (.getfield 21, 3) := by decide +kernel
theorem dX11_land_12 : decode cX11_land 12 = .ok (.iconst 0, 1) := by decide +kernel
theorem dX11_land_13 : decode cX11_land 13 = .ok (.putfield 113, 3) := by decide +kernel
theorem dX11_land_16 : decode cX11_land 16 = .ok (.iload_n 1, 1) := by decide +kernel
theorem dX11_land_17 : decode cX11_land 17 = .ok (.ifCond .eq 8, 3) := by decide +kernel
theorem dX11_land_20 : decode cX11_land 20 = .ok (.bipush (-2), 2) := by decide +kernel
theorem dX11_land_22 : decode cX11_land 22 = .ok (.iload_n 1, 1) := by decide +kernel
theorem dX11_land_23 : decode cX11_land 23 = .ok (.isub, 1) := by decide +kernel
theorem dX11_land_24 : decode cX11_land 24 = .ok (.ireturn, 1) := by decide +kernel
theorem dX11_land_25 : decode cX11_land 25 = .ok (.aload_n 0, 1) := by decide +kernel
theorem dX11_land_26 : decode cX11_land 26 = .ok (.getfield 25, 3) := by decide +kernel
theorem dX11_land_29 : decode cX11_land 29 = .ok (.aload_n 0, 1) := by decide +kernel
theorem dX11_land_30 : decode cX11_land 30 = .ok (.getfield 10, 3) := by decide +kernel
theorem dX11_land_33 : decode cX11_land 33 = .ok (.invokevirtual 120, 3) := by decide +kernel
theorem dX11_land_36 : decode cX11_land 36 = .ok (.aload_n 0, 1) := by decide +kernel
theorem dX11_land_37 : decode cX11_land 37 = .ok (.getfield 31, 3) := by decide +kernel
theorem dX11_land_40 : decode cX11_land 40 = .ok (.invokevirtual 123, 3) := by decide +kernel
theorem dX11_land_43 : decode cX11_land 43 = .ok (.aload_n 0, 1) := by decide +kernel
theorem dX11_land_44 : decode cX11_land 44 = .ok (.invokevirtual 126, 3) := by decide +kernel
theorem dX11_land_47 : decode cX11_land 47 = .ok (.aload_n 0, 1) := by decide +kernel
theorem dX11_land_48 : decode cX11_land 48 = .ok (.getfield 25, 3) := by decide +kernel
theorem dX11_land_51 : decode cX11_land 51 = .ok (.invokevirtual 129, 3) := by decide +kernel
theorem dX11_land_54 : decode cX11_land 54 = .ok (.ireturn, 1) := by decide +kernel
abbrev o_X11_land : Type := Int32 × wd_W
def f_X11_land (S : wd_W) : Option o_X11_land :=
bd (f_X9_readLand_q14 (wd_o S [(300, (S.1 300)), (301, (S.1 301)), (307, (S.1 307)), (310, (S.1 310)), (314, (S.1 314)), (315, (S.1 315)), (316, (S.1 316)), (317, (S.1 317)), (1402, (S.1 1402)), (1403, (S.1 1403)), (1404, (S.1 1404)), (1405, (S.1 1405))] [] [(4, (S.2.2.1 4)), (5, (S.2.2.1 5)), (6, (S.2.2.1 6)), (7, (S.2.2.1 7)), (8, (S.2.2.1 8)), (9, (S.2.2.1 9)), (10, (S.2.2.1 10)), (11, (S.2.2.1 11)), (12, (S.2.2.1 12)), (13, (S.2.2.1 13))] [] [])) fun o1 =>
lz (wd_o S [(300, o1.2.1), (301, o1.2.2.1), (307, o1.2.2.2.1), (310, o1.2.2.2.2.1), (314, o1.2.2.2.2.2.1), (315, o1.2.2.2.2.2.2.1), (316, o1.2.2.2.2.2.2.2.1), (317, o1.2.2.2.2.2.2.2.2.1), (1402, o1.2.2.2.2.2.2.2.2.2.1), (1403, o1.2.2.2.2.2.2.2.2.2.2.1), (1404, o1.2.2.2.2.2.2.2.2.2.2.2.1), (1405, o1.2.2.2.2.2.2.2.2.2.2.2.2.1)] [] [(4, o1.2.2.2.2.2.2.2.2.2.2.2.2.2.1), (5, o1.2.2.2.2.2.2.2.2.2.2.2.2.2.2.1), (6, o1.2.2.2.2.2.2.2.2.2.2.2.2.2.2.2.1), (7, o1.2.2.2.2.2.2.2.2.2.2.2.2.2.2.2.2.1), (8, o1.2.2.2.2.2.2.2.2.2.2.2.2.2.2.2.2.2.1), (9, o1.2.2.2.2.2.2.2.2.2.2.2.2.2.2.2.2.2.2.1), (10, o1.2.2.2.2.2.2.2.2.2.2.2.2.2.2.2.2.2.2.2.1), (11, o1.2.2.2.2.2.2.2.2.2.2.2.2.2.2.2.2.2.2.2.2.1), (12, o1.2.2.2.2.2.2.2.2.2.2.2.2.2.2.2.2.2.2.2.2.2.1), (13, o1.2.2.2.2.2.2.2.2.2.2.2.2.2.2.2.2.2.2.2.2.2.2)] [] []) fun S2 =>
if o1.1 = 0 then (
lz (wd_o S2 [(1400, (0 : Int32))] [] [] [] []) fun S4 =>
bd (f_X2_copyOf_q16_q3 (wd_o S4 [(1600, (S4.1 1600)), (1601, (S4.1 1601)), (1607, (S4.1 1607)), (1610, (S4.1 1610)), (1614, (S4.1 1614)), (1615, (S4.1 1615)), (1616, (S4.1 1616)), (1617, (S4.1 1617))] [] [(17, (S4.2.2.1 17)), (18, (S4.2.2.1 18)), (19, (S4.2.2.1 19)), (20, (S4.2.2.1 20)), (21, (S4.2.2.1 21)), (22, (S4.2.2.1 22)), (23, (S4.2.2.1 23)), (24, (S4.2.2.1 24)), (25, (S4.2.2.1 25)), (26, (S4.2.2.1 26))] [] [])) fun o3 =>
lz (wd_o S4 [(1600, o3.1), (1601, o3.2.1), (1607, o3.2.2.1), (1610, o3.2.2.2.1), (1614, o3.2.2.2.2.1), (1615, o3.2.2.2.2.2.1), (1616, o3.2.2.2.2.2.2.1), (1617, o3.2.2.2.2.2.2.2.1)] [] [(17, o3.2.2.2.2.2.2.2.2.1), (18, o3.2.2.2.2.2.2.2.2.2.1), (19, o3.2.2.2.2.2.2.2.2.2.2.1), (20, o3.2.2.2.2.2.2.2.2.2.2.2.1), (21, o3.2.2.2.2.2.2.2.2.2.2.2.2.1), (22, o3.2.2.2.2.2.2.2.2.2.2.2.2.2.1), (23, o3.2.2.2.2.2.2.2.2.2.2.2.2.2.2.1), (24, o3.2.2.2.2.2.2.2.2.2.2.2.2.2.2.2.1), (25, o3.2.2.2.2.2.2.2.2.2.2.2.2.2.2.2.2.1), (26, o3.2.2.2.2.2.2.2.2.2.2.2.2.2.2.2.2.2)] [] []) fun S6 =>
bd (f_X6_clear_q27 (wd_o S6 [(2700, (S6.1 2700)), (2704, (S6.1 2704))] [] [] [] [])) fun o5 =>
lz (wd_o S6 [(2700, o5.1), (2704, o5.2)] [] [] [] []) fun S8 =>
bd (f_X11_forget (wd_o S8 [(7, (S8.1 7)), (8, (S8.1 8)), (9, (S8.1 9))] [] [] [] [])) fun o7 =>
bd (f_X2_things_q16 (wd_o S8 [(7, o7.1), (8, o7.2.1), (9, o7.2.2)] [] [] [] [])) fun o9 =>
some (o9, (wd_o S8 [(7, o7.1), (8, o7.2.1), (9, o7.2.2)] [] [] [] []))) else (
some ((-2 : Int32) - o1.1, (wd_o S2 [(1400, (0 : Int32))] [] [] [] [])))
set_option maxRecDepth 100000 in
set_option maxHeartbeats 4000000 in
theorem c_X11_land (l : Launch) (D : va_G) (q g : Nat → Nat) (cy : Nat → ClassId) (z : (Nat → Nat) × (Nat → Nat) × Nat) (S : wd_W) (o : o_X11_land) (hf : f_X11_land S = some o) : MX layX l yX11_land cX11_land 2 (some .int) ({ frames := 9, cells := 0, slots := 0, locals := 192 } : Room) D q g cy z [.ref (q 0)] S false (some (.int o.1)) o.2 0 0 := by
  refine mx_of (own := RX11) (lc := [(0, .ref (q 0))]) (by decide +kernel) rfl layX_ok (Nat.le_of_ble_eq_true rfl) rfl ?_
  intro X hXl hXq hXz hC hQ
  subst hXl; subst hXq; subst hXz
  unfold f_X11_land at hf
  refine go_aload_n (pc' := 1) hC dX11_land_0 rfl rfl ?_
  refine go_getq (pc' := 4) hC 0 1 layX_0 rfl rfl inlX11 (Nat.le_of_ble_eq_true rfl) mw_19 rfl dX11_land_1 rfl ?_
  refine go_keys (L1 := [(300, (S.1 300)), (301, (S.1 301)), (307, (S.1 307)), (310, (S.1 310)), (314, (S.1 314)), (315, (S.1 315)), (316, (S.1 316)), (317, (S.1 317)), (1402, (S.1 1402)), (1403, (S.1 1403)), (1404, (S.1 1404)), (1405, (S.1 1405))]) (L2 := []) (L3 := [(4, (S.2.2.1 4)), (5, (S.2.2.1 5)), (6, (S.2.2.1 6)), (7, (S.2.2.1 7)), (8, (S.2.2.1 8)), (9, (S.2.2.1 9)), (10, (S.2.2.1 10)), (11, (S.2.2.1 11)), (12, (S.2.2.1 12)), (13, (S.2.2.1 13))]) (L4 := []) (L5 := []) [300, 301, 307, 310, 314, 315, 316, 317, 1402, 1403, 1404, 1405] [] [4, 5, 6, 7, 8, 9, 10, 11, 12, 13] [] [] rfl rfl rfl rfl rfl ?_
  obtain ⟨o1, ho1, hf⟩ := bd_e hf
  refine go_callV1 (pc' := 7) (As := []) (st := []) (st' := [.int o1.1]) (L1' := [(300, o1.2.1), (301, o1.2.2.1), (307, o1.2.2.2.1), (310, o1.2.2.2.2.1), (314, o1.2.2.2.2.2.1), (315, o1.2.2.2.2.2.2.1), (316, o1.2.2.2.2.2.2.2.1), (317, o1.2.2.2.2.2.2.2.2.1), (1402, o1.2.2.2.2.2.2.2.2.2.1), (1403, o1.2.2.2.2.2.2.2.2.2.2.1), (1404, o1.2.2.2.2.2.2.2.2.2.2.2.1), (1405, o1.2.2.2.2.2.2.2.2.2.2.2.2.1)]) (L2' := []) (L3' := [(4, o1.2.2.2.2.2.2.2.2.2.2.2.2.2.1), (5, o1.2.2.2.2.2.2.2.2.2.2.2.2.2.2.1), (6, o1.2.2.2.2.2.2.2.2.2.2.2.2.2.2.2.1), (7, o1.2.2.2.2.2.2.2.2.2.2.2.2.2.2.2.2.1), (8, o1.2.2.2.2.2.2.2.2.2.2.2.2.2.2.2.2.2.1), (9, o1.2.2.2.2.2.2.2.2.2.2.2.2.2.2.2.2.2.2.1), (10, o1.2.2.2.2.2.2.2.2.2.2.2.2.2.2.2.2.2.2.2.1), (11, o1.2.2.2.2.2.2.2.2.2.2.2.2.2.2.2.2.2.2.2.2.1), (12, o1.2.2.2.2.2.2.2.2.2.2.2.2.2.2.2.2.2.2.2.2.2.1), (13, o1.2.2.2.2.2.2.2.2.2.2.2.2.2.2.2.2.2.2.2.2.2.2)]) (L4' := []) (L5' := []) (cells' := 0) (slots' := 0)  (b := 14) hC dX11_land_4 ⟨mw_298, mw_301, mw_18, yd_yX9_readLand, yp_yX9_readLand, Nat.le_of_ble_eq_true rfl, Nat.le_of_ble_eq_true rfl, (Nat.le_of_ble_eq_true rfl), (Nat.le_of_ble_eq_true rfl)⟩ mw_299 mw_300 layX_14 rfl rfl rfl (Nat.le_of_ble_eq_true rfl) (c_X9_readLand_q14 (x_l X) (x_D X) (x_q X) g (x_cy X) (x_z X) _  o1 ho1) rfl rfl rfl rfl rfl rfl rfl rfl rfl rfl rfl rfl rfl rfl ?_
  refine go_istore_n (lc' := [(0, .ref (x_q X 0)), (1, .int o1.1)]) (pc' := 8) hC dX11_land_7 (Nat.le_of_ble_eq_true rfl) rfl rfl ?_
  refine go_aload_n (pc' := 9) hC dX11_land_8 rfl rfl ?_
  refine go_getq (pc' := 12) hC 0 1 layX_0 rfl rfl inlX11 (Nat.le_of_ble_eq_true rfl) mw_19 rfl dX11_land_9 rfl ?_
  refine go_iconst (pc' := 13) hC dX11_land_12 ki_0 rfl ?_
  refine go_base (fun S2 hx => ?_)
  have hf := lz_r hx hf
  clear hx
  refine go_keys (L1 := [(1400, (S2.1 1400))]) (L2 := []) (L3 := []) (L4 := []) (L5 := []) [1400] [] [] [] [] rfl rfl rfl rfl rfl ?_
  refine go_puti (L1' := [(1400, (0 : Int32))]) (pc' := 16) hC 14 0 layX_14 rfl rfl inlX9 tyX9_ok nmX9 (Nat.le_of_ble_eq_true rfl) mw_267 rfl rfl rfl rfl dX11_land_13 rfl rfl rfl ?_
  refine go_iload_n (pc' := 17) hC dX11_land_16 rfl rfl ?_
  refine go_if_eq (tgt := 25) (pc' := 20) hC dX11_land_17 (by decide) rfl (fun h10 => ?_) (fun h10 => ?_)
  · have hf := ite_t h10 hf
    refine go_aload_n (pc' := 26) hC dX11_land_25 rfl rfl ?_
    refine go_getq (pc' := 29) hC 0 2 layX_0 rfl rfl inlX11 (Nat.le_of_ble_eq_true rfl) mw_20 rfl dX11_land_26 rfl ?_
    refine go_aload_n (pc' := 30) hC dX11_land_29 rfl rfl ?_
    refine go_getq (pc' := 33) hC 0 0 layX_0 rfl rfl inlX11 (Nat.le_of_ble_eq_true rfl) mw_15 rfl dX11_land_30 rfl ?_
    refine go_base (fun S4 hx => ?_)
    have hf := lz_r hx hf
    clear hx
    refine go_keys (L1 := [(1600, (S4.1 1600)), (1601, (S4.1 1601)), (1607, (S4.1 1607)), (1610, (S4.1 1610)), (1614, (S4.1 1614)), (1615, (S4.1 1615)), (1616, (S4.1 1616)), (1617, (S4.1 1617))]) (L2 := []) (L3 := [(17, (S4.2.2.1 17)), (18, (S4.2.2.1 18)), (19, (S4.2.2.1 19)), (20, (S4.2.2.1 20)), (21, (S4.2.2.1 21)), (22, (S4.2.2.1 22)), (23, (S4.2.2.1 23)), (24, (S4.2.2.1 24)), (25, (S4.2.2.1 25)), (26, (S4.2.2.1 26))]) (L4 := []) (L5 := []) [1600, 1601, 1607, 1610, 1614, 1615, 1616, 1617] [] [17, 18, 19, 20, 21, 22, 23, 24, 25, 26] [] [] rfl rfl rfl rfl rfl ?_
    obtain ⟨o3, ho3, hf⟩ := bd_e hf
    refine go_callV1 (pc' := 36) (As := [.ref (x_q X 3)]) (st := []) (st' := []) (L1' := [(1600, o3.1), (1601, o3.2.1), (1607, o3.2.2.1), (1610, o3.2.2.2.1), (1614, o3.2.2.2.2.1), (1615, o3.2.2.2.2.2.1), (1616, o3.2.2.2.2.2.2.1), (1617, o3.2.2.2.2.2.2.2.1)]) (L2' := []) (L3' := [(17, o3.2.2.2.2.2.2.2.2.1), (18, o3.2.2.2.2.2.2.2.2.2.1), (19, o3.2.2.2.2.2.2.2.2.2.2.1), (20, o3.2.2.2.2.2.2.2.2.2.2.2.1), (21, o3.2.2.2.2.2.2.2.2.2.2.2.2.1), (22, o3.2.2.2.2.2.2.2.2.2.2.2.2.2.1), (23, o3.2.2.2.2.2.2.2.2.2.2.2.2.2.2.1), (24, o3.2.2.2.2.2.2.2.2.2.2.2.2.2.2.2.1), (25, o3.2.2.2.2.2.2.2.2.2.2.2.2.2.2.2.2.1), (26, o3.2.2.2.2.2.2.2.2.2.2.2.2.2.2.2.2.2)]) (L4' := []) (L5' := []) (cells' := 0) (slots' := 0)  (b := 16) hC dX11_land_33 ⟨mw_461, mw_464, mw_14, yd_yX2_copyOf, yp_yX2_copyOf, Nat.le_of_ble_eq_true rfl, Nat.le_of_ble_eq_true rfl, (Nat.le_of_ble_eq_true rfl), (Nat.le_of_ble_eq_true rfl)⟩ mw_462 mw_463 layX_16 rfl rfl rfl (Nat.le_of_ble_eq_true rfl) (c_X2_copyOf_q16_q3 (x_l X) (x_D X) (x_q X) g (x_cy X) (x_z X) _  o3 ho3) rfl rfl rfl rfl rfl rfl rfl rfl rfl rfl rfl rfl rfl rfl ?_
    refine go_aload_n (pc' := 37) hC dX11_land_36 rfl rfl ?_
    refine go_getq (pc' := 40) hC 0 3 layX_0 rfl rfl inlX11 (Nat.le_of_ble_eq_true rfl) mw_24 rfl dX11_land_37 rfl ?_
    refine go_base (fun S6 hx => ?_)
    have hf := lz_r hx hf
    clear hx
    refine go_keys (L1 := [(2700, (S6.1 2700)), (2704, (S6.1 2704))]) (L2 := []) (L3 := []) (L4 := []) (L5 := []) [2700, 2704] [] [] [] [] rfl rfl rfl rfl rfl ?_
    obtain ⟨o5, ho5, hf⟩ := bd_e hf
    refine go_callV1 (pc' := 43) (As := []) (st := []) (st' := []) (L1' := [(2700, o5.1), (2704, o5.2)]) (L2' := []) (L3' := []) (L4' := []) (L5' := []) (cells' := 0) (slots' := 0)  (b := 27) hC dX11_land_40 ⟨mw_473, mw_476, mw_23, yd_yX6_clear, yp_yX6_clear, Nat.le_of_ble_eq_true rfl, Nat.le_of_ble_eq_true rfl, (Nat.le_of_ble_eq_true rfl), (Nat.le_of_ble_eq_true rfl)⟩ mw_474 mw_475 layX_27 rfl rfl rfl (Nat.le_of_ble_eq_true rfl) (c_X6_clear_q27 (x_l X) (x_D X) (x_q X) g (x_cy X) (x_z X) _  o5 ho5) rfl rfl rfl rfl rfl rfl rfl rfl rfl rfl rfl rfl rfl rfl ?_
    refine go_aload_n (pc' := 44) hC dX11_land_43 rfl rfl ?_
    refine go_base (fun S8 hx => ?_)
    have hf := lz_r hx hf
    clear hx
    refine go_keys (L1 := [(7, (S8.1 7)), (8, (S8.1 8)), (9, (S8.1 9))]) (L2 := []) (L3 := []) (L4 := []) (L5 := []) [7, 8, 9] [] [] [] [] rfl rfl rfl rfl rfl ?_
    obtain ⟨o7, ho7, hf⟩ := bd_e hf
    refine go_callV1 (pc' := 47) (As := []) (st := []) (st' := []) (L1' := [(7, o7.1), (8, o7.2.1), (9, o7.2.2)]) (L2' := []) (L3' := []) (L4' := []) (L5' := []) (cells' := 0) (slots' := 0)  (b := 0) hC dX11_land_44 ⟨mw_479, mw_482, mw_2, yd_yX11_forget, yp_yX11_forget, Nat.le_of_ble_eq_true rfl, Nat.le_of_ble_eq_true rfl, (Nat.le_of_ble_eq_true rfl), (Nat.le_of_ble_eq_true rfl)⟩ mw_480 mw_481 layX_0 rfl rfl rfl (Nat.le_of_ble_eq_true rfl) (c_X11_forget (x_l X) (x_D X) (x_q X) g (x_cy X) (x_z X) _  o7 ho7) rfl rfl rfl rfl rfl rfl rfl rfl rfl rfl rfl rfl rfl rfl ?_
    refine go_aload_n (pc' := 48) hC dX11_land_47 rfl rfl ?_
    refine go_getq (pc' := 51) hC 0 2 layX_0 rfl rfl inlX11 (Nat.le_of_ble_eq_true rfl) mw_20 rfl dX11_land_48 rfl ?_
    obtain ⟨o9, ho9, hf⟩ := bd_e hf
    refine go_callV0 (pc' := 54) (As := []) (st := []) (st' := [.int o9])    (b := 16) hC dX11_land_51 ⟨mw_484, mw_418, mw_14, yd_yX2_things, yp_yX2_things, Nat.le_of_ble_eq_true rfl, Nat.le_of_ble_eq_true rfl, (Nat.le_of_ble_eq_true rfl), (Nat.le_of_ble_eq_true rfl)⟩ mw_416 mw_417 layX_16 rfl rfl rfl (Nat.le_of_ble_eq_true rfl) (c_X2_things_q16 (x_l X) (x_D X) (x_q X) g (x_cy X) (x_z X) _  o9 ho9) rfl rfl ?_
    obtain rfl := Option.some.inj hf
    exact go_iret hC hQ dX11_land_54 rfl rfl rfl rfl (fun _ => rfl) rfl rfl
  · have hf := ite_f h10 hf
    refine go_bipush (pc' := 22) hC dX11_land_20 kb_m2 rfl ?_
    refine go_iload_n (pc' := 23) hC dX11_land_22 rfl rfl ?_
    refine go_isub (pc' := 24) hC dX11_land_23 rfl ?_
    obtain rfl := Option.some.inj hf
    exact go_iret hC hQ dX11_land_24 rfl rfl rfl rfl (fun _ => rfl) rfl rfl
theorem dX2_causesNaming_0 : decode cX2_causesNaming 0 = .ok (.iconst 0, 1) := by decide +kernel
theorem dX2_causesNaming_1 : decode cX2_causesNaming 1 = .ok (.istore_n 3, 1) := by decide +kernel
theorem dX2_causesNaming_2 : decode cX2_causesNaming 2 = .ok (.iconst 0, 1) := by decide +kernel
theorem dX2_causesNaming_3 : decode cX2_causesNaming 3 = .ok (.istore 4, 2) := by decide +kernel
theorem dX2_causesNaming_5 : decode cX2_causesNaming 5 = .ok (.iload 4, 2) := by decide +kernel
theorem dX2_causesNaming_7 : decode cX2_causesNaming 7 = .ok (.aload_n 0, 1) := by decide +kernel
theorem dX2_causesNaming_8 : decode cX2_causesNaming 8 = .ok (.getfield 55, 3) := by decide +kernel
theorem dX2_causesNaming_11 : decode cX2_causesNaming 11 = .ok (.if_icmp .ge 23, 3) := by decide +kernel
theorem dX2_causesNaming_14 : decode cX2_causesNaming 14 = .ok (.iload_n 3, 1) := by decide +kernel
theorem dX2_causesNaming_15 : decode cX2_causesNaming 15 = .ok (.aload_n 1, 1) := by decide +kernel
theorem dX2_causesNaming_16 : decode cX2_causesNaming 16 = .ok (.iload 4, 2) := by decide +kernel
theorem dX2_causesNaming_18 : decode cX2_causesNaming 18 = .ok (.iaload, 1) := by decide +kernel
theorem dX2_causesNaming_19 : decode cX2_causesNaming 19 = .ok (.iload_n 2, 1) := by decide +kernel
theorem dX2_causesNaming_20 : decode cX2_causesNaming 20 = .ok (.ishr, 1) := by decide +kernel
theorem dX2_causesNaming_21 : decode cX2_causesNaming 21 = .ok (.iconst 1, 1) := by decide +kernel
theorem dX2_causesNaming_22 : decode cX2_causesNaming 22 = .ok (.iand, 1) := by decide +kernel
theorem dX2_causesNaming_23 : decode cX2_causesNaming 23 = .ok (.iload 4, 2) := by decide +kernel
theorem dX2_causesNaming_25 : decode cX2_causesNaming 25 = .ok (.ishl, 1) := by decide +kernel
theorem dX2_causesNaming_26 : decode cX2_causesNaming 26 = .ok (.ior, 1) := by decide +kernel
theorem dX2_causesNaming_27 : decode cX2_causesNaming 27 = .ok (.istore_n 3, 1) := by decide +kernel
theorem dX2_causesNaming_28 : decode cX2_causesNaming 28 = .ok (.iinc 4 1, 3) := by decide +kernel
theorem dX2_causesNaming_31 : decode cX2_causesNaming 31 = .ok (.goto (-26), 3) := by decide +kernel
theorem dX2_causesNaming_34 : decode cX2_causesNaming 34 = .ok (.iload_n 3, 1) := by decide +kernel
theorem dX2_causesNaming_35 : decode cX2_causesNaming 35 = .ok (.ireturn, 1) := by decide +kernel
abbrev o_X2_causesNaming_q16_q25 : Type := Int32
def f_X2_causesNaming_q16_q25_L5 (S : wd_W) (p1 : Int32) (r3 : (Int32) → (Int32) → (Option o_X2_causesNaming_q16_q25)) (x1 : Int32) (x2 : Int32) : Option o_X2_causesNaming_q16_q25 :=
if (S.1 1610) ≤ x2 then (
some x1) else (
gd (okx x2 3) <|
lz (x1 ||| (((((S.2.2.1 25) x2.toNatClampNeg) >>> (p1 &&& 31)) &&& (1 : Int32)) <<< (x2 &&& 31))) fun x5 =>
r3 x5 (x2 + (1 : Int32)))
def f_X2_causesNaming_q16_q25 (S : wd_W) (p1 : Int32) : Option o_X2_causesNaming_q16_q25 :=
it2 (f_X2_causesNaming_q16_q25_L5 S p1) fuel (0 : Int32) (0 : Int32)
set_option maxRecDepth 100000 in
set_option maxHeartbeats 4000000 in
theorem c_X2_causesNaming_q16_q25 (l : Launch) (D : va_G) (q g : Nat → Nat) (cy : Nat → ClassId) (z : (Nat → Nat) × (Nat → Nat) × Nat) (S : wd_W) (p1 : Int32) (o : o_X2_causesNaming_q16_q25) (hf : f_X2_causesNaming_q16_q25 S p1 = some o) : MX layX l yX2_causesNaming cX2_causesNaming 5 (some .int) ({ frames := 0, cells := 0, slots := 0, locals := 0 } : Room) D q g cy z [.ref (q 16), .ref (q 25), .int p1] S false (some (.int o)) (wd_o S [] [] [] [] []) 0 0 := by
  refine mx_of (own := RX2) (lc := [(0, .ref (q 16)), (1, .ref (q 25)), (2, .int p1)]) (by decide +kernel) rfl layX_ok (Nat.le_of_ble_eq_true rfl) rfl ?_
  intro X hXl hXq hXz hC hQ
  subst hXl; subst hXq; subst hXz
  unfold f_X2_causesNaming_q16_q25 at hf
  refine go_iconst (pc' := 1) hC dX2_causesNaming_0 ki_0 rfl ?_
  refine go_istore_n (lc' := [(0, .ref (x_q X 16)), (1, .ref (x_q X 25)), (2, .int p1), (3, .int (0 : Int32))]) (pc' := 2) hC dX2_causesNaming_1 (Nat.le_of_ble_eq_true rfl) rfl rfl ?_
  refine go_iconst (pc' := 3) hC dX2_causesNaming_2 ki_0 rfl ?_
  refine go_istore (lc' := [(0, .ref (x_q X 16)), (1, .ref (x_q X 25)), (2, .int p1), (3, .int (0 : Int32)), (4, .int (0 : Int32))]) (pc' := 5) hC dX2_causesNaming_3 (Nat.le_of_ble_eq_true rfl) rfl rfl ?_
  have l5_7 : ∀ (nn : Nat) (x1 : Int32) (x2 : Int32), it2 (f_X2_causesNaming_q16_q25_L5 S p1) nn x1 x2 = some o → Go X layX S 5 [(0, .ref (x_q X 16)), (1, .ref (x_q X 25)), (2, .int p1), (3, .int x1), (4, .int x2)] [] g [] [] [] [] [] 0 0 := by
    intro nn
    induction nn with
    | zero =>
      intro x1 x2 hf
      exact none_no hf
    | succ nn ih =>
      intro x1 x2 hf
      have hf : f_X2_causesNaming_q16_q25_L5 S p1 (it2 (f_X2_causesNaming_q16_q25_L5 S p1) nn) x1 x2 = some o := hf
      generalize it2 (f_X2_causesNaming_q16_q25_L5 S p1) nn = r3 at ih hf
      unfold f_X2_causesNaming_q16_q25_L5 at hf
      refine go_iload (pc' := 7) hC dX2_causesNaming_5 rfl rfl ?_
      refine go_aload_n (pc' := 8) hC dX2_causesNaming_7 rfl rfl ?_
      refine go_geti (v := (S.1 1610)) (pc' := 11) hC 16 10 layX_16 rfl rfl inlX2 (Nat.le_of_ble_eq_true rfl) mw_311 rfl dX2_causesNaming_8 rfl rfl ?_
      refine go_icmp_ge (tgt := 34) (pc' := 14) hC dX2_causesNaming_11 (by decide) rfl (fun h6 => ?_) (fun h6 => ?_)
      · have hf := ite_t h6 hf
        refine go_iload_n (pc' := 35) hC dX2_causesNaming_34 rfl rfl ?_
        obtain rfl := Option.some.inj hf
        exact go_iret hC hQ dX2_causesNaming_35 rfl rfl rfl rfl (fun _ => rfl) rfl rfl
      · have hf := ite_f h6 hf
        refine go_iload_n (pc' := 15) hC dX2_causesNaming_14 rfl rfl ?_
        refine go_aload_n (pc' := 16) hC dX2_causesNaming_15 rfl rfl ?_
        refine go_iload (pc' := 18) hC dX2_causesNaming_16 rfl rfl ?_
        obtain ⟨h4, hf⟩ := gd_e hf
        refine go_iald (f := (S.2.2.1 25)) (pc' := 19) hC 25 layX_25 rfl rfl dX2_causesNaming_18 (okx_in h4) rfl ?_
        refine go_iload_n (pc' := 20) hC dX2_causesNaming_19 rfl rfl ?_
        refine go_ishr (pc' := 21) hC dX2_causesNaming_20 rfl ?_
        refine go_iconst (pc' := 22) hC dX2_causesNaming_21 ki_1 rfl ?_
        refine go_iand (pc' := 23) hC dX2_causesNaming_22 rfl ?_
        refine go_iload (pc' := 25) hC dX2_causesNaming_23 rfl rfl ?_
        refine go_ishl (pc' := 26) hC dX2_causesNaming_25 rfl ?_
        refine go_ior (pc' := 27) hC dX2_causesNaming_26 rfl ?_
        refine go_namei (fun x5 hx => ?_)
        have hf := lz_r hx hf
        clear hx
        refine go_istore_n (lc' := [(0, .ref (x_q X 16)), (1, .ref (x_q X 25)), (2, .int p1), (3, .int x5), (4, .int x2)]) (pc' := 28) hC dX2_causesNaming_27 (Nat.le_of_ble_eq_true rfl) rfl rfl ?_
        refine go_iinc (lc' := [(0, .ref (x_q X 16)), (1, .ref (x_q X 25)), (2, .int p1), (3, .int x5), (4, .int (x2 + (1 : Int32)))]) (pc' := 31) hC dX2_causesNaming_28 rfl ki_1 (Nat.le_of_ble_eq_true rfl) rfl rfl ?_
        refine go_goto (tgt := 5) hC dX2_causesNaming_31 (by decide) ?_
        exact ih x5 (x2 + (1 : Int32)) hf
  exact l5_7 fuel (0 : Int32) (0 : Int32) hf
theorem dX11_line_0 : decode cX11_line 0 = .ok (.iload_n 1, 1) := by decide +kernel
theorem dX11_line_1 : decode cX11_line 1 = .ok (.ifCond .lt 14, 3) := by decide +kernel
theorem dX11_line_4 : decode cX11_line 4 = .ok (.iload_n 1, 1) := by decide +kernel
theorem dX11_line_5 : decode cX11_line 5 = .ok (.aload_n 0, 1) := by decide +kernel
theorem dX11_line_6 : decode cX11_line 6 = .ok (.getfield 25, 3) := by decide +kernel
theorem dX11_line_9 : decode cX11_line 9 = .ok (.getfield 132, 3) := by decide +kernel
theorem dX11_line_12 : decode cX11_line 12 = .ok (.if_icmp .lt 5, 3) := by decide +kernel
theorem dX11_line_15 : decode cX11_line 15 = .ok (.iconst (-1), 1) := by decide +kernel
theorem dX11_line_16 : decode cX11_line 16 = .ok (.ireturn, 1) := by decide +kernel
theorem dX11_line_17 : decode cX11_line 17 = .ok (.iload_n 2, 1) := by decide +kernel
theorem dX11_line_18 : decode cX11_line 18 = .ok (.tableswitch 112 0 5 #[38, 48, 58, 68, 86, 96], 38) := by decide +kernel
theorem dX11_line_56 : decode cX11_line 56 = .ok (.aload_n 0, 1) := by decide +kernel
theorem dX11_line_57 : decode cX11_line 57 = .ok (.getfield 25, 3) := by decide +kernel
theorem dX11_line_60 : decode cX11_line 60 = .ok (.getfield 135, 3) := by decide +kernel
theorem dX11_line_63 : decode cX11_line 63 = .ok (.iload_n 1, 1) := by decide +kernel
theorem dX11_line_64 : decode cX11_line 64 = .ok (.iaload, 1) := by decide +kernel
theorem dX11_line_65 : decode cX11_line 65 = .ok (.ireturn, 1) := by decide +kernel
theorem dX11_line_66 : decode cX11_line 66 = .ok (.aload_n 0, 1) := by decide +kernel
theorem dX11_line_67 : decode cX11_line 67 = .ok (.getfield 25, 3) := by decide +kernel
theorem dX11_line_70 : decode cX11_line 70 = .ok (.getfield 139, 3) := by decide +kernel
theorem dX11_line_73 : decode cX11_line 73 = .ok (.iload_n 1, 1) := by decide +kernel
theorem dX11_line_74 : decode cX11_line 74 = .ok (.iaload, 1) := by decide +kernel
theorem dX11_line_75 : decode cX11_line 75 = .ok (.ireturn, 1) := by decide +kernel
theorem dX11_line_76 : decode cX11_line 76 = .ok (.aload_n 0, 1) := by decide +kernel
theorem dX11_line_77 : decode cX11_line 77 = .ok (.getfield 25, 3) := by decide +kernel
theorem dX11_line_80 : decode cX11_line 80 = .ok (.getfield 142, 3) := by decide +kernel
theorem dX11_line_83 : decode cX11_line 83 = .ok (.iload_n 1, 1) := by decide +kernel
theorem dX11_line_84 : decode cX11_line 84 = .ok (.iaload, 1) := by decide +kernel
theorem dX11_line_85 : decode cX11_line 85 = .ok (.ireturn, 1) := by decide +kernel
theorem dX11_line_86 : decode cX11_line 86 = .ok (.aload_n 0, 1) := by decide +kernel
theorem dX11_line_87 : decode cX11_line 87 = .ok (.getfield 25, 3) := by decide +kernel
theorem dX11_line_90 : decode cX11_line 90 = .ok (.getfield 145, 3) := by decide +kernel
theorem dX11_line_93 : decode cX11_line 93 = .ok (.iload_n 1, 1) := by decide +kernel
theorem dX11_line_94 : decode cX11_line 94 = .ok (.iaload, 1) := by decide +kernel
theorem dX11_line_95 : decode cX11_line 95 = .ok (.ifCond .ne 7, 3) := by decide +kernel
theorem dX11_line_98 : decode cX11_line 98 = .ok (.iconst 1, 1) := by decide +kernel
theorem dX11_line_99 : decode cX11_line 99 = .ok (.goto 4, 3) := by decide +kernel
theorem dX11_line_102 : decode cX11_line 102 = .ok (.iconst 0, 1) := by decide +kernel
theorem dX11_line_103 : decode cX11_line 103 = .ok (.ireturn, 1) := by decide +kernel
theorem dX11_line_104 : decode cX11_line 104 = .ok (.aload_n 0, 1) := by decide +kernel
theorem dX11_line_105 : decode cX11_line 105 = .ok (.getfield 25, 3) := by decide +kernel
theorem dX11_line_108 : decode cX11_line 108 = .ok (.getfield 148, 3) := by decide +kernel
theorem dX11_line_111 : decode cX11_line 111 = .ok (.iload_n 1, 1) := by decide +kernel
theorem dX11_line_112 : decode cX11_line 112 = .ok (.iaload, 1) := by decide +kernel
theorem dX11_line_113 : decode cX11_line 113 = .ok (.ireturn, 1) := by decide +kernel
theorem dX11_line_114 : decode cX11_line 114 = .ok (.aload_n 0, 1) := by decide +kernel
theorem dX11_line_115 : decode cX11_line 115 = .ok (.getfield 25, 3) := by decide +kernel
theorem dX11_line_118 : decode cX11_line 118 = .ok (.aload_n 0, 1) := by decide +kernel
theorem dX11_line_119 : decode cX11_line 119 = .ok (.getfield 25, 3) := by decide +kernel
theorem dX11_line_122 : decode cX11_line 122 = .ok (.getfield 151, 3) := by decide +kernel
theorem dX11_line_125 : decode cX11_line 125 = .ok (.iload_n 1, 1) := by decide +kernel
theorem dX11_line_126 : decode cX11_line 126 = .ok (.invokevirtual 154, 3) := by decide +kernel
theorem dX11_line_129 : decode cX11_line 129 = .ok (.ireturn, 1) := by decide +kernel
theorem dX11_line_130 : decode cX11_line 130 = .ok (.iconst (-1), 1) := by decide +kernel
theorem dX11_line_131 : decode cX11_line 131 = .ok (.ireturn, 1) := by decide +kernel
abbrev o_X11_line : Type := Int32
def f_X11_line (S : wd_W) (p1 : Int32) (p2 : Int32) : Option o_X11_line :=
if p1 < 0 then (
some (-1 : Int32)) else (
if p1 < (S.1 1601) then (
if p2 = (0 : Int32) then (
gd (okx p1 13) <|
some ((S.2.2.1 17) p1.toNatClampNeg)) else (
if p2 = (1 : Int32) then (
gd (okx p1 13) <|
some ((S.2.2.1 18) p1.toNatClampNeg)) else (
if p2 = (2 : Int32) then (
gd (okx p1 13) <|
some ((S.2.2.1 19) p1.toNatClampNeg)) else (
if p2 = (3 : Int32) then (
gd (okx p1 13) <|
if ((S.2.2.1 20) p1.toNatClampNeg) = 0 then (
some (1 : Int32)) else (
some (0 : Int32))) else (
if p2 = (4 : Int32) then (
gd (okx p1 13) <|
some ((S.2.2.1 21) p1.toNatClampNeg)) else (
if p2 = (5 : Int32) then (
bd (f_X2_causesNaming_q16_q25 (wd_o S [] [] [] [] []) p1) fun o12 =>
some o12) else (
some (-1 : Int32)))))))) else (
some (-1 : Int32)))
set_option maxRecDepth 100000 in
set_option maxHeartbeats 4000000 in
theorem c_X11_line (l : Launch) (D : va_G) (q g : Nat → Nat) (cy : Nat → ClassId) (z : (Nat → Nat) × (Nat → Nat) × Nat) (S : wd_W) (p1 : Int32) (p2 : Int32) (o : o_X11_line) (hf : f_X11_line S p1 p2 = some o) : MX layX l yX11_line cX11_line 3 (some .int) ({ frames := 1, cells := 0, slots := 0, locals := 24 } : Room) D q g cy z [.ref (q 0), .int p1, .int p2] S false (some (.int o)) (wd_o S [] [] [] [] []) 0 0 := by
  refine mx_of (own := RX11) (lc := [(0, .ref (q 0)), (1, .int p1), (2, .int p2)]) (by decide +kernel) rfl layX_ok (Nat.le_of_ble_eq_true rfl) rfl ?_
  intro X hXl hXq hXz hC hQ
  subst hXl; subst hXq; subst hXz
  unfold f_X11_line at hf
  refine go_iload_n (pc' := 1) hC dX11_line_0 rfl rfl ?_
  refine go_if_lt (tgt := 15) (pc' := 4) hC dX11_line_1 (by decide) rfl (fun h15 => ?_) (fun h15 => ?_)
  · have hf := ite_t h15 hf
    refine go_iconst (pc' := 16) hC dX11_line_15 ki_m1 rfl ?_
    obtain rfl := Option.some.inj hf
    exact go_iret hC hQ dX11_line_16 rfl rfl rfl rfl (fun _ => rfl) rfl rfl
  · have hf := ite_f h15 hf
    refine go_iload_n (pc' := 5) hC dX11_line_4 rfl rfl ?_
    refine go_aload_n (pc' := 6) hC dX11_line_5 rfl rfl ?_
    refine go_getq (pc' := 9) hC 0 2 layX_0 rfl rfl inlX11 (Nat.le_of_ble_eq_true rfl) mw_20 rfl dX11_line_6 rfl ?_
    refine go_geti (v := (S.1 1601)) (pc' := 12) hC 16 1 layX_16 rfl rfl inlX2 (Nat.le_of_ble_eq_true rfl) mw_562 rfl dX11_line_9 rfl rfl ?_
    refine go_icmp_lt (tgt := 17) (pc' := 15) hC dX11_line_12 (by decide) rfl (fun h14 => ?_) (fun h14 => ?_)
    · have hf := ite_t h14 hf
      refine go_iload_n (pc' := 18) hC dX11_line_17 rfl rfl ?_
      by_cases h2 : p2 = (0 : Int32)
      · have hf := ite_t h2 hf
        refine go_tabIn' (v := (0 : Int32)) (tgt := 56) hC dX11_line_18 h2 kt_0 (by decide) (by decide) rfl (by decide) ?_
        refine go_aload_n (pc' := 57) hC dX11_line_56 rfl rfl ?_
        refine go_getq (pc' := 60) hC 0 2 layX_0 rfl rfl inlX11 (Nat.le_of_ble_eq_true rfl) mw_20 rfl dX11_line_57 rfl ?_
        refine go_getq (pc' := 63) hC 16 2 layX_16 rfl rfl inlX2 (Nat.le_of_ble_eq_true rfl) mw_563 rfl dX11_line_60 rfl ?_
        refine go_iload_n (pc' := 64) hC dX11_line_63 rfl rfl ?_
        obtain ⟨h1, hf⟩ := gd_e hf
        refine go_iald (f := (S.2.2.1 17)) (pc' := 65) hC 17 layX_17 rfl rfl dX11_line_64 (okx_in h1) rfl ?_
        obtain rfl := Option.some.inj hf
        exact go_iret hC hQ dX11_line_65 rfl rfl rfl rfl (fun _ => rfl) rfl rfl
      · have hf := ite_f h2 hf
        by_cases h4 : p2 = (1 : Int32)
        · have hf := ite_t h4 hf
          refine go_tabIn' (v := (1 : Int32)) (tgt := 66) hC dX11_line_18 h4 kt_1 (by decide) (by decide) rfl (by decide) ?_
          refine go_aload_n (pc' := 67) hC dX11_line_66 rfl rfl ?_
          refine go_getq (pc' := 70) hC 0 2 layX_0 rfl rfl inlX11 (Nat.le_of_ble_eq_true rfl) mw_20 rfl dX11_line_67 rfl ?_
          refine go_getq (pc' := 73) hC 16 3 layX_16 rfl rfl inlX2 (Nat.le_of_ble_eq_true rfl) mw_564 rfl dX11_line_70 rfl ?_
          refine go_iload_n (pc' := 74) hC dX11_line_73 rfl rfl ?_
          obtain ⟨h3, hf⟩ := gd_e hf
          refine go_iald (f := (S.2.2.1 18)) (pc' := 75) hC 18 layX_18 rfl rfl dX11_line_74 (okx_in h3) rfl ?_
          obtain rfl := Option.some.inj hf
          exact go_iret hC hQ dX11_line_75 rfl rfl rfl rfl (fun _ => rfl) rfl rfl
        · have hf := ite_f h4 hf
          by_cases h6 : p2 = (2 : Int32)
          · have hf := ite_t h6 hf
            refine go_tabIn' (v := (2 : Int32)) (tgt := 76) hC dX11_line_18 h6 kt_2 (by decide) (by decide) rfl (by decide) ?_
            refine go_aload_n (pc' := 77) hC dX11_line_76 rfl rfl ?_
            refine go_getq (pc' := 80) hC 0 2 layX_0 rfl rfl inlX11 (Nat.le_of_ble_eq_true rfl) mw_20 rfl dX11_line_77 rfl ?_
            refine go_getq (pc' := 83) hC 16 4 layX_16 rfl rfl inlX2 (Nat.le_of_ble_eq_true rfl) mw_565 rfl dX11_line_80 rfl ?_
            refine go_iload_n (pc' := 84) hC dX11_line_83 rfl rfl ?_
            obtain ⟨h5, hf⟩ := gd_e hf
            refine go_iald (f := (S.2.2.1 19)) (pc' := 85) hC 19 layX_19 rfl rfl dX11_line_84 (okx_in h5) rfl ?_
            obtain rfl := Option.some.inj hf
            exact go_iret hC hQ dX11_line_85 rfl rfl rfl rfl (fun _ => rfl) rfl rfl
          · have hf := ite_f h6 hf
            by_cases h9 : p2 = (3 : Int32)
            · have hf := ite_t h9 hf
              refine go_tabIn' (v := (3 : Int32)) (tgt := 86) hC dX11_line_18 h9 kt_3 (by decide) (by decide) rfl (by decide) ?_
              refine go_aload_n (pc' := 87) hC dX11_line_86 rfl rfl ?_
              refine go_getq (pc' := 90) hC 0 2 layX_0 rfl rfl inlX11 (Nat.le_of_ble_eq_true rfl) mw_20 rfl dX11_line_87 rfl ?_
              refine go_getq (pc' := 93) hC 16 5 layX_16 rfl rfl inlX2 (Nat.le_of_ble_eq_true rfl) mw_566 rfl dX11_line_90 rfl ?_
              refine go_iload_n (pc' := 94) hC dX11_line_93 rfl rfl ?_
              obtain ⟨h7, hf⟩ := gd_e hf
              refine go_iald (f := (S.2.2.1 20)) (pc' := 95) hC 20 layX_20 rfl rfl dX11_line_94 (okx_in h7) rfl ?_
              refine go_if_ne (tgt := 102) (pc' := 98) hC dX11_line_95 (by decide) rfl (fun h8 => ?_) (fun h8 => ?_)
              · have hf := ite_f h8 hf
                refine go_iconst (pc' := 103) hC dX11_line_102 ki_0 rfl ?_
                obtain rfl := Option.some.inj hf
                exact go_iret hC hQ dX11_line_103 rfl rfl rfl rfl (fun _ => rfl) rfl rfl
              · have hf := ite_t h8 hf
                refine go_iconst (pc' := 99) hC dX11_line_98 ki_1 rfl ?_
                refine go_goto (tgt := 103) hC dX11_line_99 (by decide) ?_
                obtain rfl := Option.some.inj hf
                exact go_iret hC hQ dX11_line_103 rfl rfl rfl rfl (fun _ => rfl) rfl rfl
            · have hf := ite_f h9 hf
              by_cases h11 : p2 = (4 : Int32)
              · have hf := ite_t h11 hf
                refine go_tabIn' (v := (4 : Int32)) (tgt := 104) hC dX11_line_18 h11 kt_4 (by decide) (by decide) rfl (by decide) ?_
                refine go_aload_n (pc' := 105) hC dX11_line_104 rfl rfl ?_
                refine go_getq (pc' := 108) hC 0 2 layX_0 rfl rfl inlX11 (Nat.le_of_ble_eq_true rfl) mw_20 rfl dX11_line_105 rfl ?_
                refine go_getq (pc' := 111) hC 16 6 layX_16 rfl rfl inlX2 (Nat.le_of_ble_eq_true rfl) mw_567 rfl dX11_line_108 rfl ?_
                refine go_iload_n (pc' := 112) hC dX11_line_111 rfl rfl ?_
                obtain ⟨h10, hf⟩ := gd_e hf
                refine go_iald (f := (S.2.2.1 21)) (pc' := 113) hC 21 layX_21 rfl rfl dX11_line_112 (okx_in h10) rfl ?_
                obtain rfl := Option.some.inj hf
                exact go_iret hC hQ dX11_line_113 rfl rfl rfl rfl (fun _ => rfl) rfl rfl
              · have hf := ite_f h11 hf
                by_cases h13 : p2 = (5 : Int32)
                · have hf := ite_t h13 hf
                  refine go_tabIn' (v := (5 : Int32)) (tgt := 114) hC dX11_line_18 h13 kt_5 (by decide) (by decide) rfl (by decide) ?_
                  refine go_aload_n (pc' := 115) hC dX11_line_114 rfl rfl ?_
                  refine go_getq (pc' := 118) hC 0 2 layX_0 rfl rfl inlX11 (Nat.le_of_ble_eq_true rfl) mw_20 rfl dX11_line_115 rfl ?_
                  refine go_aload_n (pc' := 119) hC dX11_line_118 rfl rfl ?_
                  refine go_getq (pc' := 122) hC 0 2 layX_0 rfl rfl inlX11 (Nat.le_of_ble_eq_true rfl) mw_20 rfl dX11_line_119 rfl ?_
                  refine go_getq (pc' := 125) hC 16 12 layX_16 rfl rfl inlX2 (Nat.le_of_ble_eq_true rfl) mw_568 rfl dX11_line_122 rfl ?_
                  refine go_iload_n (pc' := 126) hC dX11_line_125 rfl rfl ?_
                  obtain ⟨o12, ho12, hf⟩ := bd_e hf
                  refine go_callV0 (pc' := 129) (As := [.ref (x_q X 25), .int p1]) (st := []) (st' := [.int o12])    (b := 16) hC dX11_line_126 ⟨mw_569, mw_572, mw_14, yd_yX2_causesNaming, yp_yX2_causesNaming, Nat.le_of_ble_eq_true rfl, Nat.le_of_ble_eq_true rfl, (Nat.le_of_ble_eq_true rfl), (Nat.le_of_ble_eq_true rfl)⟩ mw_570 mw_571 layX_16 rfl rfl rfl (Nat.le_of_ble_eq_true rfl) (c_X2_causesNaming_q16_q25 (x_l X) (x_D X) (x_q X) g (x_cy X) (x_z X) _ p1 o12 ho12) rfl rfl ?_
                  obtain rfl := Option.some.inj hf
                  exact go_iret hC hQ dX11_line_129 rfl rfl rfl rfl (fun _ => rfl) rfl rfl
                · have hf := ite_f h13 hf
                  refine go_tabOut (tgt := 130) hC dX11_line_18 ?_ (by decide) ?_
                  · have e0 := lv_neT h2 kt_0; have e1 := lv_neT h4 kt_1; have e2 := lv_neT h6 kt_2; have e3 := lv_neT h9 kt_3; have e4 := lv_neT h11 kt_4; have e5 := lv_neT h13 kt_5; omega
                  · refine go_iconst (pc' := 131) hC dX11_line_130 ki_m1 rfl ?_
                    obtain rfl := Option.some.inj hf
                    exact go_iret hC hQ dX11_line_131 rfl rfl rfl rfl (fun _ => rfl) rfl rfl
    · have hf := ite_f h14 hf
      refine go_iconst (pc' := 16) hC dX11_line_15 ki_m1 rfl ?_
      obtain rfl := Option.some.inj hf
      exact go_iret hC hQ dX11_line_16 rfl rfl rfl rfl (fun _ => rfl) rfl rfl
abbrev o_X2_keeperOf_q16 : Type := Int32
def f_X2_keeperOf_q16_L2 (S : wd_W) (p1 : Int32) (r2 : (Int32) → (Option o_X2_keeperOf_q16)) (x1 : Int32) : Option o_X2_keeperOf_q16 :=
if (S.1 1607) ≤ x1 then (
some (-1 : Int32)) else (
gd (okx x1 10) <|
if ((S.2.2.1 22) x1.toNatClampNeg) = p1 then (
some x1) else (
r2 (x1 + (1 : Int32))))
def f_X2_keeperOf_q16 (S : wd_W) (p1 : Int32) : Option o_X2_keeperOf_q16 :=
it1 (f_X2_keeperOf_q16_L2 S p1) fuel (0 : Int32)
set_option maxRecDepth 100000 in
set_option maxHeartbeats 4000000 in
theorem c_X2_keeperOf_q16 (l : Launch) (D : va_G) (q g : Nat → Nat) (cy : Nat → ClassId) (z : (Nat → Nat) × (Nat → Nat) × Nat) (S : wd_W) (p1 : Int32) (o : o_X2_keeperOf_q16) (hf : f_X2_keeperOf_q16 S p1 = some o) : MX layX l yX2_keeperOf cX2_keeperOf 3 (some .int) ({ frames := 0, cells := 0, slots := 0, locals := 0 } : Room) D q g cy z [.ref (q 16), .int p1] S false (some (.int o)) (wd_o S [] [] [] [] []) 0 0 := by
  refine mx_of (own := RX2) (lc := [(0, .ref (q 16)), (1, .int p1)]) (by decide +kernel) rfl layX_ok (Nat.le_of_ble_eq_true rfl) rfl ?_
  intro X hXl hXq hXz hC hQ
  subst hXl; subst hXq; subst hXz
  unfold f_X2_keeperOf_q16 at hf
  refine go_iconst (pc' := 1) hC dX2_keeperOf_0 ki_0 rfl ?_
  refine go_istore_n (lc' := [(0, .ref (x_q X 16)), (1, .int p1), (2, .int (0 : Int32))]) (pc' := 2) hC dX2_keeperOf_1 (Nat.le_of_ble_eq_true rfl) rfl rfl ?_
  have l2_6 : ∀ (nn : Nat) (x1 : Int32), it1 (f_X2_keeperOf_q16_L2 S p1) nn x1 = some o → Go X layX S 2 [(0, .ref (x_q X 16)), (1, .int p1), (2, .int x1)] [] g [] [] [] [] [] 0 0 := by
    intro nn
    induction nn with
    | zero =>
      intro x1 hf
      exact none_no hf
    | succ nn ih =>
      intro x1 hf
      have hf : f_X2_keeperOf_q16_L2 S p1 (it1 (f_X2_keeperOf_q16_L2 S p1) nn) x1 = some o := hf
      generalize it1 (f_X2_keeperOf_q16_L2 S p1) nn = r2 at ih hf
      unfold f_X2_keeperOf_q16_L2 at hf
      refine go_iload_n (pc' := 3) hC dX2_keeperOf_2 rfl rfl ?_
      refine go_aload_n (pc' := 4) hC dX2_keeperOf_3 rfl rfl ?_
      refine go_geti (v := (S.1 1607)) (pc' := 7) hC 16 7 layX_16 rfl rfl inlX2 (Nat.le_of_ble_eq_true rfl) mw_310 rfl dX2_keeperOf_4 rfl rfl ?_
      refine go_icmp_ge (tgt := 28) (pc' := 10) hC dX2_keeperOf_7 (by decide) rfl (fun h5 => ?_) (fun h5 => ?_)
      · have hf := ite_t h5 hf
        refine go_iconst (pc' := 29) hC dX2_keeperOf_28 ki_m1 rfl ?_
        obtain rfl := Option.some.inj hf
        exact go_iret hC hQ dX2_keeperOf_29 rfl rfl rfl rfl (fun _ => rfl) rfl rfl
      · have hf := ite_f h5 hf
        refine go_aload_n (pc' := 11) hC dX2_keeperOf_10 rfl rfl ?_
        refine go_getq (pc' := 14) hC 16 8 layX_16 rfl rfl inlX2 (Nat.le_of_ble_eq_true rfl) mw_65 rfl dX2_keeperOf_11 rfl ?_
        refine go_iload_n (pc' := 15) hC dX2_keeperOf_14 rfl rfl ?_
        obtain ⟨h3, hf⟩ := gd_e hf
        refine go_iald (f := (S.2.2.1 22)) (pc' := 16) hC 22 layX_22 rfl rfl dX2_keeperOf_15 (okx_in h3) rfl ?_
        refine go_iload_n (pc' := 17) hC dX2_keeperOf_16 rfl rfl ?_
        refine go_icmp_ne (tgt := 22) (pc' := 20) hC dX2_keeperOf_17 (by decide) rfl (fun h4 => ?_) (fun h4 => ?_)
        · have hf := ite_f h4 hf
          refine go_iinc (lc' := [(0, .ref (x_q X 16)), (1, .int p1), (2, .int (x1 + (1 : Int32)))]) (pc' := 25) hC dX2_keeperOf_22 rfl ki_1 (Nat.le_of_ble_eq_true rfl) rfl rfl ?_
          refine go_goto (tgt := 2) hC dX2_keeperOf_25 (by decide) ?_
          exact ih (x1 + (1 : Int32)) hf
        · have hf := ite_t h4 hf
          refine go_iload_n (pc' := 21) hC dX2_keeperOf_20 rfl rfl ?_
          obtain rfl := Option.some.inj hf
          exact go_iret hC hQ dX2_keeperOf_21 rfl rfl rfl rfl (fun _ => rfl) rfl rfl
  exact l2_6 fuel (0 : Int32) hf
abbrev o_X2_causesNaming_q16_q26 : Type := Int32
def f_X2_causesNaming_q16_q26_L5 (S : wd_W) (p1 : Int32) (r3 : (Int32) → (Int32) → (Option o_X2_causesNaming_q16_q26)) (x1 : Int32) (x2 : Int32) : Option o_X2_causesNaming_q16_q26 :=
if (S.1 1610) ≤ x2 then (
some x1) else (
gd (okx x2 3) <|
lz (x1 ||| (((((S.2.2.1 26) x2.toNatClampNeg) >>> (p1 &&& 31)) &&& (1 : Int32)) <<< (x2 &&& 31))) fun x5 =>
r3 x5 (x2 + (1 : Int32)))
def f_X2_causesNaming_q16_q26 (S : wd_W) (p1 : Int32) : Option o_X2_causesNaming_q16_q26 :=
it2 (f_X2_causesNaming_q16_q26_L5 S p1) fuel (0 : Int32) (0 : Int32)
set_option maxRecDepth 100000 in
set_option maxHeartbeats 4000000 in
theorem c_X2_causesNaming_q16_q26 (l : Launch) (D : va_G) (q g : Nat → Nat) (cy : Nat → ClassId) (z : (Nat → Nat) × (Nat → Nat) × Nat) (S : wd_W) (p1 : Int32) (o : o_X2_causesNaming_q16_q26) (hf : f_X2_causesNaming_q16_q26 S p1 = some o) : MX layX l yX2_causesNaming cX2_causesNaming 5 (some .int) ({ frames := 0, cells := 0, slots := 0, locals := 0 } : Room) D q g cy z [.ref (q 16), .ref (q 26), .int p1] S false (some (.int o)) (wd_o S [] [] [] [] []) 0 0 := by
  refine mx_of (own := RX2) (lc := [(0, .ref (q 16)), (1, .ref (q 26)), (2, .int p1)]) (by decide +kernel) rfl layX_ok (Nat.le_of_ble_eq_true rfl) rfl ?_
  intro X hXl hXq hXz hC hQ
  subst hXl; subst hXq; subst hXz
  unfold f_X2_causesNaming_q16_q26 at hf
  refine go_iconst (pc' := 1) hC dX2_causesNaming_0 ki_0 rfl ?_
  refine go_istore_n (lc' := [(0, .ref (x_q X 16)), (1, .ref (x_q X 26)), (2, .int p1), (3, .int (0 : Int32))]) (pc' := 2) hC dX2_causesNaming_1 (Nat.le_of_ble_eq_true rfl) rfl rfl ?_
  refine go_iconst (pc' := 3) hC dX2_causesNaming_2 ki_0 rfl ?_
  refine go_istore (lc' := [(0, .ref (x_q X 16)), (1, .ref (x_q X 26)), (2, .int p1), (3, .int (0 : Int32)), (4, .int (0 : Int32))]) (pc' := 5) hC dX2_causesNaming_3 (Nat.le_of_ble_eq_true rfl) rfl rfl ?_
  have l5_7 : ∀ (nn : Nat) (x1 : Int32) (x2 : Int32), it2 (f_X2_causesNaming_q16_q26_L5 S p1) nn x1 x2 = some o → Go X layX S 5 [(0, .ref (x_q X 16)), (1, .ref (x_q X 26)), (2, .int p1), (3, .int x1), (4, .int x2)] [] g [] [] [] [] [] 0 0 := by
    intro nn
    induction nn with
    | zero =>
      intro x1 x2 hf
      exact none_no hf
    | succ nn ih =>
      intro x1 x2 hf
      have hf : f_X2_causesNaming_q16_q26_L5 S p1 (it2 (f_X2_causesNaming_q16_q26_L5 S p1) nn) x1 x2 = some o := hf
      generalize it2 (f_X2_causesNaming_q16_q26_L5 S p1) nn = r3 at ih hf
      unfold f_X2_causesNaming_q16_q26_L5 at hf
      refine go_iload (pc' := 7) hC dX2_causesNaming_5 rfl rfl ?_
      refine go_aload_n (pc' := 8) hC dX2_causesNaming_7 rfl rfl ?_
      refine go_geti (v := (S.1 1610)) (pc' := 11) hC 16 10 layX_16 rfl rfl inlX2 (Nat.le_of_ble_eq_true rfl) mw_311 rfl dX2_causesNaming_8 rfl rfl ?_
      refine go_icmp_ge (tgt := 34) (pc' := 14) hC dX2_causesNaming_11 (by decide) rfl (fun h6 => ?_) (fun h6 => ?_)
      · have hf := ite_t h6 hf
        refine go_iload_n (pc' := 35) hC dX2_causesNaming_34 rfl rfl ?_
        obtain rfl := Option.some.inj hf
        exact go_iret hC hQ dX2_causesNaming_35 rfl rfl rfl rfl (fun _ => rfl) rfl rfl
      · have hf := ite_f h6 hf
        refine go_iload_n (pc' := 15) hC dX2_causesNaming_14 rfl rfl ?_
        refine go_aload_n (pc' := 16) hC dX2_causesNaming_15 rfl rfl ?_
        refine go_iload (pc' := 18) hC dX2_causesNaming_16 rfl rfl ?_
        obtain ⟨h4, hf⟩ := gd_e hf
        refine go_iald (f := (S.2.2.1 26)) (pc' := 19) hC 26 layX_26 rfl rfl dX2_causesNaming_18 (okx_in h4) rfl ?_
        refine go_iload_n (pc' := 20) hC dX2_causesNaming_19 rfl rfl ?_
        refine go_ishr (pc' := 21) hC dX2_causesNaming_20 rfl ?_
        refine go_iconst (pc' := 22) hC dX2_causesNaming_21 ki_1 rfl ?_
        refine go_iand (pc' := 23) hC dX2_causesNaming_22 rfl ?_
        refine go_iload (pc' := 25) hC dX2_causesNaming_23 rfl rfl ?_
        refine go_ishl (pc' := 26) hC dX2_causesNaming_25 rfl ?_
        refine go_ior (pc' := 27) hC dX2_causesNaming_26 rfl ?_
        refine go_namei (fun x5 hx => ?_)
        have hf := lz_r hx hf
        clear hx
        refine go_istore_n (lc' := [(0, .ref (x_q X 16)), (1, .ref (x_q X 26)), (2, .int p1), (3, .int x5), (4, .int x2)]) (pc' := 28) hC dX2_causesNaming_27 (Nat.le_of_ble_eq_true rfl) rfl rfl ?_
        refine go_iinc (lc' := [(0, .ref (x_q X 16)), (1, .ref (x_q X 26)), (2, .int p1), (3, .int x5), (4, .int (x2 + (1 : Int32)))]) (pc' := 31) hC dX2_causesNaming_28 rfl ki_1 (Nat.le_of_ble_eq_true rfl) rfl rfl ?_
        refine go_goto (tgt := 5) hC dX2_causesNaming_31 (by decide) ?_
        exact ih x5 (x2 + (1 : Int32)) hf
  exact l5_7 fuel (0 : Int32) (0 : Int32) hf
theorem dX11_place_0 : decode cX11_place 0 = .ok (.iload_n 1, 1) := by decide +kernel
theorem dX11_place_1 : decode cX11_place 1 = .ok (.ifCond .lt 14, 3) := by decide +kernel
theorem dX11_place_4 : decode cX11_place 4 = .ok (.iload_n 1, 1) := by decide +kernel
theorem dX11_place_5 : decode cX11_place 5 = .ok (.aload_n 0, 1) := by decide +kernel
theorem dX11_place_6 : decode cX11_place 6 = .ok (.getfield 25, 3) := by decide +kernel
theorem dX11_place_9 : decode cX11_place 9 = .ok (.getfield 158, 3) := by decide +kernel
theorem dX11_place_12 : decode cX11_place 12 = .ok (.if_icmp .lt 5, 3) := by decide +kernel
theorem dX11_place_15 : decode cX11_place 15 = .ok (.iconst (-1), 1) := by decide +kernel
theorem dX11_place_16 : decode cX11_place 16 = .ok (.ireturn, 1) := by decide +kernel
theorem dX11_place_17 : decode cX11_place 17 = .ok (.aload_n 0, 1) := by decide +kernel
theorem dX11_place_18 : decode cX11_place 18 = .ok (.getfield 25, 3) := by decide +kernel
theorem dX11_place_21 : decode cX11_place 21 = .ok (.iload_n 1, 1) := by decide +kernel
theorem dX11_place_22 : decode cX11_place 22 = .ok (.invokevirtual 161, 3) := by decide +kernel
theorem dX11_place_25 : decode cX11_place 25 = .ok (.istore_n 3, 1) := by decide +kernel
theorem dX11_place_26 : decode cX11_place 26 = .ok (.iload_n 2, 1) := by decide +kernel
theorem dX11_place_27 : decode cX11_place 27 = .ok (.tableswitch 80 0 2 #[25, 45, 64], 25) := by decide +kernel
theorem dX11_place_52 : decode cX11_place 52 = .ok (.iload_n 3, 1) := by decide +kernel
theorem dX11_place_53 : decode cX11_place 53 = .ok (.iconst (-1), 1) := by decide +kernel
theorem dX11_place_54 : decode cX11_place 54 = .ok (.if_icmp .ne 8, 3) := by decide +kernel
theorem dX11_place_57 : decode cX11_place 57 = .ok (.bipush 16, 2) := by decide +kernel
theorem dX11_place_59 : decode cX11_place 59 = .ok (.goto 12, 3) := by decide +kernel
theorem dX11_place_62 : decode cX11_place 62 = .ok (.aload_n 0, 1) := by decide +kernel
theorem dX11_place_63 : decode cX11_place 63 = .ok (.getfield 25, 3) := by decide +kernel
theorem dX11_place_66 : decode cX11_place 66 = .ok (.getfield 165, 3) := by decide +kernel
theorem dX11_place_69 : decode cX11_place 69 = .ok (.iload_n 3, 1) := by decide +kernel
theorem dX11_place_70 : decode cX11_place 70 = .ok (.iaload, 1) := by decide +kernel
theorem dX11_place_71 : decode cX11_place 71 = .ok (.ireturn, 1) := by decide +kernel
theorem dX11_place_72 : decode cX11_place 72 = .ok (.iload_n 3, 1) := by decide +kernel
theorem dX11_place_73 : decode cX11_place 73 = .ok (.iconst (-1), 1) := by decide +kernel
theorem dX11_place_74 : decode cX11_place 74 = .ok (.if_icmp .ne 7, 3) := by decide +kernel
theorem dX11_place_77 : decode cX11_place 77 = .ok (.iconst (-1), 1) := by decide +kernel
theorem dX11_place_78 : decode cX11_place 78 = .ok (.goto 12, 3) := by decide +kernel
theorem dX11_place_81 : decode cX11_place 81 = .ok (.aload_n 0, 1) := by decide +kernel
theorem dX11_place_82 : decode cX11_place 82 = .ok (.getfield 25, 3) := by decide +kernel
theorem dX11_place_85 : decode cX11_place 85 = .ok (.getfield 132, 3) := by decide +kernel
theorem dX11_place_88 : decode cX11_place 88 = .ok (.iload_n 3, 1) := by decide +kernel
theorem dX11_place_89 : decode cX11_place 89 = .ok (.iadd, 1) := by decide +kernel
theorem dX11_place_90 : decode cX11_place 90 = .ok (.ireturn, 1) := by decide +kernel
theorem dX11_place_91 : decode cX11_place 91 = .ok (.aload_n 0, 1) := by decide +kernel
theorem dX11_place_92 : decode cX11_place 92 = .ok (.getfield 25, 3) := by decide +kernel
theorem dX11_place_95 : decode cX11_place 95 = .ok (.aload_n 0, 1) := by decide +kernel
theorem dX11_place_96 : decode cX11_place 96 = .ok (.getfield 25, 3) := by decide +kernel
theorem dX11_place_99 : decode cX11_place 99 = .ok (.getfield 168, 3) := by decide +kernel
theorem dX11_place_102 : decode cX11_place 102 = .ok (.iload_n 1, 1) := by decide +kernel
theorem dX11_place_103 : decode cX11_place 103 = .ok (.invokevirtual 154, 3) := by decide +kernel
theorem dX11_place_106 : decode cX11_place 106 = .ok (.ireturn, 1) := by decide +kernel
theorem dX11_place_107 : decode cX11_place 107 = .ok (.iconst (-1), 1) := by decide +kernel
theorem dX11_place_108 : decode cX11_place 108 = .ok (.ireturn, 1) := by decide +kernel
abbrev o_X11_place : Type := Int32
def f_X11_place (S : wd_W) (p1 : Int32) (p2 : Int32) : Option o_X11_place :=
if p1 < 0 then (
some (-1 : Int32)) else (
if p1 < (S.1 1600) then (
bd (f_X2_keeperOf_q16 (wd_o S [] [] [] [] []) p1) fun o1 =>
if p2 = (0 : Int32) then (
if o1 = (-1 : Int32) then (
some (16 : Int32)) else (
gd (okx o1 10) <|
some ((S.2.2.1 23) o1.toNatClampNeg))) else (
if p2 = (1 : Int32) then (
if o1 = (-1 : Int32) then (
some (-1 : Int32)) else (
some ((S.1 1601) + o1))) else (
if p2 = (2 : Int32) then (
bd (f_X2_causesNaming_q16_q26 (wd_o S [] [] [] [] []) p1) fun o7 =>
some o7) else (
some (-1 : Int32))))) else (
some (-1 : Int32)))
set_option maxRecDepth 100000 in
set_option maxHeartbeats 4000000 in
theorem c_X11_place (l : Launch) (D : va_G) (q g : Nat → Nat) (cy : Nat → ClassId) (z : (Nat → Nat) × (Nat → Nat) × Nat) (S : wd_W) (p1 : Int32) (p2 : Int32) (o : o_X11_place) (hf : f_X11_place S p1 p2 = some o) : MX layX l yX11_place cX11_place 4 (some .int) ({ frames := 1, cells := 0, slots := 0, locals := 24 } : Room) D q g cy z [.ref (q 0), .int p1, .int p2] S false (some (.int o)) (wd_o S [] [] [] [] []) 0 0 := by
  refine mx_of (own := RX11) (lc := [(0, .ref (q 0)), (1, .int p1), (2, .int p2)]) (by decide +kernel) rfl layX_ok (Nat.le_of_ble_eq_true rfl) rfl ?_
  intro X hXl hXq hXz hC hQ
  subst hXl; subst hXq; subst hXz
  unfold f_X11_place at hf
  refine go_iload_n (pc' := 1) hC dX11_place_0 rfl rfl ?_
  refine go_if_lt (tgt := 15) (pc' := 4) hC dX11_place_1 (by decide) rfl (fun h10 => ?_) (fun h10 => ?_)
  · have hf := ite_t h10 hf
    refine go_iconst (pc' := 16) hC dX11_place_15 ki_m1 rfl ?_
    obtain rfl := Option.some.inj hf
    exact go_iret hC hQ dX11_place_16 rfl rfl rfl rfl (fun _ => rfl) rfl rfl
  · have hf := ite_f h10 hf
    refine go_iload_n (pc' := 5) hC dX11_place_4 rfl rfl ?_
    refine go_aload_n (pc' := 6) hC dX11_place_5 rfl rfl ?_
    refine go_getq (pc' := 9) hC 0 2 layX_0 rfl rfl inlX11 (Nat.le_of_ble_eq_true rfl) mw_20 rfl dX11_place_6 rfl ?_
    refine go_geti (v := (S.1 1600)) (pc' := 12) hC 16 0 layX_16 rfl rfl inlX2 (Nat.le_of_ble_eq_true rfl) mw_581 rfl dX11_place_9 rfl rfl ?_
    refine go_icmp_lt (tgt := 17) (pc' := 15) hC dX11_place_12 (by decide) rfl (fun h9 => ?_) (fun h9 => ?_)
    · have hf := ite_t h9 hf
      refine go_aload_n (pc' := 18) hC dX11_place_17 rfl rfl ?_
      refine go_getq (pc' := 21) hC 0 2 layX_0 rfl rfl inlX11 (Nat.le_of_ble_eq_true rfl) mw_20 rfl dX11_place_18 rfl ?_
      refine go_iload_n (pc' := 22) hC dX11_place_21 rfl rfl ?_
      obtain ⟨o1, ho1, hf⟩ := bd_e hf
      refine go_callV0 (pc' := 25) (As := [.int p1]) (st := []) (st' := [.int o1])    (b := 16) hC dX11_place_22 ⟨mw_584, mw_438, mw_14, yd_yX2_keeperOf, yp_yX2_keeperOf, Nat.le_of_ble_eq_true rfl, Nat.le_of_ble_eq_true rfl, (Nat.le_of_ble_eq_true rfl), (Nat.le_of_ble_eq_true rfl)⟩ mw_436 mw_437 layX_16 rfl rfl rfl (Nat.le_of_ble_eq_true rfl) (c_X2_keeperOf_q16 (x_l X) (x_D X) (x_q X) g (x_cy X) (x_z X) _ p1 o1 ho1) rfl rfl ?_
      refine go_istore_n (lc' := [(0, .ref (x_q X 0)), (1, .int p1), (2, .int p2), (3, .int o1)]) (pc' := 26) hC dX11_place_25 (Nat.le_of_ble_eq_true rfl) rfl rfl ?_
      refine go_iload_n (pc' := 27) hC dX11_place_26 rfl rfl ?_
      by_cases h4 : p2 = (0 : Int32)
      · have hf := ite_t h4 hf
        refine go_tabIn' (v := (0 : Int32)) (tgt := 52) hC dX11_place_27 h4 kt_0 (by decide) (by decide) rfl (by decide) ?_
        refine go_iload_n (pc' := 53) hC dX11_place_52 rfl rfl ?_
        refine go_iconst (pc' := 54) hC dX11_place_53 ki_m1 rfl ?_
        refine go_icmp_ne (tgt := 62) (pc' := 57) hC dX11_place_54 (by decide) rfl (fun h3 => ?_) (fun h3 => ?_)
        · have hf := ite_f h3 hf
          refine go_aload_n (pc' := 63) hC dX11_place_62 rfl rfl ?_
          refine go_getq (pc' := 66) hC 0 2 layX_0 rfl rfl inlX11 (Nat.le_of_ble_eq_true rfl) mw_20 rfl dX11_place_63 rfl ?_
          refine go_getq (pc' := 69) hC 16 9 layX_16 rfl rfl inlX2 (Nat.le_of_ble_eq_true rfl) mw_582 rfl dX11_place_66 rfl ?_
          refine go_iload_n (pc' := 70) hC dX11_place_69 rfl rfl ?_
          obtain ⟨h2, hf⟩ := gd_e hf
          refine go_iald (f := (S.2.2.1 23)) (pc' := 71) hC 23 layX_23 rfl rfl dX11_place_70 (okx_in h2) rfl ?_
          obtain rfl := Option.some.inj hf
          exact go_iret hC hQ dX11_place_71 rfl rfl rfl rfl (fun _ => rfl) rfl rfl
        · have hf := ite_t h3 hf
          refine go_bipush (pc' := 59) hC dX11_place_57 kb_16 rfl ?_
          refine go_goto (tgt := 71) hC dX11_place_59 (by decide) ?_
          obtain rfl := Option.some.inj hf
          exact go_iret hC hQ dX11_place_71 rfl rfl rfl rfl (fun _ => rfl) rfl rfl
      · have hf := ite_f h4 hf
        by_cases h6 : p2 = (1 : Int32)
        · have hf := ite_t h6 hf
          refine go_tabIn' (v := (1 : Int32)) (tgt := 72) hC dX11_place_27 h6 kt_1 (by decide) (by decide) rfl (by decide) ?_
          refine go_iload_n (pc' := 73) hC dX11_place_72 rfl rfl ?_
          refine go_iconst (pc' := 74) hC dX11_place_73 ki_m1 rfl ?_
          refine go_icmp_ne (tgt := 81) (pc' := 77) hC dX11_place_74 (by decide) rfl (fun h5 => ?_) (fun h5 => ?_)
          · have hf := ite_f h5 hf
            refine go_aload_n (pc' := 82) hC dX11_place_81 rfl rfl ?_
            refine go_getq (pc' := 85) hC 0 2 layX_0 rfl rfl inlX11 (Nat.le_of_ble_eq_true rfl) mw_20 rfl dX11_place_82 rfl ?_
            refine go_geti (v := (S.1 1601)) (pc' := 88) hC 16 1 layX_16 rfl rfl inlX2 (Nat.le_of_ble_eq_true rfl) mw_562 rfl dX11_place_85 rfl rfl ?_
            refine go_iload_n (pc' := 89) hC dX11_place_88 rfl rfl ?_
            refine go_iadd (pc' := 90) hC dX11_place_89 rfl ?_
            obtain rfl := Option.some.inj hf
            exact go_iret hC hQ dX11_place_90 rfl rfl rfl rfl (fun _ => rfl) rfl rfl
          · have hf := ite_t h5 hf
            refine go_iconst (pc' := 78) hC dX11_place_77 ki_m1 rfl ?_
            refine go_goto (tgt := 90) hC dX11_place_78 (by decide) ?_
            obtain rfl := Option.some.inj hf
            exact go_iret hC hQ dX11_place_90 rfl rfl rfl rfl (fun _ => rfl) rfl rfl
        · have hf := ite_f h6 hf
          by_cases h8 : p2 = (2 : Int32)
          · have hf := ite_t h8 hf
            refine go_tabIn' (v := (2 : Int32)) (tgt := 91) hC dX11_place_27 h8 kt_2 (by decide) (by decide) rfl (by decide) ?_
            refine go_aload_n (pc' := 92) hC dX11_place_91 rfl rfl ?_
            refine go_getq (pc' := 95) hC 0 2 layX_0 rfl rfl inlX11 (Nat.le_of_ble_eq_true rfl) mw_20 rfl dX11_place_92 rfl ?_
            refine go_aload_n (pc' := 96) hC dX11_place_95 rfl rfl ?_
            refine go_getq (pc' := 99) hC 0 2 layX_0 rfl rfl inlX11 (Nat.le_of_ble_eq_true rfl) mw_20 rfl dX11_place_96 rfl ?_
            refine go_getq (pc' := 102) hC 16 13 layX_16 rfl rfl inlX2 (Nat.le_of_ble_eq_true rfl) mw_583 rfl dX11_place_99 rfl ?_
            refine go_iload_n (pc' := 103) hC dX11_place_102 rfl rfl ?_
            obtain ⟨o7, ho7, hf⟩ := bd_e hf
            refine go_callV0 (pc' := 106) (As := [.ref (x_q X 26), .int p1]) (st := []) (st' := [.int o7])    (b := 16) hC dX11_place_103 ⟨mw_569, mw_572, mw_14, yd_yX2_causesNaming, yp_yX2_causesNaming, Nat.le_of_ble_eq_true rfl, Nat.le_of_ble_eq_true rfl, (Nat.le_of_ble_eq_true rfl), (Nat.le_of_ble_eq_true rfl)⟩ mw_570 mw_571 layX_16 rfl rfl rfl (Nat.le_of_ble_eq_true rfl) (c_X2_causesNaming_q16_q26 (x_l X) (x_D X) (x_q X) g (x_cy X) (x_z X) _ p1 o7 ho7) rfl rfl ?_
            obtain rfl := Option.some.inj hf
            exact go_iret hC hQ dX11_place_106 rfl rfl rfl rfl (fun _ => rfl) rfl rfl
          · have hf := ite_f h8 hf
            refine go_tabOut (tgt := 107) hC dX11_place_27 ?_ (by decide) ?_
            · have e0 := lv_neT h4 kt_0; have e1 := lv_neT h6 kt_1; have e2 := lv_neT h8 kt_2; omega
            · refine go_iconst (pc' := 108) hC dX11_place_107 ki_m1 rfl ?_
              obtain rfl := Option.some.inj hf
              exact go_iret hC hQ dX11_place_108 rfl rfl rfl rfl (fun _ => rfl) rfl rfl
    · have hf := ite_f h9 hf
      refine go_iconst (pc' := 16) hC dX11_place_15 ki_m1 rfl ?_
      obtain rfl := Option.some.inj hf
      exact go_iret hC hQ dX11_place_16 rfl rfl rfl rfl (fun _ => rfl) rfl rfl
theorem dX11_isNew_0 : decode cX11_isNew 0 = .ok (.aload_n 0, 1) := by decide +kernel
theorem dX11_isNew_1 : decode cX11_isNew 1 = .ok (.getfield 225, 3) := by decide +kernel
theorem dX11_isNew_4 : decode cX11_isNew 4 = .ok (.iload_n 1, 1) := by decide +kernel
theorem dX11_isNew_5 : decode cX11_isNew 5 = .ok (.iand, 1) := by decide +kernel
theorem dX11_isNew_6 : decode cX11_isNew 6 = .ok (.ifCond .ne 7, 3) := by decide +kernel
theorem dX11_isNew_9 : decode cX11_isNew 9 = .ok (.iconst 1, 1) := by decide +kernel
theorem dX11_isNew_10 : decode cX11_isNew 10 = .ok (.goto 4, 3) := by decide +kernel
theorem dX11_isNew_13 : decode cX11_isNew 13 = .ok (.iconst 0, 1) := by decide +kernel
theorem dX11_isNew_14 : decode cX11_isNew 14 = .ok (.istore_n 2, 1) := by decide +kernel
theorem dX11_isNew_15 : decode cX11_isNew 15 = .ok (.aload_n 0, 1) := by decide +kernel
theorem dX11_isNew_16 : decode cX11_isNew 16 = .ok (.dup, 1) := by decide +kernel
theorem dX11_isNew_17 : decode cX11_isNew 17 = .ok (.getfield 225, 3) := by decide +kernel
theorem dX11_isNew_20 : decode cX11_isNew 20 = .ok (.iload_n 1, 1) := by decide +kernel
theorem dX11_isNew_21 : decode cX11_isNew 21 = .ok (.ior, 1) := by decide +kernel
theorem dX11_isNew_22 : decode cX11_isNew 22 = .ok (.putfield 225, 3) := by decide +kernel
theorem dX11_isNew_25 : decode cX11_isNew 25 = .ok (.iload_n 2, 1) := by decide +kernel
theorem dX11_isNew_26 : decode cX11_isNew 26 = .ok (.ireturn, 1) := by decide +kernel
abbrev o_X11_isNew : Type := Int32 × Int32
def f_X11_isNew (S : wd_W) (p1 : Int32) : Option o_X11_isNew :=
lk (fun x1 =>
lz ((S.1 7) ||| p1) fun x3 =>
gd (okz x1) <|
some (x1, x3)) fun k14_2 =>
if ((S.1 7) &&& p1) = 0 then (
k14_2 (1 : Int32)) else (
k14_2 (0 : Int32))
set_option maxRecDepth 100000 in
set_option maxHeartbeats 4000000 in
theorem c_X11_isNew (l : Launch) (D : va_G) (q g : Nat → Nat) (cy : Nat → ClassId) (z : (Nat → Nat) × (Nat → Nat) × Nat) (S : wd_W) (p1 : Int32) (o : o_X11_isNew) (hf : f_X11_isNew S p1 = some o) : MX layX l yX11_isNew cX11_isNew 3 (some .boolean) ({ frames := 0, cells := 0, slots := 0, locals := 0 } : Room) D q g cy z [.ref (q 0), .int p1] S false (some (.int o.1)) (wd_o S [(7, o.2)] [] [] [] []) 0 0 := by
  refine mx_of (own := RX11) (lc := [(0, .ref (q 0)), (1, .int p1)]) (by decide +kernel) rfl layX_ok (Nat.le_of_ble_eq_true rfl) rfl ?_
  intro X hXl hXq hXz hC hQ
  subst hXl; subst hXq; subst hXz
  unfold f_X11_isNew at hf
  refine go_keys (L1 := [(7, (S.1 7))]) (L2 := []) (L3 := []) (L4 := []) (L5 := []) [7] [] [] [] [] rfl rfl rfl rfl rfl ?_
  refine go_aload_n (pc' := 1) hC dX11_isNew_0 rfl rfl ?_
  refine go_geti (v := (S.1 7)) (pc' := 4) hC 0 7 layX_0 rfl rfl inlX11 (Nat.le_of_ble_eq_true rfl) mw_483 rfl dX11_isNew_1 rfl rfl ?_
  refine go_iload_n (pc' := 5) hC dX11_isNew_4 rfl rfl ?_
  refine go_iand (pc' := 6) hC dX11_isNew_5 rfl ?_
  obtain ⟨k14_2, hk14_2, hf⟩ := lk_e1 hf
  have jk14_2 : ∀ (x1 : Int32), k14_2 x1 = some o → Go X layX S 14 [(0, .ref (x_q X 0)), (1, .int p1)] [.int x1] g [(7, (S.1 7))] [] [] [] [] 0 0 := by
    intro x1 hf
    have hf := hk14_2 x1 hf
    clear hk14_2
    refine go_istore_n (lc' := [(0, .ref (x_q X 0)), (1, .int p1), (2, .int x1)]) (pc' := 15) hC dX11_isNew_14 (Nat.le_of_ble_eq_true rfl) rfl rfl ?_
    refine go_aload_n (pc' := 16) hC dX11_isNew_15 rfl rfl ?_
    refine go_dup (pc' := 17) hC dX11_isNew_16 rfl rfl ?_
    refine go_geti (v := (S.1 7)) (pc' := 20) hC 0 7 layX_0 rfl rfl inlX11 (Nat.le_of_ble_eq_true rfl) mw_483 rfl dX11_isNew_17 rfl rfl ?_
    refine go_iload_n (pc' := 21) hC dX11_isNew_20 rfl rfl ?_
    refine go_ior (pc' := 22) hC dX11_isNew_21 rfl ?_
    refine go_namei (fun x3 hx => ?_)
    have hf := lz_r hx hf
    clear hx
    refine go_puti (L1' := [(7, x3)]) (pc' := 25) hC 0 7 layX_0 rfl rfl inlX11 tyX11_ok nmX11 (Nat.le_of_ble_eq_true rfl) mw_483 rfl rfl rfl rfl dX11_isNew_22 rfl rfl rfl ?_
    refine go_iload_n (pc' := 26) hC dX11_isNew_25 rfl rfl ?_
    obtain ⟨h4, hf⟩ := gd_e hf
    obtain rfl := Option.some.inj hf
    exact go_iret hC hQ dX11_isNew_26 rfl (okz_n h4) rfl rfl (fun _ => rfl) rfl rfl
  clear hk14_2
  refine go_if_ne (tgt := 13) (pc' := 9) hC dX11_isNew_6 (by decide) rfl (fun h5 => ?_) (fun h5 => ?_)
  · have hf := ite_f h5 hf
    refine go_iconst (pc' := 14) hC dX11_isNew_13 ki_0 rfl ?_
    exact jk14_2 (0 : Int32) hf
  · have hf := ite_t h5 hf
    refine go_iconst (pc' := 10) hC dX11_isNew_9 ki_1 rfl ?_
    refine go_goto (tgt := 14) hC dX11_isNew_10 (by decide) ?_
    exact jk14_2 (1 : Int32) hf
theorem dX7_neededPlaces_0 : decode cX7_neededPlaces 0 = .ok (.aload_n 0, 1) := by decide +kernel
theorem dX7_neededPlaces_1 : decode cX7_neededPlaces 1 = .ok (.getfield 27, 3) := by decide +kernel
theorem dX7_neededPlaces_4 : decode cX7_neededPlaces 4 = .ok (.getfield 61, 3) := by decide +kernel
theorem dX7_neededPlaces_7 : decode cX7_neededPlaces 7 = .ok (.lookupswitch 40 #[(1, 25), (2, 30)], 25) := by decide +kernel
theorem dX7_neededPlaces_32 : decode cX7_neededPlaces 32 = .ok (.aload_n 0, 1) := by decide +kernel
theorem dX7_neededPlaces_33 : decode cX7_neededPlaces 33 = .ok (.getfield 42, 3) := by decide +kernel
theorem dX7_neededPlaces_36 : decode cX7_neededPlaces 36 = .ok (.ireturn, 1) := by decide +kernel
theorem dX7_neededPlaces_37 : decode cX7_neededPlaces 37 = .ok (.iconst 1, 1) := by decide +kernel
theorem dX7_neededPlaces_38 : decode cX7_neededPlaces 38 = .ok (.aload_n 0, 1) := by decide +kernel
theorem dX7_neededPlaces_39 : decode cX7_neededPlaces 39 = .ok (.getfield 27, 3) := by decide +kernel
theorem dX7_neededPlaces_42 : decode cX7_neededPlaces 42 = .ok (.getfield 64, 3) := by decide +kernel
theorem dX7_neededPlaces_45 : decode cX7_neededPlaces 45 = .ok (.ishl, 1) := by decide +kernel
theorem dX7_neededPlaces_46 : decode cX7_neededPlaces 46 = .ok (.ireturn, 1) := by decide +kernel
theorem dX7_neededPlaces_47 : decode cX7_neededPlaces 47 = .ok (.iconst 1, 1) := by decide +kernel
theorem dX7_neededPlaces_48 : decode cX7_neededPlaces 48 = .ok (.aload_n 0, 1) := by decide +kernel
theorem dX7_neededPlaces_49 : decode cX7_neededPlaces 49 = .ok (.getfield 27, 3) := by decide +kernel
theorem dX7_neededPlaces_52 : decode cX7_neededPlaces 52 = .ok (.getfield 64, 3) := by decide +kernel
theorem dX7_neededPlaces_55 : decode cX7_neededPlaces 55 = .ok (.ishl, 1) := by decide +kernel
theorem dX7_neededPlaces_56 : decode cX7_neededPlaces 56 = .ok (.iconst 1, 1) := by decide +kernel
theorem dX7_neededPlaces_57 : decode cX7_neededPlaces 57 = .ok (.aload_n 0, 1) := by decide +kernel
theorem dX7_neededPlaces_58 : decode cX7_neededPlaces 58 = .ok (.getfield 27, 3) := by decide +kernel
theorem dX7_neededPlaces_61 : decode cX7_neededPlaces 61 = .ok (.getfield 67, 3) := by decide +kernel
theorem dX7_neededPlaces_64 : decode cX7_neededPlaces 64 = .ok (.ishl, 1) := by decide +kernel
theorem dX7_neededPlaces_65 : decode cX7_neededPlaces 65 = .ok (.ior, 1) := by decide +kernel
theorem dX7_neededPlaces_66 : decode cX7_neededPlaces 66 = .ok (.ireturn, 1) := by decide +kernel
abbrev o_X7_neededPlaces_q111 : Type := Int32
def f_X7_neededPlaces_q111 (S : wd_W) : Option o_X7_neededPlaces_q111 :=
if (S.1 1614) = (1 : Int32) then (
some (S.1 11101)) else (
if (S.1 1614) = (2 : Int32) then (
some ((1 : Int32) <<< ((S.1 1616) &&& 31))) else (
some (((1 : Int32) <<< ((S.1 1616) &&& 31)) ||| ((1 : Int32) <<< ((S.1 1617) &&& 31)))))
set_option maxRecDepth 100000 in
set_option maxHeartbeats 4000000 in
theorem c_X7_neededPlaces_q111 (l : Launch) (D : va_G) (q g : Nat → Nat) (cy : Nat → ClassId) (z : (Nat → Nat) × (Nat → Nat) × Nat) (S : wd_W) (o : o_X7_neededPlaces_q111) (hf : f_X7_neededPlaces_q111 S = some o) : MX layX l yX7_neededPlaces cX7_neededPlaces 1 (some .int) ({ frames := 0, cells := 0, slots := 0, locals := 0 } : Room) D q g cy z [.ref (q 111)] S false (some (.int o)) (wd_o S [] [] [] [] []) 0 0 := by
  refine mx_of (own := RX7) (lc := [(0, .ref (q 111))]) (by decide +kernel) rfl layX_ok (Nat.le_of_ble_eq_true rfl) rfl ?_
  intro X hXl hXq hXz hC hQ
  subst hXl; subst hXq; subst hXz
  unfold f_X7_neededPlaces_q111 at hf
  refine go_aload_n (pc' := 1) hC dX7_neededPlaces_0 rfl rfl ?_
  refine go_getq (pc' := 4) hC 111 4 layX_111 rfl rfl inlX7 (Nat.le_of_ble_eq_true rfl) mw_115 rfl dX7_neededPlaces_1 rfl ?_
  refine go_geti (v := (S.1 1614)) (pc' := 7) hC 16 14 layX_16 rfl rfl inlX2 (Nat.le_of_ble_eq_true rfl) mw_630 rfl dX7_neededPlaces_4 rfl rfl ?_
  by_cases h1 : (S.1 1614) = (1 : Int32)
  · have hf := ite_t h1 hf
    refine go_lkIn' (v := (1 : Int32)) (tgt := 32) hC dX7_neededPlaces_7 h1 kt_1 (by decide) rfl (by decide) ?_
    refine go_aload_n (pc' := 33) hC dX7_neededPlaces_32 rfl rfl ?_
    refine go_geti (v := (S.1 11101)) (pc' := 36) hC 111 1 layX_111 rfl rfl inlX7 (Nat.le_of_ble_eq_true rfl) mw_621 rfl dX7_neededPlaces_33 rfl rfl ?_
    obtain rfl := Option.some.inj hf
    exact go_iret hC hQ dX7_neededPlaces_36 rfl rfl rfl rfl (fun _ => rfl) rfl rfl
  · have hf := ite_f h1 hf
    by_cases h2 : (S.1 1614) = (2 : Int32)
    · have hf := ite_t h2 hf
      refine go_lkIn' (v := (2 : Int32)) (tgt := 37) hC dX7_neededPlaces_7 h2 kt_2 (by decide) rfl (by decide) ?_
      refine go_iconst (pc' := 38) hC dX7_neededPlaces_37 ki_1 rfl ?_
      refine go_aload_n (pc' := 39) hC dX7_neededPlaces_38 rfl rfl ?_
      refine go_getq (pc' := 42) hC 111 4 layX_111 rfl rfl inlX7 (Nat.le_of_ble_eq_true rfl) mw_115 rfl dX7_neededPlaces_39 rfl ?_
      refine go_geti (v := (S.1 1616)) (pc' := 45) hC 16 16 layX_16 rfl rfl inlX2 (Nat.le_of_ble_eq_true rfl) mw_631 rfl dX7_neededPlaces_42 rfl rfl ?_
      refine go_ishl (pc' := 46) hC dX7_neededPlaces_45 rfl ?_
      obtain rfl := Option.some.inj hf
      exact go_iret hC hQ dX7_neededPlaces_46 rfl rfl rfl rfl (fun _ => rfl) rfl rfl
    · have hf := ite_f h2 hf
      refine go_lookup (tgt := 47) (off := 40) hC dX7_neededPlaces_7 (by decide) ?_ (by decide) ?_
      · show Op.lookupswitch.offset [(1, 25), (2, 30)] 40 _ = _
        rw [lv_osw h1 kt_1, lv_osw h2 kt_2]; rfl
      · refine go_iconst (pc' := 48) hC dX7_neededPlaces_47 ki_1 rfl ?_
        refine go_aload_n (pc' := 49) hC dX7_neededPlaces_48 rfl rfl ?_
        refine go_getq (pc' := 52) hC 111 4 layX_111 rfl rfl inlX7 (Nat.le_of_ble_eq_true rfl) mw_115 rfl dX7_neededPlaces_49 rfl ?_
        refine go_geti (v := (S.1 1616)) (pc' := 55) hC 16 16 layX_16 rfl rfl inlX2 (Nat.le_of_ble_eq_true rfl) mw_631 rfl dX7_neededPlaces_52 rfl rfl ?_
        refine go_ishl (pc' := 56) hC dX7_neededPlaces_55 rfl ?_
        refine go_iconst (pc' := 57) hC dX7_neededPlaces_56 ki_1 rfl ?_
        refine go_aload_n (pc' := 58) hC dX7_neededPlaces_57 rfl rfl ?_
        refine go_getq (pc' := 61) hC 111 4 layX_111 rfl rfl inlX7 (Nat.le_of_ble_eq_true rfl) mw_115 rfl dX7_neededPlaces_58 rfl ?_
        refine go_geti (v := (S.1 1617)) (pc' := 64) hC 16 17 layX_16 rfl rfl inlX2 (Nat.le_of_ble_eq_true rfl) mw_632 rfl dX7_neededPlaces_61 rfl rfl ?_
        refine go_ishl (pc' := 65) hC dX7_neededPlaces_64 rfl ?_
        refine go_ior (pc' := 66) hC dX7_neededPlaces_65 rfl ?_
        obtain rfl := Option.some.inj hf
        exact go_iret hC hQ dX7_neededPlaces_66 rfl rfl rfl rfl (fun _ => rfl) rfl rfl
theorem dX7_follow_0 : decode cX7_follow 0 = .ok (.aload_n 0, 1) := by decide +kernel
theorem dX7_follow_1 : decode cX7_follow 1 = .ok (.aload_n 0, 1) := by decide +kernel
theorem dX7_follow_2 : decode cX7_follow 2 = .ok (.getfield 27, 3) := by decide +kernel
theorem dX7_follow_5 : decode cX7_follow 5 = .ok (.getfield 31, 3) := by decide +kernel
theorem dX7_follow_8 : decode cX7_follow 8 = .ok (.putfield 37, 3) := by decide +kernel
theorem dX7_follow_11 : decode cX7_follow 11 = .ok (.aload_n 0, 1) := by decide +kernel
theorem dX7_follow_12 : decode cX7_follow 12 = .ok (.aload_n 0, 1) := by decide +kernel
theorem dX7_follow_13 : decode cX7_follow 13 = .ok (.getfield 27, 3) := by decide +kernel
theorem dX7_follow_16 : decode cX7_follow 16 = .ok (.getfield 38, 3) := by decide +kernel
theorem dX7_follow_19 : decode cX7_follow 19 = .ok (.putfield 41, 3) := by decide +kernel
theorem dX7_follow_22 : decode cX7_follow 22 = .ok (.aload_n 0, 1) := by decide +kernel
theorem dX7_follow_23 : decode cX7_follow 23 = .ok (.iconst 1, 1) := by decide +kernel
theorem dX7_follow_24 : decode cX7_follow 24 = .ok (.aload_n 0, 1) := by decide +kernel
theorem dX7_follow_25 : decode cX7_follow 25 = .ok (.getfield 37, 3) := by decide +kernel
theorem dX7_follow_28 : decode cX7_follow 28 = .ok (.ishl, 1) := by decide +kernel
theorem dX7_follow_29 : decode cX7_follow 29 = .ok (.iconst 1, 1) := by decide +kernel
theorem dX7_follow_30 : decode cX7_follow 30 = .ok (.isub, 1) := by decide +kernel
theorem dX7_follow_31 : decode cX7_follow 31 = .ok (.putfield 42, 3) := by decide +kernel
theorem dX7_follow_34 : decode cX7_follow 34 = .ok (.aload_n 0, 1) := by decide +kernel
theorem dX7_follow_35 : decode cX7_follow 35 = .ok (.aload_n 0, 1) := by decide +kernel
theorem dX7_follow_36 : decode cX7_follow 36 = .ok (.invokevirtual 45, 3) := by decide +kernel
theorem dX7_follow_39 : decode cX7_follow 39 = .ok (.putfield 49, 3) := by decide +kernel
theorem dX7_follow_42 : decode cX7_follow 42 = .ok (.iconst 0, 1) := by decide +kernel
theorem dX7_follow_43 : decode cX7_follow 43 = .ok (.istore_n 1, 1) := by decide +kernel
theorem dX7_follow_44 : decode cX7_follow 44 = .ok (.iload_n 1, 1) := by decide +kernel
theorem dX7_follow_45 : decode cX7_follow 45 = .ok (.aload_n 0, 1) := by decide +kernel
theorem dX7_follow_46 : decode cX7_follow 46 = .ok (.getfield 41, 3) := by decide +kernel
theorem dX7_follow_49 : decode cX7_follow 49 = .ok (.if_icmp .ge 92, 3) := by decide +kernel
theorem dX7_follow_52 : decode cX7_follow 52 = .ok (.iconst 1, 1) := by decide +kernel
theorem dX7_follow_53 : decode cX7_follow 53 = .ok (.aload_n 0, 1) := by decide +kernel
theorem dX7_follow_54 : decode cX7_follow 54 = .ok (.getfield 27, 3) := by decide +kernel
theorem dX7_follow_57 : decode cX7_follow 57 = .ok (.getfield 52, 3) := by decide +kernel
theorem dX7_follow_60 : decode cX7_follow 60 = .ok (.iload_n 1, 1) := by decide +kernel
theorem dX7_follow_61 : decode cX7_follow 61 = .ok (.iaload, 1) := by decide +kernel
theorem dX7_follow_62 : decode cX7_follow 62 = .ok (.ishl, 1) := by decide +kernel
theorem dX7_follow_63 : decode cX7_follow 63 = .ok (.istore_n 2, 1) := by decide +kernel
theorem dX7_follow_64 : decode cX7_follow 64 = .ok (.iconst 1, 1) := by decide +kernel
theorem dX7_follow_65 : decode cX7_follow 65 = .ok (.aload_n 0, 1) := by decide +kernel
theorem dX7_follow_66 : decode cX7_follow 66 = .ok (.getfield 27, 3) := by decide +kernel
theorem dX7_follow_69 : decode cX7_follow 69 = .ok (.getfield 55, 3) := by decide +kernel
theorem dX7_follow_72 : decode cX7_follow 72 = .ok (.iload_n 1, 1) := by decide +kernel
theorem dX7_follow_73 : decode cX7_follow 73 = .ok (.iaload, 1) := by decide +kernel
theorem dX7_follow_74 : decode cX7_follow 74 = .ok (.ishl, 1) := by decide +kernel
theorem dX7_follow_75 : decode cX7_follow 75 = .ok (.istore_n 3, 1) := by decide +kernel
theorem dX7_follow_76 : decode cX7_follow 76 = .ok (.aload_n 0, 1) := by decide +kernel
theorem dX7_follow_77 : decode cX7_follow 77 = .ok (.getfield 9, 3) := by decide +kernel
theorem dX7_follow_80 : decode cX7_follow 80 = .ok (.iload_n 1, 1) := by decide +kernel
theorem dX7_follow_81 : decode cX7_follow 81 = .ok (.iload_n 2, 1) := by decide +kernel
theorem dX7_follow_82 : decode cX7_follow 82 = .ok (.iload_n 3, 1) := by decide +kernel
theorem dX7_follow_83 : decode cX7_follow 83 = .ok (.ior, 1) := by decide +kernel
theorem dX7_follow_84 : decode cX7_follow 84 = .ok (.iastore, 1) := by decide +kernel
theorem dX7_follow_85 : decode cX7_follow 85 = .ok (.aload_n 0, 1) := by decide +kernel
theorem dX7_follow_86 : decode cX7_follow 86 = .ok (.getfield 15, 3) := by decide +kernel
theorem dX7_follow_89 : decode cX7_follow 89 = .ok (.iload_n 1, 1) := by decide +kernel
theorem dX7_follow_90 : decode cX7_follow 90 = .ok (.aload_n 0, 1) := by decide +kernel
theorem dX7_follow_91 : decode cX7_follow 91 = .ok (.getfield 27, 3) := by decide +kernel
theorem dX7_follow_94 : decode cX7_follow 94 = .ok (.getfield 58, 3) := by decide +kernel
theorem dX7_follow_97 : decode cX7_follow 97 = .ok (.iload_n 1, 1) := by decide +kernel
theorem dX7_follow_98 : decode cX7_follow 98 = .ok (.iaload, 1) := by decide +kernel
theorem dX7_follow_99 : decode cX7_follow 99 = .ok (.ifCond .ne 9, 3) := by decide +kernel
theorem dX7_follow_102 : decode cX7_follow 102 = .ok (.iload_n 2, 1) := by decide +kernel
theorem dX7_follow_103 : decode cX7_follow 103 = .ok (.iload_n 3, 1) := by decide +kernel
theorem dX7_follow_104 : decode cX7_follow 104 = .ok (.ior, 1) := by decide +kernel
theorem dX7_follow_105 : decode cX7_follow 105 = .ok (.goto 4, 3) := by decide +kernel
theorem dX7_follow_108 : decode cX7_follow 108 = .ok (.iload_n 2, 1) := by decide +kernel
theorem dX7_follow_109 : decode cX7_follow 109 = .ok (.iastore, 1) := by decide +kernel
theorem dX7_follow_110 : decode cX7_follow 110 = .ok (.aload_n 0, 1) := by decide +kernel
theorem dX7_follow_111 : decode cX7_follow 111 = .ok (.getfield 18, 3) := by decide +kernel
theorem dX7_follow_114 : decode cX7_follow 114 = .ok (.iload_n 1, 1) := by decide +kernel
theorem dX7_follow_115 : decode cX7_follow 115 = .ok (.aload_n 0, 1) := by decide +kernel
theorem dX7_follow_116 : decode cX7_follow 116 = .ok (.getfield 27, 3) := by decide +kernel
theorem dX7_follow_119 : decode cX7_follow 119 = .ok (.getfield 58, 3) := by decide +kernel
theorem dX7_follow_122 : decode cX7_follow 122 = .ok (.iload_n 1, 1) := by decide +kernel
theorem dX7_follow_123 : decode cX7_follow 123 = .ok (.iaload, 1) := by decide +kernel
theorem dX7_follow_124 : decode cX7_follow 124 = .ok (.ifCond .ne 9, 3) := by decide +kernel
theorem dX7_follow_127 : decode cX7_follow 127 = .ok (.iload_n 2, 1) := by decide +kernel
theorem dX7_follow_128 : decode cX7_follow 128 = .ok (.iload_n 3, 1) := by decide +kernel
theorem dX7_follow_129 : decode cX7_follow 129 = .ok (.ior, 1) := by decide +kernel
theorem dX7_follow_130 : decode cX7_follow 130 = .ok (.goto 4, 3) := by decide +kernel
theorem dX7_follow_133 : decode cX7_follow 133 = .ok (.iload_n 3, 1) := by decide +kernel
theorem dX7_follow_134 : decode cX7_follow 134 = .ok (.iastore, 1) := by decide +kernel
theorem dX7_follow_135 : decode cX7_follow 135 = .ok (.iinc 1 1, 3) := by decide +kernel
theorem dX7_follow_138 : decode cX7_follow 138 = .ok (.goto (-94), 3) := by decide +kernel
theorem dX7_follow_141 : decode cX7_follow 141 = .ok (.return_, 1) := by decide +kernel
abbrev o_X7_follow_q111 : Type := Int32 × Int32 × Int32 × Int32 × (Nat → Int32) × (Nat → Int32) × (Nat → Int32)
def f_X7_follow_q111_L44 (S : wd_W) (x1 : Int32) (x2 : Int32) (x3 : Int32) (o4 : o_X7_neededPlaces_q111) (r9 : (Int32) → (Nat → Int32) → (Nat → Int32) → (Nat → Int32) → (Option o_X7_follow_q111)) (x5 : Int32) (a6 : Nat → Int32) (a7 : Nat → Int32) (a8 : Nat → Int32) : Option o_X7_follow_q111 :=
if x2 ≤ x5 then (
some (x2, x3, o4, x1, a6, a7, a8)) else (
gd (okx x5 13) <|
lz ((1 : Int32) <<< (((S.2.2.1 17) x5.toNatClampNeg) &&& 31)) fun x11 =>
gd (okx x5 13) <|
lz ((1 : Int32) <<< (((S.2.2.1 18) x5.toNatClampNeg) &&& 31)) fun x13 =>
lz (x11 ||| x13) fun x14 =>
gd (okx x5 13) <|
lz (upd a6 x5.toNatClampNeg x14) fun a16 =>
gd (okx x5 13) <|
lk (fun x18 x19 =>
gd (okx x19 13) <|
lz (upd a7 x19.toNatClampNeg x18) fun a22 =>
gd (okx x5 13) <|
lk (fun x24 x25 =>
gd (okx x25 13) <|
lz (upd a8 x25.toNatClampNeg x24) fun a28 =>
r9 (x5 + (1 : Int32)) a16 a22 a28) fun k134_26 =>
if ((S.2.2.1 20) x5.toNatClampNeg) = 0 then (
k134_26 (x11 ||| x13) x5) else (
k134_26 x13 x5)) fun k109_20 =>
if ((S.2.2.1 20) x5.toNatClampNeg) = 0 then (
k109_20 (x11 ||| x13) x5) else (
k109_20 x11 x5))
def f_X7_follow_q111 (S : wd_W) : Option o_X7_follow_q111 :=
lz ((S.1 1600)) fun x1 =>
lz ((S.1 1601)) fun x2 =>
lz (((1 : Int32) <<< (x1 &&& 31)) - (1 : Int32)) fun x3 =>
bd (f_X7_neededPlaces_q111 (wd_o S [(11100, x2), (11101, x3), (11102, (S.1 11102)), (11103, x1)] [] [(112, (S.2.2.1 112)), (113, (S.2.2.1 113)), (114, (S.2.2.1 114))] [] [])) fun o4 =>
it4 (f_X7_follow_q111_L44 S x1 x2 x3 o4) fuel (0 : Int32) (S.2.2.1 112) (S.2.2.1 113) (S.2.2.1 114)
set_option maxRecDepth 100000 in
set_option maxHeartbeats 4000000 in
theorem c_X7_follow_q111 (l : Launch) (D : va_G) (q g : Nat → Nat) (cy : Nat → ClassId) (z : (Nat → Nat) × (Nat → Nat) × Nat) (S : wd_W) (o : o_X7_follow_q111) (hf : f_X7_follow_q111 S = some o) : MX layX l yX7_follow cX7_follow 4 none ({ frames := 1, cells := 0, slots := 0, locals := 20 } : Room) D q g cy z [.ref (q 111)] S false (none) (wd_o S [(11100, o.1), (11101, o.2.1), (11102, o.2.2.1), (11103, o.2.2.2.1)] [] [(112, o.2.2.2.2.1), (113, o.2.2.2.2.2.1), (114, o.2.2.2.2.2.2)] [] []) 0 0 := by
  refine mx_of (own := RX7) (lc := [(0, .ref (q 111))]) (by decide +kernel) rfl layX_ok (Nat.le_of_ble_eq_true rfl) rfl ?_
  intro X hXl hXq hXz hC hQ
  subst hXl; subst hXq; subst hXz
  unfold f_X7_follow_q111 at hf
  refine go_keys (L1 := [(11100, (S.1 11100)), (11101, (S.1 11101)), (11102, (S.1 11102)), (11103, (S.1 11103))]) (L2 := []) (L3 := [(112, (S.2.2.1 112)), (113, (S.2.2.1 113)), (114, (S.2.2.1 114))]) (L4 := []) (L5 := []) [11100, 11101, 11102, 11103] [] [112, 113, 114] [] [] rfl rfl rfl rfl rfl ?_
  refine go_aload_n (pc' := 1) hC dX7_follow_0 rfl rfl ?_
  refine go_aload_n (pc' := 2) hC dX7_follow_1 rfl rfl ?_
  refine go_getq (pc' := 5) hC 111 4 layX_111 rfl rfl inlX7 (Nat.le_of_ble_eq_true rfl) mw_115 rfl dX7_follow_2 rfl ?_
  refine go_geti (v := (S.1 1600)) (pc' := 8) hC 16 0 layX_16 rfl rfl inlX2 (Nat.le_of_ble_eq_true rfl) mw_617 rfl dX7_follow_5 rfl rfl ?_
  refine go_namei (fun x1 hx => ?_)
  have hf := lz_r hx hf
  clear hx
  refine go_puti (L1' := [(11100, (S.1 11100)), (11101, (S.1 11101)), (11102, (S.1 11102)), (11103, x1)]) (pc' := 11) hC 111 3 layX_111 rfl rfl inlX7 tyX7_ok nmX7 (Nat.le_of_ble_eq_true rfl) mw_618 rfl rfl rfl rfl dX7_follow_8 rfl rfl rfl ?_
  refine go_aload_n (pc' := 12) hC dX7_follow_11 rfl rfl ?_
  refine go_aload_n (pc' := 13) hC dX7_follow_12 rfl rfl ?_
  refine go_getq (pc' := 16) hC 111 4 layX_111 rfl rfl inlX7 (Nat.le_of_ble_eq_true rfl) mw_115 rfl dX7_follow_13 rfl ?_
  refine go_geti (v := (S.1 1601)) (pc' := 19) hC 16 1 layX_16 rfl rfl inlX2 (Nat.le_of_ble_eq_true rfl) mw_619 rfl dX7_follow_16 rfl rfl ?_
  refine go_namei (fun x2 hx => ?_)
  have hf := lz_r hx hf
  clear hx
  refine go_puti (L1' := [(11100, x2), (11101, (S.1 11101)), (11102, (S.1 11102)), (11103, x1)]) (pc' := 22) hC 111 0 layX_111 rfl rfl inlX7 tyX7_ok nmX7 (Nat.le_of_ble_eq_true rfl) mw_620 rfl rfl rfl rfl dX7_follow_19 rfl rfl rfl ?_
  refine go_aload_n (pc' := 23) hC dX7_follow_22 rfl rfl ?_
  refine go_iconst (pc' := 24) hC dX7_follow_23 ki_1 rfl ?_
  refine go_aload_n (pc' := 25) hC dX7_follow_24 rfl rfl ?_
  refine go_geti (v := x1) (pc' := 28) hC 111 3 layX_111 rfl rfl inlX7 (Nat.le_of_ble_eq_true rfl) mw_618 rfl dX7_follow_25 rfl rfl ?_
  refine go_ishl (pc' := 29) hC dX7_follow_28 rfl ?_
  refine go_iconst (pc' := 30) hC dX7_follow_29 ki_1 rfl ?_
  refine go_isub (pc' := 31) hC dX7_follow_30 rfl ?_
  refine go_namei (fun x3 hx => ?_)
  have hf := lz_r hx hf
  clear hx
  refine go_puti (L1' := [(11100, x2), (11101, x3), (11102, (S.1 11102)), (11103, x1)]) (pc' := 34) hC 111 1 layX_111 rfl rfl inlX7 tyX7_ok nmX7 (Nat.le_of_ble_eq_true rfl) mw_621 rfl rfl rfl rfl dX7_follow_31 rfl rfl rfl ?_
  refine go_aload_n (pc' := 35) hC dX7_follow_34 rfl rfl ?_
  refine go_aload_n (pc' := 36) hC dX7_follow_35 rfl rfl ?_
  obtain ⟨o4, ho4, hf⟩ := bd_e hf
  refine go_callV0 (pc' := 39) (As := []) (st := [.ref (x_q X 111)]) (st' := [.int o4, .ref (x_q X 111)])    (b := 111) hC dX7_follow_36 ⟨mw_626, mw_629, mw_99, yd_yX7_neededPlaces, yp_yX7_neededPlaces, Nat.le_of_ble_eq_true rfl, Nat.le_of_ble_eq_true rfl, (Nat.le_of_ble_eq_true rfl), (Nat.le_of_ble_eq_true rfl)⟩ mw_627 mw_628 layX_111 rfl rfl rfl (Nat.le_of_ble_eq_true rfl) (c_X7_neededPlaces_q111 (x_l X) (x_D X) (x_q X) g (x_cy X) (x_z X) _  o4 ho4) rfl rfl ?_
  refine go_puti (L1' := [(11100, x2), (11101, x3), (11102, o4), (11103, x1)]) (pc' := 42) hC 111 2 layX_111 rfl rfl inlX7 tyX7_ok nmX7 (Nat.le_of_ble_eq_true rfl) mw_622 rfl rfl rfl rfl dX7_follow_39 rfl rfl rfl ?_
  refine go_iconst (pc' := 43) hC dX7_follow_42 ki_0 rfl ?_
  refine go_istore_n (lc' := [(0, .ref (x_q X 111)), (1, .int (0 : Int32))]) (pc' := 44) hC dX7_follow_43 (Nat.le_of_ble_eq_true rfl) rfl rfl ?_
  have l44_32 : ∀ (nn : Nat) (x5 : Int32) (a6 : Nat → Int32) (a7 : Nat → Int32) (a8 : Nat → Int32), it4 (f_X7_follow_q111_L44 S x1 x2 x3 o4) nn x5 a6 a7 a8 = some o → Go X layX S 44 [(0, .ref (x_q X 111)), (1, .int x5)] [] g [(11100, x2), (11101, x3), (11102, o4), (11103, x1)] [] [(112, a6), (113, a7), (114, a8)] [] [] 0 0 := by
    intro nn
    induction nn with
    | zero =>
      intro x5 a6 a7 a8 hf
      exact none_no hf
    | succ nn ih =>
      intro x5 a6 a7 a8 hf
      have hf : f_X7_follow_q111_L44 S x1 x2 x3 o4 (it4 (f_X7_follow_q111_L44 S x1 x2 x3 o4) nn) x5 a6 a7 a8 = some o := hf
      generalize it4 (f_X7_follow_q111_L44 S x1 x2 x3 o4) nn = r9 at ih hf
      unfold f_X7_follow_q111_L44 at hf
      refine go_iload_n (pc' := 45) hC dX7_follow_44 rfl rfl ?_
      refine go_aload_n (pc' := 46) hC dX7_follow_45 rfl rfl ?_
      refine go_geti (v := x2) (pc' := 49) hC 111 0 layX_111 rfl rfl inlX7 (Nat.le_of_ble_eq_true rfl) mw_620 rfl dX7_follow_46 rfl rfl ?_
      refine go_icmp_ge (tgt := 141) (pc' := 52) hC dX7_follow_49 (by decide) rfl (fun h31 => ?_) (fun h31 => ?_)
      · have hf := ite_t h31 hf
        obtain rfl := Option.some.inj hf
        exact go_vret hC hQ dX7_follow_141 rfl rfl rfl (fun _ => rfl) rfl rfl
      · have hf := ite_f h31 hf
        refine go_iconst (pc' := 53) hC dX7_follow_52 ki_1 rfl ?_
        refine go_aload_n (pc' := 54) hC dX7_follow_53 rfl rfl ?_
        refine go_getq (pc' := 57) hC 111 4 layX_111 rfl rfl inlX7 (Nat.le_of_ble_eq_true rfl) mw_115 rfl dX7_follow_54 rfl ?_
        refine go_getq (pc' := 60) hC 16 2 layX_16 rfl rfl inlX2 (Nat.le_of_ble_eq_true rfl) mw_623 rfl dX7_follow_57 rfl ?_
        refine go_iload_n (pc' := 61) hC dX7_follow_60 rfl rfl ?_
        obtain ⟨h10, hf⟩ := gd_e hf
        refine go_iald (f := (S.2.2.1 17)) (pc' := 62) hC 17 layX_17 rfl rfl dX7_follow_61 (okx_in h10) rfl ?_
        refine go_ishl (pc' := 63) hC dX7_follow_62 rfl ?_
        refine go_namei (fun x11 hx => ?_)
        have hf := lz_r hx hf
        clear hx
        refine go_istore_n (lc' := [(0, .ref (x_q X 111)), (1, .int x5), (2, .int x11)]) (pc' := 64) hC dX7_follow_63 (Nat.le_of_ble_eq_true rfl) rfl rfl ?_
        refine go_iconst (pc' := 65) hC dX7_follow_64 ki_1 rfl ?_
        refine go_aload_n (pc' := 66) hC dX7_follow_65 rfl rfl ?_
        refine go_getq (pc' := 69) hC 111 4 layX_111 rfl rfl inlX7 (Nat.le_of_ble_eq_true rfl) mw_115 rfl dX7_follow_66 rfl ?_
        refine go_getq (pc' := 72) hC 16 3 layX_16 rfl rfl inlX2 (Nat.le_of_ble_eq_true rfl) mw_624 rfl dX7_follow_69 rfl ?_
        refine go_iload_n (pc' := 73) hC dX7_follow_72 rfl rfl ?_
        obtain ⟨h12, hf⟩ := gd_e hf
        refine go_iald (f := (S.2.2.1 18)) (pc' := 74) hC 18 layX_18 rfl rfl dX7_follow_73 (okx_in h12) rfl ?_
        refine go_ishl (pc' := 75) hC dX7_follow_74 rfl ?_
        refine go_namei (fun x13 hx => ?_)
        have hf := lz_r hx hf
        clear hx
        refine go_istore_n (lc' := [(0, .ref (x_q X 111)), (1, .int x5), (2, .int x11), (3, .int x13)]) (pc' := 76) hC dX7_follow_75 (Nat.le_of_ble_eq_true rfl) rfl rfl ?_
        refine go_aload_n (pc' := 77) hC dX7_follow_76 rfl rfl ?_
        refine go_getq (pc' := 80) hC 111 5 layX_111 rfl rfl inlX7 (Nat.le_of_ble_eq_true rfl) mw_110 rfl dX7_follow_77 rfl ?_
        refine go_iload_n (pc' := 81) hC dX7_follow_80 rfl rfl ?_
        refine go_iload_n (pc' := 82) hC dX7_follow_81 rfl rfl ?_
        refine go_iload_n (pc' := 83) hC dX7_follow_82 rfl rfl ?_
        refine go_ior (pc' := 84) hC dX7_follow_83 rfl ?_
        refine go_namei (fun x14 hx => ?_)
        have hf := lz_r hx hf
        clear hx
        obtain ⟨h15, hf⟩ := gd_e hf
        refine go_iast (f := a6) (pc' := 85) hC 112 layX_112 rfl rfl dX7_follow_84 (okx_in h15) rfl rfl (fun a16 ha L3' hL => ?_)
        have hf := lz_r ha hf
        clear ha
        obtain rfl : L3' = [(112, a16), (113, a7), (114, a8)] := hL.symm
        refine go_aload_n (pc' := 86) hC dX7_follow_85 rfl rfl ?_
        refine go_getq (pc' := 89) hC 111 6 layX_111 rfl rfl inlX7 (Nat.le_of_ble_eq_true rfl) mw_111 rfl dX7_follow_86 rfl ?_
        refine go_iload_n (pc' := 90) hC dX7_follow_89 rfl rfl ?_
        refine go_aload_n (pc' := 91) hC dX7_follow_90 rfl rfl ?_
        refine go_getq (pc' := 94) hC 111 4 layX_111 rfl rfl inlX7 (Nat.le_of_ble_eq_true rfl) mw_115 rfl dX7_follow_91 rfl ?_
        refine go_getq (pc' := 97) hC 16 5 layX_16 rfl rfl inlX2 (Nat.le_of_ble_eq_true rfl) mw_625 rfl dX7_follow_94 rfl ?_
        refine go_iload_n (pc' := 98) hC dX7_follow_97 rfl rfl ?_
        obtain ⟨h17, hf⟩ := gd_e hf
        refine go_iald (f := (S.2.2.1 20)) (pc' := 99) hC 20 layX_20 rfl rfl dX7_follow_98 (okx_in h17) rfl ?_
        obtain ⟨k109_20, hk109_20, hf⟩ := lk_e2 hf
        have jk109_20 : ∀ (x18 : Int32) (x19 : Int32), k109_20 x18 x19 = some o → Go X layX S 109 [(0, .ref (x_q X 111)), (1, .int x5), (2, .int x11), (3, .int x13)] [.int x18, .int x19, .ref (x_q X 113)] g [(11100, x2), (11101, x3), (11102, o4), (11103, x1)] [] [(112, a16), (113, a7), (114, a8)] [] [] 0 0 := by
          intro x18 x19 hf
          have hf := hk109_20 x18 x19 hf
          clear hk109_20
          obtain ⟨h21, hf⟩ := gd_e hf
          refine go_iast (f := a7) (pc' := 110) hC 113 layX_113 rfl rfl dX7_follow_109 (okx_in h21) rfl rfl (fun a22 ha L3' hL => ?_)
          have hf := lz_r ha hf
          clear ha
          obtain rfl : L3' = [(112, a16), (113, a22), (114, a8)] := hL.symm
          refine go_aload_n (pc' := 111) hC dX7_follow_110 rfl rfl ?_
          refine go_getq (pc' := 114) hC 111 7 layX_111 rfl rfl inlX7 (Nat.le_of_ble_eq_true rfl) mw_112 rfl dX7_follow_111 rfl ?_
          refine go_iload_n (pc' := 115) hC dX7_follow_114 rfl rfl ?_
          refine go_aload_n (pc' := 116) hC dX7_follow_115 rfl rfl ?_
          refine go_getq (pc' := 119) hC 111 4 layX_111 rfl rfl inlX7 (Nat.le_of_ble_eq_true rfl) mw_115 rfl dX7_follow_116 rfl ?_
          refine go_getq (pc' := 122) hC 16 5 layX_16 rfl rfl inlX2 (Nat.le_of_ble_eq_true rfl) mw_625 rfl dX7_follow_119 rfl ?_
          refine go_iload_n (pc' := 123) hC dX7_follow_122 rfl rfl ?_
          obtain ⟨h23, hf⟩ := gd_e hf
          refine go_iald (f := (S.2.2.1 20)) (pc' := 124) hC 20 layX_20 rfl rfl dX7_follow_123 (okx_in h23) rfl ?_
          obtain ⟨k134_26, hk134_26, hf⟩ := lk_e2 hf
          have jk134_26 : ∀ (x24 : Int32) (x25 : Int32), k134_26 x24 x25 = some o → Go X layX S 134 [(0, .ref (x_q X 111)), (1, .int x5)] [.int x24, .int x25, .ref (x_q X 114)] g [(11100, x2), (11101, x3), (11102, o4), (11103, x1)] [] [(112, a16), (113, a22), (114, a8)] [] [] 0 0 := by
            intro x24 x25 hf
            have hf := hk134_26 x24 x25 hf
            clear hk134_26
            obtain ⟨h27, hf⟩ := gd_e hf
            refine go_iast (f := a8) (pc' := 135) hC 114 layX_114 rfl rfl dX7_follow_134 (okx_in h27) rfl rfl (fun a28 ha L3' hL => ?_)
            have hf := lz_r ha hf
            clear ha
            obtain rfl : L3' = [(112, a16), (113, a22), (114, a28)] := hL.symm
            refine go_iinc (lc' := [(0, .ref (x_q X 111)), (1, .int (x5 + (1 : Int32)))]) (pc' := 138) hC dX7_follow_135 rfl ki_1 (Nat.le_of_ble_eq_true rfl) rfl rfl ?_
            refine go_goto (tgt := 44) hC dX7_follow_138 (by decide) ?_
            exact ih (x5 + (1 : Int32)) a16 a22 a28 hf
          clear hk134_26
          refine go_if_ne (tgt := 133) (pc' := 127) hC dX7_follow_124 (by decide) rfl (fun h29 => ?_) (fun h29 => ?_)
          · have hf := ite_f h29 hf
            refine go_iload_n (pc' := 134) hC dX7_follow_133 rfl rfl ?_
            refine go_sub [0, 1] rfl ?_
            exact jk134_26 x13 x5 hf
          · have hf := ite_t h29 hf
            refine go_iload_n (pc' := 128) hC dX7_follow_127 rfl rfl ?_
            refine go_iload_n (pc' := 129) hC dX7_follow_128 rfl rfl ?_
            refine go_ior (pc' := 130) hC dX7_follow_129 rfl ?_
            refine go_goto (tgt := 134) hC dX7_follow_130 (by decide) ?_
            refine go_sub [0, 1] rfl ?_
            exact jk134_26 (x11 ||| x13) x5 hf
        clear hk109_20
        refine go_if_ne (tgt := 108) (pc' := 102) hC dX7_follow_99 (by decide) rfl (fun h30 => ?_) (fun h30 => ?_)
        · have hf := ite_f h30 hf
          refine go_iload_n (pc' := 109) hC dX7_follow_108 rfl rfl ?_
          exact jk109_20 x11 x5 hf
        · have hf := ite_t h30 hf
          refine go_iload_n (pc' := 103) hC dX7_follow_102 rfl rfl ?_
          refine go_iload_n (pc' := 104) hC dX7_follow_103 rfl rfl ?_
          refine go_ior (pc' := 105) hC dX7_follow_104 rfl ?_
          refine go_goto (tgt := 109) hC dX7_follow_105 (by decide) ?_
          exact jk109_20 (x11 ||| x13) x5 hf
  exact l44_32 fuel (0 : Int32) (S.2.2.1 112) (S.2.2.1 113) (S.2.2.1 114) hf
theorem dX10_put_0 : decode cX10_put 0 = .ok (.iload_n 2, 1) := by decide +kernel
theorem dX10_put_1 : decode cX10_put 1 = .ok (.istore 4, 2) := by decide +kernel
theorem dX10_put_3 : decode cX10_put 3 = .ok (.iconst 0, 1) := by decide +kernel
theorem dX10_put_4 : decode cX10_put 4 = .ok (.istore 5, 2) := by decide +kernel
theorem dX10_put_6 : decode cX10_put 6 = .ok (.iload 5, 2) := by decide +kernel
theorem dX10_put_8 : decode cX10_put 8 = .ok (.aload_n 0, 1) := by decide +kernel
theorem dX10_put_9 : decode cX10_put 9 = .ok (.getfield 22, 3) := by decide +kernel
theorem dX10_put_12 : decode cX10_put 12 = .ok (.getfield 66, 3) := by decide +kernel
theorem dX10_put_15 : decode cX10_put 15 = .ok (.if_icmp .ge 33, 3) := by decide +kernel
theorem dX10_put_18 : decode cX10_put 18 = .ok (.aload_n 0, 1) := by decide +kernel
theorem dX10_put_19 : decode cX10_put 19 = .ok (.getfield 22, 3) := by decide +kernel
theorem dX10_put_22 : decode cX10_put 22 = .ok (.getfield 69, 3) := by decide +kernel
theorem dX10_put_25 : decode cX10_put 25 = .ok (.iload 5, 2) := by decide +kernel
theorem dX10_put_27 : decode cX10_put 27 = .ok (.iaload, 1) := by decide +kernel
theorem dX10_put_28 : decode cX10_put 28 = .ok (.iload_n 3, 1) := by decide +kernel
theorem dX10_put_29 : decode cX10_put 29 = .ok (.iand, 1) := by decide +kernel
theorem dX10_put_30 : decode cX10_put 30 = .ok (.ifCond .eq 12, 3) := by decide +kernel
theorem dX10_put_33 : decode cX10_put 33 = .ok (.iload 4, 2) := by decide +kernel
theorem dX10_put_35 : decode cX10_put 35 = .ok (.iconst 1, 1) := by decide +kernel
theorem dX10_put_36 : decode cX10_put 36 = .ok (.iload 5, 2) := by decide +kernel
theorem dX10_put_38 : decode cX10_put 38 = .ok (.ishl, 1) := by decide +kernel
theorem dX10_put_39 : decode cX10_put 39 = .ok (.ior, 1) := by decide +kernel
theorem dX10_put_40 : decode cX10_put 40 = .ok (.istore 4, 2) := by decide +kernel
theorem dX10_put_42 : decode cX10_put 42 = .ok (.iinc 5 1, 3) := by decide +kernel
theorem dX10_put_45 : decode cX10_put 45 = .ok (.goto (-39), 3) := by decide +kernel
theorem dX10_put_48 : decode cX10_put 48 = .ok (.aload_n 0, 1) := by decide +kernel
theorem dX10_put_49 : decode cX10_put 49 = .ok (.getfield 26, 3) := by decide +kernel
theorem dX10_put_52 : decode cX10_put 52 = .ok (.bipush 15, 2) := by decide +kernel
theorem dX10_put_54 : decode cX10_put 54 = .ok (.if_icmp .ge 39, 3) := by decide +kernel
theorem dX10_put_57 : decode cX10_put 57 = .ok (.aload_n 0, 1) := by decide +kernel
theorem dX10_put_58 : decode cX10_put 58 = .ok (.getfield 9, 3) := by decide +kernel
theorem dX10_put_61 : decode cX10_put 61 = .ok (.aload_n 0, 1) := by decide +kernel
theorem dX10_put_62 : decode cX10_put 62 = .ok (.getfield 26, 3) := by decide +kernel
theorem dX10_put_65 : decode cX10_put 65 = .ok (.iload_n 1, 1) := by decide +kernel
theorem dX10_put_66 : decode cX10_put 66 = .ok (.iastore, 1) := by decide +kernel
theorem dX10_put_67 : decode cX10_put 67 = .ok (.aload_n 0, 1) := by decide +kernel
theorem dX10_put_68 : decode cX10_put 68 = .ok (.getfield 15, 3) := by decide +kernel
theorem dX10_put_71 : decode cX10_put 71 = .ok (.aload_n 0, 1) := by decide +kernel
theorem dX10_put_72 : decode cX10_put 72 = .ok (.getfield 26, 3) := by decide +kernel
theorem dX10_put_75 : decode cX10_put 75 = .ok (.iload 4, 2) := by decide +kernel
theorem dX10_put_77 : decode cX10_put 77 = .ok (.iload_n 3, 1) := by decide +kernel
theorem dX10_put_78 : decode cX10_put 78 = .ok (.bipush 12, 2) := by decide +kernel
theorem dX10_put_80 : decode cX10_put 80 = .ok (.ishl, 1) := by decide +kernel
theorem dX10_put_81 : decode cX10_put 81 = .ok (.ior, 1) := by decide +kernel
theorem dX10_put_82 : decode cX10_put 82 = .ok (.iastore, 1) := by decide +kernel
theorem dX10_put_83 : decode cX10_put 83 = .ok (.aload_n 0, 1) := by decide +kernel
theorem dX10_put_84 : decode cX10_put 84 = .ok (.dup, 1) := by decide +kernel
theorem dX10_put_85 : decode cX10_put 85 = .ok (.getfield 26, 3) := by decide +kernel
theorem dX10_put_88 : decode cX10_put 88 = .ok (.iconst 1, 1) := by decide +kernel
theorem dX10_put_89 : decode cX10_put 89 = .ok (.iadd, 1) := by decide +kernel
theorem dX10_put_90 : decode cX10_put 90 = .ok (.putfield 26, 3) := by decide +kernel
theorem dX10_put_93 : decode cX10_put 93 = .ok (.return_, 1) := by decide +kernel
abbrev o_X10_put_q117 : Type := Int32 × (Nat → Int32) × (Nat → Int32)
def f_X10_put_q117_L6 (S : wd_W) (p3 : Int32) (k48_2 : (Int32) → (Option o_X10_put_q117)) (r12 : (Int32) → (Int32) → (Option o_X10_put_q117)) (x10 : Int32) (x11 : Int32) : Option o_X10_put_q117 :=
if (S.1 11100) ≤ x11 then (
k48_2 x10) else (
gd (okx x11 13) <|
lk (fun x14 =>
r12 x14 (x11 + (1 : Int32))) fun k42_15 =>
if (((S.2.2.1 112) x11.toNatClampNeg) &&& p3) = 0 then (
k42_15 x10) else (
lz (x10 ||| ((1 : Int32) <<< (x11 &&& 31))) fun x16 =>
k42_15 x16))
def f_X10_put_q117 (S : wd_W) (p1 : Int32) (p2 : Int32) (p3 : Int32) : Option o_X10_put_q117 :=
lk (fun x1 =>
if (15 : Int32) ≤ (S.1 11700) then (
some ((S.1 11700), (S.2.2.1 118), (S.2.2.1 119))) else (
gd (okx (S.1 11700) 15) <|
lz (upd (S.2.2.1 118) (S.1 11700).toNatClampNeg p1) fun a4 =>
lz (x1 ||| (p3 <<< ((12 : Int32) &&& 31))) fun x5 =>
gd (okx (S.1 11700) 15) <|
lz (upd (S.2.2.1 119) (S.1 11700).toNatClampNeg x5) fun a7 =>
lz ((S.1 11700) + (1 : Int32)) fun x8 =>
some (x8, a4, a7))) fun k48_2 =>
it2 (f_X10_put_q117_L6 S p3 k48_2) fuel p2 (0 : Int32)
set_option maxRecDepth 100000 in
set_option maxHeartbeats 4000000 in
theorem c_X10_put_q117 (l : Launch) (D : va_G) (q g : Nat → Nat) (cy : Nat → ClassId) (z : (Nat → Nat) × (Nat → Nat) × Nat) (S : wd_W) (p1 : Int32) (p2 : Int32) (p3 : Int32) (o : o_X10_put_q117) (hf : f_X10_put_q117 S p1 p2 p3 = some o) : MX layX l yX10_put cX10_put 6 none ({ frames := 0, cells := 0, slots := 0, locals := 0 } : Room) D q g cy z [.ref (q 117), .int p1, .int p2, .int p3] S false (none) (wd_o S [(11700, o.1)] [] [(118, o.2.1), (119, o.2.2)] [] []) 0 0 := by
  refine mx_of (own := RX10) (lc := [(0, .ref (q 117)), (1, .int p1), (2, .int p2), (3, .int p3)]) (by decide +kernel) rfl layX_ok (Nat.le_of_ble_eq_true rfl) rfl ?_
  intro X hXl hXq hXz hC hQ
  subst hXl; subst hXq; subst hXz
  unfold f_X10_put_q117 at hf
  refine go_keys (L1 := [(11700, (S.1 11700))]) (L2 := []) (L3 := [(118, (S.2.2.1 118)), (119, (S.2.2.1 119))]) (L4 := []) (L5 := []) [11700] [] [118, 119] [] [] rfl rfl rfl rfl rfl ?_
  refine go_iload_n (pc' := 1) hC dX10_put_0 rfl rfl ?_
  refine go_istore (lc' := [(0, .ref (x_q X 117)), (1, .int p1), (2, .int p2), (3, .int p3), (4, .int p2)]) (pc' := 3) hC dX10_put_1 (Nat.le_of_ble_eq_true rfl) rfl rfl ?_
  refine go_iconst (pc' := 4) hC dX10_put_3 ki_0 rfl ?_
  refine go_istore (lc' := [(0, .ref (x_q X 117)), (1, .int p1), (2, .int p2), (3, .int p3), (4, .int p2), (5, .int (0 : Int32))]) (pc' := 6) hC dX10_put_4 (Nat.le_of_ble_eq_true rfl) rfl rfl ?_
  obtain ⟨k48_2, hk48_2, hf⟩ := lk_e1 hf
  have jk48_2 : ∀ (x1 : Int32), k48_2 x1 = some o → Go X layX S 48 [(0, .ref (x_q X 117)), (1, .int p1), (3, .int p3), (4, .int x1)] [] g [(11700, (S.1 11700))] [] [(118, (S.2.2.1 118)), (119, (S.2.2.1 119))] [] [] 0 0 := by
    intro x1 hf
    have hf := hk48_2 x1 hf
    clear hk48_2
    refine go_aload_n (pc' := 49) hC dX10_put_48 rfl rfl ?_
    refine go_geti (v := (S.1 11700)) (pc' := 52) hC 117 0 layX_117 rfl rfl inlX10 (Nat.le_of_ble_eq_true rfl) mw_637 rfl dX10_put_49 rfl rfl ?_
    refine go_bipush (pc' := 54) hC dX10_put_52 kb_15 rfl ?_
    refine go_icmp_ge (tgt := 93) (pc' := 57) hC dX10_put_54 (by decide) rfl (fun h9 => ?_) (fun h9 => ?_)
    · have hf := ite_t h9 hf
      obtain rfl := Option.some.inj hf
      exact go_vret hC hQ dX10_put_93 rfl rfl rfl (fun _ => rfl) rfl rfl
    · have hf := ite_f h9 hf
      refine go_aload_n (pc' := 58) hC dX10_put_57 rfl rfl ?_
      refine go_getq (pc' := 61) hC 117 1 layX_117 rfl rfl inlX10 (Nat.le_of_ble_eq_true rfl) mw_120 rfl dX10_put_58 rfl ?_
      refine go_aload_n (pc' := 62) hC dX10_put_61 rfl rfl ?_
      refine go_geti (v := (S.1 11700)) (pc' := 65) hC 117 0 layX_117 rfl rfl inlX10 (Nat.le_of_ble_eq_true rfl) mw_637 rfl dX10_put_62 rfl rfl ?_
      refine go_iload_n (pc' := 66) hC dX10_put_65 rfl rfl ?_
      obtain ⟨h3, hf⟩ := gd_e hf
      refine go_iast (f := (S.2.2.1 118)) (pc' := 67) hC 118 layX_118 rfl rfl dX10_put_66 (okx_in h3) rfl rfl (fun a4 ha L3' hL => ?_)
      have hf := lz_r ha hf
      clear ha
      obtain rfl : L3' = [(118, a4), (119, (S.2.2.1 119))] := hL.symm
      refine go_aload_n (pc' := 68) hC dX10_put_67 rfl rfl ?_
      refine go_getq (pc' := 71) hC 117 2 layX_117 rfl rfl inlX10 (Nat.le_of_ble_eq_true rfl) mw_121 rfl dX10_put_68 rfl ?_
      refine go_aload_n (pc' := 72) hC dX10_put_71 rfl rfl ?_
      refine go_geti (v := (S.1 11700)) (pc' := 75) hC 117 0 layX_117 rfl rfl inlX10 (Nat.le_of_ble_eq_true rfl) mw_637 rfl dX10_put_72 rfl rfl ?_
      refine go_iload (pc' := 77) hC dX10_put_75 rfl rfl ?_
      refine go_iload_n (pc' := 78) hC dX10_put_77 rfl rfl ?_
      refine go_bipush (pc' := 80) hC dX10_put_78 kb_12 rfl ?_
      refine go_ishl (pc' := 81) hC dX10_put_80 rfl ?_
      refine go_ior (pc' := 82) hC dX10_put_81 rfl ?_
      refine go_namei (fun x5 hx => ?_)
      have hf := lz_r hx hf
      clear hx
      obtain ⟨h6, hf⟩ := gd_e hf
      refine go_iast (f := (S.2.2.1 119)) (pc' := 83) hC 119 layX_119 rfl rfl dX10_put_82 (okx_in h6) rfl rfl (fun a7 ha L3' hL => ?_)
      have hf := lz_r ha hf
      clear ha
      obtain rfl : L3' = [(118, a4), (119, a7)] := hL.symm
      refine go_aload_n (pc' := 84) hC dX10_put_83 rfl rfl ?_
      refine go_dup (pc' := 85) hC dX10_put_84 rfl rfl ?_
      refine go_geti (v := (S.1 11700)) (pc' := 88) hC 117 0 layX_117 rfl rfl inlX10 (Nat.le_of_ble_eq_true rfl) mw_637 rfl dX10_put_85 rfl rfl ?_
      refine go_iconst (pc' := 89) hC dX10_put_88 ki_1 rfl ?_
      refine go_iadd (pc' := 90) hC dX10_put_89 rfl ?_
      refine go_namei (fun x8 hx => ?_)
      have hf := lz_r hx hf
      clear hx
      refine go_puti (L1' := [(11700, x8)]) (pc' := 93) hC 117 0 layX_117 rfl rfl inlX10 tyX10_ok nmX10 (Nat.le_of_ble_eq_true rfl) mw_637 rfl rfl rfl rfl dX10_put_90 rfl rfl rfl ?_
      obtain rfl := Option.some.inj hf
      exact go_vret hC hQ dX10_put_93 rfl rfl rfl (fun _ => rfl) rfl rfl
  clear hk48_2
  have l6_19 : ∀ (nn : Nat) (x10 : Int32) (x11 : Int32), it2 (f_X10_put_q117_L6 S p3 k48_2) nn x10 x11 = some o → Go X layX S 6 [(0, .ref (x_q X 117)), (1, .int p1), (3, .int p3), (4, .int x10), (5, .int x11)] [] g [(11700, (S.1 11700))] [] [(118, (S.2.2.1 118)), (119, (S.2.2.1 119))] [] [] 0 0 := by
    intro nn
    induction nn with
    | zero =>
      intro x10 x11 hf
      exact none_no hf
    | succ nn ih =>
      intro x10 x11 hf
      have hf : f_X10_put_q117_L6 S p3 k48_2 (it2 (f_X10_put_q117_L6 S p3 k48_2) nn) x10 x11 = some o := hf
      generalize it2 (f_X10_put_q117_L6 S p3 k48_2) nn = r12 at ih hf
      unfold f_X10_put_q117_L6 at hf
      refine go_iload (pc' := 8) hC dX10_put_6 rfl rfl ?_
      refine go_aload_n (pc' := 9) hC dX10_put_8 rfl rfl ?_
      refine go_getq (pc' := 12) hC 117 4 layX_117 rfl rfl inlX10 (Nat.le_of_ble_eq_true rfl) mw_123 rfl dX10_put_9 rfl ?_
      refine go_geti (v := (S.1 11100)) (pc' := 15) hC 111 0 layX_111 rfl rfl inlX7 (Nat.le_of_ble_eq_true rfl) mw_651 rfl dX10_put_12 rfl rfl ?_
      refine go_icmp_ge (tgt := 48) (pc' := 18) hC dX10_put_15 (by decide) rfl (fun h18 => ?_) (fun h18 => ?_)
      · have hf := ite_t h18 hf
        refine go_sub [0, 1, 3, 4] rfl ?_
        exact jk48_2 x10 hf
      · have hf := ite_f h18 hf
        refine go_aload_n (pc' := 19) hC dX10_put_18 rfl rfl ?_
        refine go_getq (pc' := 22) hC 117 4 layX_117 rfl rfl inlX10 (Nat.le_of_ble_eq_true rfl) mw_123 rfl dX10_put_19 rfl ?_
        refine go_getq (pc' := 25) hC 111 5 layX_111 rfl rfl inlX7 (Nat.le_of_ble_eq_true rfl) mw_652 rfl dX10_put_22 rfl ?_
        refine go_iload (pc' := 27) hC dX10_put_25 rfl rfl ?_
        obtain ⟨h13, hf⟩ := gd_e hf
        refine go_iald (f := (S.2.2.1 112)) (pc' := 28) hC 112 layX_112 rfl rfl dX10_put_27 (okx_in h13) rfl ?_
        refine go_iload_n (pc' := 29) hC dX10_put_28 rfl rfl ?_
        refine go_iand (pc' := 30) hC dX10_put_29 rfl ?_
        obtain ⟨k42_15, hk42_15, hf⟩ := lk_e1 hf
        have jk42_15 : ∀ (x14 : Int32), k42_15 x14 = some o → Go X layX S 42 [(0, .ref (x_q X 117)), (1, .int p1), (3, .int p3), (4, .int x14), (5, .int x11)] [] g [(11700, (S.1 11700))] [] [(118, (S.2.2.1 118)), (119, (S.2.2.1 119))] [] [] 0 0 := by
          intro x14 hf
          have hf := hk42_15 x14 hf
          clear hk42_15
          refine go_iinc (lc' := [(0, .ref (x_q X 117)), (1, .int p1), (3, .int p3), (4, .int x14), (5, .int (x11 + (1 : Int32)))]) (pc' := 45) hC dX10_put_42 rfl ki_1 (Nat.le_of_ble_eq_true rfl) rfl rfl ?_
          refine go_goto (tgt := 6) hC dX10_put_45 (by decide) ?_
          exact ih x14 (x11 + (1 : Int32)) hf
        clear hk42_15
        refine go_if_eq (tgt := 42) (pc' := 33) hC dX10_put_30 (by decide) rfl (fun h17 => ?_) (fun h17 => ?_)
        · have hf := ite_t h17 hf
          exact jk42_15 x10 hf
        · have hf := ite_f h17 hf
          refine go_iload (pc' := 35) hC dX10_put_33 rfl rfl ?_
          refine go_iconst (pc' := 36) hC dX10_put_35 ki_1 rfl ?_
          refine go_iload (pc' := 38) hC dX10_put_36 rfl rfl ?_
          refine go_ishl (pc' := 39) hC dX10_put_38 rfl ?_
          refine go_ior (pc' := 40) hC dX10_put_39 rfl ?_
          refine go_namei (fun x16 hx => ?_)
          have hf := lz_r hx hf
          clear hx
          refine go_istore (lc' := [(0, .ref (x_q X 117)), (1, .int p1), (3, .int p3), (4, .int x16), (5, .int x11)]) (pc' := 42) hC dX10_put_40 (Nat.le_of_ble_eq_true rfl) rfl rfl ?_
          exact jk42_15 x16 hf
  refine go_sub [0, 1, 3, 4, 5] rfl ?_
  exact l6_19 fuel p2 (0 : Int32) hf
