theorem dX12_keeper_0 : decode cX12_keeper 0 = .ok (.aload_n 0, 1) := by decide +kernel
theorem dX12_keeper_1 : decode cX12_keeper 1 = .ok (.invokevirtual 232, 3) := by decide +kernel
theorem dX12_keeper_4 : decode cX12_keeper 4 = .ok (.bipush 15, 2) := by decide +kernel
theorem dX12_keeper_6 : decode cX12_keeper 6 = .ok (.if_icmp .ne 10, 3) := by decide +kernel
theorem dX12_keeper_9 : decode cX12_keeper 9 = .ok (.aload_n 0, 1) := by decide +kernel
theorem dX12_keeper_10 : decode cX12_keeper 10 = .ok (.iconst 3, 1) := by decide +kernel
theorem dX12_keeper_11 : decode cX12_keeper 11 = .ok (.iload_n 1, 1) := by decide +kernel
theorem dX12_keeper_12 : decode cX12_keeper 12 = .ok (.invokevirtual 211, 3) := by decide +kernel
theorem dX12_keeper_15 : decode cX12_keeper 15 = .ok (.ireturn, 1) := by decide +kernel
theorem dX12_keeper_16 : decode cX12_keeper 16 = .ok (.aload_n 0, 1) := by decide +kernel
theorem dX12_keeper_17 : decode cX12_keeper 17 = .ok (.invokevirtual 203, 3) := by decide +kernel
theorem dX12_keeper_20 : decode cX12_keeper 20 = .ok (.pop, 1) := by decide +kernel
theorem dX12_keeper_21 : decode cX12_keeper 21 = .ok (.aload_n 0, 1) := by decide +kernel
theorem dX12_keeper_22 : decode cX12_keeper 22 = .ok (.getfield 200, 3) := by decide +kernel
theorem dX12_keeper_25 : decode cX12_keeper 25 = .ok (.istore_n 2, 1) := by decide +kernel
theorem dX12_keeper_26 : decode cX12_keeper 26 = .ok (.aload_n 0, 1) := by decide +kernel
theorem dX12_keeper_27 : decode cX12_keeper 27 = .ok (.invokevirtual 229, 3) := by decide +kernel
theorem dX12_keeper_30 : decode cX12_keeper 30 = .ok (.ifCond .ne 5, 3) := by decide +kernel
theorem dX12_keeper_33 : decode cX12_keeper 33 = .ok (.iconst 0, 1) := by decide +kernel
theorem dX12_keeper_34 : decode cX12_keeper 34 = .ok (.ireturn, 1) := by decide +kernel
theorem dX12_keeper_35 : decode cX12_keeper 35 = .ok (.iconst 0, 1) := by decide +kernel
theorem dX12_keeper_36 : decode cX12_keeper 36 = .ok (.istore_n 3, 1) := by decide +kernel
theorem dX12_keeper_37 : decode cX12_keeper 37 = .ok (.iload_n 3, 1) := by decide +kernel
theorem dX12_keeper_38 : decode cX12_keeper 38 = .ok (.aload_n 0, 1) := by decide +kernel
theorem dX12_keeper_39 : decode cX12_keeper 39 = .ok (.getfield 172, 3) := by decide +kernel
theorem dX12_keeper_42 : decode cX12_keeper 42 = .ok (.if_icmp .ge 29, 3) := by decide +kernel
theorem dX12_keeper_45 : decode cX12_keeper 45 = .ok (.aload_n 0, 1) := by decide +kernel
theorem dX12_keeper_46 : decode cX12_keeper 46 = .ok (.getfield 17, 3) := by decide +kernel
theorem dX12_keeper_49 : decode cX12_keeper 49 = .ok (.iload_n 3, 1) := by decide +kernel
theorem dX12_keeper_50 : decode cX12_keeper 50 = .ok (.iaload, 1) := by decide +kernel
theorem dX12_keeper_51 : decode cX12_keeper 51 = .ok (.aload_n 0, 1) := by decide +kernel
theorem dX12_keeper_52 : decode cX12_keeper 52 = .ok (.getfield 215, 3) := by decide +kernel
theorem dX12_keeper_55 : decode cX12_keeper 55 = .ok (.if_icmp .ne 10, 3) := by decide +kernel
theorem dX12_keeper_58 : decode cX12_keeper 58 = .ok (.aload_n 0, 1) := by decide +kernel
theorem dX12_keeper_59 : decode cX12_keeper 59 = .ok (.iconst 2, 1) := by decide +kernel
theorem dX12_keeper_60 : decode cX12_keeper 60 = .ok (.iload_n 2, 1) := by decide +kernel
theorem dX12_keeper_61 : decode cX12_keeper 61 = .ok (.invokevirtual 211, 3) := by decide +kernel
theorem dX12_keeper_64 : decode cX12_keeper 64 = .ok (.ireturn, 1) := by decide +kernel
theorem dX12_keeper_65 : decode cX12_keeper 65 = .ok (.iinc 3 1, 3) := by decide +kernel
theorem dX12_keeper_68 : decode cX12_keeper 68 = .ok (.goto (-31), 3) := by decide +kernel
theorem dX12_keeper_71 : decode cX12_keeper 71 = .ok (.aload_n 0, 1) := by decide +kernel
theorem dX12_keeper_72 : decode cX12_keeper 72 = .ok (.getfield 17, 3) := by decide +kernel
theorem dX12_keeper_75 : decode cX12_keeper 75 = .ok (.aload_n 0, 1) := by decide +kernel
theorem dX12_keeper_76 : decode cX12_keeper 76 = .ok (.getfield 172, 3) := by decide +kernel
theorem dX12_keeper_79 : decode cX12_keeper 79 = .ok (.aload_n 0, 1) := by decide +kernel
theorem dX12_keeper_80 : decode cX12_keeper 80 = .ok (.getfield 215, 3) := by decide +kernel
theorem dX12_keeper_83 : decode cX12_keeper 83 = .ok (.iastore, 1) := by decide +kernel
theorem dX12_keeper_84 : decode cX12_keeper 84 = .ok (.aload_n 0, 1) := by decide +kernel
theorem dX12_keeper_85 : decode cX12_keeper 85 = .ok (.iconst 0, 1) := by decide +kernel
theorem dX12_keeper_86 : decode cX12_keeper 86 = .ok (.bipush 16, 2) := by decide +kernel
theorem dX12_keeper_88 : decode cX12_keeper 88 = .ok (.invokevirtual 226, 3) := by decide +kernel
theorem dX12_keeper_91 : decode cX12_keeper 91 = .ok (.ifCond .ne 5, 3) := by decide +kernel
theorem dX12_keeper_94 : decode cX12_keeper 94 = .ok (.iconst 0, 1) := by decide +kernel
theorem dX12_keeper_95 : decode cX12_keeper 95 = .ok (.ireturn, 1) := by decide +kernel
theorem dX12_keeper_96 : decode cX12_keeper 96 = .ok (.aload_n 0, 1) := by decide +kernel
theorem dX12_keeper_97 : decode cX12_keeper 97 = .ok (.getfield 20, 3) := by decide +kernel
theorem dX12_keeper_100 : decode cX12_keeper 100 = .ok (.aload_n 0, 1) := by decide +kernel
theorem dX12_keeper_101 : decode cX12_keeper 101 = .ok (.getfield 172, 3) := by decide +kernel
theorem dX12_keeper_104 : decode cX12_keeper 104 = .ok (.aload_n 0, 1) := by decide +kernel
theorem dX12_keeper_105 : decode cX12_keeper 105 = .ok (.getfield 215, 3) := by decide +kernel
theorem dX12_keeper_108 : decode cX12_keeper 108 = .ok (.iastore, 1) := by decide +kernel
theorem dX12_keeper_109 : decode cX12_keeper 109 = .ok (.aload_n 0, 1) := by decide +kernel
theorem dX12_keeper_110 : decode cX12_keeper 110 = .ok (.dup, 1) := by decide +kernel
theorem dX12_keeper_111 : decode cX12_keeper 111 = .ok (.getfield 172, 3) := by decide +kernel
theorem dX12_keeper_114 : decode cX12_keeper 114 = .ok (.iconst 1, 1) := by decide +kernel
theorem dX12_keeper_115 : decode cX12_keeper 115 = .ok (.iadd, 1) := by decide +kernel
theorem dX12_keeper_116 : decode cX12_keeper 116 = .ok (.putfield 172, 3) := by decide +kernel
theorem dX12_keeper_119 : decode cX12_keeper 119 = .ok (.iconst 1, 1) := by decide +kernel
theorem dX12_keeper_120 : decode cX12_keeper 120 = .ok (.ireturn, 1) := by decide +kernel
abbrev o_X12_keeper : Type := Int32 × Int32 × Int32 × Int32 × Int32 × (Nat → Int32) × (Nat → Int32)
def f_X12_keeper_L37 (S : wd_W) (o3 : o_X12_readsPlace) (k71_4 : (Option o_X12_keeper)) (k58_12 : (Option o_X12_keeper)) (r16 : (Int32) → (Option o_X12_keeper)) (x15 : Int32) : Option o_X12_keeper :=
if (S.1 6) ≤ x15 then (
k71_4) else (
gd (okx x15 10) <|
if ((S.2.2.1 3) x15.toNatClampNeg) = o3.2.2.2 then (
k58_12) else (
r16 (x15 + (1 : Int32))))
def f_X12_keeper (S : wd_W) (p1 : Int32) : Option o_X12_keeper :=
bd (f_X12_readThings (wd_o S [(6, (S.1 6)), (17, (S.1 17)), (18, (S.1 18)), (19, (S.1 19))] [] [(3, (S.2.2.1 3)), (4, (S.2.2.1 4))] [] [])) fun o1 =>
if o1 = (15 : Int32) then (
bd (f_X12_fails (wd_o S [(6, (S.1 6)), (17, (S.1 17)), (18, (S.1 18)), (19, (S.1 19))] [] [(3, (S.2.2.1 3)), (4, (S.2.2.1 4))] [] []) (3 : Int32) p1) fun o22 =>
gd (okz o22.1) <|
some (o22.1, (S.1 6), (S.1 17), o22.2, (S.1 19), (S.2.2.1 3), (S.2.2.1 4))) else (
bd (f_X12_see (wd_o S [(6, (S.1 6)), (17, (S.1 17)), (18, (S.1 18)), (19, (S.1 19))] [] [(3, (S.2.2.1 3)), (4, (S.2.2.1 4))] [] [])) fun o2 =>
bd (f_X12_readsPlace (wd_o S [(6, (S.1 6)), (17, o2.2), (18, (S.1 18)), (19, (S.1 19))] [] [(3, (S.2.2.1 3)), (4, (S.2.2.1 4))] [] [])) fun o3 =>
if o3.1 = 0 then (
some ((0 : Int32), (S.1 6), o3.2.1, o3.2.2.1, o3.2.2.2, (S.2.2.1 3), (S.2.2.1 4))) else (
lk (gd (okx (S.1 6) 10) <|
lz (upd (S.2.2.1 3) (S.1 6).toNatClampNeg o3.2.2.2) fun a6 =>
bd (f_X12_number (wd_o S [(6, (S.1 6)), (17, o3.2.1), (18, o3.2.2.1), (19, o3.2.2.2)] [] [(3, a6), (4, (S.2.2.1 4))] [] []) (0 : Int32) (16 : Int32)) fun o7 =>
if o7.1 = 0 then (
some ((0 : Int32), (S.1 6), o7.2.1, o7.2.2.1, o7.2.2.2, a6, (S.2.2.1 4))) else (
gd (okx (S.1 6) 10) <|
lz (upd (S.2.2.1 4) (S.1 6).toNatClampNeg o7.2.2.2) fun a9 =>
lz ((S.1 6) + (1 : Int32)) fun x10 =>
some ((1 : Int32), x10, o7.2.1, o7.2.2.1, o7.2.2.2, a6, a9))) fun k71_4 =>
lk (bd (f_X12_fails (wd_o S [(6, (S.1 6)), (17, o3.2.1), (18, o3.2.2.1), (19, o3.2.2.2)] [] [(3, (S.2.2.1 3)), (4, (S.2.2.1 4))] [] []) (2 : Int32) o2.2) fun o13 =>
gd (okz o13.1) <|
some (o13.1, (S.1 6), o3.2.1, o13.2, o3.2.2.2, (S.2.2.1 3), (S.2.2.1 4))) fun k58_12 =>
it1 (f_X12_keeper_L37 S o3 k71_4 k58_12) fuel (0 : Int32)))
set_option maxRecDepth 100000 in
set_option maxHeartbeats 4000000 in
theorem c_X12_keeper (l : Launch) (D : va_G) (q g : Nat → Nat) (cy : Nat → ClassId) (z : (Nat → Nat) × (Nat → Nat) × Nat) (S : wd_W) (p1 : Int32) (o : o_X12_keeper) (hf : f_X12_keeper S p1 = some o) : MX layM l yX12_keeper cX12_keeper 4 (some .boolean) ({ frames := 3, cells := 0, slots := 0, locals := 69 } : Room) D q g cy z [.ref (q 0), .int p1] S false (some (.int o.1)) (wd_o S [(6, o.2.1), (17, o.2.2.1), (18, o.2.2.2.1), (19, o.2.2.2.2.1)] [] [(3, o.2.2.2.2.2.1), (4, o.2.2.2.2.2.2)] [] []) 0 0 := by
  refine mx_of (own := RX12) (lc := [(0, .ref (q 0)), (1, .int p1)]) (by decide +kernel) rfl layM_ok (Nat.le_of_ble_eq_true rfl) rfl ?_
  intro X hXl hXq hXz hC hQ
  subst hXl; subst hXq; subst hXz
  unfold f_X12_keeper at hf
  refine go_keys (L1 := [(6, (S.1 6)), (17, (S.1 17)), (18, (S.1 18)), (19, (S.1 19))]) (L2 := []) (L3 := [(3, (S.2.2.1 3)), (4, (S.2.2.1 4))]) (L4 := []) (L5 := []) [6, 17, 18, 19] [] [3, 4] [] [] rfl rfl rfl rfl rfl ?_
  refine go_aload_n (pc' := 1) hC dX12_keeper_0 rfl rfl ?_
  obtain ⟨o1, ho1, hf⟩ := bd_e hf
  refine go_callV0 (pc' := 4) (As := []) (st := []) (st' := [.int o1])    (b := 0) hC dX12_keeper_1 ⟨mw_259, mw_262, mw_5, yd_yX12_readThings, yp_yX12_readThings, Nat.le_of_ble_eq_true rfl, Nat.le_of_ble_eq_true rfl, (Nat.le_of_ble_eq_true rfl), (Nat.le_of_ble_eq_true rfl)⟩ mw_260 mw_261 layM_0 rfl rfl rfl (Nat.le_of_ble_eq_true rfl) (c_X12_readThings (x_l X) (x_D X) (x_q X) g (x_cy X) (x_z X) _  o1 ho1) rfl rfl ?_
  refine go_bipush (pc' := 6) hC dX12_keeper_4 kb_15 rfl ?_
  refine go_icmp_ne (tgt := 16) (pc' := 9) hC dX12_keeper_6 (by decide) rfl (fun h24 => ?_) (fun h24 => ?_)
  · have hf := ite_f h24 hf
    refine go_aload_n (pc' := 17) hC dX12_keeper_16 rfl rfl ?_
    obtain ⟨o2, ho2, hf⟩ := bd_e hf
    refine go_callV1 (pc' := 20) (As := []) (st := []) (st' := [.int o2.1]) (L1' := [(6, (S.1 6)), (17, o2.2), (18, (S.1 18)), (19, (S.1 19))]) (L2' := []) (L3' := [(3, (S.2.2.1 3)), (4, (S.2.2.1 4))]) (L4' := []) (L5' := []) (cells' := 0) (slots' := 0)  (b := 0) hC dX12_keeper_17 ⟨mw_505, mw_508, mw_5, yd_yX12_see, yp_yX12_see, Nat.le_of_ble_eq_true rfl, Nat.le_of_ble_eq_true rfl, (Nat.le_of_ble_eq_true rfl), (Nat.le_of_ble_eq_true rfl)⟩ mw_506 mw_507 layM_0 rfl rfl rfl (Nat.le_of_ble_eq_true rfl) (c_X12_see (x_l X) (x_D X) (x_q X) g (x_cy X) (x_z X) _  o2 ho2) rfl rfl rfl rfl rfl rfl rfl rfl rfl rfl rfl rfl rfl rfl ?_
    refine go_pop (pc' := 21) hC dX12_keeper_20 rfl rfl ?_
    refine go_aload_n (pc' := 22) hC dX12_keeper_21 rfl rfl ?_
    refine go_geti (v := o2.2) (pc' := 25) hC 0 17 layM_0 rfl rfl inlX12 (Nat.le_of_ble_eq_true rfl) mw_489 rfl dX12_keeper_22 rfl rfl ?_
    refine go_istore_n (lc' := [(0, .ref (x_q X 0)), (1, .int p1), (2, .int o2.2)]) (pc' := 26) hC dX12_keeper_25 (Nat.le_of_ble_eq_true rfl) rfl rfl ?_
    refine go_aload_n (pc' := 27) hC dX12_keeper_26 rfl rfl ?_
    obtain ⟨o3, ho3, hf⟩ := bd_e hf
    refine go_callV1 (pc' := 30) (As := []) (st := []) (st' := [.int o3.1]) (L1' := [(6, (S.1 6)), (17, o3.2.1), (18, o3.2.2.1), (19, o3.2.2.2)]) (L2' := []) (L3' := [(3, (S.2.2.1 3)), (4, (S.2.2.1 4))]) (L4' := []) (L5' := []) (cells' := 0) (slots' := 0)  (b := 0) hC dX12_keeper_27 ⟨mw_538, mw_541, mw_5, yd_yX12_readsPlace, yp_yX12_readsPlace, Nat.le_of_ble_eq_true rfl, Nat.le_of_ble_eq_true rfl, (Nat.le_of_ble_eq_true rfl), (Nat.le_of_ble_eq_true rfl)⟩ mw_539 mw_540 layM_0 rfl rfl rfl (Nat.le_of_ble_eq_true rfl) (c_X12_readsPlace (x_l X) (x_D X) (x_q X) g (x_cy X) (x_z X) _  o3 ho3) rfl rfl rfl rfl rfl rfl rfl rfl rfl rfl rfl rfl rfl rfl ?_
    refine go_if_ne (tgt := 35) (pc' := 33) hC dX12_keeper_30 (by decide) rfl (fun h21 => ?_) (fun h21 => ?_)
    · have hf := ite_f h21 hf
      refine go_iconst (pc' := 36) hC dX12_keeper_35 ki_0 rfl ?_
      refine go_istore_n (lc' := [(0, .ref (x_q X 0)), (1, .int p1), (2, .int o2.2), (3, .int (0 : Int32))]) (pc' := 37) hC dX12_keeper_36 (Nat.le_of_ble_eq_true rfl) rfl rfl ?_
      obtain ⟨k71_4, hk71_4, hf⟩ := lk_e0 hf
      have jk71_4 : ∀ (_ : Unit), k71_4 = some o → Go X layM S 71 [(0, .ref (x_q X 0))] [] g [(6, (S.1 6)), (17, o3.2.1), (18, o3.2.2.1), (19, o3.2.2.2)] [] [(3, (S.2.2.1 3)), (4, (S.2.2.1 4))] [] [] 0 0 := by
        intro _ hf
        have hf := hk71_4 hf
        clear hk71_4
        refine go_aload_n (pc' := 72) hC dX12_keeper_71 rfl rfl ?_
        refine go_getq (pc' := 75) hC 0 4 layM_0 rfl rfl inlX12 (Nat.le_of_ble_eq_true rfl) mw_182 rfl dX12_keeper_72 rfl ?_
        refine go_aload_n (pc' := 76) hC dX12_keeper_75 rfl rfl ?_
        refine go_geti (v := (S.1 6)) (pc' := 79) hC 0 6 layM_0 rfl rfl inlX12 (Nat.le_of_ble_eq_true rfl) mw_234 rfl dX12_keeper_76 rfl rfl ?_
        refine go_aload_n (pc' := 80) hC dX12_keeper_79 rfl rfl ?_
        refine go_geti (v := o3.2.2.2) (pc' := 83) hC 0 19 layM_0 rfl rfl inlX12 (Nat.le_of_ble_eq_true rfl) mw_496 rfl dX12_keeper_80 rfl rfl ?_
        obtain ⟨h5, hf⟩ := gd_e hf
        refine go_iast (f := (S.2.2.1 3)) (pc' := 84) hC 3 layM_3 rfl rfl dX12_keeper_83 (okx_in h5) rfl rfl (fun a6 ha L3' hL => ?_)
        have hf := lz_r ha hf
        clear ha
        obtain rfl : L3' = [(3, a6), (4, (S.2.2.1 4))] := hL.symm
        refine go_aload_n (pc' := 85) hC dX12_keeper_84 rfl rfl ?_
        refine go_iconst (pc' := 86) hC dX12_keeper_85 ki_0 rfl ?_
        refine go_bipush (pc' := 88) hC dX12_keeper_86 kb_16 rfl ?_
        obtain ⟨o7, ho7, hf⟩ := bd_e hf
        refine go_callV1 (pc' := 91) (As := [.int (0 : Int32), .int (16 : Int32)]) (st := []) (st' := [.int o7.1]) (L1' := [(6, (S.1 6)), (17, o7.2.1), (18, o7.2.2.1), (19, o7.2.2.2)]) (L2' := []) (L3' := [(3, a6), (4, (S.2.2.1 4))]) (L4' := []) (L5' := []) (cells' := 0) (slots' := 0)  (b := 0) hC dX12_keeper_88 ⟨mw_517, mw_520, mw_5, yd_yX12_number, yp_yX12_number, Nat.le_of_ble_eq_true rfl, Nat.le_of_ble_eq_true rfl, (Nat.le_of_ble_eq_true rfl), (Nat.le_of_ble_eq_true rfl)⟩ mw_518 mw_519 layM_0 rfl rfl rfl (Nat.le_of_ble_eq_true rfl) (c_X12_number (x_l X) (x_D X) (x_q X) g (x_cy X) (x_z X) _ (0 : Int32) (16 : Int32) o7 ho7) rfl rfl rfl rfl rfl rfl rfl rfl rfl rfl rfl rfl rfl rfl ?_
        refine go_if_ne (tgt := 96) (pc' := 94) hC dX12_keeper_91 (by decide) rfl (fun h11 => ?_) (fun h11 => ?_)
        · have hf := ite_f h11 hf
          refine go_aload_n (pc' := 97) hC dX12_keeper_96 rfl rfl ?_
          refine go_getq (pc' := 100) hC 0 5 layM_0 rfl rfl inlX12 (Nat.le_of_ble_eq_true rfl) mw_183 rfl dX12_keeper_97 rfl ?_
          refine go_aload_n (pc' := 101) hC dX12_keeper_100 rfl rfl ?_
          refine go_geti (v := (S.1 6)) (pc' := 104) hC 0 6 layM_0 rfl rfl inlX12 (Nat.le_of_ble_eq_true rfl) mw_234 rfl dX12_keeper_101 rfl rfl ?_
          refine go_aload_n (pc' := 105) hC dX12_keeper_104 rfl rfl ?_
          refine go_geti (v := o7.2.2.2) (pc' := 108) hC 0 19 layM_0 rfl rfl inlX12 (Nat.le_of_ble_eq_true rfl) mw_496 rfl dX12_keeper_105 rfl rfl ?_
          obtain ⟨h8, hf⟩ := gd_e hf
          refine go_iast (f := (S.2.2.1 4)) (pc' := 109) hC 4 layM_4 rfl rfl dX12_keeper_108 (okx_in h8) rfl rfl (fun a9 ha L3' hL => ?_)
          have hf := lz_r ha hf
          clear ha
          obtain rfl : L3' = [(3, a6), (4, a9)] := hL.symm
          refine go_aload_n (pc' := 110) hC dX12_keeper_109 rfl rfl ?_
          refine go_dup (pc' := 111) hC dX12_keeper_110 rfl rfl ?_
          refine go_geti (v := (S.1 6)) (pc' := 114) hC 0 6 layM_0 rfl rfl inlX12 (Nat.le_of_ble_eq_true rfl) mw_234 rfl dX12_keeper_111 rfl rfl ?_
          refine go_iconst (pc' := 115) hC dX12_keeper_114 ki_1 rfl ?_
          refine go_iadd (pc' := 116) hC dX12_keeper_115 rfl ?_
          refine go_namei (fun x10 hx => ?_)
          have hf := lz_r hx hf
          clear hx
          refine go_puti (L1' := [(6, x10), (17, o7.2.1), (18, o7.2.2.1), (19, o7.2.2.2)]) (pc' := 119) hC 0 6 layM_0 rfl rfl inlX12 tyX12_ok nmX12 (Nat.le_of_ble_eq_true rfl) mw_234 rfl rfl rfl rfl dX12_keeper_116 rfl rfl rfl ?_
          refine go_iconst (pc' := 120) hC dX12_keeper_119 ki_1 rfl ?_
          obtain rfl := Option.some.inj hf
          exact go_iret hC hQ dX12_keeper_120 rfl rfl rfl rfl (fun _ => rfl) rfl rfl
        · have hf := ite_t h11 hf
          refine go_iconst (pc' := 95) hC dX12_keeper_94 ki_0 rfl ?_
          obtain rfl := Option.some.inj hf
          exact go_iret hC hQ dX12_keeper_95 rfl rfl rfl rfl (fun _ => rfl) rfl rfl
      clear hk71_4
      obtain ⟨k58_12, hk58_12, hf⟩ := lk_e0 hf
      have jk58_12 : ∀ (_ : Unit), k58_12 = some o → Go X layM S 58 [(0, .ref (x_q X 0)), (2, .int o2.2)] [] g [(6, (S.1 6)), (17, o3.2.1), (18, o3.2.2.1), (19, o3.2.2.2)] [] [(3, (S.2.2.1 3)), (4, (S.2.2.1 4))] [] [] 0 0 := by
        intro _ hf
        have hf := hk58_12 hf
        clear hk58_12
        refine go_aload_n (pc' := 59) hC dX12_keeper_58 rfl rfl ?_
        refine go_iconst (pc' := 60) hC dX12_keeper_59 ki_2 rfl ?_
        refine go_iload_n (pc' := 61) hC dX12_keeper_60 rfl rfl ?_
        obtain ⟨o13, ho13, hf⟩ := bd_e hf
        refine go_callV1 (pc' := 64) (As := [.int (2 : Int32), .int o2.2]) (st := []) (st' := [.int o13.1]) (L1' := [(6, (S.1 6)), (17, o3.2.1), (18, o13.2), (19, o3.2.2.2)]) (L2' := []) (L3' := [(3, (S.2.2.1 3)), (4, (S.2.2.1 4))]) (L4' := []) (L5' := []) (cells' := 0) (slots' := 0)  (b := 0) hC dX12_keeper_61 ⟨mw_509, mw_512, mw_5, yd_yX12_fails, yp_yX12_fails, Nat.le_of_ble_eq_true rfl, Nat.le_of_ble_eq_true rfl, (Nat.le_of_ble_eq_true rfl), (Nat.le_of_ble_eq_true rfl)⟩ mw_510 mw_511 layM_0 rfl rfl rfl (Nat.le_of_ble_eq_true rfl) (c_X12_fails (x_l X) (x_D X) (x_q X) g (x_cy X) (x_z X) _ (2 : Int32) o2.2 o13 ho13) rfl rfl rfl rfl rfl rfl rfl rfl rfl rfl rfl rfl rfl rfl ?_
        obtain ⟨h14, hf⟩ := gd_e hf
        obtain rfl := Option.some.inj hf
        exact go_iret hC hQ dX12_keeper_64 rfl (okz_n h14) rfl rfl (fun _ => rfl) rfl rfl
      clear hk58_12
      have l37_20 : ∀ (nn : Nat) (x15 : Int32), it1 (f_X12_keeper_L37 S o3 k71_4 k58_12) nn x15 = some o → Go X layM S 37 [(0, .ref (x_q X 0)), (2, .int o2.2), (3, .int x15)] [] g [(6, (S.1 6)), (17, o3.2.1), (18, o3.2.2.1), (19, o3.2.2.2)] [] [(3, (S.2.2.1 3)), (4, (S.2.2.1 4))] [] [] 0 0 := by
        intro nn
        induction nn with
        | zero =>
          intro x15 hf
          exact none_no hf
        | succ nn ih =>
          intro x15 hf
          have hf : f_X12_keeper_L37 S o3 k71_4 k58_12 (it1 (f_X12_keeper_L37 S o3 k71_4 k58_12) nn) x15 = some o := hf
          generalize it1 (f_X12_keeper_L37 S o3 k71_4 k58_12) nn = r16 at ih hf
          unfold f_X12_keeper_L37 at hf
          refine go_iload_n (pc' := 38) hC dX12_keeper_37 rfl rfl ?_
          refine go_aload_n (pc' := 39) hC dX12_keeper_38 rfl rfl ?_
          refine go_geti (v := (S.1 6)) (pc' := 42) hC 0 6 layM_0 rfl rfl inlX12 (Nat.le_of_ble_eq_true rfl) mw_234 rfl dX12_keeper_39 rfl rfl ?_
          refine go_icmp_ge (tgt := 71) (pc' := 45) hC dX12_keeper_42 (by decide) rfl (fun h19 => ?_) (fun h19 => ?_)
          · have hf := ite_t h19 hf
            refine go_sub [0] rfl ?_
            exact jk71_4 () hf
          · have hf := ite_f h19 hf
            refine go_aload_n (pc' := 46) hC dX12_keeper_45 rfl rfl ?_
            refine go_getq (pc' := 49) hC 0 4 layM_0 rfl rfl inlX12 (Nat.le_of_ble_eq_true rfl) mw_182 rfl dX12_keeper_46 rfl ?_
            refine go_iload_n (pc' := 50) hC dX12_keeper_49 rfl rfl ?_
            obtain ⟨h17, hf⟩ := gd_e hf
            refine go_iald (f := (S.2.2.1 3)) (pc' := 51) hC 3 layM_3 rfl rfl dX12_keeper_50 (okx_in h17) rfl ?_
            refine go_aload_n (pc' := 52) hC dX12_keeper_51 rfl rfl ?_
            refine go_geti (v := o3.2.2.2) (pc' := 55) hC 0 19 layM_0 rfl rfl inlX12 (Nat.le_of_ble_eq_true rfl) mw_496 rfl dX12_keeper_52 rfl rfl ?_
            refine go_icmp_ne (tgt := 65) (pc' := 58) hC dX12_keeper_55 (by decide) rfl (fun h18 => ?_) (fun h18 => ?_)
            · have hf := ite_f h18 hf
              refine go_iinc (lc' := [(0, .ref (x_q X 0)), (2, .int o2.2), (3, .int (x15 + (1 : Int32)))]) (pc' := 68) hC dX12_keeper_65 rfl ki_1 (Nat.le_of_ble_eq_true rfl) rfl rfl ?_
              refine go_goto (tgt := 37) hC dX12_keeper_68 (by decide) ?_
              exact ih (x15 + (1 : Int32)) hf
            · have hf := ite_t h18 hf
              refine go_sub [0, 2] rfl ?_
              exact jk58_12 () hf
      refine go_sub [0, 2, 3] rfl ?_
      exact l37_20 fuel (0 : Int32) hf
    · have hf := ite_t h21 hf
      refine go_iconst (pc' := 34) hC dX12_keeper_33 ki_0 rfl ?_
      obtain rfl := Option.some.inj hf
      exact go_iret hC hQ dX12_keeper_34 rfl rfl rfl rfl (fun _ => rfl) rfl rfl
  · have hf := ite_t h24 hf
    refine go_aload_n (pc' := 10) hC dX12_keeper_9 rfl rfl ?_
    refine go_iconst (pc' := 11) hC dX12_keeper_10 ki_3 rfl ?_
    refine go_iload_n (pc' := 12) hC dX12_keeper_11 rfl rfl ?_
    obtain ⟨o22, ho22, hf⟩ := bd_e hf
    refine go_callV1 (pc' := 15) (As := [.int (3 : Int32), .int p1]) (st := []) (st' := [.int o22.1]) (L1' := [(6, (S.1 6)), (17, (S.1 17)), (18, o22.2), (19, (S.1 19))]) (L2' := []) (L3' := [(3, (S.2.2.1 3)), (4, (S.2.2.1 4))]) (L4' := []) (L5' := []) (cells' := 0) (slots' := 0)  (b := 0) hC dX12_keeper_12 ⟨mw_509, mw_512, mw_5, yd_yX12_fails, yp_yX12_fails, Nat.le_of_ble_eq_true rfl, Nat.le_of_ble_eq_true rfl, (Nat.le_of_ble_eq_true rfl), (Nat.le_of_ble_eq_true rfl)⟩ mw_510 mw_511 layM_0 rfl rfl rfl (Nat.le_of_ble_eq_true rfl) (c_X12_fails (x_l X) (x_D X) (x_q X) g (x_cy X) (x_z X) _ (3 : Int32) p1 o22 ho22) rfl rfl rfl rfl rfl rfl rfl rfl rfl rfl rfl rfl rfl rfl ?_
    obtain ⟨h23, hf⟩ := gd_e hf
    obtain rfl := Option.some.inj hf
    exact go_iret hC hQ dX12_keeper_15 rfl (okz_n h23) rfl rfl (fun _ => rfl) rfl rfl
theorem dX12_cause_0 : decode cX12_cause 0 = .ok (.aload_n 0, 1) := by decide +kernel
theorem dX12_cause_1 : decode cX12_cause 1 = .ok (.getfield 175, 3) := by decide +kernel
theorem dX12_cause_4 : decode cX12_cause 4 = .ok (.iconst 3, 1) := by decide +kernel
theorem dX12_cause_5 : decode cX12_cause 5 = .ok (.if_icmp .eq 12, 3) := by decide +kernel
theorem dX12_cause_8 : decode cX12_cause 8 = .ok (.aload_n 0, 1) := by decide +kernel
theorem dX12_cause_9 : decode cX12_cause 9 = .ok (.invokevirtual 232, 3) := by decide +kernel
theorem dX12_cause_12 : decode cX12_cause 12 = .ok (.bipush 15, 2) := by decide +kernel
theorem dX12_cause_14 : decode cX12_cause 14 = .ok (.if_icmp .ne 10, 3) := by decide +kernel
theorem dX12_cause_17 : decode cX12_cause 17 = .ok (.aload_n 0, 1) := by decide +kernel
theorem dX12_cause_18 : decode cX12_cause 18 = .ok (.iconst 3, 1) := by decide +kernel
theorem dX12_cause_19 : decode cX12_cause 19 = .ok (.iload_n 1, 1) := by decide +kernel
theorem dX12_cause_20 : decode cX12_cause 20 = .ok (.invokevirtual 211, 3) := by decide +kernel
theorem dX12_cause_23 : decode cX12_cause 23 = .ok (.ireturn, 1) := by decide +kernel
theorem dX12_cause_24 : decode cX12_cause 24 = .ok (.aload_n 0, 1) := by decide +kernel
theorem dX12_cause_25 : decode cX12_cause 25 = .ok (.iconst 0, 1) := by decide +kernel
theorem dX12_cause_26 : decode cX12_cause 26 = .ok (.bipush 16, 2) := by decide +kernel
theorem dX12_cause_28 : decode cX12_cause 28 = .ok (.invokevirtual 226, 3) := by decide +kernel
theorem dX12_cause_31 : decode cX12_cause 31 = .ok (.ifCond .ne 5, 3) := by decide +kernel
theorem dX12_cause_34 : decode cX12_cause 34 = .ok (.iconst 0, 1) := by decide +kernel
theorem dX12_cause_35 : decode cX12_cause 35 = .ok (.ireturn, 1) := by decide +kernel
theorem dX12_cause_36 : decode cX12_cause 36 = .ok (.aload_n 0, 1) := by decide +kernel
theorem dX12_cause_37 : decode cX12_cause 37 = .ok (.getfield 23, 3) := by decide +kernel
theorem dX12_cause_40 : decode cX12_cause 40 = .ok (.aload_n 0, 1) := by decide +kernel
theorem dX12_cause_41 : decode cX12_cause 41 = .ok (.getfield 175, 3) := by decide +kernel
theorem dX12_cause_44 : decode cX12_cause 44 = .ok (.aload_n 0, 1) := by decide +kernel
theorem dX12_cause_45 : decode cX12_cause 45 = .ok (.getfield 215, 3) := by decide +kernel
theorem dX12_cause_48 : decode cX12_cause 48 = .ok (.iastore, 1) := by decide +kernel
theorem dX12_cause_49 : decode cX12_cause 49 = .ok (.aload_n 0, 1) := by decide +kernel
theorem dX12_cause_50 : decode cX12_cause 50 = .ok (.getfield 26, 3) := by decide +kernel
theorem dX12_cause_53 : decode cX12_cause 53 = .ok (.aload_n 0, 1) := by decide +kernel
theorem dX12_cause_54 : decode cX12_cause 54 = .ok (.getfield 175, 3) := by decide +kernel
theorem dX12_cause_57 : decode cX12_cause 57 = .ok (.iconst 0, 1) := by decide +kernel
theorem dX12_cause_58 : decode cX12_cause 58 = .ok (.iastore, 1) := by decide +kernel
theorem dX12_cause_59 : decode cX12_cause 59 = .ok (.aload_n 0, 1) := by decide +kernel
theorem dX12_cause_60 : decode cX12_cause 60 = .ok (.getfield 29, 3) := by decide +kernel
theorem dX12_cause_63 : decode cX12_cause 63 = .ok (.aload_n 0, 1) := by decide +kernel
theorem dX12_cause_64 : decode cX12_cause 64 = .ok (.getfield 175, 3) := by decide +kernel
theorem dX12_cause_67 : decode cX12_cause 67 = .ok (.iconst 0, 1) := by decide +kernel
theorem dX12_cause_68 : decode cX12_cause 68 = .ok (.iastore, 1) := by decide +kernel
theorem dX12_cause_69 : decode cX12_cause 69 = .ok (.iconst 0, 1) := by decide +kernel
theorem dX12_cause_70 : decode cX12_cause 70 = .ok (.istore_n 2, 1) := by decide +kernel
theorem dX12_cause_71 : decode cX12_cause 71 = .ok (.aload_n 0, 1) := by decide +kernel
theorem dX12_cause_72 : decode cX12_cause 72 = .ok (.ldc2_w 245, 3) := by decide +kernel
theorem dX12_cause_75 : decode cX12_cause 75 = .ok (.invokevirtual 222, 3) := by decide +kernel
theorem dX12_cause_78 : decode cX12_cause 78 = .ok (.ifCond .ne 13, 3) := by decide +kernel
theorem dX12_cause_81 : decode cX12_cause 81 = .ok (.aload_n 0, 1) := by decide +kernel
theorem dX12_cause_82 : decode cX12_cause 82 = .ok (.ldc2_w 247, 3) := by decide +kernel
theorem dX12_cause_85 : decode cX12_cause 85 = .ok (.invokevirtual 222, 3) := by decide +kernel
theorem dX12_cause_88 : decode cX12_cause 88 = .ok (.ifCond .eq 101, 3) := by decide +kernel
theorem dX12_cause_91 : decode cX12_cause 91 = .ok (.aload_n 0, 1) := by decide +kernel
theorem dX12_cause_92 : decode cX12_cause 92 = .ok (.ldc2_w 245, 3) := by decide +kernel
theorem dX12_cause_95 : decode cX12_cause 95 = .ok (.invokevirtual 242, 3) := by decide +kernel
theorem dX12_cause_98 : decode cX12_cause 98 = .ok (.istore_n 3, 1) := by decide +kernel
theorem dX12_cause_99 : decode cX12_cause 99 = .ok (.iload_n 3, 1) := by decide +kernel
theorem dX12_cause_100 : decode cX12_cause 100 = .ok (.ifCond .ne 11, 3) := by decide +kernel
theorem dX12_cause_103 : decode cX12_cause 103 = .ok (.aload_n 0, 1) := by decide +kernel
theorem dX12_cause_104 : decode cX12_cause 104 = .ok (.ldc2_w 247, 3) := by decide +kernel
theorem dX12_cause_107 : decode cX12_cause 107 = .ok (.invokevirtual 242, 3) := by decide +kernel
theorem dX12_cause_110 : decode cX12_cause 110 = .ok (.pop, 1) := by decide +kernel
theorem dX12_cause_111 : decode cX12_cause 111 = .ok (.aload_n 0, 1) := by decide +kernel
theorem dX12_cause_112 : decode cX12_cause 112 = .ok (.iconst 0, 1) := by decide +kernel
theorem dX12_cause_113 : decode cX12_cause 113 = .ok (.iload_n 3, 1) := by decide +kernel
theorem dX12_cause_114 : decode cX12_cause 114 = .ok (.ifCond .eq 12, 3) := by decide +kernel
theorem dX12_cause_117 : decode cX12_cause 117 = .ok (.aload_n 0, 1) := by decide +kernel
theorem dX12_cause_118 : decode cX12_cause 118 = .ok (.getfield 169, 3) := by decide +kernel
theorem dX12_cause_121 : decode cX12_cause 121 = .ok (.iconst 1, 1) := by decide +kernel
theorem dX12_cause_122 : decode cX12_cause 122 = .ok (.isub, 1) := by decide +kernel
theorem dX12_cause_123 : decode cX12_cause 123 = .ok (.goto 9, 3) := by decide +kernel
theorem dX12_cause_126 : decode cX12_cause 126 = .ok (.aload_n 0, 1) := by decide +kernel
theorem dX12_cause_127 : decode cX12_cause 127 = .ok (.getfield 178, 3) := by decide +kernel
theorem dX12_cause_130 : decode cX12_cause 130 = .ok (.iconst 1, 1) := by decide +kernel
theorem dX12_cause_131 : decode cX12_cause 131 = .ok (.isub, 1) := by decide +kernel
theorem dX12_cause_132 : decode cX12_cause 132 = .ok (.invokevirtual 226, 3) := by decide +kernel
theorem dX12_cause_135 : decode cX12_cause 135 = .ok (.ifCond .ne 5, 3) := by decide +kernel
theorem dX12_cause_138 : decode cX12_cause 138 = .ok (.iconst 0, 1) := by decide +kernel
theorem dX12_cause_139 : decode cX12_cause 139 = .ok (.ireturn, 1) := by decide +kernel
theorem dX12_cause_140 : decode cX12_cause 140 = .ok (.iload_n 3, 1) := by decide +kernel
theorem dX12_cause_141 : decode cX12_cause 141 = .ok (.ifCond .eq 24, 3) := by decide +kernel
theorem dX12_cause_144 : decode cX12_cause 144 = .ok (.aload_n 0, 1) := by decide +kernel
theorem dX12_cause_145 : decode cX12_cause 145 = .ok (.getfield 26, 3) := by decide +kernel
theorem dX12_cause_148 : decode cX12_cause 148 = .ok (.aload_n 0, 1) := by decide +kernel
theorem dX12_cause_149 : decode cX12_cause 149 = .ok (.getfield 175, 3) := by decide +kernel
theorem dX12_cause_152 : decode cX12_cause 152 = .ok (.dup2, 1) := by decide +kernel
theorem dX12_cause_153 : decode cX12_cause 153 = .ok (.iaload, 1) := by decide +kernel
theorem dX12_cause_154 : decode cX12_cause 154 = .ok (.iconst 1, 1) := by decide +kernel
theorem dX12_cause_155 : decode cX12_cause 155 = .ok (.aload_n 0, 1) := by decide +kernel
theorem dX12_cause_156 : decode cX12_cause 156 = .ok (.getfield 215, 3) := by decide +kernel
theorem dX12_cause_159 : decode cX12_cause 159 = .ok (.ishl, 1) := by decide +kernel
theorem dX12_cause_160 : decode cX12_cause 160 = .ok (.ior, 1) := by decide +kernel
theorem dX12_cause_161 : decode cX12_cause 161 = .ok (.iastore, 1) := by decide +kernel
theorem dX12_cause_162 : decode cX12_cause 162 = .ok (.goto 21, 3) := by decide +kernel
theorem dX12_cause_165 : decode cX12_cause 165 = .ok (.aload_n 0, 1) := by decide +kernel
theorem dX12_cause_166 : decode cX12_cause 166 = .ok (.getfield 29, 3) := by decide +kernel
theorem dX12_cause_169 : decode cX12_cause 169 = .ok (.aload_n 0, 1) := by decide +kernel
theorem dX12_cause_170 : decode cX12_cause 170 = .ok (.getfield 175, 3) := by decide +kernel
theorem dX12_cause_173 : decode cX12_cause 173 = .ok (.dup2, 1) := by decide +kernel
theorem dX12_cause_174 : decode cX12_cause 174 = .ok (.iaload, 1) := by decide +kernel
theorem dX12_cause_175 : decode cX12_cause 175 = .ok (.iconst 1, 1) := by decide +kernel
theorem dX12_cause_176 : decode cX12_cause 176 = .ok (.aload_n 0, 1) := by decide +kernel
theorem dX12_cause_177 : decode cX12_cause 177 = .ok (.getfield 215, 3) := by decide +kernel
theorem dX12_cause_180 : decode cX12_cause 180 = .ok (.ishl, 1) := by decide +kernel
theorem dX12_cause_181 : decode cX12_cause 181 = .ok (.ior, 1) := by decide +kernel
theorem dX12_cause_182 : decode cX12_cause 182 = .ok (.iastore, 1) := by decide +kernel
theorem dX12_cause_183 : decode cX12_cause 183 = .ok (.iinc 2 1, 3) := by decide +kernel
theorem dX12_cause_186 : decode cX12_cause 186 = .ok (.goto (-115), 3) := by decide +kernel
theorem dX12_cause_189 : decode cX12_cause 189 = .ok (.iload_n 2, 1) := by decide +kernel
theorem dX12_cause_190 : decode cX12_cause 190 = .ok (.ifCond .ne 13, 3) := by decide +kernel
theorem dX12_cause_193 : decode cX12_cause 193 = .ok (.aload_n 0, 1) := by decide +kernel
theorem dX12_cause_194 : decode cX12_cause 194 = .ok (.iconst 0, 1) := by decide +kernel
theorem dX12_cause_195 : decode cX12_cause 195 = .ok (.aload_n 0, 1) := by decide +kernel
theorem dX12_cause_196 : decode cX12_cause 196 = .ok (.getfield 200, 3) := by decide +kernel
theorem dX12_cause_199 : decode cX12_cause 199 = .ok (.invokevirtual 211, 3) := by decide +kernel
theorem dX12_cause_202 : decode cX12_cause 202 = .ok (.ireturn, 1) := by decide +kernel
theorem dX12_cause_203 : decode cX12_cause 203 = .ok (.aload_n 0, 1) := by decide +kernel
theorem dX12_cause_204 : decode cX12_cause 204 = .ok (.dup, 1) := by decide +kernel
theorem dX12_cause_205 : decode cX12_cause 205 = .ok (.getfield 175, 3) := by decide +kernel
theorem dX12_cause_208 : decode cX12_cause 208 = .ok (.iconst 1, 1) := by decide +kernel
theorem dX12_cause_209 : decode cX12_cause 209 = .ok (.iadd, 1) := by decide +kernel
theorem dX12_cause_210 : decode cX12_cause 210 = .ok (.putfield 175, 3) := by decide +kernel
theorem dX12_cause_213 : decode cX12_cause 213 = .ok (.iconst 1, 1) := by decide +kernel
theorem dX12_cause_214 : decode cX12_cause 214 = .ok (.ireturn, 1) := by decide +kernel
abbrev o_X12_cause : Type := Int32 × Int32 × Int32 × Int32 × Int32 × (Nat → Int32) × (Nat → Int32) × (Nat → Int32)
def f_X12_cause_L71 (S : wd_W) (a7 : Nat → Int32) (k189_18 : (Int32) → (Int32) → (Int32) → (Int32) → (Nat → Int32) → (Nat → Int32) → (Option o_X12_cause)) (r29 : (Int32) → (Int32) → (Int32) → (Int32) → (Nat → Int32) → (Nat → Int32) → (Option o_X12_cause)) (x23 : Int32) (x24 : Int32) (x25 : Int32) (x26 : Int32) (a27 : Nat → Int32) (a28 : Nat → Int32) : Option o_X12_cause :=
bd (f_X12_isWord (wd_o S [(10, (S.1 10)), (17, x24), (18, x25), (19, x26)] [] [(5, a7), (6, a27), (7, a28)] [] []) (1818848869 : Int64)) fun o30 =>
lk (fun x31 =>
bd (f_X12_takesWord (wd_o S [(10, (S.1 10)), (17, x31), (18, x25), (19, x26)] [] [(5, a7), (6, a27), (7, a28)] [] []) (1818848869 : Int64)) fun o33 =>
lk (fun x34 =>
lk (fun x36 x37 =>
bd (f_X12_number (wd_o S [(10, (S.1 10)), (17, x34), (18, x25), (19, x26)] [] [(5, a7), (6, a27), (7, a28)] [] []) x37 x36) fun o39 =>
if o39.1 = 0 then (
some ((0 : Int32), (S.1 10), o39.2.1, o39.2.2.1, o39.2.2.2, a7, a27, a28)) else (
lk (fun a40 a41 =>
r29 (x23 + (1 : Int32)) o39.2.1 o39.2.2.1 o39.2.2.2 a40 a41) fun k183_42 =>
if o33.1 = 0 then (
gd (okx (S.1 10) 3) <|
lz ((a28 (S.1 10).toNatClampNeg) ||| ((1 : Int32) <<< (o39.2.2.2 &&& 31))) fun x44 =>
gd (okx (S.1 10) 3) <|
lz (upd a28 (S.1 10).toNatClampNeg x44) fun a46 =>
k183_42 a27 a46) else (
gd (okx (S.1 10) 3) <|
lz ((a27 (S.1 10).toNatClampNeg) ||| ((1 : Int32) <<< (o39.2.2.2 &&& 31))) fun x48 =>
gd (okx (S.1 10) 3) <|
lz (upd a27 (S.1 10).toNatClampNeg x48) fun a50 =>
k183_42 a50 a28))) fun k132_38 =>
if o33.1 = 0 then (
k132_38 ((S.1 11) - (1 : Int32)) (0 : Int32)) else (
k132_38 ((S.1 3) - (1 : Int32)) (0 : Int32))) fun k111_35 =>
if o33.1 = 0 then (
bd (f_X12_takesWord (wd_o S [(10, (S.1 10)), (17, o33.2), (18, x25), (19, x26)] [] [(5, a7), (6, a27), (7, a28)] [] []) (482854658917 : Int64)) fun o54 =>
k111_35 o54.2) else (
k111_35 o33.2)) fun k91_32 =>
if o30.1 = 0 then (
bd (f_X12_isWord (wd_o S [(10, (S.1 10)), (17, o30.2), (18, x25), (19, x26)] [] [(5, a7), (6, a27), (7, a28)] [] []) (482854658917 : Int64)) fun o56 =>
if o56.1 = 0 then (
k189_18 x23 o56.2 x25 x26 a27 a28) else (
k91_32 o56.2)) else (
k91_32 o30.2)
def f_X12_cause (S : wd_W) (p1 : Int32) : Option o_X12_cause :=
lk (bd (f_X12_fails (wd_o S [(10, (S.1 10)), (17, (S.1 17)), (18, (S.1 18)), (19, (S.1 19))] [] [(5, (S.2.2.1 5)), (6, (S.2.2.1 6)), (7, (S.2.2.1 7))] [] []) (3 : Int32) p1) fun o2 =>
gd (okz o2.1) <|
some (o2.1, (S.1 10), (S.1 17), o2.2, (S.1 19), (S.2.2.1 5), (S.2.2.1 6), (S.2.2.1 7))) fun k17_1 =>
if (S.1 10) = (3 : Int32) then (
k17_1) else (
bd (f_X12_readThings (wd_o S [(10, (S.1 10)), (17, (S.1 17)), (18, (S.1 18)), (19, (S.1 19))] [] [(5, (S.2.2.1 5)), (6, (S.2.2.1 6)), (7, (S.2.2.1 7))] [] [])) fun o4 =>
if o4 = (15 : Int32) then (
k17_1) else (
bd (f_X12_number (wd_o S [(10, (S.1 10)), (17, (S.1 17)), (18, (S.1 18)), (19, (S.1 19))] [] [(5, (S.2.2.1 5)), (6, (S.2.2.1 6)), (7, (S.2.2.1 7))] [] []) (0 : Int32) (16 : Int32)) fun o5 =>
if o5.1 = 0 then (
some ((0 : Int32), (S.1 10), o5.2.1, o5.2.2.1, o5.2.2.2, (S.2.2.1 5), (S.2.2.1 6), (S.2.2.1 7))) else (
gd (okx (S.1 10) 3) <|
lz (upd (S.2.2.1 5) (S.1 10).toNatClampNeg o5.2.2.2) fun a7 =>
gd (okx (S.1 10) 3) <|
lz (upd (S.2.2.1 6) (S.1 10).toNatClampNeg (0 : Int32)) fun a9 =>
gd (okx (S.1 10) 3) <|
lz (upd (S.2.2.1 7) (S.1 10).toNatClampNeg (0 : Int32)) fun a11 =>
lk (fun x12 x13 x14 x15 a16 a17 =>
if x12 = 0 then (
bd (f_X12_fails (wd_o S [(10, (S.1 10)), (17, x13), (18, x14), (19, x15)] [] [(5, a7), (6, a16), (7, a17)] [] []) (0 : Int32) x13) fun o20 =>
gd (okz o20.1) <|
some (o20.1, (S.1 10), x13, o20.2, x15, a7, a16, a17)) else (
lz ((S.1 10) + (1 : Int32)) fun x19 =>
some ((1 : Int32), x19, x13, x14, x15, a7, a16, a17))) fun k189_18 =>
it6 (f_X12_cause_L71 S a7 k189_18) fuel (0 : Int32) o5.2.1 o5.2.2.1 o5.2.2.2 a9 a11)))
set_option maxRecDepth 100000 in
set_option maxHeartbeats 4000000 in
theorem c_X12_cause (l : Launch) (D : va_G) (q g : Nat → Nat) (cy : Nat → ClassId) (z : (Nat → Nat) × (Nat → Nat) × Nat) (S : wd_W) (p1 : Int32) (o : o_X12_cause) (hf : f_X12_cause S p1 = some o) : MX layM l yX12_cause cX12_cause 4 (some .boolean) ({ frames := 3, cells := 0, slots := 0, locals := 67 } : Room) D q g cy z [.ref (q 0), .int p1] S false (some (.int o.1)) (wd_o S [(10, o.2.1), (17, o.2.2.1), (18, o.2.2.2.1), (19, o.2.2.2.2.1)] [] [(5, o.2.2.2.2.2.1), (6, o.2.2.2.2.2.2.1), (7, o.2.2.2.2.2.2.2)] [] []) 0 0 := by
  refine mx_of (own := RX12) (lc := [(0, .ref (q 0)), (1, .int p1)]) (by decide +kernel) rfl layM_ok (Nat.le_of_ble_eq_true rfl) rfl ?_
  intro X hXl hXq hXz hC hQ
  subst hXl; subst hXq; subst hXz
  unfold f_X12_cause at hf
  refine go_keys (L1 := [(10, (S.1 10)), (17, (S.1 17)), (18, (S.1 18)), (19, (S.1 19))]) (L2 := []) (L3 := [(5, (S.2.2.1 5)), (6, (S.2.2.1 6)), (7, (S.2.2.1 7))]) (L4 := []) (L5 := []) [10, 17, 18, 19] [] [5, 6, 7] [] [] rfl rfl rfl rfl rfl ?_
  refine go_aload_n (pc' := 1) hC dX12_cause_0 rfl rfl ?_
  refine go_geti (v := (S.1 10)) (pc' := 4) hC 0 10 layM_0 rfl rfl inlX12 (Nat.le_of_ble_eq_true rfl) mw_235 rfl dX12_cause_1 rfl rfl ?_
  refine go_iconst (pc' := 5) hC dX12_cause_4 ki_3 rfl ?_
  obtain ⟨k17_1, hk17_1, hf⟩ := lk_e0 hf
  have jk17_1 : ∀ (_ : Unit), k17_1 = some o → Go X layM S 17 [(0, .ref (x_q X 0)), (1, .int p1)] [] g [(10, (S.1 10)), (17, (S.1 17)), (18, (S.1 18)), (19, (S.1 19))] [] [(5, (S.2.2.1 5)), (6, (S.2.2.1 6)), (7, (S.2.2.1 7))] [] [] 0 0 := by
    intro _ hf
    have hf := hk17_1 hf
    clear hk17_1
    refine go_aload_n (pc' := 18) hC dX12_cause_17 rfl rfl ?_
    refine go_iconst (pc' := 19) hC dX12_cause_18 ki_3 rfl ?_
    refine go_iload_n (pc' := 20) hC dX12_cause_19 rfl rfl ?_
    obtain ⟨o2, ho2, hf⟩ := bd_e hf
    refine go_callV1 (pc' := 23) (As := [.int (3 : Int32), .int p1]) (st := []) (st' := [.int o2.1]) (L1' := [(10, (S.1 10)), (17, (S.1 17)), (18, o2.2), (19, (S.1 19))]) (L2' := []) (L3' := [(5, (S.2.2.1 5)), (6, (S.2.2.1 6)), (7, (S.2.2.1 7))]) (L4' := []) (L5' := []) (cells' := 0) (slots' := 0)  (b := 0) hC dX12_cause_20 ⟨mw_509, mw_512, mw_5, yd_yX12_fails, yp_yX12_fails, Nat.le_of_ble_eq_true rfl, Nat.le_of_ble_eq_true rfl, (Nat.le_of_ble_eq_true rfl), (Nat.le_of_ble_eq_true rfl)⟩ mw_510 mw_511 layM_0 rfl rfl rfl (Nat.le_of_ble_eq_true rfl) (c_X12_fails (x_l X) (x_D X) (x_q X) g (x_cy X) (x_z X) _ (3 : Int32) p1 o2 ho2) rfl rfl rfl rfl rfl rfl rfl rfl rfl rfl rfl rfl rfl rfl ?_
    obtain ⟨h3, hf⟩ := gd_e hf
    obtain rfl := Option.some.inj hf
    exact go_iret hC hQ dX12_cause_23 rfl (okz_n h3) rfl rfl (fun _ => rfl) rfl rfl
  clear hk17_1
  refine go_icmp_eq (tgt := 17) (pc' := 8) hC dX12_cause_5 (by decide) rfl (fun h62 => ?_) (fun h62 => ?_)
  · have hf := ite_t h62 hf
    exact jk17_1 () hf
  · have hf := ite_f h62 hf
    refine go_aload_n (pc' := 9) hC dX12_cause_8 rfl rfl ?_
    obtain ⟨o4, ho4, hf⟩ := bd_e hf
    refine go_callV0 (pc' := 12) (As := []) (st := []) (st' := [.int o4])    (b := 0) hC dX12_cause_9 ⟨mw_259, mw_262, mw_5, yd_yX12_readThings, yp_yX12_readThings, Nat.le_of_ble_eq_true rfl, Nat.le_of_ble_eq_true rfl, (Nat.le_of_ble_eq_true rfl), (Nat.le_of_ble_eq_true rfl)⟩ mw_260 mw_261 layM_0 rfl rfl rfl (Nat.le_of_ble_eq_true rfl) (c_X12_readThings (x_l X) (x_D X) (x_q X) g (x_cy X) (x_z X) _  o4 ho4) rfl rfl ?_
    refine go_bipush (pc' := 14) hC dX12_cause_12 kb_15 rfl ?_
    refine go_icmp_ne (tgt := 24) (pc' := 17) hC dX12_cause_14 (by decide) rfl (fun h61 => ?_) (fun h61 => ?_)
    · have hf := ite_f h61 hf
      refine go_aload_n (pc' := 25) hC dX12_cause_24 rfl rfl ?_
      refine go_iconst (pc' := 26) hC dX12_cause_25 ki_0 rfl ?_
      refine go_bipush (pc' := 28) hC dX12_cause_26 kb_16 rfl ?_
      obtain ⟨o5, ho5, hf⟩ := bd_e hf
      refine go_callV1 (pc' := 31) (As := [.int (0 : Int32), .int (16 : Int32)]) (st := []) (st' := [.int o5.1]) (L1' := [(10, (S.1 10)), (17, o5.2.1), (18, o5.2.2.1), (19, o5.2.2.2)]) (L2' := []) (L3' := [(5, (S.2.2.1 5)), (6, (S.2.2.1 6)), (7, (S.2.2.1 7))]) (L4' := []) (L5' := []) (cells' := 0) (slots' := 0)  (b := 0) hC dX12_cause_28 ⟨mw_517, mw_520, mw_5, yd_yX12_number, yp_yX12_number, Nat.le_of_ble_eq_true rfl, Nat.le_of_ble_eq_true rfl, (Nat.le_of_ble_eq_true rfl), (Nat.le_of_ble_eq_true rfl)⟩ mw_518 mw_519 layM_0 rfl rfl rfl (Nat.le_of_ble_eq_true rfl) (c_X12_number (x_l X) (x_D X) (x_q X) g (x_cy X) (x_z X) _ (0 : Int32) (16 : Int32) o5 ho5) rfl rfl rfl rfl rfl rfl rfl rfl rfl rfl rfl rfl rfl rfl ?_
      refine go_if_ne (tgt := 36) (pc' := 34) hC dX12_cause_31 (by decide) rfl (fun h60 => ?_) (fun h60 => ?_)
      · have hf := ite_f h60 hf
        refine go_aload_n (pc' := 37) hC dX12_cause_36 rfl rfl ?_
        refine go_getq (pc' := 40) hC 0 7 layM_0 rfl rfl inlX12 (Nat.le_of_ble_eq_true rfl) mw_184 rfl dX12_cause_37 rfl ?_
        refine go_aload_n (pc' := 41) hC dX12_cause_40 rfl rfl ?_
        refine go_geti (v := (S.1 10)) (pc' := 44) hC 0 10 layM_0 rfl rfl inlX12 (Nat.le_of_ble_eq_true rfl) mw_235 rfl dX12_cause_41 rfl rfl ?_
        refine go_aload_n (pc' := 45) hC dX12_cause_44 rfl rfl ?_
        refine go_geti (v := o5.2.2.2) (pc' := 48) hC 0 19 layM_0 rfl rfl inlX12 (Nat.le_of_ble_eq_true rfl) mw_496 rfl dX12_cause_45 rfl rfl ?_
        obtain ⟨h6, hf⟩ := gd_e hf
        refine go_iast (f := (S.2.2.1 5)) (pc' := 49) hC 5 layM_5 rfl rfl dX12_cause_48 (okx_in h6) rfl rfl (fun a7 ha L3' hL => ?_)
        have hf := lz_r ha hf
        clear ha
        obtain rfl : L3' = [(5, a7), (6, (S.2.2.1 6)), (7, (S.2.2.1 7))] := hL.symm
        refine go_aload_n (pc' := 50) hC dX12_cause_49 rfl rfl ?_
        refine go_getq (pc' := 53) hC 0 8 layM_0 rfl rfl inlX12 (Nat.le_of_ble_eq_true rfl) mw_185 rfl dX12_cause_50 rfl ?_
        refine go_aload_n (pc' := 54) hC dX12_cause_53 rfl rfl ?_
        refine go_geti (v := (S.1 10)) (pc' := 57) hC 0 10 layM_0 rfl rfl inlX12 (Nat.le_of_ble_eq_true rfl) mw_235 rfl dX12_cause_54 rfl rfl ?_
        refine go_iconst (pc' := 58) hC dX12_cause_57 ki_0 rfl ?_
        obtain ⟨h8, hf⟩ := gd_e hf
        refine go_iast (f := (S.2.2.1 6)) (pc' := 59) hC 6 layM_6 rfl rfl dX12_cause_58 (okx_in h8) rfl rfl (fun a9 ha L3' hL => ?_)
        have hf := lz_r ha hf
        clear ha
        obtain rfl : L3' = [(5, a7), (6, a9), (7, (S.2.2.1 7))] := hL.symm
        refine go_aload_n (pc' := 60) hC dX12_cause_59 rfl rfl ?_
        refine go_getq (pc' := 63) hC 0 9 layM_0 rfl rfl inlX12 (Nat.le_of_ble_eq_true rfl) mw_186 rfl dX12_cause_60 rfl ?_
        refine go_aload_n (pc' := 64) hC dX12_cause_63 rfl rfl ?_
        refine go_geti (v := (S.1 10)) (pc' := 67) hC 0 10 layM_0 rfl rfl inlX12 (Nat.le_of_ble_eq_true rfl) mw_235 rfl dX12_cause_64 rfl rfl ?_
        refine go_iconst (pc' := 68) hC dX12_cause_67 ki_0 rfl ?_
        obtain ⟨h10, hf⟩ := gd_e hf
        refine go_iast (f := (S.2.2.1 7)) (pc' := 69) hC 7 layM_7 rfl rfl dX12_cause_68 (okx_in h10) rfl rfl (fun a11 ha L3' hL => ?_)
        have hf := lz_r ha hf
        clear ha
        obtain rfl : L3' = [(5, a7), (6, a9), (7, a11)] := hL.symm
        refine go_iconst (pc' := 70) hC dX12_cause_69 ki_0 rfl ?_
        refine go_istore_n (lc' := [(0, .ref (x_q X 0)), (1, .int p1), (2, .int (0 : Int32))]) (pc' := 71) hC dX12_cause_70 (Nat.le_of_ble_eq_true rfl) rfl rfl ?_
        obtain ⟨k189_18, hk189_18, hf⟩ := lk_e6 hf
        have jk189_18 : ∀ (x12 : Int32) (x13 : Int32) (x14 : Int32) (x15 : Int32) (a16 : Nat → Int32) (a17 : Nat → Int32), k189_18 x12 x13 x14 x15 a16 a17 = some o → Go X layM S 189 [(0, .ref (x_q X 0)), (2, .int x12)] [] g [(10, (S.1 10)), (17, x13), (18, x14), (19, x15)] [] [(5, a7), (6, a16), (7, a17)] [] [] 0 0 := by
          intro x12 x13 x14 x15 a16 a17 hf
          have hf := hk189_18 x12 x13 x14 x15 a16 a17 hf
          clear hk189_18
          refine go_iload_n (pc' := 190) hC dX12_cause_189 rfl rfl ?_
          refine go_if_ne (tgt := 203) (pc' := 193) hC dX12_cause_190 (by decide) rfl (fun h22 => ?_) (fun h22 => ?_)
          · have hf := ite_f h22 hf
            refine go_aload_n (pc' := 204) hC dX12_cause_203 rfl rfl ?_
            refine go_dup (pc' := 205) hC dX12_cause_204 rfl rfl ?_
            refine go_geti (v := (S.1 10)) (pc' := 208) hC 0 10 layM_0 rfl rfl inlX12 (Nat.le_of_ble_eq_true rfl) mw_235 rfl dX12_cause_205 rfl rfl ?_
            refine go_iconst (pc' := 209) hC dX12_cause_208 ki_1 rfl ?_
            refine go_iadd (pc' := 210) hC dX12_cause_209 rfl ?_
            refine go_namei (fun x19 hx => ?_)
            have hf := lz_r hx hf
            clear hx
            refine go_puti (L1' := [(10, x19), (17, x13), (18, x14), (19, x15)]) (pc' := 213) hC 0 10 layM_0 rfl rfl inlX12 tyX12_ok nmX12 (Nat.le_of_ble_eq_true rfl) mw_235 rfl rfl rfl rfl dX12_cause_210 rfl rfl rfl ?_
            refine go_iconst (pc' := 214) hC dX12_cause_213 ki_1 rfl ?_
            obtain rfl := Option.some.inj hf
            exact go_iret hC hQ dX12_cause_214 rfl rfl rfl rfl (fun _ => rfl) rfl rfl
          · have hf := ite_t h22 hf
            refine go_aload_n (pc' := 194) hC dX12_cause_193 rfl rfl ?_
            refine go_iconst (pc' := 195) hC dX12_cause_194 ki_0 rfl ?_
            refine go_aload_n (pc' := 196) hC dX12_cause_195 rfl rfl ?_
            refine go_geti (v := x13) (pc' := 199) hC 0 17 layM_0 rfl rfl inlX12 (Nat.le_of_ble_eq_true rfl) mw_489 rfl dX12_cause_196 rfl rfl ?_
            obtain ⟨o20, ho20, hf⟩ := bd_e hf
            refine go_callV1 (pc' := 202) (As := [.int (0 : Int32), .int x13]) (st := []) (st' := [.int o20.1]) (L1' := [(10, (S.1 10)), (17, x13), (18, o20.2), (19, x15)]) (L2' := []) (L3' := [(5, a7), (6, a16), (7, a17)]) (L4' := []) (L5' := []) (cells' := 0) (slots' := 0)  (b := 0) hC dX12_cause_199 ⟨mw_509, mw_512, mw_5, yd_yX12_fails, yp_yX12_fails, Nat.le_of_ble_eq_true rfl, Nat.le_of_ble_eq_true rfl, (Nat.le_of_ble_eq_true rfl), (Nat.le_of_ble_eq_true rfl)⟩ mw_510 mw_511 layM_0 rfl rfl rfl (Nat.le_of_ble_eq_true rfl) (c_X12_fails (x_l X) (x_D X) (x_q X) g (x_cy X) (x_z X) _ (0 : Int32) x13 o20 ho20) rfl rfl rfl rfl rfl rfl rfl rfl rfl rfl rfl rfl rfl rfl ?_
            obtain ⟨h21, hf⟩ := gd_e hf
            obtain rfl := Option.some.inj hf
            exact go_iret hC hQ dX12_cause_202 rfl (okz_n h21) rfl rfl (fun _ => rfl) rfl rfl
        clear hk189_18
        have l71_59 : ∀ (nn : Nat) (x23 : Int32) (x24 : Int32) (x25 : Int32) (x26 : Int32) (a27 : Nat → Int32) (a28 : Nat → Int32), it6 (f_X12_cause_L71 S a7 k189_18) nn x23 x24 x25 x26 a27 a28 = some o → Go X layM S 71 [(0, .ref (x_q X 0)), (2, .int x23)] [] g [(10, (S.1 10)), (17, x24), (18, x25), (19, x26)] [] [(5, a7), (6, a27), (7, a28)] [] [] 0 0 := by
          intro nn
          induction nn with
          | zero =>
            intro x23 x24 x25 x26 a27 a28 hf
            exact none_no hf
          | succ nn ih =>
            intro x23 x24 x25 x26 a27 a28 hf
            have hf : f_X12_cause_L71 S a7 k189_18 (it6 (f_X12_cause_L71 S a7 k189_18) nn) x23 x24 x25 x26 a27 a28 = some o := hf
            generalize it6 (f_X12_cause_L71 S a7 k189_18) nn = r29 at ih hf
            unfold f_X12_cause_L71 at hf
            refine go_aload_n (pc' := 72) hC dX12_cause_71 rfl rfl ?_
            refine go_ldc2 (pc' := 75) hC dX12_cause_72 mw_497 rfl ?_
            obtain ⟨o30, ho30, hf⟩ := bd_e hf
            refine go_callV1 (pc' := 78) (As := [.long (1818848869 : Int64)]) (st := []) (st' := [.int o30.1]) (L1' := [(10, (S.1 10)), (17, o30.2), (18, x25), (19, x26)]) (L2' := []) (L3' := [(5, a7), (6, a27), (7, a28)]) (L4' := []) (L5' := []) (cells' := 0) (slots' := 0)  (b := 0) hC dX12_cause_75 ⟨mw_501, mw_504, mw_5, yd_yX12_isWord, yp_yX12_isWord, Nat.le_of_ble_eq_true rfl, Nat.le_of_ble_eq_true rfl, (Nat.le_of_ble_eq_true rfl), (Nat.le_of_ble_eq_true rfl)⟩ mw_502 mw_503 layM_0 rfl rfl rfl (Nat.le_of_ble_eq_true rfl) (c_X12_isWord (x_l X) (x_D X) (x_q X) g (x_cy X) (x_z X) _ (1818848869 : Int64) o30 ho30) rfl rfl rfl rfl rfl rfl rfl rfl rfl rfl rfl rfl rfl rfl ?_
            obtain ⟨k91_32, hk91_32, hf⟩ := lk_e1 hf
            have jk91_32 : ∀ (x31 : Int32), k91_32 x31 = some o → Go X layM S 91 [(0, .ref (x_q X 0)), (2, .int x23)] [] g [(10, (S.1 10)), (17, x31), (18, x25), (19, x26)] [] [(5, a7), (6, a27), (7, a28)] [] [] 0 0 := by
              intro x31 hf
              have hf := hk91_32 x31 hf
              clear hk91_32
              refine go_aload_n (pc' := 92) hC dX12_cause_91 rfl rfl ?_
              refine go_ldc2 (pc' := 95) hC dX12_cause_92 mw_497 rfl ?_
              obtain ⟨o33, ho33, hf⟩ := bd_e hf
              refine go_callV1 (pc' := 98) (As := [.long (1818848869 : Int64)]) (st := []) (st' := [.int o33.1]) (L1' := [(10, (S.1 10)), (17, o33.2), (18, x25), (19, x26)]) (L2' := []) (L3' := [(5, a7), (6, a27), (7, a28)]) (L4' := []) (L5' := []) (cells' := 0) (slots' := 0)  (b := 0) hC dX12_cause_95 ⟨mw_513, mw_516, mw_5, yd_yX12_takesWord, yp_yX12_takesWord, Nat.le_of_ble_eq_true rfl, Nat.le_of_ble_eq_true rfl, (Nat.le_of_ble_eq_true rfl), (Nat.le_of_ble_eq_true rfl)⟩ mw_514 mw_515 layM_0 rfl rfl rfl (Nat.le_of_ble_eq_true rfl) (c_X12_takesWord (x_l X) (x_D X) (x_q X) g (x_cy X) (x_z X) _ (1818848869 : Int64) o33 ho33) rfl rfl rfl rfl rfl rfl rfl rfl rfl rfl rfl rfl rfl rfl ?_
              refine go_istore_n (lc' := [(0, .ref (x_q X 0)), (2, .int x23), (3, .int o33.1)]) (pc' := 99) hC dX12_cause_98 (Nat.le_of_ble_eq_true rfl) rfl rfl ?_
              refine go_iload_n (pc' := 100) hC dX12_cause_99 rfl rfl ?_
              obtain ⟨k111_35, hk111_35, hf⟩ := lk_e1 hf
              have jk111_35 : ∀ (x34 : Int32), k111_35 x34 = some o → Go X layM S 111 [(0, .ref (x_q X 0)), (2, .int x23), (3, .int o33.1)] [] g [(10, (S.1 10)), (17, x34), (18, x25), (19, x26)] [] [(5, a7), (6, a27), (7, a28)] [] [] 0 0 := by
                intro x34 hf
                have hf := hk111_35 x34 hf
                clear hk111_35
                refine go_aload_n (pc' := 112) hC dX12_cause_111 rfl rfl ?_
                refine go_iconst (pc' := 113) hC dX12_cause_112 ki_0 rfl ?_
                refine go_iload_n (pc' := 114) hC dX12_cause_113 rfl rfl ?_
                obtain ⟨k132_38, hk132_38, hf⟩ := lk_e2 hf
                have jk132_38 : ∀ (x36 : Int32) (x37 : Int32), k132_38 x36 x37 = some o → Go X layM S 132 [(0, .ref (x_q X 0)), (2, .int x23), (3, .int o33.1)] [.int x36, .int x37, .ref (x_q X 0)] g [(10, (S.1 10)), (17, x34), (18, x25), (19, x26)] [] [(5, a7), (6, a27), (7, a28)] [] [] 0 0 := by
                  intro x36 x37 hf
                  have hf := hk132_38 x36 x37 hf
                  clear hk132_38
                  obtain ⟨o39, ho39, hf⟩ := bd_e hf
                  refine go_callV1 (pc' := 135) (As := [.int x37, .int x36]) (st := []) (st' := [.int o39.1]) (L1' := [(10, (S.1 10)), (17, o39.2.1), (18, o39.2.2.1), (19, o39.2.2.2)]) (L2' := []) (L3' := [(5, a7), (6, a27), (7, a28)]) (L4' := []) (L5' := []) (cells' := 0) (slots' := 0)  (b := 0) hC dX12_cause_132 ⟨mw_517, mw_520, mw_5, yd_yX12_number, yp_yX12_number, Nat.le_of_ble_eq_true rfl, Nat.le_of_ble_eq_true rfl, (Nat.le_of_ble_eq_true rfl), (Nat.le_of_ble_eq_true rfl)⟩ mw_518 mw_519 layM_0 rfl rfl rfl (Nat.le_of_ble_eq_true rfl) (c_X12_number (x_l X) (x_D X) (x_q X) g (x_cy X) (x_z X) _ x37 x36 o39 ho39) rfl rfl rfl rfl rfl rfl rfl rfl rfl rfl rfl rfl rfl rfl ?_
                  refine go_if_ne (tgt := 140) (pc' := 138) hC dX12_cause_135 (by decide) rfl (fun h52 => ?_) (fun h52 => ?_)
                  · have hf := ite_f h52 hf
                    refine go_iload_n (pc' := 141) hC dX12_cause_140 rfl rfl ?_
                    obtain ⟨k183_42, hk183_42, hf⟩ := lk_e2 hf
                    have jk183_42 : ∀ (a40 : Nat → Int32) (a41 : Nat → Int32), k183_42 a40 a41 = some o → Go X layM S 183 [(0, .ref (x_q X 0)), (2, .int x23)] [] g [(10, (S.1 10)), (17, o39.2.1), (18, o39.2.2.1), (19, o39.2.2.2)] [] [(5, a7), (6, a40), (7, a41)] [] [] 0 0 := by
                      intro a40 a41 hf
                      have hf := hk183_42 a40 a41 hf
                      clear hk183_42
                      refine go_iinc (lc' := [(0, .ref (x_q X 0)), (2, .int (x23 + (1 : Int32)))]) (pc' := 186) hC dX12_cause_183 rfl ki_1 (Nat.le_of_ble_eq_true rfl) rfl rfl ?_
                      refine go_goto (tgt := 71) hC dX12_cause_186 (by decide) ?_
                      exact ih (x23 + (1 : Int32)) o39.2.1 o39.2.2.1 o39.2.2.2 a40 a41 hf
                    clear hk183_42
                    refine go_if_eq (tgt := 165) (pc' := 144) hC dX12_cause_141 (by decide) rfl (fun h51 => ?_) (fun h51 => ?_)
                    · have hf := ite_t h51 hf
                      refine go_aload_n (pc' := 166) hC dX12_cause_165 rfl rfl ?_
                      refine go_getq (pc' := 169) hC 0 9 layM_0 rfl rfl inlX12 (Nat.le_of_ble_eq_true rfl) mw_186 rfl dX12_cause_166 rfl ?_
                      refine go_aload_n (pc' := 170) hC dX12_cause_169 rfl rfl ?_
                      refine go_geti (v := (S.1 10)) (pc' := 173) hC 0 10 layM_0 rfl rfl inlX12 (Nat.le_of_ble_eq_true rfl) mw_235 rfl dX12_cause_170 rfl rfl ?_
                      refine go_dup2 (pc' := 174) hC dX12_cause_173 rfl rfl rfl ?_
                      obtain ⟨h43, hf⟩ := gd_e hf
                      refine go_iald (f := a28) (pc' := 175) hC 7 layM_7 rfl rfl dX12_cause_174 (okx_in h43) rfl ?_
                      refine go_iconst (pc' := 176) hC dX12_cause_175 ki_1 rfl ?_
                      refine go_aload_n (pc' := 177) hC dX12_cause_176 rfl rfl ?_
                      refine go_geti (v := o39.2.2.2) (pc' := 180) hC 0 19 layM_0 rfl rfl inlX12 (Nat.le_of_ble_eq_true rfl) mw_496 rfl dX12_cause_177 rfl rfl ?_
                      refine go_ishl (pc' := 181) hC dX12_cause_180 rfl ?_
                      refine go_ior (pc' := 182) hC dX12_cause_181 rfl ?_
                      refine go_namei (fun x44 hx => ?_)
                      have hf := lz_r hx hf
                      clear hx
                      obtain ⟨h45, hf⟩ := gd_e hf
                      refine go_iast (f := a28) (pc' := 183) hC 7 layM_7 rfl rfl dX12_cause_182 (okx_in h45) rfl rfl (fun a46 ha L3' hL => ?_)
                      have hf := lz_r ha hf
                      clear ha
                      obtain rfl : L3' = [(5, a7), (6, a27), (7, a46)] := hL.symm
                      refine go_sub [0, 2] rfl ?_
                      exact jk183_42 a27 a46 hf
                    · have hf := ite_f h51 hf
                      refine go_aload_n (pc' := 145) hC dX12_cause_144 rfl rfl ?_
                      refine go_getq (pc' := 148) hC 0 8 layM_0 rfl rfl inlX12 (Nat.le_of_ble_eq_true rfl) mw_185 rfl dX12_cause_145 rfl ?_
                      refine go_aload_n (pc' := 149) hC dX12_cause_148 rfl rfl ?_
                      refine go_geti (v := (S.1 10)) (pc' := 152) hC 0 10 layM_0 rfl rfl inlX12 (Nat.le_of_ble_eq_true rfl) mw_235 rfl dX12_cause_149 rfl rfl ?_
                      refine go_dup2 (pc' := 153) hC dX12_cause_152 rfl rfl rfl ?_
                      obtain ⟨h47, hf⟩ := gd_e hf
                      refine go_iald (f := a27) (pc' := 154) hC 6 layM_6 rfl rfl dX12_cause_153 (okx_in h47) rfl ?_
                      refine go_iconst (pc' := 155) hC dX12_cause_154 ki_1 rfl ?_
                      refine go_aload_n (pc' := 156) hC dX12_cause_155 rfl rfl ?_
                      refine go_geti (v := o39.2.2.2) (pc' := 159) hC 0 19 layM_0 rfl rfl inlX12 (Nat.le_of_ble_eq_true rfl) mw_496 rfl dX12_cause_156 rfl rfl ?_
                      refine go_ishl (pc' := 160) hC dX12_cause_159 rfl ?_
                      refine go_ior (pc' := 161) hC dX12_cause_160 rfl ?_
                      refine go_namei (fun x48 hx => ?_)
                      have hf := lz_r hx hf
                      clear hx
                      obtain ⟨h49, hf⟩ := gd_e hf
                      refine go_iast (f := a27) (pc' := 162) hC 6 layM_6 rfl rfl dX12_cause_161 (okx_in h49) rfl rfl (fun a50 ha L3' hL => ?_)
                      have hf := lz_r ha hf
                      clear ha
                      obtain rfl : L3' = [(5, a7), (6, a50), (7, a28)] := hL.symm
                      refine go_goto (tgt := 183) hC dX12_cause_162 (by decide) ?_
                      refine go_sub [0, 2] rfl ?_
                      exact jk183_42 a50 a28 hf
                  · have hf := ite_t h52 hf
                    refine go_iconst (pc' := 139) hC dX12_cause_138 ki_0 rfl ?_
                    obtain rfl := Option.some.inj hf
                    exact go_iret hC hQ dX12_cause_139 rfl rfl rfl rfl (fun _ => rfl) rfl rfl
                clear hk132_38
                refine go_if_eq (tgt := 126) (pc' := 117) hC dX12_cause_114 (by decide) rfl (fun h53 => ?_) (fun h53 => ?_)
                · have hf := ite_t h53 hf
                  refine go_aload_n (pc' := 127) hC dX12_cause_126 rfl rfl ?_
                  refine go_geti (v := (S.1 11)) (pc' := 130) hC 0 11 layM_0 rfl rfl inlX12 (Nat.le_of_ble_eq_true rfl) mw_236 rfl dX12_cause_127 rfl rfl ?_
                  refine go_iconst (pc' := 131) hC dX12_cause_130 ki_1 rfl ?_
                  refine go_isub (pc' := 132) hC dX12_cause_131 rfl ?_
                  exact jk132_38 ((S.1 11) - (1 : Int32)) (0 : Int32) hf
                · have hf := ite_f h53 hf
                  refine go_aload_n (pc' := 118) hC dX12_cause_117 rfl rfl ?_
                  refine go_geti (v := (S.1 3)) (pc' := 121) hC 0 3 layM_0 rfl rfl inlX12 (Nat.le_of_ble_eq_true rfl) mw_233 rfl dX12_cause_118 rfl rfl ?_
                  refine go_iconst (pc' := 122) hC dX12_cause_121 ki_1 rfl ?_
                  refine go_isub (pc' := 123) hC dX12_cause_122 rfl ?_
                  refine go_goto (tgt := 132) hC dX12_cause_123 (by decide) ?_
                  exact jk132_38 ((S.1 3) - (1 : Int32)) (0 : Int32) hf
              clear hk111_35
              refine go_if_ne (tgt := 111) (pc' := 103) hC dX12_cause_100 (by decide) rfl (fun h55 => ?_) (fun h55 => ?_)
              · have hf := ite_f h55 hf
                exact jk111_35 o33.2 hf
              · have hf := ite_t h55 hf
                refine go_aload_n (pc' := 104) hC dX12_cause_103 rfl rfl ?_
                refine go_ldc2 (pc' := 107) hC dX12_cause_104 mw_550 rfl ?_
                obtain ⟨o54, ho54, hf⟩ := bd_e hf
                refine go_callV1 (pc' := 110) (As := [.long (482854658917 : Int64)]) (st := []) (st' := [.int o54.1]) (L1' := [(10, (S.1 10)), (17, o54.2), (18, x25), (19, x26)]) (L2' := []) (L3' := [(5, a7), (6, a27), (7, a28)]) (L4' := []) (L5' := []) (cells' := 0) (slots' := 0)  (b := 0) hC dX12_cause_107 ⟨mw_513, mw_516, mw_5, yd_yX12_takesWord, yp_yX12_takesWord, Nat.le_of_ble_eq_true rfl, Nat.le_of_ble_eq_true rfl, (Nat.le_of_ble_eq_true rfl), (Nat.le_of_ble_eq_true rfl)⟩ mw_514 mw_515 layM_0 rfl rfl rfl (Nat.le_of_ble_eq_true rfl) (c_X12_takesWord (x_l X) (x_D X) (x_q X) g (x_cy X) (x_z X) _ (482854658917 : Int64) o54 ho54) rfl rfl rfl rfl rfl rfl rfl rfl rfl rfl rfl rfl rfl rfl ?_
                refine go_pop (pc' := 111) hC dX12_cause_110 rfl rfl ?_
                exact jk111_35 o54.2 hf
            clear hk91_32
            refine go_if_ne (tgt := 91) (pc' := 81) hC dX12_cause_78 (by decide) rfl (fun h58 => ?_) (fun h58 => ?_)
            · have hf := ite_f h58 hf
              exact jk91_32 o30.2 hf
            · have hf := ite_t h58 hf
              refine go_aload_n (pc' := 82) hC dX12_cause_81 rfl rfl ?_
              refine go_ldc2 (pc' := 85) hC dX12_cause_82 mw_550 rfl ?_
              obtain ⟨o56, ho56, hf⟩ := bd_e hf
              refine go_callV1 (pc' := 88) (As := [.long (482854658917 : Int64)]) (st := []) (st' := [.int o56.1]) (L1' := [(10, (S.1 10)), (17, o56.2), (18, x25), (19, x26)]) (L2' := []) (L3' := [(5, a7), (6, a27), (7, a28)]) (L4' := []) (L5' := []) (cells' := 0) (slots' := 0)  (b := 0) hC dX12_cause_85 ⟨mw_501, mw_504, mw_5, yd_yX12_isWord, yp_yX12_isWord, Nat.le_of_ble_eq_true rfl, Nat.le_of_ble_eq_true rfl, (Nat.le_of_ble_eq_true rfl), (Nat.le_of_ble_eq_true rfl)⟩ mw_502 mw_503 layM_0 rfl rfl rfl (Nat.le_of_ble_eq_true rfl) (c_X12_isWord (x_l X) (x_D X) (x_q X) g (x_cy X) (x_z X) _ (482854658917 : Int64) o56 ho56) rfl rfl rfl rfl rfl rfl rfl rfl rfl rfl rfl rfl rfl rfl ?_
              refine go_if_eq (tgt := 189) (pc' := 91) hC dX12_cause_88 (by decide) rfl (fun h57 => ?_) (fun h57 => ?_)
              · have hf := ite_t h57 hf
                exact jk189_18 x23 o56.2 x25 x26 a27 a28 hf
              · have hf := ite_f h57 hf
                exact jk91_32 o56.2 hf
        refine go_sub [0, 2] rfl ?_
        exact l71_59 fuel (0 : Int32) o5.2.1 o5.2.2.1 o5.2.2.2 a9 a11 hf
      · have hf := ite_t h60 hf
        refine go_iconst (pc' := 35) hC dX12_cause_34 ki_0 rfl ?_
        obtain rfl := Option.some.inj hf
        exact go_iret hC hQ dX12_cause_35 rfl rfl rfl rfl (fun _ => rfl) rfl rfl
    · have hf := ite_t h61 hf
      exact jk17_1 () hf
theorem dX12_what_0 : decode cX12_what 0 = .ok (.aload_n 0, 1) := by decide +kernel
theorem dX12_what_1 : decode cX12_what 1 = .ok (.getfield 193, 3) := by decide +kernel
theorem dX12_what_4 : decode cX12_what 4 = .ok (.ifCond .eq 10, 3) := by decide +kernel
theorem dX12_what_7 : decode cX12_what 7 = .ok (.aload_n 0, 1) := by decide +kernel
theorem dX12_what_8 : decode cX12_what 8 = .ok (.iconst 2, 1) := by decide +kernel
theorem dX12_what_9 : decode cX12_what 9 = .ok (.iload_n 1, 1) := by decide +kernel
theorem dX12_what_10 : decode cX12_what 10 = .ok (.invokevirtual 211, 3) := by decide +kernel
theorem dX12_what_13 : decode cX12_what 13 = .ok (.ireturn, 1) := by decide +kernel
theorem dX12_what_14 : decode cX12_what 14 = .ok (.aload_n 0, 1) := by decide +kernel
theorem dX12_what_15 : decode cX12_what 15 = .ok (.iconst 1, 1) := by decide +kernel
theorem dX12_what_16 : decode cX12_what 16 = .ok (.putfield 193, 3) := by decide +kernel
theorem dX12_what_19 : decode cX12_what 19 = .ok (.aload_n 0, 1) := by decide +kernel
theorem dX12_what_20 : decode cX12_what 20 = .ok (.aload_n 0, 1) := by decide +kernel
theorem dX12_what_21 : decode cX12_what 21 = .ok (.ldc2_w 238, 3) := by decide +kernel
theorem dX12_what_24 : decode cX12_what 24 = .ok (.invokevirtual 222, 3) := by decide +kernel
theorem dX12_what_27 : decode cX12_what 27 = .ok (.ifCond .eq 7, 3) := by decide +kernel
theorem dX12_what_30 : decode cX12_what 30 = .ok (.iconst 0, 1) := by decide +kernel
theorem dX12_what_31 : decode cX12_what 31 = .ok (.goto 60, 3) := by decide +kernel
theorem dX12_what_34 : decode cX12_what 34 = .ok (.aload_n 0, 1) := by decide +kernel
theorem dX12_what_35 : decode cX12_what 35 = .ok (.ldc2_w 249, 3) := by decide +kernel
theorem dX12_what_38 : decode cX12_what 38 = .ok (.invokevirtual 222, 3) := by decide +kernel
theorem dX12_what_41 : decode cX12_what 41 = .ok (.ifCond .eq 7, 3) := by decide +kernel
theorem dX12_what_44 : decode cX12_what 44 = .ok (.iconst 1, 1) := by decide +kernel
theorem dX12_what_45 : decode cX12_what 45 = .ok (.goto 46, 3) := by decide +kernel
theorem dX12_what_48 : decode cX12_what 48 = .ok (.aload_n 0, 1) := by decide +kernel
theorem dX12_what_49 : decode cX12_what 49 = .ok (.ldc2_w 251, 3) := by decide +kernel
theorem dX12_what_52 : decode cX12_what 52 = .ok (.invokevirtual 222, 3) := by decide +kernel
theorem dX12_what_55 : decode cX12_what 55 = .ok (.ifCond .eq 7, 3) := by decide +kernel
theorem dX12_what_58 : decode cX12_what 58 = .ok (.iconst 2, 1) := by decide +kernel
theorem dX12_what_59 : decode cX12_what 59 = .ok (.goto 32, 3) := by decide +kernel
theorem dX12_what_62 : decode cX12_what 62 = .ok (.aload_n 0, 1) := by decide +kernel
theorem dX12_what_63 : decode cX12_what 63 = .ok (.ldc2_w 240, 3) := by decide +kernel
theorem dX12_what_66 : decode cX12_what 66 = .ok (.invokevirtual 222, 3) := by decide +kernel
theorem dX12_what_69 : decode cX12_what 69 = .ok (.ifCond .eq 7, 3) := by decide +kernel
theorem dX12_what_72 : decode cX12_what 72 = .ok (.iconst 3, 1) := by decide +kernel
theorem dX12_what_73 : decode cX12_what 73 = .ok (.goto 18, 3) := by decide +kernel
theorem dX12_what_76 : decode cX12_what 76 = .ok (.aload_n 0, 1) := by decide +kernel
theorem dX12_what_77 : decode cX12_what 77 = .ok (.ldc2_w 253, 3) := by decide +kernel
theorem dX12_what_80 : decode cX12_what 80 = .ok (.invokevirtual 222, 3) := by decide +kernel
theorem dX12_what_83 : decode cX12_what 83 = .ok (.ifCond .eq 7, 3) := by decide +kernel
theorem dX12_what_86 : decode cX12_what 86 = .ok (.iconst 4, 1) := by decide +kernel
theorem dX12_what_87 : decode cX12_what 87 = .ok (.goto 4, 3) := by decide +kernel
theorem dX12_what_90 : decode cX12_what 90 = .ok (.iconst (-1), 1) := by decide +kernel
theorem dX12_what_91 : decode cX12_what 91 = .ok (.putfield 181, 3) := by decide +kernel
theorem dX12_what_94 : decode cX12_what 94 = .ok (.aload_n 0, 1) := by decide +kernel
theorem dX12_what_95 : decode cX12_what 95 = .ok (.getfield 181, 3) := by decide +kernel
theorem dX12_what_98 : decode cX12_what 98 = .ok (.ifCond .ge 13, 3) := by decide +kernel
theorem dX12_what_101 : decode cX12_what 101 = .ok (.aload_n 0, 1) := by decide +kernel
theorem dX12_what_102 : decode cX12_what 102 = .ok (.iconst 0, 1) := by decide +kernel
theorem dX12_what_103 : decode cX12_what 103 = .ok (.aload_n 0, 1) := by decide +kernel
theorem dX12_what_104 : decode cX12_what 104 = .ok (.getfield 200, 3) := by decide +kernel
theorem dX12_what_107 : decode cX12_what 107 = .ok (.invokevirtual 211, 3) := by decide +kernel
theorem dX12_what_110 : decode cX12_what 110 = .ok (.ireturn, 1) := by decide +kernel
theorem dX12_what_111 : decode cX12_what 111 = .ok (.aload_n 0, 1) := by decide +kernel
theorem dX12_what_112 : decode cX12_what 112 = .ok (.aload_n 0, 1) := by decide +kernel
theorem dX12_what_113 : decode cX12_what 113 = .ok (.getfield 181, 3) := by decide +kernel
theorem dX12_what_116 : decode cX12_what 116 = .ok (.ifCond .ne 9, 3) := by decide +kernel
theorem dX12_what_119 : decode cX12_what 119 = .ok (.ldc2_w 238, 3) := by decide +kernel
theorem dX12_what_122 : decode cX12_what 122 = .ok (.goto 48, 3) := by decide +kernel
theorem dX12_what_125 : decode cX12_what 125 = .ok (.aload_n 0, 1) := by decide +kernel
theorem dX12_what_126 : decode cX12_what 126 = .ok (.getfield 181, 3) := by decide +kernel
theorem dX12_what_129 : decode cX12_what 129 = .ok (.iconst 1, 1) := by decide +kernel
theorem dX12_what_130 : decode cX12_what 130 = .ok (.if_icmp .ne 9, 3) := by decide +kernel
theorem dX12_what_133 : decode cX12_what 133 = .ok (.ldc2_w 249, 3) := by decide +kernel
theorem dX12_what_136 : decode cX12_what 136 = .ok (.goto 34, 3) := by decide +kernel
theorem dX12_what_139 : decode cX12_what 139 = .ok (.aload_n 0, 1) := by decide +kernel
theorem dX12_what_140 : decode cX12_what 140 = .ok (.getfield 181, 3) := by decide +kernel
theorem dX12_what_143 : decode cX12_what 143 = .ok (.iconst 2, 1) := by decide +kernel
theorem dX12_what_144 : decode cX12_what 144 = .ok (.if_icmp .ne 9, 3) := by decide +kernel
theorem dX12_what_147 : decode cX12_what 147 = .ok (.ldc2_w 251, 3) := by decide +kernel
theorem dX12_what_150 : decode cX12_what 150 = .ok (.goto 20, 3) := by decide +kernel
theorem dX12_what_153 : decode cX12_what 153 = .ok (.aload_n 0, 1) := by decide +kernel
theorem dX12_what_154 : decode cX12_what 154 = .ok (.getfield 181, 3) := by decide +kernel
theorem dX12_what_157 : decode cX12_what 157 = .ok (.iconst 3, 1) := by decide +kernel
theorem dX12_what_158 : decode cX12_what 158 = .ok (.if_icmp .ne 9, 3) := by decide +kernel
theorem dX12_what_161 : decode cX12_what 161 = .ok (.ldc2_w 240, 3) := by decide +kernel
theorem dX12_what_164 : decode cX12_what 164 = .ok (.goto 6, 3) := by decide +kernel
theorem dX12_what_167 : decode cX12_what 167 = .ok (.ldc2_w 253, 3) := by decide +kernel
theorem dX12_what_170 : decode cX12_what 170 = .ok (.invokevirtual 242, 3) := by decide +kernel
theorem dX12_what_173 : decode cX12_what 173 = .ok (.pop, 1) := by decide +kernel
theorem dX12_what_174 : decode cX12_what 174 = .ok (.aload_n 0, 1) := by decide +kernel
theorem dX12_what_175 : decode cX12_what 175 = .ok (.getfield 181, 3) := by decide +kernel
theorem dX12_what_178 : decode cX12_what 178 = .ok (.iconst 1, 1) := by decide +kernel
theorem dX12_what_179 : decode cX12_what 179 = .ok (.if_icmp .ne 5, 3) := by decide +kernel
theorem dX12_what_182 : decode cX12_what 182 = .ok (.iconst 1, 1) := by decide +kernel
theorem dX12_what_183 : decode cX12_what 183 = .ok (.ireturn, 1) := by decide +kernel
theorem dX12_what_184 : decode cX12_what 184 = .ok (.aload_n 0, 1) := by decide +kernel
theorem dX12_what_185 : decode cX12_what 185 = .ok (.getfield 181, 3) := by decide +kernel
theorem dX12_what_188 : decode cX12_what 188 = .ok (.iconst 2, 1) := by decide +kernel
theorem dX12_what_189 : decode cX12_what 189 = .ok (.if_icmp .eq 11, 3) := by decide +kernel
theorem dX12_what_192 : decode cX12_what 192 = .ok (.aload_n 0, 1) := by decide +kernel
theorem dX12_what_193 : decode cX12_what 193 = .ok (.getfield 181, 3) := by decide +kernel
theorem dX12_what_196 : decode cX12_what 196 = .ok (.iconst 3, 1) := by decide +kernel
theorem dX12_what_197 : decode cX12_what 197 = .ok (.if_icmp .ne 38, 3) := by decide +kernel
theorem dX12_what_200 : decode cX12_what 200 = .ok (.aload_n 0, 1) := by decide +kernel
theorem dX12_what_201 : decode cX12_what 201 = .ok (.iconst 1, 1) := by decide +kernel
theorem dX12_what_202 : decode cX12_what 202 = .ok (.aload_n 0, 1) := by decide +kernel
theorem dX12_what_203 : decode cX12_what 203 = .ok (.getfield 181, 3) := by decide +kernel
theorem dX12_what_206 : decode cX12_what 206 = .ok (.iconst 2, 1) := by decide +kernel
theorem dX12_what_207 : decode cX12_what 207 = .ok (.if_icmp .ne 10, 3) := by decide +kernel
theorem dX12_what_210 : decode cX12_what 210 = .ok (.aload_n 0, 1) := by decide +kernel
theorem dX12_what_211 : decode cX12_what 211 = .ok (.getfield 178, 3) := by decide +kernel
theorem dX12_what_214 : decode cX12_what 214 = .ok (.goto 5, 3) := by decide +kernel
theorem dX12_what_217 : decode cX12_what 217 = .ok (.bipush 99, 2) := by decide +kernel
theorem dX12_what_219 : decode cX12_what 219 = .ok (.invokevirtual 226, 3) := by decide +kernel
theorem dX12_what_222 : decode cX12_what 222 = .ok (.ifCond .ne 5, 3) := by decide +kernel
theorem dX12_what_225 : decode cX12_what 225 = .ok (.iconst 0, 1) := by decide +kernel
theorem dX12_what_226 : decode cX12_what 226 = .ok (.ireturn, 1) := by decide +kernel
theorem dX12_what_227 : decode cX12_what 227 = .ok (.aload_n 0, 1) := by decide +kernel
theorem dX12_what_228 : decode cX12_what 228 = .ok (.aload_n 0, 1) := by decide +kernel
theorem dX12_what_229 : decode cX12_what 229 = .ok (.getfield 215, 3) := by decide +kernel
theorem dX12_what_232 : decode cX12_what 232 = .ok (.putfield 184, 3) := by decide +kernel
theorem dX12_what_235 : decode cX12_what 235 = .ok (.aload_n 0, 1) := by decide +kernel
theorem dX12_what_236 : decode cX12_what 236 = .ok (.getfield 181, 3) := by decide +kernel
theorem dX12_what_239 : decode cX12_what 239 = .ok (.iconst 2, 1) := by decide +kernel
theorem dX12_what_240 : decode cX12_what 240 = .ok (.if_icmp .eq 8, 3) := by decide +kernel
theorem dX12_what_243 : decode cX12_what 243 = .ok (.aload_n 0, 1) := by decide +kernel
theorem dX12_what_244 : decode cX12_what 244 = .ok (.invokevirtual 235, 3) := by decide +kernel
theorem dX12_what_247 : decode cX12_what 247 = .ok (.ireturn, 1) := by decide +kernel
theorem dX12_what_248 : decode cX12_what 248 = .ok (.aload_n 0, 1) := by decide +kernel
theorem dX12_what_249 : decode cX12_what 249 = .ok (.invokevirtual 229, 3) := by decide +kernel
theorem dX12_what_252 : decode cX12_what 252 = .ok (.ifCond .ne 5, 3) := by decide +kernel
theorem dX12_what_255 : decode cX12_what 255 = .ok (.iconst 0, 1) := by decide +kernel
theorem dX12_what_256 : decode cX12_what 256 = .ok (.ireturn, 1) := by decide +kernel
theorem dX12_what_257 : decode cX12_what 257 = .ok (.aload_n 0, 1) := by decide +kernel
theorem dX12_what_258 : decode cX12_what 258 = .ok (.aload_n 0, 1) := by decide +kernel
theorem dX12_what_259 : decode cX12_what 259 = .ok (.getfield 215, 3) := by decide +kernel
theorem dX12_what_262 : decode cX12_what 262 = .ok (.putfield 187, 3) := by decide +kernel
theorem dX12_what_265 : decode cX12_what 265 = .ok (.iconst 1, 1) := by decide +kernel
theorem dX12_what_266 : decode cX12_what 266 = .ok (.ireturn, 1) := by decide +kernel
abbrev o_X12_what : Type := Int32 × Int32 × Int32 × Int32 × Int32 × Int32 × Int32 × Int32 × Int32
def f_X12_what (S : wd_W) (p1 : Int32) : Option o_X12_what :=
if (S.1 16) = 0 then (
bd (f_X12_isWord (wd_o S [(12, (S.1 12)), (13, (S.1 13)), (14, (S.1 14)), (15, (S.1 15)), (16, (1 : Int32)), (17, (S.1 17)), (18, (S.1 18)), (19, (S.1 19))] [] [] [] []) (7302757 : Int64)) fun o1 =>
lk (fun x2 x3 =>
if 0 ≤ x2 then (
lk (fun x5 =>
bd (f_X12_takesWord (wd_o S [(12, x2), (13, (S.1 13)), (14, (S.1 14)), (15, (S.1 15)), (16, (1 : Int32)), (17, x3), (18, (S.1 18)), (19, (S.1 19))] [] [] [] []) x5) fun o7 =>
if x2 = (1 : Int32) then (
some ((1 : Int32), x2, (S.1 13), (S.1 14), (S.1 15), (1 : Int32), o7.2, (S.1 18), (S.1 19))) else (
lk (fun x8 x9 x10 x11 =>
if x2 = (2 : Int32) then (
bd (f_X12_readsPlace (wd_o S [(12, x2), (13, x8), (14, (S.1 14)), (15, (S.1 15)), (16, (1 : Int32)), (17, x9), (18, x10), (19, x11)] [] [] [] [])) fun o13 =>
if o13.1 = 0 then (
some ((0 : Int32), x2, x8, (S.1 14), (S.1 15), (1 : Int32), o13.2.1, o13.2.2.1, o13.2.2.2)) else (
some ((1 : Int32), x2, x8, o13.2.2.2, (S.1 15), (1 : Int32), o13.2.1, o13.2.2.1, o13.2.2.2))) else (
bd (f_X12_readsEnds (wd_o S [(12, x2), (13, x8), (14, (S.1 14)), (15, (S.1 15)), (16, (1 : Int32)), (17, x9), (18, x10), (19, x11)] [] [] [] [])) fun o15 =>
gd (okz o15.1) <|
some (o15.1, x2, x8, o15.2.1, o15.2.2.1, (1 : Int32), o15.2.2.2.1, o15.2.2.2.2.1, o15.2.2.2.2.2))) fun k235_12 =>
lk (lk (fun x19 x20 =>
bd (f_X12_number (wd_o S [(12, x2), (13, (S.1 13)), (14, (S.1 14)), (15, (S.1 15)), (16, (1 : Int32)), (17, o7.2), (18, (S.1 18)), (19, (S.1 19))] [] [] [] []) x20 x19) fun o22 =>
if o22.1 = 0 then (
some ((0 : Int32), x2, (S.1 13), (S.1 14), (S.1 15), (1 : Int32), o22.2.1, o22.2.2.1, o22.2.2.2)) else (
k235_12 o22.2.2.2 o22.2.1 o22.2.2.1 o22.2.2.2)) fun k219_21 =>
if x2 = (2 : Int32) then (
k219_21 (S.1 11) (1 : Int32)) else (
k219_21 (99 : Int32) (1 : Int32))) fun k200_18 =>
if x2 = (2 : Int32) then (
k200_18) else (
if x2 = (3 : Int32) then (
k200_18) else (
k235_12 (S.1 13) o7.2 (S.1 18) (S.1 19))))) fun k170_6 =>
if x2 = 0 then (
k170_6 (7302757 : Int64)) else (
if x2 = (1 : Int32) then (
k170_6 (6384748 : Int64)) else (
if x2 = (2 : Int32) then (
k170_6 (1936682341 : Int64)) else (
if x2 = (3 : Int32) then (
k170_6 (1684109683 : Int64)) else (
k170_6 (7632751 : Int64)))))) else (
bd (f_X12_fails (wd_o S [(12, x2), (13, (S.1 13)), (14, (S.1 14)), (15, (S.1 15)), (16, (1 : Int32)), (17, x3), (18, (S.1 18)), (19, (S.1 19))] [] [] [] []) (0 : Int32) x3) fun o32 =>
gd (okz o32.1) <|
some (o32.1, x2, (S.1 13), (S.1 14), (S.1 15), (1 : Int32), x3, o32.2, (S.1 19)))) fun k91_4 =>
if o1.1 = 0 then (
bd (f_X12_isWord (wd_o S [(12, (S.1 12)), (13, (S.1 13)), (14, (S.1 14)), (15, (S.1 15)), (16, (1 : Int32)), (17, o1.2), (18, (S.1 18)), (19, (S.1 19))] [] [] [] []) (6384748 : Int64)) fun o35 =>
if o35.1 = 0 then (
bd (f_X12_isWord (wd_o S [(12, (S.1 12)), (13, (S.1 13)), (14, (S.1 14)), (15, (S.1 15)), (16, (1 : Int32)), (17, o35.2), (18, (S.1 18)), (19, (S.1 19))] [] [] [] []) (1936682341 : Int64)) fun o36 =>
if o36.1 = 0 then (
bd (f_X12_isWord (wd_o S [(12, (S.1 12)), (13, (S.1 13)), (14, (S.1 14)), (15, (S.1 15)), (16, (1 : Int32)), (17, o36.2), (18, (S.1 18)), (19, (S.1 19))] [] [] [] []) (1684109683 : Int64)) fun o37 =>
if o37.1 = 0 then (
bd (f_X12_isWord (wd_o S [(12, (S.1 12)), (13, (S.1 13)), (14, (S.1 14)), (15, (S.1 15)), (16, (1 : Int32)), (17, o37.2), (18, (S.1 18)), (19, (S.1 19))] [] [] [] []) (7632751 : Int64)) fun o38 =>
if o38.1 = 0 then (
k91_4 (-1 : Int32) o38.2) else (
k91_4 (4 : Int32) o38.2)) else (
k91_4 (3 : Int32) o37.2)) else (
k91_4 (2 : Int32) o36.2)) else (
k91_4 (1 : Int32) o35.2)) else (
k91_4 (0 : Int32) o1.2)) else (
bd (f_X12_fails (wd_o S [(12, (S.1 12)), (13, (S.1 13)), (14, (S.1 14)), (15, (S.1 15)), (16, (S.1 16)), (17, (S.1 17)), (18, (S.1 18)), (19, (S.1 19))] [] [] [] []) (2 : Int32) p1) fun o44 =>
gd (okz o44.1) <|
some (o44.1, (S.1 12), (S.1 13), (S.1 14), (S.1 15), (S.1 16), (S.1 17), o44.2, (S.1 19)))
set_option maxRecDepth 100000 in
set_option maxHeartbeats 4000000 in
theorem c_X12_what (l : Launch) (D : va_G) (q g : Nat → Nat) (cy : Nat → ClassId) (z : (Nat → Nat) × (Nat → Nat) × Nat) (S : wd_W) (p1 : Int32) (o : o_X12_what) (hf : f_X12_what S p1 = some o) : MX layM l yX12_what cX12_what 2 (some .boolean) ({ frames := 4, cells := 0, slots := 0, locals := 90 } : Room) D q g cy z [.ref (q 0), .int p1] S false (some (.int o.1)) (wd_o S [(12, o.2.1), (13, o.2.2.1), (14, o.2.2.2.1), (15, o.2.2.2.2.1), (16, o.2.2.2.2.2.1), (17, o.2.2.2.2.2.2.1), (18, o.2.2.2.2.2.2.2.1), (19, o.2.2.2.2.2.2.2.2)] [] [] [] []) 0 0 := by
  refine mx_of (own := RX12) (lc := [(0, .ref (q 0)), (1, .int p1)]) (by decide +kernel) rfl layM_ok (Nat.le_of_ble_eq_true rfl) rfl ?_
  intro X hXl hXq hXz hC hQ
  subst hXl; subst hXq; subst hXz
  unfold f_X12_what at hf
  refine go_keys (L1 := [(12, (S.1 12)), (13, (S.1 13)), (14, (S.1 14)), (15, (S.1 15)), (16, (S.1 16)), (17, (S.1 17)), (18, (S.1 18)), (19, (S.1 19))]) (L2 := []) (L3 := []) (L4 := []) (L5 := []) [12, 13, 14, 15, 16, 17, 18, 19] [] [] [] [] rfl rfl rfl rfl rfl ?_
  refine go_aload_n (pc' := 1) hC dX12_what_0 rfl rfl ?_
  refine go_geti (v := (S.1 16)) (pc' := 4) hC 0 16 layM_0 rfl rfl inlX12 (Nat.le_of_ble_eq_true rfl) mw_241 rfl dX12_what_1 rfl rfl ?_
  refine go_if_eq (tgt := 14) (pc' := 7) hC dX12_what_4 (by decide) rfl (fun h46 => ?_) (fun h46 => ?_)
  · have hf := ite_t h46 hf
    refine go_aload_n (pc' := 15) hC dX12_what_14 rfl rfl ?_
    refine go_iconst (pc' := 16) hC dX12_what_15 ki_1 rfl ?_
    refine go_puti (L1' := [(12, (S.1 12)), (13, (S.1 13)), (14, (S.1 14)), (15, (S.1 15)), (16, (1 : Int32)), (17, (S.1 17)), (18, (S.1 18)), (19, (S.1 19))]) (pc' := 19) hC 0 16 layM_0 rfl rfl inlX12 tyX12_ok nmX12 (Nat.le_of_ble_eq_true rfl) mw_241 rfl rfl rfl rfl dX12_what_16 rfl rfl rfl ?_
    refine go_aload_n (pc' := 20) hC dX12_what_19 rfl rfl ?_
    refine go_aload_n (pc' := 21) hC dX12_what_20 rfl rfl ?_
    refine go_ldc2 (pc' := 24) hC dX12_what_21 mw_532 rfl ?_
    obtain ⟨o1, ho1, hf⟩ := bd_e hf
    refine go_callV1 (pc' := 27) (As := [.long (7302757 : Int64)]) (st := [.ref (x_q X 0)]) (st' := [.int o1.1, .ref (x_q X 0)]) (L1' := [(12, (S.1 12)), (13, (S.1 13)), (14, (S.1 14)), (15, (S.1 15)), (16, (1 : Int32)), (17, o1.2), (18, (S.1 18)), (19, (S.1 19))]) (L2' := []) (L3' := []) (L4' := []) (L5' := []) (cells' := 0) (slots' := 0)  (b := 0) hC dX12_what_24 ⟨mw_501, mw_504, mw_5, yd_yX12_isWord, yp_yX12_isWord, Nat.le_of_ble_eq_true rfl, Nat.le_of_ble_eq_true rfl, (Nat.le_of_ble_eq_true rfl), (Nat.le_of_ble_eq_true rfl)⟩ mw_502 mw_503 layM_0 rfl rfl rfl (Nat.le_of_ble_eq_true rfl) (c_X12_isWord (x_l X) (x_D X) (x_q X) g (x_cy X) (x_z X) _ (7302757 : Int64) o1 ho1) rfl rfl rfl rfl rfl rfl rfl rfl rfl rfl rfl rfl rfl rfl ?_
    obtain ⟨k91_4, hk91_4, hf⟩ := lk_e2 hf
    have jk91_4 : ∀ (x2 : Int32) (x3 : Int32), k91_4 x2 x3 = some o → Go X layM S 91 [(0, .ref (x_q X 0))] [.int x2, .ref (x_q X 0)] g [(12, (S.1 12)), (13, (S.1 13)), (14, (S.1 14)), (15, (S.1 15)), (16, (1 : Int32)), (17, x3), (18, (S.1 18)), (19, (S.1 19))] [] [] [] [] 0 0 := by
      intro x2 x3 hf
      have hf := hk91_4 x2 x3 hf
      clear hk91_4
      refine go_puti (L1' := [(12, x2), (13, (S.1 13)), (14, (S.1 14)), (15, (S.1 15)), (16, (1 : Int32)), (17, x3), (18, (S.1 18)), (19, (S.1 19))]) (pc' := 94) hC 0 12 layM_0 rfl rfl inlX12 tyX12_ok nmX12 (Nat.le_of_ble_eq_true rfl) mw_237 rfl rfl rfl rfl dX12_what_91 rfl rfl rfl ?_
      refine go_aload_n (pc' := 95) hC dX12_what_94 rfl rfl ?_
      refine go_geti (v := x2) (pc' := 98) hC 0 12 layM_0 rfl rfl inlX12 (Nat.le_of_ble_eq_true rfl) mw_237 rfl dX12_what_95 rfl rfl ?_
      refine go_if_ge (tgt := 111) (pc' := 101) hC dX12_what_98 (by decide) rfl (fun h34 => ?_) (fun h34 => ?_)
      · have hf := ite_t h34 hf
        refine go_aload_n (pc' := 112) hC dX12_what_111 rfl rfl ?_
        refine go_aload_n (pc' := 113) hC dX12_what_112 rfl rfl ?_
        refine go_geti (v := x2) (pc' := 116) hC 0 12 layM_0 rfl rfl inlX12 (Nat.le_of_ble_eq_true rfl) mw_237 rfl dX12_what_113 rfl rfl ?_
        obtain ⟨k170_6, hk170_6, hf⟩ := lk_e1 hf
        have jk170_6 : ∀ (x5 : Int64), k170_6 x5 = some o → Go X layM S 170 [(0, .ref (x_q X 0))] [.long x5, .ref (x_q X 0)] g [(12, x2), (13, (S.1 13)), (14, (S.1 14)), (15, (S.1 15)), (16, (1 : Int32)), (17, x3), (18, (S.1 18)), (19, (S.1 19))] [] [] [] [] 0 0 := by
          intro x5 hf
          have hf := hk170_6 x5 hf
          clear hk170_6
          obtain ⟨o7, ho7, hf⟩ := bd_e hf
          refine go_callV1 (pc' := 173) (As := [.long x5]) (st := []) (st' := [.int o7.1]) (L1' := [(12, x2), (13, (S.1 13)), (14, (S.1 14)), (15, (S.1 15)), (16, (1 : Int32)), (17, o7.2), (18, (S.1 18)), (19, (S.1 19))]) (L2' := []) (L3' := []) (L4' := []) (L5' := []) (cells' := 0) (slots' := 0)  (b := 0) hC dX12_what_170 ⟨mw_513, mw_516, mw_5, yd_yX12_takesWord, yp_yX12_takesWord, Nat.le_of_ble_eq_true rfl, Nat.le_of_ble_eq_true rfl, (Nat.le_of_ble_eq_true rfl), (Nat.le_of_ble_eq_true rfl)⟩ mw_514 mw_515 layM_0 rfl rfl rfl (Nat.le_of_ble_eq_true rfl) (c_X12_takesWord (x_l X) (x_D X) (x_q X) g (x_cy X) (x_z X) _ x5 o7 ho7) rfl rfl rfl rfl rfl rfl rfl rfl rfl rfl rfl rfl rfl rfl ?_
          refine go_pop (pc' := 174) hC dX12_what_173 rfl rfl ?_
          refine go_aload_n (pc' := 175) hC dX12_what_174 rfl rfl ?_
          refine go_geti (v := x2) (pc' := 178) hC 0 12 layM_0 rfl rfl inlX12 (Nat.le_of_ble_eq_true rfl) mw_237 rfl dX12_what_175 rfl rfl ?_
          refine go_iconst (pc' := 179) hC dX12_what_178 ki_1 rfl ?_
          refine go_icmp_ne (tgt := 184) (pc' := 182) hC dX12_what_179 (by decide) rfl (fun h27 => ?_) (fun h27 => ?_)
          · have hf := ite_f h27 hf
            refine go_aload_n (pc' := 185) hC dX12_what_184 rfl rfl ?_
            refine go_geti (v := x2) (pc' := 188) hC 0 12 layM_0 rfl rfl inlX12 (Nat.le_of_ble_eq_true rfl) mw_237 rfl dX12_what_185 rfl rfl ?_
            refine go_iconst (pc' := 189) hC dX12_what_188 ki_2 rfl ?_
            obtain ⟨k235_12, hk235_12, hf⟩ := lk_e4 hf
            have jk235_12 : ∀ (x8 : Int32) (x9 : Int32) (x10 : Int32) (x11 : Int32), k235_12 x8 x9 x10 x11 = some o → Go X layM S 235 [(0, .ref (x_q X 0))] [] g [(12, x2), (13, x8), (14, (S.1 14)), (15, (S.1 15)), (16, (1 : Int32)), (17, x9), (18, x10), (19, x11)] [] [] [] [] 0 0 := by
              intro x8 x9 x10 x11 hf
              have hf := hk235_12 x8 x9 x10 x11 hf
              clear hk235_12
              refine go_aload_n (pc' := 236) hC dX12_what_235 rfl rfl ?_
              refine go_geti (v := x2) (pc' := 239) hC 0 12 layM_0 rfl rfl inlX12 (Nat.le_of_ble_eq_true rfl) mw_237 rfl dX12_what_236 rfl rfl ?_
              refine go_iconst (pc' := 240) hC dX12_what_239 ki_2 rfl ?_
              refine go_icmp_eq (tgt := 248) (pc' := 243) hC dX12_what_240 (by decide) rfl (fun h17 => ?_) (fun h17 => ?_)
              · have hf := ite_t h17 hf
                refine go_aload_n (pc' := 249) hC dX12_what_248 rfl rfl ?_
                obtain ⟨o13, ho13, hf⟩ := bd_e hf
                refine go_callV1 (pc' := 252) (As := []) (st := []) (st' := [.int o13.1]) (L1' := [(12, x2), (13, x8), (14, (S.1 14)), (15, (S.1 15)), (16, (1 : Int32)), (17, o13.2.1), (18, o13.2.2.1), (19, o13.2.2.2)]) (L2' := []) (L3' := []) (L4' := []) (L5' := []) (cells' := 0) (slots' := 0)  (b := 0) hC dX12_what_249 ⟨mw_538, mw_541, mw_5, yd_yX12_readsPlace, yp_yX12_readsPlace, Nat.le_of_ble_eq_true rfl, Nat.le_of_ble_eq_true rfl, (Nat.le_of_ble_eq_true rfl), (Nat.le_of_ble_eq_true rfl)⟩ mw_539 mw_540 layM_0 rfl rfl rfl (Nat.le_of_ble_eq_true rfl) (c_X12_readsPlace (x_l X) (x_D X) (x_q X) g (x_cy X) (x_z X) _  o13 ho13) rfl rfl rfl rfl rfl rfl rfl rfl rfl rfl rfl rfl rfl rfl ?_
                refine go_if_ne (tgt := 257) (pc' := 255) hC dX12_what_252 (by decide) rfl (fun h14 => ?_) (fun h14 => ?_)
                · have hf := ite_f h14 hf
                  refine go_aload_n (pc' := 258) hC dX12_what_257 rfl rfl ?_
                  refine go_aload_n (pc' := 259) hC dX12_what_258 rfl rfl ?_
                  refine go_geti (v := o13.2.2.2) (pc' := 262) hC 0 19 layM_0 rfl rfl inlX12 (Nat.le_of_ble_eq_true rfl) mw_496 rfl dX12_what_259 rfl rfl ?_
                  refine go_puti (L1' := [(12, x2), (13, x8), (14, o13.2.2.2), (15, (S.1 15)), (16, (1 : Int32)), (17, o13.2.1), (18, o13.2.2.1), (19, o13.2.2.2)]) (pc' := 265) hC 0 14 layM_0 rfl rfl inlX12 tyX12_ok nmX12 (Nat.le_of_ble_eq_true rfl) mw_239 rfl rfl rfl rfl dX12_what_262 rfl rfl rfl ?_
                  refine go_iconst (pc' := 266) hC dX12_what_265 ki_1 rfl ?_
                  obtain rfl := Option.some.inj hf
                  exact go_iret hC hQ dX12_what_266 rfl rfl rfl rfl (fun _ => rfl) rfl rfl
                · have hf := ite_t h14 hf
                  refine go_iconst (pc' := 256) hC dX12_what_255 ki_0 rfl ?_
                  obtain rfl := Option.some.inj hf
                  exact go_iret hC hQ dX12_what_256 rfl rfl rfl rfl (fun _ => rfl) rfl rfl
              · have hf := ite_f h17 hf
                refine go_aload_n (pc' := 244) hC dX12_what_243 rfl rfl ?_
                obtain ⟨o15, ho15, hf⟩ := bd_e hf
                refine go_callV1 (pc' := 247) (As := []) (st := []) (st' := [.int o15.1]) (L1' := [(12, x2), (13, x8), (14, o15.2.1), (15, o15.2.2.1), (16, (1 : Int32)), (17, o15.2.2.2.1), (18, o15.2.2.2.2.1), (19, o15.2.2.2.2.2)]) (L2' := []) (L3' := []) (L4' := []) (L5' := []) (cells' := 0) (slots' := 0)  (b := 0) hC dX12_what_244 ⟨mw_534, mw_537, mw_5, yd_yX12_readsEnds, yp_yX12_readsEnds, Nat.le_of_ble_eq_true rfl, Nat.le_of_ble_eq_true rfl, (Nat.le_of_ble_eq_true rfl), (Nat.le_of_ble_eq_true rfl)⟩ mw_535 mw_536 layM_0 rfl rfl rfl (Nat.le_of_ble_eq_true rfl) (c_X12_readsEnds (x_l X) (x_D X) (x_q X) g (x_cy X) (x_z X) _  o15 ho15) rfl rfl rfl rfl rfl rfl rfl rfl rfl rfl rfl rfl rfl rfl ?_
                obtain ⟨h16, hf⟩ := gd_e hf
                obtain rfl := Option.some.inj hf
                exact go_iret hC hQ dX12_what_247 rfl (okz_n h16) rfl rfl (fun _ => rfl) rfl rfl
            clear hk235_12
            obtain ⟨k200_18, hk200_18, hf⟩ := lk_e0 hf
            have jk200_18 : ∀ (_ : Unit), k200_18 = some o → Go X layM S 200 [(0, .ref (x_q X 0))] [] g [(12, x2), (13, (S.1 13)), (14, (S.1 14)), (15, (S.1 15)), (16, (1 : Int32)), (17, o7.2), (18, (S.1 18)), (19, (S.1 19))] [] [] [] [] 0 0 := by
              intro _ hf
              have hf := hk200_18 hf
              clear hk200_18
              refine go_aload_n (pc' := 201) hC dX12_what_200 rfl rfl ?_
              refine go_iconst (pc' := 202) hC dX12_what_201 ki_1 rfl ?_
              refine go_aload_n (pc' := 203) hC dX12_what_202 rfl rfl ?_
              refine go_geti (v := x2) (pc' := 206) hC 0 12 layM_0 rfl rfl inlX12 (Nat.le_of_ble_eq_true rfl) mw_237 rfl dX12_what_203 rfl rfl ?_
              refine go_iconst (pc' := 207) hC dX12_what_206 ki_2 rfl ?_
              obtain ⟨k219_21, hk219_21, hf⟩ := lk_e2 hf
              have jk219_21 : ∀ (x19 : Int32) (x20 : Int32), k219_21 x19 x20 = some o → Go X layM S 219 [(0, .ref (x_q X 0))] [.int x19, .int x20, .ref (x_q X 0)] g [(12, x2), (13, (S.1 13)), (14, (S.1 14)), (15, (S.1 15)), (16, (1 : Int32)), (17, o7.2), (18, (S.1 18)), (19, (S.1 19))] [] [] [] [] 0 0 := by
                intro x19 x20 hf
                have hf := hk219_21 x19 x20 hf
                clear hk219_21
                obtain ⟨o22, ho22, hf⟩ := bd_e hf
                refine go_callV1 (pc' := 222) (As := [.int x20, .int x19]) (st := []) (st' := [.int o22.1]) (L1' := [(12, x2), (13, (S.1 13)), (14, (S.1 14)), (15, (S.1 15)), (16, (1 : Int32)), (17, o22.2.1), (18, o22.2.2.1), (19, o22.2.2.2)]) (L2' := []) (L3' := []) (L4' := []) (L5' := []) (cells' := 0) (slots' := 0)  (b := 0) hC dX12_what_219 ⟨mw_517, mw_520, mw_5, yd_yX12_number, yp_yX12_number, Nat.le_of_ble_eq_true rfl, Nat.le_of_ble_eq_true rfl, (Nat.le_of_ble_eq_true rfl), (Nat.le_of_ble_eq_true rfl)⟩ mw_518 mw_519 layM_0 rfl rfl rfl (Nat.le_of_ble_eq_true rfl) (c_X12_number (x_l X) (x_D X) (x_q X) g (x_cy X) (x_z X) _ x20 x19 o22 ho22) rfl rfl rfl rfl rfl rfl rfl rfl rfl rfl rfl rfl rfl rfl ?_
                refine go_if_ne (tgt := 227) (pc' := 225) hC dX12_what_222 (by decide) rfl (fun h23 => ?_) (fun h23 => ?_)
                · have hf := ite_f h23 hf
                  refine go_aload_n (pc' := 228) hC dX12_what_227 rfl rfl ?_
                  refine go_aload_n (pc' := 229) hC dX12_what_228 rfl rfl ?_
                  refine go_geti (v := o22.2.2.2) (pc' := 232) hC 0 19 layM_0 rfl rfl inlX12 (Nat.le_of_ble_eq_true rfl) mw_496 rfl dX12_what_229 rfl rfl ?_
                  refine go_puti (L1' := [(12, x2), (13, o22.2.2.2), (14, (S.1 14)), (15, (S.1 15)), (16, (1 : Int32)), (17, o22.2.1), (18, o22.2.2.1), (19, o22.2.2.2)]) (pc' := 235) hC 0 13 layM_0 rfl rfl inlX12 tyX12_ok nmX12 (Nat.le_of_ble_eq_true rfl) mw_238 rfl rfl rfl rfl dX12_what_232 rfl rfl rfl ?_
                  exact jk235_12 o22.2.2.2 o22.2.1 o22.2.2.1 o22.2.2.2 hf
                · have hf := ite_t h23 hf
                  refine go_iconst (pc' := 226) hC dX12_what_225 ki_0 rfl ?_
                  obtain rfl := Option.some.inj hf
                  exact go_iret hC hQ dX12_what_226 rfl rfl rfl rfl (fun _ => rfl) rfl rfl
              clear hk219_21
              refine go_icmp_ne (tgt := 217) (pc' := 210) hC dX12_what_207 (by decide) rfl (fun h24 => ?_) (fun h24 => ?_)
              · have hf := ite_f h24 hf
                refine go_bipush (pc' := 219) hC dX12_what_217 kb_99 rfl ?_
                exact jk219_21 (99 : Int32) (1 : Int32) hf
              · have hf := ite_t h24 hf
                refine go_aload_n (pc' := 211) hC dX12_what_210 rfl rfl ?_
                refine go_geti (v := (S.1 11)) (pc' := 214) hC 0 11 layM_0 rfl rfl inlX12 (Nat.le_of_ble_eq_true rfl) mw_236 rfl dX12_what_211 rfl rfl ?_
                refine go_goto (tgt := 219) hC dX12_what_214 (by decide) ?_
                exact jk219_21 (S.1 11) (1 : Int32) hf
            clear hk200_18
            refine go_icmp_eq (tgt := 200) (pc' := 192) hC dX12_what_189 (by decide) rfl (fun h26 => ?_) (fun h26 => ?_)
            · have hf := ite_t h26 hf
              exact jk200_18 () hf
            · have hf := ite_f h26 hf
              refine go_aload_n (pc' := 193) hC dX12_what_192 rfl rfl ?_
              refine go_geti (v := x2) (pc' := 196) hC 0 12 layM_0 rfl rfl inlX12 (Nat.le_of_ble_eq_true rfl) mw_237 rfl dX12_what_193 rfl rfl ?_
              refine go_iconst (pc' := 197) hC dX12_what_196 ki_3 rfl ?_
              refine go_icmp_ne (tgt := 235) (pc' := 200) hC dX12_what_197 (by decide) rfl (fun h25 => ?_) (fun h25 => ?_)
              · have hf := ite_f h25 hf
                exact jk235_12 (S.1 13) o7.2 (S.1 18) (S.1 19) hf
              · have hf := ite_t h25 hf
                exact jk200_18 () hf
          · have hf := ite_t h27 hf
            refine go_iconst (pc' := 183) hC dX12_what_182 ki_1 rfl ?_
            obtain rfl := Option.some.inj hf
            exact go_iret hC hQ dX12_what_183 rfl rfl rfl rfl (fun _ => rfl) rfl rfl
        clear hk170_6
        refine go_if_ne (tgt := 125) (pc' := 119) hC dX12_what_116 (by decide) rfl (fun h31 => ?_) (fun h31 => ?_)
        · have hf := ite_f h31 hf
          refine go_aload_n (pc' := 126) hC dX12_what_125 rfl rfl ?_
          refine go_geti (v := x2) (pc' := 129) hC 0 12 layM_0 rfl rfl inlX12 (Nat.le_of_ble_eq_true rfl) mw_237 rfl dX12_what_126 rfl rfl ?_
          refine go_iconst (pc' := 130) hC dX12_what_129 ki_1 rfl ?_
          refine go_icmp_ne (tgt := 139) (pc' := 133) hC dX12_what_130 (by decide) rfl (fun h30 => ?_) (fun h30 => ?_)
          · have hf := ite_f h30 hf
            refine go_aload_n (pc' := 140) hC dX12_what_139 rfl rfl ?_
            refine go_geti (v := x2) (pc' := 143) hC 0 12 layM_0 rfl rfl inlX12 (Nat.le_of_ble_eq_true rfl) mw_237 rfl dX12_what_140 rfl rfl ?_
            refine go_iconst (pc' := 144) hC dX12_what_143 ki_2 rfl ?_
            refine go_icmp_ne (tgt := 153) (pc' := 147) hC dX12_what_144 (by decide) rfl (fun h29 => ?_) (fun h29 => ?_)
            · have hf := ite_f h29 hf
              refine go_aload_n (pc' := 154) hC dX12_what_153 rfl rfl ?_
              refine go_geti (v := x2) (pc' := 157) hC 0 12 layM_0 rfl rfl inlX12 (Nat.le_of_ble_eq_true rfl) mw_237 rfl dX12_what_154 rfl rfl ?_
              refine go_iconst (pc' := 158) hC dX12_what_157 ki_3 rfl ?_
              refine go_icmp_ne (tgt := 167) (pc' := 161) hC dX12_what_158 (by decide) rfl (fun h28 => ?_) (fun h28 => ?_)
              · have hf := ite_f h28 hf
                refine go_ldc2 (pc' := 170) hC dX12_what_167 mw_557 rfl ?_
                exact jk170_6 (7632751 : Int64) hf
              · have hf := ite_t h28 hf
                refine go_ldc2 (pc' := 164) hC dX12_what_161 mw_533 rfl ?_
                refine go_goto (tgt := 170) hC dX12_what_164 (by decide) ?_
                exact jk170_6 (1684109683 : Int64) hf
            · have hf := ite_t h29 hf
              refine go_ldc2 (pc' := 150) hC dX12_what_147 mw_556 rfl ?_
              refine go_goto (tgt := 170) hC dX12_what_150 (by decide) ?_
              exact jk170_6 (1936682341 : Int64) hf
          · have hf := ite_t h30 hf
            refine go_ldc2 (pc' := 136) hC dX12_what_133 mw_555 rfl ?_
            refine go_goto (tgt := 170) hC dX12_what_136 (by decide) ?_
            exact jk170_6 (6384748 : Int64) hf
        · have hf := ite_t h31 hf
          refine go_ldc2 (pc' := 122) hC dX12_what_119 mw_532 rfl ?_
          refine go_goto (tgt := 170) hC dX12_what_122 (by decide) ?_
          exact jk170_6 (7302757 : Int64) hf
      · have hf := ite_f h34 hf
        refine go_aload_n (pc' := 102) hC dX12_what_101 rfl rfl ?_
        refine go_iconst (pc' := 103) hC dX12_what_102 ki_0 rfl ?_
        refine go_aload_n (pc' := 104) hC dX12_what_103 rfl rfl ?_
        refine go_geti (v := x3) (pc' := 107) hC 0 17 layM_0 rfl rfl inlX12 (Nat.le_of_ble_eq_true rfl) mw_489 rfl dX12_what_104 rfl rfl ?_
        obtain ⟨o32, ho32, hf⟩ := bd_e hf
        refine go_callV1 (pc' := 110) (As := [.int (0 : Int32), .int x3]) (st := []) (st' := [.int o32.1]) (L1' := [(12, x2), (13, (S.1 13)), (14, (S.1 14)), (15, (S.1 15)), (16, (1 : Int32)), (17, x3), (18, o32.2), (19, (S.1 19))]) (L2' := []) (L3' := []) (L4' := []) (L5' := []) (cells' := 0) (slots' := 0)  (b := 0) hC dX12_what_107 ⟨mw_509, mw_512, mw_5, yd_yX12_fails, yp_yX12_fails, Nat.le_of_ble_eq_true rfl, Nat.le_of_ble_eq_true rfl, (Nat.le_of_ble_eq_true rfl), (Nat.le_of_ble_eq_true rfl)⟩ mw_510 mw_511 layM_0 rfl rfl rfl (Nat.le_of_ble_eq_true rfl) (c_X12_fails (x_l X) (x_D X) (x_q X) g (x_cy X) (x_z X) _ (0 : Int32) x3 o32 ho32) rfl rfl rfl rfl rfl rfl rfl rfl rfl rfl rfl rfl rfl rfl ?_
        obtain ⟨h33, hf⟩ := gd_e hf
        obtain rfl := Option.some.inj hf
        exact go_iret hC hQ dX12_what_110 rfl (okz_n h33) rfl rfl (fun _ => rfl) rfl rfl
    clear hk91_4
    refine go_if_eq (tgt := 34) (pc' := 30) hC dX12_what_27 (by decide) rfl (fun h43 => ?_) (fun h43 => ?_)
    · have hf := ite_t h43 hf
      refine go_aload_n (pc' := 35) hC dX12_what_34 rfl rfl ?_
      refine go_ldc2 (pc' := 38) hC dX12_what_35 mw_555 rfl ?_
      obtain ⟨o35, ho35, hf⟩ := bd_e hf
      refine go_callV1 (pc' := 41) (As := [.long (6384748 : Int64)]) (st := [.ref (x_q X 0)]) (st' := [.int o35.1, .ref (x_q X 0)]) (L1' := [(12, (S.1 12)), (13, (S.1 13)), (14, (S.1 14)), (15, (S.1 15)), (16, (1 : Int32)), (17, o35.2), (18, (S.1 18)), (19, (S.1 19))]) (L2' := []) (L3' := []) (L4' := []) (L5' := []) (cells' := 0) (slots' := 0)  (b := 0) hC dX12_what_38 ⟨mw_501, mw_504, mw_5, yd_yX12_isWord, yp_yX12_isWord, Nat.le_of_ble_eq_true rfl, Nat.le_of_ble_eq_true rfl, (Nat.le_of_ble_eq_true rfl), (Nat.le_of_ble_eq_true rfl)⟩ mw_502 mw_503 layM_0 rfl rfl rfl (Nat.le_of_ble_eq_true rfl) (c_X12_isWord (x_l X) (x_D X) (x_q X) g (x_cy X) (x_z X) _ (6384748 : Int64) o35 ho35) rfl rfl rfl rfl rfl rfl rfl rfl rfl rfl rfl rfl rfl rfl ?_
      refine go_if_eq (tgt := 48) (pc' := 44) hC dX12_what_41 (by decide) rfl (fun h42 => ?_) (fun h42 => ?_)
      · have hf := ite_t h42 hf
        refine go_aload_n (pc' := 49) hC dX12_what_48 rfl rfl ?_
        refine go_ldc2 (pc' := 52) hC dX12_what_49 mw_556 rfl ?_
        obtain ⟨o36, ho36, hf⟩ := bd_e hf
        refine go_callV1 (pc' := 55) (As := [.long (1936682341 : Int64)]) (st := [.ref (x_q X 0)]) (st' := [.int o36.1, .ref (x_q X 0)]) (L1' := [(12, (S.1 12)), (13, (S.1 13)), (14, (S.1 14)), (15, (S.1 15)), (16, (1 : Int32)), (17, o36.2), (18, (S.1 18)), (19, (S.1 19))]) (L2' := []) (L3' := []) (L4' := []) (L5' := []) (cells' := 0) (slots' := 0)  (b := 0) hC dX12_what_52 ⟨mw_501, mw_504, mw_5, yd_yX12_isWord, yp_yX12_isWord, Nat.le_of_ble_eq_true rfl, Nat.le_of_ble_eq_true rfl, (Nat.le_of_ble_eq_true rfl), (Nat.le_of_ble_eq_true rfl)⟩ mw_502 mw_503 layM_0 rfl rfl rfl (Nat.le_of_ble_eq_true rfl) (c_X12_isWord (x_l X) (x_D X) (x_q X) g (x_cy X) (x_z X) _ (1936682341 : Int64) o36 ho36) rfl rfl rfl rfl rfl rfl rfl rfl rfl rfl rfl rfl rfl rfl ?_
        refine go_if_eq (tgt := 62) (pc' := 58) hC dX12_what_55 (by decide) rfl (fun h41 => ?_) (fun h41 => ?_)
        · have hf := ite_t h41 hf
          refine go_aload_n (pc' := 63) hC dX12_what_62 rfl rfl ?_
          refine go_ldc2 (pc' := 66) hC dX12_what_63 mw_533 rfl ?_
          obtain ⟨o37, ho37, hf⟩ := bd_e hf
          refine go_callV1 (pc' := 69) (As := [.long (1684109683 : Int64)]) (st := [.ref (x_q X 0)]) (st' := [.int o37.1, .ref (x_q X 0)]) (L1' := [(12, (S.1 12)), (13, (S.1 13)), (14, (S.1 14)), (15, (S.1 15)), (16, (1 : Int32)), (17, o37.2), (18, (S.1 18)), (19, (S.1 19))]) (L2' := []) (L3' := []) (L4' := []) (L5' := []) (cells' := 0) (slots' := 0)  (b := 0) hC dX12_what_66 ⟨mw_501, mw_504, mw_5, yd_yX12_isWord, yp_yX12_isWord, Nat.le_of_ble_eq_true rfl, Nat.le_of_ble_eq_true rfl, (Nat.le_of_ble_eq_true rfl), (Nat.le_of_ble_eq_true rfl)⟩ mw_502 mw_503 layM_0 rfl rfl rfl (Nat.le_of_ble_eq_true rfl) (c_X12_isWord (x_l X) (x_D X) (x_q X) g (x_cy X) (x_z X) _ (1684109683 : Int64) o37 ho37) rfl rfl rfl rfl rfl rfl rfl rfl rfl rfl rfl rfl rfl rfl ?_
          refine go_if_eq (tgt := 76) (pc' := 72) hC dX12_what_69 (by decide) rfl (fun h40 => ?_) (fun h40 => ?_)
          · have hf := ite_t h40 hf
            refine go_aload_n (pc' := 77) hC dX12_what_76 rfl rfl ?_
            refine go_ldc2 (pc' := 80) hC dX12_what_77 mw_557 rfl ?_
            obtain ⟨o38, ho38, hf⟩ := bd_e hf
            refine go_callV1 (pc' := 83) (As := [.long (7632751 : Int64)]) (st := [.ref (x_q X 0)]) (st' := [.int o38.1, .ref (x_q X 0)]) (L1' := [(12, (S.1 12)), (13, (S.1 13)), (14, (S.1 14)), (15, (S.1 15)), (16, (1 : Int32)), (17, o38.2), (18, (S.1 18)), (19, (S.1 19))]) (L2' := []) (L3' := []) (L4' := []) (L5' := []) (cells' := 0) (slots' := 0)  (b := 0) hC dX12_what_80 ⟨mw_501, mw_504, mw_5, yd_yX12_isWord, yp_yX12_isWord, Nat.le_of_ble_eq_true rfl, Nat.le_of_ble_eq_true rfl, (Nat.le_of_ble_eq_true rfl), (Nat.le_of_ble_eq_true rfl)⟩ mw_502 mw_503 layM_0 rfl rfl rfl (Nat.le_of_ble_eq_true rfl) (c_X12_isWord (x_l X) (x_D X) (x_q X) g (x_cy X) (x_z X) _ (7632751 : Int64) o38 ho38) rfl rfl rfl rfl rfl rfl rfl rfl rfl rfl rfl rfl rfl rfl ?_
            refine go_if_eq (tgt := 90) (pc' := 86) hC dX12_what_83 (by decide) rfl (fun h39 => ?_) (fun h39 => ?_)
            · have hf := ite_t h39 hf
              refine go_iconst (pc' := 91) hC dX12_what_90 ki_m1 rfl ?_
              refine go_sub [0] rfl ?_
              exact jk91_4 (-1 : Int32) o38.2 hf
            · have hf := ite_f h39 hf
              refine go_iconst (pc' := 87) hC dX12_what_86 ki_4 rfl ?_
              refine go_goto (tgt := 91) hC dX12_what_87 (by decide) ?_
              refine go_sub [0] rfl ?_
              exact jk91_4 (4 : Int32) o38.2 hf
          · have hf := ite_f h40 hf
            refine go_iconst (pc' := 73) hC dX12_what_72 ki_3 rfl ?_
            refine go_goto (tgt := 91) hC dX12_what_73 (by decide) ?_
            refine go_sub [0] rfl ?_
            exact jk91_4 (3 : Int32) o37.2 hf
        · have hf := ite_f h41 hf
          refine go_iconst (pc' := 59) hC dX12_what_58 ki_2 rfl ?_
          refine go_goto (tgt := 91) hC dX12_what_59 (by decide) ?_
          refine go_sub [0] rfl ?_
          exact jk91_4 (2 : Int32) o36.2 hf
      · have hf := ite_f h42 hf
        refine go_iconst (pc' := 45) hC dX12_what_44 ki_1 rfl ?_
        refine go_goto (tgt := 91) hC dX12_what_45 (by decide) ?_
        refine go_sub [0] rfl ?_
        exact jk91_4 (1 : Int32) o35.2 hf
    · have hf := ite_f h43 hf
      refine go_iconst (pc' := 31) hC dX12_what_30 ki_0 rfl ?_
      refine go_goto (tgt := 91) hC dX12_what_31 (by decide) ?_
      refine go_sub [0] rfl ?_
      exact jk91_4 (0 : Int32) o1.2 hf
  · have hf := ite_f h46 hf
    refine go_aload_n (pc' := 8) hC dX12_what_7 rfl rfl ?_
    refine go_iconst (pc' := 9) hC dX12_what_8 ki_2 rfl ?_
    refine go_iload_n (pc' := 10) hC dX12_what_9 rfl rfl ?_
    obtain ⟨o44, ho44, hf⟩ := bd_e hf
    refine go_callV1 (pc' := 13) (As := [.int (2 : Int32), .int p1]) (st := []) (st' := [.int o44.1]) (L1' := [(12, (S.1 12)), (13, (S.1 13)), (14, (S.1 14)), (15, (S.1 15)), (16, (S.1 16)), (17, (S.1 17)), (18, o44.2), (19, (S.1 19))]) (L2' := []) (L3' := []) (L4' := []) (L5' := []) (cells' := 0) (slots' := 0)  (b := 0) hC dX12_what_10 ⟨mw_509, mw_512, mw_5, yd_yX12_fails, yp_yX12_fails, Nat.le_of_ble_eq_true rfl, Nat.le_of_ble_eq_true rfl, (Nat.le_of_ble_eq_true rfl), (Nat.le_of_ble_eq_true rfl)⟩ mw_510 mw_511 layM_0 rfl rfl rfl (Nat.le_of_ble_eq_true rfl) (c_X12_fails (x_l X) (x_D X) (x_q X) g (x_cy X) (x_z X) _ (2 : Int32) p1 o44 ho44) rfl rfl rfl rfl rfl rfl rfl rfl rfl rfl rfl rfl rfl rfl ?_
    obtain ⟨h45, hf⟩ := gd_e hf
    obtain rfl := Option.some.inj hf
    exact go_iret hC hQ dX12_what_13 rfl (okz_n h45) rfl rfl (fun _ => rfl) rfl rfl
theorem dX12_text_0 : decode cX12_text 0 = .ok (.aload_n 0, 1) := by decide +kernel
theorem dX12_text_1 : decode cX12_text 1 = .ok (.invokevirtual 155, 3) := by decide +kernel
theorem dX12_text_4 : decode cX12_text 4 = .ok (.aload_n 0, 1) := by decide +kernel
theorem dX12_text_5 : decode cX12_text 5 = .ok (.ldc2_w 255, 3) := by decide +kernel
theorem dX12_text_8 : decode cX12_text 8 = .ok (.invokevirtual 222, 3) := by decide +kernel
theorem dX12_text_11 : decode cX12_text 11 = .ok (.ifCond .ne 13, 3) := by decide +kernel
theorem dX12_text_14 : decode cX12_text 14 = .ok (.aload_n 0, 1) := by decide +kernel
theorem dX12_text_15 : decode cX12_text 15 = .ok (.iconst 0, 1) := by decide +kernel
theorem dX12_text_16 : decode cX12_text 16 = .ok (.aload_n 0, 1) := by decide +kernel
theorem dX12_text_17 : decode cX12_text 17 = .ok (.getfield 200, 3) := by decide +kernel
theorem dX12_text_20 : decode cX12_text 20 = .ok (.invokevirtual 211, 3) := by decide +kernel
theorem dX12_text_23 : decode cX12_text 23 = .ok (.ireturn, 1) := by decide +kernel
theorem dX12_text_24 : decode cX12_text 24 = .ok (.aload_n 0, 1) := by decide +kernel
theorem dX12_text_25 : decode cX12_text 25 = .ok (.ldc2_w 255, 3) := by decide +kernel
theorem dX12_text_28 : decode cX12_text 28 = .ok (.invokevirtual 242, 3) := by decide +kernel
theorem dX12_text_31 : decode cX12_text 31 = .ok (.pop, 1) := by decide +kernel
theorem dX12_text_32 : decode cX12_text 32 = .ok (.aload_n 0, 1) := by decide +kernel
theorem dX12_text_33 : decode cX12_text 33 = .ok (.iconst 2, 1) := by decide +kernel
theorem dX12_text_34 : decode cX12_text 34 = .ok (.bipush 10, 2) := by decide +kernel
theorem dX12_text_36 : decode cX12_text 36 = .ok (.invokevirtual 226, 3) := by decide +kernel
theorem dX12_text_39 : decode cX12_text 39 = .ok (.ifCond .ne 5, 3) := by decide +kernel
theorem dX12_text_42 : decode cX12_text 42 = .ok (.iconst 0, 1) := by decide +kernel
theorem dX12_text_43 : decode cX12_text 43 = .ok (.ireturn, 1) := by decide +kernel
theorem dX12_text_44 : decode cX12_text 44 = .ok (.aload_n 0, 1) := by decide +kernel
theorem dX12_text_45 : decode cX12_text 45 = .ok (.aload_n 0, 1) := by decide +kernel
theorem dX12_text_46 : decode cX12_text 46 = .ok (.getfield 215, 3) := by decide +kernel
theorem dX12_text_49 : decode cX12_text 49 = .ok (.putfield 178, 3) := by decide +kernel
theorem dX12_text_52 : decode cX12_text 52 = .ok (.aload_n 0, 1) := by decide +kernel
theorem dX12_text_53 : decode cX12_text 53 = .ok (.invokevirtual 203, 3) := by decide +kernel
theorem dX12_text_56 : decode cX12_text 56 = .ok (.bipush 59, 2) := by decide +kernel
theorem dX12_text_58 : decode cX12_text 58 = .ok (.if_icmp .ne 111, 3) := by decide +kernel
theorem dX12_text_61 : decode cX12_text 61 = .ok (.aload_n 0, 1) := by decide +kernel
theorem dX12_text_62 : decode cX12_text 62 = .ok (.dup, 1) := by decide +kernel
theorem dX12_text_63 : decode cX12_text 63 = .ok (.getfield 200, 3) := by decide +kernel
theorem dX12_text_66 : decode cX12_text 66 = .ok (.iconst 1, 1) := by decide +kernel
theorem dX12_text_67 : decode cX12_text 67 = .ok (.iadd, 1) := by decide +kernel
theorem dX12_text_68 : decode cX12_text 68 = .ok (.putfield 200, 3) := by decide +kernel
theorem dX12_text_71 : decode cX12_text 71 = .ok (.aload_n 0, 1) := by decide +kernel
theorem dX12_text_72 : decode cX12_text 72 = .ok (.invokevirtual 203, 3) := by decide +kernel
theorem dX12_text_75 : decode cX12_text 75 = .ok (.pop, 1) := by decide +kernel
theorem dX12_text_76 : decode cX12_text 76 = .ok (.aload_n 0, 1) := by decide +kernel
theorem dX12_text_77 : decode cX12_text 77 = .ok (.getfield 200, 3) := by decide +kernel
theorem dX12_text_80 : decode cX12_text 80 = .ok (.istore_n 1, 1) := by decide +kernel
theorem dX12_text_81 : decode cX12_text 81 = .ok (.aload_n 0, 1) := by decide +kernel
theorem dX12_text_82 : decode cX12_text 82 = .ok (.ldc2_w 245, 3) := by decide +kernel
theorem dX12_text_85 : decode cX12_text 85 = .ok (.invokevirtual 242, 3) := by decide +kernel
theorem dX12_text_88 : decode cX12_text 88 = .ok (.ifCond .eq 11, 3) := by decide +kernel
theorem dX12_text_91 : decode cX12_text 91 = .ok (.aload_n 0, 1) := by decide +kernel
theorem dX12_text_92 : decode cX12_text 92 = .ok (.iload_n 1, 1) := by decide +kernel
theorem dX12_text_93 : decode cX12_text 93 = .ok (.invokevirtual 257, 3) := by decide +kernel
theorem dX12_text_96 : decode cX12_text 96 = .ok (.goto 63, 3) := by decide +kernel
theorem dX12_text_99 : decode cX12_text 99 = .ok (.aload_n 0, 1) := by decide +kernel
theorem dX12_text_100 : decode cX12_text 100 = .ok (.ldc2_w 261, 3) := by decide +kernel
theorem dX12_text_103 : decode cX12_text 103 = .ok (.invokevirtual 242, 3) := by decide +kernel
theorem dX12_text_106 : decode cX12_text 106 = .ok (.ifCond .eq 11, 3) := by decide +kernel
theorem dX12_text_109 : decode cX12_text 109 = .ok (.aload_n 0, 1) := by decide +kernel
theorem dX12_text_110 : decode cX12_text 110 = .ok (.iload_n 1, 1) := by decide +kernel
theorem dX12_text_111 : decode cX12_text 111 = .ok (.invokevirtual 263, 3) := by decide +kernel
theorem dX12_text_114 : decode cX12_text 114 = .ok (.goto 45, 3) := by decide +kernel
theorem dX12_text_117 : decode cX12_text 117 = .ok (.aload_n 0, 1) := by decide +kernel
theorem dX12_text_118 : decode cX12_text 118 = .ok (.ldc2_w 266, 3) := by decide +kernel
theorem dX12_text_121 : decode cX12_text 121 = .ok (.invokevirtual 242, 3) := by decide +kernel
theorem dX12_text_124 : decode cX12_text 124 = .ok (.ifCond .eq 11, 3) := by decide +kernel
theorem dX12_text_127 : decode cX12_text 127 = .ok (.aload_n 0, 1) := by decide +kernel
theorem dX12_text_128 : decode cX12_text 128 = .ok (.iload_n 1, 1) := by decide +kernel
theorem dX12_text_129 : decode cX12_text 129 = .ok (.invokevirtual 268, 3) := by decide +kernel
theorem dX12_text_132 : decode cX12_text 132 = .ok (.goto 27, 3) := by decide +kernel
theorem dX12_text_135 : decode cX12_text 135 = .ok (.aload_n 0, 1) := by decide +kernel
theorem dX12_text_136 : decode cX12_text 136 = .ok (.ldc2_w 271, 3) := by decide +kernel
theorem dX12_text_139 : decode cX12_text 139 = .ok (.invokevirtual 242, 3) := by decide +kernel
theorem dX12_text_142 : decode cX12_text 142 = .ok (.ifCond .eq 11, 3) := by decide +kernel
theorem dX12_text_145 : decode cX12_text 145 = .ok (.aload_n 0, 1) := by decide +kernel
theorem dX12_text_146 : decode cX12_text 146 = .ok (.iload_n 1, 1) := by decide +kernel
theorem dX12_text_147 : decode cX12_text 147 = .ok (.invokevirtual 273, 3) := by decide +kernel
theorem dX12_text_150 : decode cX12_text 150 = .ok (.goto 9, 3) := by decide +kernel
theorem dX12_text_153 : decode cX12_text 153 = .ok (.aload_n 0, 1) := by decide +kernel
theorem dX12_text_154 : decode cX12_text 154 = .ok (.iconst 0, 1) := by decide +kernel
theorem dX12_text_155 : decode cX12_text 155 = .ok (.iload_n 1, 1) := by decide +kernel
theorem dX12_text_156 : decode cX12_text 156 = .ok (.invokevirtual 211, 3) := by decide +kernel
theorem dX12_text_159 : decode cX12_text 159 = .ok (.istore_n 2, 1) := by decide +kernel
theorem dX12_text_160 : decode cX12_text 160 = .ok (.iload_n 2, 1) := by decide +kernel
theorem dX12_text_161 : decode cX12_text 161 = .ok (.ifCond .ne 5, 3) := by decide +kernel
theorem dX12_text_164 : decode cX12_text 164 = .ok (.iconst 0, 1) := by decide +kernel
theorem dX12_text_165 : decode cX12_text 165 = .ok (.ireturn, 1) := by decide +kernel
theorem dX12_text_166 : decode cX12_text 166 = .ok (.goto (-114), 3) := by decide +kernel
theorem dX12_text_169 : decode cX12_text 169 = .ok (.aload_n 0, 1) := by decide +kernel
theorem dX12_text_170 : decode cX12_text 170 = .ok (.invokevirtual 203, 3) := by decide +kernel
theorem dX12_text_173 : decode cX12_text 173 = .ok (.iconst (-1), 1) := by decide +kernel
theorem dX12_text_174 : decode cX12_text 174 = .ok (.if_icmp .eq 15, 3) := by decide +kernel
theorem dX12_text_177 : decode cX12_text 177 = .ok (.aload_n 0, 1) := by decide +kernel
theorem dX12_text_178 : decode cX12_text 178 = .ok (.iconst 0, 1) := by decide +kernel
theorem dX12_text_179 : decode cX12_text 179 = .ok (.aload_n 0, 1) := by decide +kernel
theorem dX12_text_180 : decode cX12_text 180 = .ok (.getfield 200, 3) := by decide +kernel
theorem dX12_text_183 : decode cX12_text 183 = .ok (.invokevirtual 211, 3) := by decide +kernel
theorem dX12_text_186 : decode cX12_text 186 = .ok (.ifCond .eq 7, 3) := by decide +kernel
theorem dX12_text_189 : decode cX12_text 189 = .ok (.iconst 1, 1) := by decide +kernel
theorem dX12_text_190 : decode cX12_text 190 = .ok (.goto 4, 3) := by decide +kernel
theorem dX12_text_193 : decode cX12_text 193 = .ok (.iconst 0, 1) := by decide +kernel
theorem dX12_text_194 : decode cX12_text 194 = .ok (.ireturn, 1) := by decide +kernel
abbrev o_X12_text : Type := Int32 × Int32 × Int32 × Int32 × Int32 × Int32 × Int32 × Int32 × Int32 × Int32 × Int32 × Int32 × Int32 × (Nat → Int32) × (Nat → Int32) × (Nat → Int32) × (Nat → Int32) × (Nat → Int32) × (Nat → Int32)
def f_X12_text_L52 (S : wd_W) (o4 : o_X12_number) (k169_22 : (Int32) → (Int32) → (Int32) → (Int32) → (Int32) → (Int32) → (Int32) → (Int32) → (Int32) → (Int32) → (Int32) → (Nat → Int32) → (Nat → Int32) → (Nat → Int32) → (Nat → Int32) → (Nat → Int32) → (Nat → Int32) → (Option o_X12_text)) (r44 : (Int32) → (Int32) → (Int32) → (Int32) → (Int32) → (Int32) → (Int32) → (Int32) → (Int32) → (Int32) → (Int32) → (Nat → Int32) → (Nat → Int32) → (Nat → Int32) → (Nat → Int32) → (Nat → Int32) → (Nat → Int32) → (Option o_X12_text)) (x27 : Int32) (x28 : Int32) (x29 : Int32) (x30 : Int32) (x31 : Int32) (x32 : Int32) (x33 : Int32) (x34 : Int32) (x35 : Int32) (x36 : Int32) (x37 : Int32) (a38 : Nat → Int32) (a39 : Nat → Int32) (a40 : Nat → Int32) (a41 : Nat → Int32) (a42 : Nat → Int32) (a43 : Nat → Int32) : Option o_X12_text :=
bd (f_X12_see (wd_o S [(3, x27), (6, x28), (10, x29), (11, o4.2.2.2), (12, x30), (13, x31), (14, x32), (15, x33), (16, x34), (17, x35), (18, x36), (19, x37)] [] [(2, a38), (3, a39), (4, a40), (5, a41), (6, a42), (7, a43)] [] [])) fun o45 =>
if o45.1 = (59 : Int32) then (
lz (o45.2 + (1 : Int32)) fun x46 =>
bd (f_X12_see (wd_o S [(3, x27), (6, x28), (10, x29), (11, o4.2.2.2), (12, x30), (13, x31), (14, x32), (15, x33), (16, x34), (17, x46), (18, x36), (19, x37)] [] [(2, a38), (3, a39), (4, a40), (5, a41), (6, a42), (7, a43)] [] [])) fun o47 =>
bd (f_X12_takesWord (wd_o S [(3, x27), (6, x28), (10, x29), (11, o4.2.2.2), (12, x30), (13, x31), (14, x32), (15, x33), (16, x34), (17, o47.2), (18, x36), (19, x37)] [] [(2, a38), (3, a39), (4, a40), (5, a41), (6, a42), (7, a43)] [] []) (1818848869 : Int64)) fun o48 =>
lk (fun x49 x50 x51 x52 x53 x54 x55 x56 x57 x58 x59 x60 a61 a62 a63 a64 a65 a66 =>
if x49 = 0 then (
some ((0 : Int32), x50, x51, x52, o4.2.2.2, x53, x54, x55, x56, x57, x58, x59, x60, a61, a62, a63, a64, a65, a66)) else (
r44 x50 x51 x52 x53 x54 x55 x56 x57 x58 x59 x60 a61 a62 a63 a64 a65 a66)) fun k159_67 =>
if o48.1 = 0 then (
bd (f_X12_takesWord (wd_o S [(3, x27), (6, x28), (10, x29), (11, o4.2.2.2), (12, x30), (13, x31), (14, x32), (15, x33), (16, x34), (17, o48.2), (18, x36), (19, x37)] [] [(2, a38), (3, a39), (4, a40), (5, a41), (6, a42), (7, a43)] [] []) (1801807216 : Int64)) fun o69 =>
if o69.1 = 0 then (
bd (f_X12_takesWord (wd_o S [(3, x27), (6, x28), (10, x29), (11, o4.2.2.2), (12, x30), (13, x31), (14, x32), (15, x33), (16, x34), (17, o69.2), (18, x36), (19, x37)] [] [(2, a38), (3, a39), (4, a40), (5, a41), (6, a42), (7, a43)] [] []) (426836849509 : Int64)) fun o70 =>
if o70.1 = 0 then (
bd (f_X12_takesWord (wd_o S [(3, x27), (6, x28), (10, x29), (11, o4.2.2.2), (12, x30), (13, x31), (14, x32), (15, x33), (16, x34), (17, o70.2), (18, x36), (19, x37)] [] [(2, a38), (3, a39), (4, a40), (5, a41), (6, a42), (7, a43)] [] []) (32765938003961704 : Int64)) fun o71 =>
if o71.1 = 0 then (
bd (f_X12_fails (wd_o S [(3, x27), (6, x28), (10, x29), (11, o4.2.2.2), (12, x30), (13, x31), (14, x32), (15, x33), (16, x34), (17, o71.2), (18, x36), (19, x37)] [] [(2, a38), (3, a39), (4, a40), (5, a41), (6, a42), (7, a43)] [] []) (0 : Int32) o47.2) fun o72 =>
k159_67 o72.1 x27 x28 x29 x30 x31 x32 x33 x34 o71.2 o72.2 x37 a38 a39 a40 a41 a42 a43) else (
bd (f_X12_what (wd_o S [(3, x27), (6, x28), (10, x29), (11, o4.2.2.2), (12, x30), (13, x31), (14, x32), (15, x33), (16, x34), (17, o71.2), (18, x36), (19, x37)] [] [(2, a38), (3, a39), (4, a40), (5, a41), (6, a42), (7, a43)] [] []) o47.2) fun o73 =>
k159_67 o73.1 x27 x28 x29 o73.2.1 o73.2.2.1 o73.2.2.2.1 o73.2.2.2.2.1 o73.2.2.2.2.2.1 o73.2.2.2.2.2.2.1 o73.2.2.2.2.2.2.2.1 o73.2.2.2.2.2.2.2.2 a38 a39 a40 a41 a42 a43)) else (
bd (f_X12_cause (wd_o S [(3, x27), (6, x28), (10, x29), (11, o4.2.2.2), (12, x30), (13, x31), (14, x32), (15, x33), (16, x34), (17, o70.2), (18, x36), (19, x37)] [] [(2, a38), (3, a39), (4, a40), (5, a41), (6, a42), (7, a43)] [] []) o47.2) fun o75 =>
k159_67 o75.1 x27 x28 o75.2.1 x30 x31 x32 x33 x34 o75.2.2.1 o75.2.2.2.1 o75.2.2.2.2.1 a38 a39 a40 o75.2.2.2.2.2.1 o75.2.2.2.2.2.2.1 o75.2.2.2.2.2.2.2)) else (
bd (f_X12_keeper (wd_o S [(3, x27), (6, x28), (10, x29), (11, o4.2.2.2), (12, x30), (13, x31), (14, x32), (15, x33), (16, x34), (17, o69.2), (18, x36), (19, x37)] [] [(2, a38), (3, a39), (4, a40), (5, a41), (6, a42), (7, a43)] [] []) o47.2) fun o77 =>
k159_67 o77.1 x27 o77.2.1 x29 x30 x31 x32 x33 x34 o77.2.2.1 o77.2.2.2.1 o77.2.2.2.2.1 a38 o77.2.2.2.2.2.1 o77.2.2.2.2.2.2 a41 a42 a43)) else (
bd (f_X12_readsLine (wd_o S [(3, x27), (6, x28), (10, x29), (11, o4.2.2.2), (12, x30), (13, x31), (14, x32), (15, x33), (16, x34), (17, o48.2), (18, x36), (19, x37)] [] [(2, a38), (3, a39), (4, a40), (5, a41), (6, a42), (7, a43)] [] []) o47.2) fun o79 =>
k159_67 o79.1 o79.2.1 x28 x29 x30 x31 o79.2.2.1 o79.2.2.2.1 x34 o79.2.2.2.2.1 o79.2.2.2.2.2.1 o79.2.2.2.2.2.2.1 o79.2.2.2.2.2.2.2 a39 a40 a41 a42 a43)) else (
k169_22 x27 x28 x29 x30 x31 x32 x33 x34 o45.2 x36 x37 a38 a39 a40 a41 a42 a43)
def f_X12_text (S : wd_W) : Option o_X12_text :=
bd (f_X12_clears (wd_o S [(3, (S.1 3)), (6, (S.1 6)), (10, (S.1 10)), (11, (S.1 11)), (12, (S.1 12)), (13, (S.1 13)), (14, (S.1 14)), (15, (S.1 15)), (16, (S.1 16)), (17, (S.1 17)), (18, (S.1 18)), (19, (S.1 19))] [] [(2, (S.2.2.1 2)), (3, (S.2.2.1 3)), (4, (S.2.2.1 4)), (5, (S.2.2.1 5)), (6, (S.2.2.1 6)), (7, (S.2.2.1 7))] [] [])) fun o1 =>
bd (f_X12_isWord (wd_o S [(3, o1.1), (6, o1.2.1), (10, o1.2.2.1), (11, o1.2.2.2.1), (12, o1.2.2.2.2.1), (13, o1.2.2.2.2.2.1), (14, o1.2.2.2.2.2.2.1), (15, o1.2.2.2.2.2.2.2.1), (16, o1.2.2.2.2.2.2.2.2), (17, (S.1 17)), (18, (S.1 18)), (19, (S.1 19))] [] [(2, (S.2.2.1 2)), (3, (S.2.2.1 3)), (4, (S.2.2.1 4)), (5, (S.2.2.1 5)), (6, (S.2.2.1 6)), (7, (S.2.2.1 7))] [] []) (123610792682867 : Int64)) fun o2 =>
if o2.1 = 0 then (
bd (f_X12_fails (wd_o S [(3, o1.1), (6, o1.2.1), (10, o1.2.2.1), (11, o1.2.2.2.1), (12, o1.2.2.2.2.1), (13, o1.2.2.2.2.2.1), (14, o1.2.2.2.2.2.2.1), (15, o1.2.2.2.2.2.2.2.1), (16, o1.2.2.2.2.2.2.2.2), (17, o2.2), (18, (S.1 18)), (19, (S.1 19))] [] [(2, (S.2.2.1 2)), (3, (S.2.2.1 3)), (4, (S.2.2.1 4)), (5, (S.2.2.1 5)), (6, (S.2.2.1 6)), (7, (S.2.2.1 7))] [] []) (0 : Int32) o2.2) fun o84 =>
gd (okz o84.1) <|
some (o84.1, o1.1, o1.2.1, o1.2.2.1, o1.2.2.2.1, o1.2.2.2.2.1, o1.2.2.2.2.2.1, o1.2.2.2.2.2.2.1, o1.2.2.2.2.2.2.2.1, o1.2.2.2.2.2.2.2.2, o2.2, o84.2, (S.1 19), (S.2.2.1 2), (S.2.2.1 3), (S.2.2.1 4), (S.2.2.1 5), (S.2.2.1 6), (S.2.2.1 7))) else (
bd (f_X12_takesWord (wd_o S [(3, o1.1), (6, o1.2.1), (10, o1.2.2.1), (11, o1.2.2.2.1), (12, o1.2.2.2.2.1), (13, o1.2.2.2.2.2.1), (14, o1.2.2.2.2.2.2.1), (15, o1.2.2.2.2.2.2.2.1), (16, o1.2.2.2.2.2.2.2.2), (17, o2.2), (18, (S.1 18)), (19, (S.1 19))] [] [(2, (S.2.2.1 2)), (3, (S.2.2.1 3)), (4, (S.2.2.1 4)), (5, (S.2.2.1 5)), (6, (S.2.2.1 6)), (7, (S.2.2.1 7))] [] []) (123610792682867 : Int64)) fun o3 =>
bd (f_X12_number (wd_o S [(3, o1.1), (6, o1.2.1), (10, o1.2.2.1), (11, o1.2.2.2.1), (12, o1.2.2.2.2.1), (13, o1.2.2.2.2.2.1), (14, o1.2.2.2.2.2.2.1), (15, o1.2.2.2.2.2.2.2.1), (16, o1.2.2.2.2.2.2.2.2), (17, o3.2), (18, (S.1 18)), (19, (S.1 19))] [] [(2, (S.2.2.1 2)), (3, (S.2.2.1 3)), (4, (S.2.2.1 4)), (5, (S.2.2.1 5)), (6, (S.2.2.1 6)), (7, (S.2.2.1 7))] [] []) (2 : Int32) (10 : Int32)) fun o4 =>
if o4.1 = 0 then (
some ((0 : Int32), o1.1, o1.2.1, o1.2.2.1, o1.2.2.2.1, o1.2.2.2.2.1, o1.2.2.2.2.2.1, o1.2.2.2.2.2.2.1, o1.2.2.2.2.2.2.2.1, o1.2.2.2.2.2.2.2.2, o4.2.1, o4.2.2.1, o4.2.2.2, (S.2.2.1 2), (S.2.2.1 3), (S.2.2.1 4), (S.2.2.1 5), (S.2.2.1 6), (S.2.2.1 7))) else (
lk (fun x5 x6 x7 x8 x9 x10 x11 x12 x13 x14 x15 a16 a17 a18 a19 a20 a21 =>
bd (f_X12_see (wd_o S [(3, x5), (6, x6), (10, x7), (11, o4.2.2.2), (12, x8), (13, x9), (14, x10), (15, x11), (16, x12), (17, x13), (18, x14), (19, x15)] [] [(2, a16), (3, a17), (4, a18), (5, a19), (6, a20), (7, a21)] [] [])) fun o23 =>
if o23.1 = (-1 : Int32) then (
some ((1 : Int32), x5, x6, x7, o4.2.2.2, x8, x9, x10, x11, x12, o23.2, x14, x15, a16, a17, a18, a19, a20, a21)) else (
bd (f_X12_fails (wd_o S [(3, x5), (6, x6), (10, x7), (11, o4.2.2.2), (12, x8), (13, x9), (14, x10), (15, x11), (16, x12), (17, o23.2), (18, x14), (19, x15)] [] [(2, a16), (3, a17), (4, a18), (5, a19), (6, a20), (7, a21)] [] []) (0 : Int32) o23.2) fun o24 =>
if o24.1 = 0 then (
some ((0 : Int32), x5, x6, x7, o4.2.2.2, x8, x9, x10, x11, x12, o23.2, o24.2, x15, a16, a17, a18, a19, a20, a21)) else (
some ((1 : Int32), x5, x6, x7, o4.2.2.2, x8, x9, x10, x11, x12, o23.2, o24.2, x15, a16, a17, a18, a19, a20, a21)))) fun k169_22 =>
it17 (f_X12_text_L52 S o4 k169_22) fuel o1.1 o1.2.1 o1.2.2.1 o1.2.2.2.2.1 o1.2.2.2.2.2.1 o1.2.2.2.2.2.2.1 o1.2.2.2.2.2.2.2.1 o1.2.2.2.2.2.2.2.2 o4.2.1 o4.2.2.1 o4.2.2.2 (S.2.2.1 2) (S.2.2.1 3) (S.2.2.1 4) (S.2.2.1 5) (S.2.2.1 6) (S.2.2.1 7)))
set_option maxRecDepth 100000 in
set_option maxHeartbeats 4000000 in
theorem c_X12_text (l : Launch) (D : va_G) (q g : Nat → Nat) (cy : Nat → ClassId) (z : (Nat → Nat) × (Nat → Nat) × Nat) (S : wd_W) (o : o_X12_text) (hf : f_X12_text S = some o) : MX layM l yX12_text cX12_text 3 (some .boolean) ({ frames := 5, cells := 0, slots := 0, locals := 115 } : Room) D q g cy z [.ref (q 0)] S false (some (.int o.1)) (wd_o S [(3, o.2.1), (6, o.2.2.1), (10, o.2.2.2.1), (11, o.2.2.2.2.1), (12, o.2.2.2.2.2.1), (13, o.2.2.2.2.2.2.1), (14, o.2.2.2.2.2.2.2.1), (15, o.2.2.2.2.2.2.2.2.1), (16, o.2.2.2.2.2.2.2.2.2.1), (17, o.2.2.2.2.2.2.2.2.2.2.1), (18, o.2.2.2.2.2.2.2.2.2.2.2.1), (19, o.2.2.2.2.2.2.2.2.2.2.2.2.1)] [] [(2, o.2.2.2.2.2.2.2.2.2.2.2.2.2.1), (3, o.2.2.2.2.2.2.2.2.2.2.2.2.2.2.1), (4, o.2.2.2.2.2.2.2.2.2.2.2.2.2.2.2.1), (5, o.2.2.2.2.2.2.2.2.2.2.2.2.2.2.2.2.1), (6, o.2.2.2.2.2.2.2.2.2.2.2.2.2.2.2.2.2.1), (7, o.2.2.2.2.2.2.2.2.2.2.2.2.2.2.2.2.2.2)] [] []) 0 0 := by
  refine mx_of (own := RX12) (lc := [(0, .ref (q 0))]) (by decide +kernel) rfl layM_ok (Nat.le_of_ble_eq_true rfl) rfl ?_
  intro X hXl hXq hXz hC hQ
  subst hXl; subst hXq; subst hXz
  unfold f_X12_text at hf
  refine go_keys (L1 := [(3, (S.1 3)), (6, (S.1 6)), (10, (S.1 10)), (11, (S.1 11)), (12, (S.1 12)), (13, (S.1 13)), (14, (S.1 14)), (15, (S.1 15)), (16, (S.1 16)), (17, (S.1 17)), (18, (S.1 18)), (19, (S.1 19))]) (L2 := []) (L3 := [(2, (S.2.2.1 2)), (3, (S.2.2.1 3)), (4, (S.2.2.1 4)), (5, (S.2.2.1 5)), (6, (S.2.2.1 6)), (7, (S.2.2.1 7))]) (L4 := []) (L5 := []) [3, 6, 10, 11, 12, 13, 14, 15, 16, 17, 18, 19] [] [2, 3, 4, 5, 6, 7] [] [] rfl rfl rfl rfl rfl ?_
  refine go_aload_n (pc' := 1) hC dX12_text_0 rfl rfl ?_
  obtain ⟨o1, ho1, hf⟩ := bd_e hf
  refine go_callV1 (pc' := 4) (As := []) (st := []) (st' := []) (L1' := [(3, o1.1), (6, o1.2.1), (10, o1.2.2.1), (11, o1.2.2.2.1), (12, o1.2.2.2.2.1), (13, o1.2.2.2.2.2.1), (14, o1.2.2.2.2.2.2.1), (15, o1.2.2.2.2.2.2.2.1), (16, o1.2.2.2.2.2.2.2.2), (17, (S.1 17)), (18, (S.1 18)), (19, (S.1 19))]) (L2' := []) (L3' := [(2, (S.2.2.1 2)), (3, (S.2.2.1 3)), (4, (S.2.2.1 4)), (5, (S.2.2.1 5)), (6, (S.2.2.1 6)), (7, (S.2.2.1 7))]) (L4' := []) (L5' := []) (cells' := 0) (slots' := 0)  (b := 0) hC dX12_text_1 ⟨mw_229, mw_232, mw_5, yd_yX12_clears, yp_yX12_clears, Nat.le_of_ble_eq_true rfl, Nat.le_of_ble_eq_true rfl, (Nat.le_of_ble_eq_true rfl), (Nat.le_of_ble_eq_true rfl)⟩ mw_230 mw_231 layM_0 rfl rfl rfl (Nat.le_of_ble_eq_true rfl) (c_X12_clears (x_l X) (x_D X) (x_q X) g (x_cy X) (x_z X) _  o1 ho1) rfl rfl rfl rfl rfl rfl rfl rfl rfl rfl rfl rfl rfl rfl ?_
  refine go_aload_n (pc' := 5) hC dX12_text_4 rfl rfl ?_
  refine go_ldc2 (pc' := 8) hC dX12_text_5 mw_495 rfl ?_
  obtain ⟨o2, ho2, hf⟩ := bd_e hf
  refine go_callV1 (pc' := 11) (As := [.long (123610792682867 : Int64)]) (st := []) (st' := [.int o2.1]) (L1' := [(3, o1.1), (6, o1.2.1), (10, o1.2.2.1), (11, o1.2.2.2.1), (12, o1.2.2.2.2.1), (13, o1.2.2.2.2.2.1), (14, o1.2.2.2.2.2.2.1), (15, o1.2.2.2.2.2.2.2.1), (16, o1.2.2.2.2.2.2.2.2), (17, o2.2), (18, (S.1 18)), (19, (S.1 19))]) (L2' := []) (L3' := [(2, (S.2.2.1 2)), (3, (S.2.2.1 3)), (4, (S.2.2.1 4)), (5, (S.2.2.1 5)), (6, (S.2.2.1 6)), (7, (S.2.2.1 7))]) (L4' := []) (L5' := []) (cells' := 0) (slots' := 0)  (b := 0) hC dX12_text_8 ⟨mw_501, mw_504, mw_5, yd_yX12_isWord, yp_yX12_isWord, Nat.le_of_ble_eq_true rfl, Nat.le_of_ble_eq_true rfl, (Nat.le_of_ble_eq_true rfl), (Nat.le_of_ble_eq_true rfl)⟩ mw_502 mw_503 layM_0 rfl rfl rfl (Nat.le_of_ble_eq_true rfl) (c_X12_isWord (x_l X) (x_D X) (x_q X) g (x_cy X) (x_z X) _ (123610792682867 : Int64) o2 ho2) rfl rfl rfl rfl rfl rfl rfl rfl rfl rfl rfl rfl rfl rfl ?_
  refine go_if_ne (tgt := 24) (pc' := 14) hC dX12_text_11 (by decide) rfl (fun h86 => ?_) (fun h86 => ?_)
  · have hf := ite_f h86 hf
    refine go_aload_n (pc' := 25) hC dX12_text_24 rfl rfl ?_
    refine go_ldc2 (pc' := 28) hC dX12_text_25 mw_495 rfl ?_
    obtain ⟨o3, ho3, hf⟩ := bd_e hf
    refine go_callV1 (pc' := 31) (As := [.long (123610792682867 : Int64)]) (st := []) (st' := [.int o3.1]) (L1' := [(3, o1.1), (6, o1.2.1), (10, o1.2.2.1), (11, o1.2.2.2.1), (12, o1.2.2.2.2.1), (13, o1.2.2.2.2.2.1), (14, o1.2.2.2.2.2.2.1), (15, o1.2.2.2.2.2.2.2.1), (16, o1.2.2.2.2.2.2.2.2), (17, o3.2), (18, (S.1 18)), (19, (S.1 19))]) (L2' := []) (L3' := [(2, (S.2.2.1 2)), (3, (S.2.2.1 3)), (4, (S.2.2.1 4)), (5, (S.2.2.1 5)), (6, (S.2.2.1 6)), (7, (S.2.2.1 7))]) (L4' := []) (L5' := []) (cells' := 0) (slots' := 0)  (b := 0) hC dX12_text_28 ⟨mw_513, mw_516, mw_5, yd_yX12_takesWord, yp_yX12_takesWord, Nat.le_of_ble_eq_true rfl, Nat.le_of_ble_eq_true rfl, (Nat.le_of_ble_eq_true rfl), (Nat.le_of_ble_eq_true rfl)⟩ mw_514 mw_515 layM_0 rfl rfl rfl (Nat.le_of_ble_eq_true rfl) (c_X12_takesWord (x_l X) (x_D X) (x_q X) g (x_cy X) (x_z X) _ (123610792682867 : Int64) o3 ho3) rfl rfl rfl rfl rfl rfl rfl rfl rfl rfl rfl rfl rfl rfl ?_
    refine go_pop (pc' := 32) hC dX12_text_31 rfl rfl ?_
    refine go_aload_n (pc' := 33) hC dX12_text_32 rfl rfl ?_
    refine go_iconst (pc' := 34) hC dX12_text_33 ki_2 rfl ?_
    refine go_bipush (pc' := 36) hC dX12_text_34 kb_10 rfl ?_
    obtain ⟨o4, ho4, hf⟩ := bd_e hf
    refine go_callV1 (pc' := 39) (As := [.int (2 : Int32), .int (10 : Int32)]) (st := []) (st' := [.int o4.1]) (L1' := [(3, o1.1), (6, o1.2.1), (10, o1.2.2.1), (11, o1.2.2.2.1), (12, o1.2.2.2.2.1), (13, o1.2.2.2.2.2.1), (14, o1.2.2.2.2.2.2.1), (15, o1.2.2.2.2.2.2.2.1), (16, o1.2.2.2.2.2.2.2.2), (17, o4.2.1), (18, o4.2.2.1), (19, o4.2.2.2)]) (L2' := []) (L3' := [(2, (S.2.2.1 2)), (3, (S.2.2.1 3)), (4, (S.2.2.1 4)), (5, (S.2.2.1 5)), (6, (S.2.2.1 6)), (7, (S.2.2.1 7))]) (L4' := []) (L5' := []) (cells' := 0) (slots' := 0)  (b := 0) hC dX12_text_36 ⟨mw_517, mw_520, mw_5, yd_yX12_number, yp_yX12_number, Nat.le_of_ble_eq_true rfl, Nat.le_of_ble_eq_true rfl, (Nat.le_of_ble_eq_true rfl), (Nat.le_of_ble_eq_true rfl)⟩ mw_518 mw_519 layM_0 rfl rfl rfl (Nat.le_of_ble_eq_true rfl) (c_X12_number (x_l X) (x_D X) (x_q X) g (x_cy X) (x_z X) _ (2 : Int32) (10 : Int32) o4 ho4) rfl rfl rfl rfl rfl rfl rfl rfl rfl rfl rfl rfl rfl rfl ?_
    refine go_if_ne (tgt := 44) (pc' := 42) hC dX12_text_39 (by decide) rfl (fun h83 => ?_) (fun h83 => ?_)
    · have hf := ite_f h83 hf
      refine go_aload_n (pc' := 45) hC dX12_text_44 rfl rfl ?_
      refine go_aload_n (pc' := 46) hC dX12_text_45 rfl rfl ?_
      refine go_geti (v := o4.2.2.2) (pc' := 49) hC 0 19 layM_0 rfl rfl inlX12 (Nat.le_of_ble_eq_true rfl) mw_496 rfl dX12_text_46 rfl rfl ?_
      refine go_puti (L1' := [(3, o1.1), (6, o1.2.1), (10, o1.2.2.1), (11, o4.2.2.2), (12, o1.2.2.2.2.1), (13, o1.2.2.2.2.2.1), (14, o1.2.2.2.2.2.2.1), (15, o1.2.2.2.2.2.2.2.1), (16, o1.2.2.2.2.2.2.2.2), (17, o4.2.1), (18, o4.2.2.1), (19, o4.2.2.2)]) (pc' := 52) hC 0 11 layM_0 rfl rfl inlX12 tyX12_ok nmX12 (Nat.le_of_ble_eq_true rfl) mw_236 rfl rfl rfl rfl dX12_text_49 rfl rfl rfl ?_
      obtain ⟨k169_22, hk169_22, hf⟩ := lk_e17 hf
      have jk169_22 : ∀ (x5 : Int32) (x6 : Int32) (x7 : Int32) (x8 : Int32) (x9 : Int32) (x10 : Int32) (x11 : Int32) (x12 : Int32) (x13 : Int32) (x14 : Int32) (x15 : Int32) (a16 : Nat → Int32) (a17 : Nat → Int32) (a18 : Nat → Int32) (a19 : Nat → Int32) (a20 : Nat → Int32) (a21 : Nat → Int32), k169_22 x5 x6 x7 x8 x9 x10 x11 x12 x13 x14 x15 a16 a17 a18 a19 a20 a21 = some o → Go X layM S 169 [(0, .ref (x_q X 0))] [] g [(3, x5), (6, x6), (10, x7), (11, o4.2.2.2), (12, x8), (13, x9), (14, x10), (15, x11), (16, x12), (17, x13), (18, x14), (19, x15)] [] [(2, a16), (3, a17), (4, a18), (5, a19), (6, a20), (7, a21)] [] [] 0 0 := by
        intro x5 x6 x7 x8 x9 x10 x11 x12 x13 x14 x15 a16 a17 a18 a19 a20 a21 hf
        have hf := hk169_22 x5 x6 x7 x8 x9 x10 x11 x12 x13 x14 x15 a16 a17 a18 a19 a20 a21 hf
        clear hk169_22
        refine go_aload_n (pc' := 170) hC dX12_text_169 rfl rfl ?_
        obtain ⟨o23, ho23, hf⟩ := bd_e hf
        refine go_callV1 (pc' := 173) (As := []) (st := []) (st' := [.int o23.1]) (L1' := [(3, x5), (6, x6), (10, x7), (11, o4.2.2.2), (12, x8), (13, x9), (14, x10), (15, x11), (16, x12), (17, o23.2), (18, x14), (19, x15)]) (L2' := []) (L3' := [(2, a16), (3, a17), (4, a18), (5, a19), (6, a20), (7, a21)]) (L4' := []) (L5' := []) (cells' := 0) (slots' := 0)  (b := 0) hC dX12_text_170 ⟨mw_505, mw_508, mw_5, yd_yX12_see, yp_yX12_see, Nat.le_of_ble_eq_true rfl, Nat.le_of_ble_eq_true rfl, (Nat.le_of_ble_eq_true rfl), (Nat.le_of_ble_eq_true rfl)⟩ mw_506 mw_507 layM_0 rfl rfl rfl (Nat.le_of_ble_eq_true rfl) (c_X12_see (x_l X) (x_D X) (x_q X) g (x_cy X) (x_z X) _  o23 ho23) rfl rfl rfl rfl rfl rfl rfl rfl rfl rfl rfl rfl rfl rfl ?_
        refine go_iconst (pc' := 174) hC dX12_text_173 ki_m1 rfl ?_
        refine go_icmp_eq (tgt := 189) (pc' := 177) hC dX12_text_174 (by decide) rfl (fun h26 => ?_) (fun h26 => ?_)
        · have hf := ite_t h26 hf
          refine go_iconst (pc' := 190) hC dX12_text_189 ki_1 rfl ?_
          refine go_goto (tgt := 194) hC dX12_text_190 (by decide) ?_
          obtain rfl := Option.some.inj hf
          exact go_iret hC hQ dX12_text_194 rfl rfl rfl rfl (fun _ => rfl) rfl rfl
        · have hf := ite_f h26 hf
          refine go_aload_n (pc' := 178) hC dX12_text_177 rfl rfl ?_
          refine go_iconst (pc' := 179) hC dX12_text_178 ki_0 rfl ?_
          refine go_aload_n (pc' := 180) hC dX12_text_179 rfl rfl ?_
          refine go_geti (v := o23.2) (pc' := 183) hC 0 17 layM_0 rfl rfl inlX12 (Nat.le_of_ble_eq_true rfl) mw_489 rfl dX12_text_180 rfl rfl ?_
          obtain ⟨o24, ho24, hf⟩ := bd_e hf
          refine go_callV1 (pc' := 186) (As := [.int (0 : Int32), .int o23.2]) (st := []) (st' := [.int o24.1]) (L1' := [(3, x5), (6, x6), (10, x7), (11, o4.2.2.2), (12, x8), (13, x9), (14, x10), (15, x11), (16, x12), (17, o23.2), (18, o24.2), (19, x15)]) (L2' := []) (L3' := [(2, a16), (3, a17), (4, a18), (5, a19), (6, a20), (7, a21)]) (L4' := []) (L5' := []) (cells' := 0) (slots' := 0)  (b := 0) hC dX12_text_183 ⟨mw_509, mw_512, mw_5, yd_yX12_fails, yp_yX12_fails, Nat.le_of_ble_eq_true rfl, Nat.le_of_ble_eq_true rfl, (Nat.le_of_ble_eq_true rfl), (Nat.le_of_ble_eq_true rfl)⟩ mw_510 mw_511 layM_0 rfl rfl rfl (Nat.le_of_ble_eq_true rfl) (c_X12_fails (x_l X) (x_D X) (x_q X) g (x_cy X) (x_z X) _ (0 : Int32) o23.2 o24 ho24) rfl rfl rfl rfl rfl rfl rfl rfl rfl rfl rfl rfl rfl rfl ?_
          refine go_if_eq (tgt := 193) (pc' := 189) hC dX12_text_186 (by decide) rfl (fun h25 => ?_) (fun h25 => ?_)
          · have hf := ite_t h25 hf
            refine go_iconst (pc' := 194) hC dX12_text_193 ki_0 rfl ?_
            obtain rfl := Option.some.inj hf
            exact go_iret hC hQ dX12_text_194 rfl rfl rfl rfl (fun _ => rfl) rfl rfl
          · have hf := ite_f h25 hf
            refine go_iconst (pc' := 190) hC dX12_text_189 ki_1 rfl ?_
            refine go_goto (tgt := 194) hC dX12_text_190 (by decide) ?_
            obtain rfl := Option.some.inj hf
            exact go_iret hC hQ dX12_text_194 rfl rfl rfl rfl (fun _ => rfl) rfl rfl
      clear hk169_22
      have l52_82 : ∀ (nn : Nat) (x27 : Int32) (x28 : Int32) (x29 : Int32) (x30 : Int32) (x31 : Int32) (x32 : Int32) (x33 : Int32) (x34 : Int32) (x35 : Int32) (x36 : Int32) (x37 : Int32) (a38 : Nat → Int32) (a39 : Nat → Int32) (a40 : Nat → Int32) (a41 : Nat → Int32) (a42 : Nat → Int32) (a43 : Nat → Int32), it17 (f_X12_text_L52 S o4 k169_22) nn x27 x28 x29 x30 x31 x32 x33 x34 x35 x36 x37 a38 a39 a40 a41 a42 a43 = some o → Go X layM S 52 [(0, .ref (x_q X 0))] [] g [(3, x27), (6, x28), (10, x29), (11, o4.2.2.2), (12, x30), (13, x31), (14, x32), (15, x33), (16, x34), (17, x35), (18, x36), (19, x37)] [] [(2, a38), (3, a39), (4, a40), (5, a41), (6, a42), (7, a43)] [] [] 0 0 := by
        intro nn
        induction nn with
        | zero =>
          intro x27 x28 x29 x30 x31 x32 x33 x34 x35 x36 x37 a38 a39 a40 a41 a42 a43 hf
          exact none_no hf
        | succ nn ih =>
          intro x27 x28 x29 x30 x31 x32 x33 x34 x35 x36 x37 a38 a39 a40 a41 a42 a43 hf
          have hf : f_X12_text_L52 S o4 k169_22 (it17 (f_X12_text_L52 S o4 k169_22) nn) x27 x28 x29 x30 x31 x32 x33 x34 x35 x36 x37 a38 a39 a40 a41 a42 a43 = some o := hf
          generalize it17 (f_X12_text_L52 S o4 k169_22) nn = r44 at ih hf
          unfold f_X12_text_L52 at hf
          refine go_aload_n (pc' := 53) hC dX12_text_52 rfl rfl ?_
          obtain ⟨o45, ho45, hf⟩ := bd_e hf
          refine go_callV1 (pc' := 56) (As := []) (st := []) (st' := [.int o45.1]) (L1' := [(3, x27), (6, x28), (10, x29), (11, o4.2.2.2), (12, x30), (13, x31), (14, x32), (15, x33), (16, x34), (17, o45.2), (18, x36), (19, x37)]) (L2' := []) (L3' := [(2, a38), (3, a39), (4, a40), (5, a41), (6, a42), (7, a43)]) (L4' := []) (L5' := []) (cells' := 0) (slots' := 0)  (b := 0) hC dX12_text_53 ⟨mw_505, mw_508, mw_5, yd_yX12_see, yp_yX12_see, Nat.le_of_ble_eq_true rfl, Nat.le_of_ble_eq_true rfl, (Nat.le_of_ble_eq_true rfl), (Nat.le_of_ble_eq_true rfl)⟩ mw_506 mw_507 layM_0 rfl rfl rfl (Nat.le_of_ble_eq_true rfl) (c_X12_see (x_l X) (x_D X) (x_q X) g (x_cy X) (x_z X) _  o45 ho45) rfl rfl rfl rfl rfl rfl rfl rfl rfl rfl rfl rfl rfl rfl ?_
          refine go_bipush (pc' := 58) hC dX12_text_56 kb_59 rfl ?_
          refine go_icmp_ne (tgt := 169) (pc' := 61) hC dX12_text_58 (by decide) rfl (fun h81 => ?_) (fun h81 => ?_)
          · have hf := ite_f h81 hf
            exact jk169_22 x27 x28 x29 x30 x31 x32 x33 x34 o45.2 x36 x37 a38 a39 a40 a41 a42 a43 hf
          · have hf := ite_t h81 hf
            refine go_aload_n (pc' := 62) hC dX12_text_61 rfl rfl ?_
            refine go_dup (pc' := 63) hC dX12_text_62 rfl rfl ?_
            refine go_geti (v := o45.2) (pc' := 66) hC 0 17 layM_0 rfl rfl inlX12 (Nat.le_of_ble_eq_true rfl) mw_489 rfl dX12_text_63 rfl rfl ?_
            refine go_iconst (pc' := 67) hC dX12_text_66 ki_1 rfl ?_
            refine go_iadd (pc' := 68) hC dX12_text_67 rfl ?_
            refine go_namei (fun x46 hx => ?_)
            have hf := lz_r hx hf
            clear hx
            refine go_puti (L1' := [(3, x27), (6, x28), (10, x29), (11, o4.2.2.2), (12, x30), (13, x31), (14, x32), (15, x33), (16, x34), (17, x46), (18, x36), (19, x37)]) (pc' := 71) hC 0 17 layM_0 rfl rfl inlX12 tyX12_ok nmX12 (Nat.le_of_ble_eq_true rfl) mw_489 rfl rfl rfl rfl dX12_text_68 rfl rfl rfl ?_
            refine go_aload_n (pc' := 72) hC dX12_text_71 rfl rfl ?_
            obtain ⟨o47, ho47, hf⟩ := bd_e hf
            refine go_callV1 (pc' := 75) (As := []) (st := []) (st' := [.int o47.1]) (L1' := [(3, x27), (6, x28), (10, x29), (11, o4.2.2.2), (12, x30), (13, x31), (14, x32), (15, x33), (16, x34), (17, o47.2), (18, x36), (19, x37)]) (L2' := []) (L3' := [(2, a38), (3, a39), (4, a40), (5, a41), (6, a42), (7, a43)]) (L4' := []) (L5' := []) (cells' := 0) (slots' := 0)  (b := 0) hC dX12_text_72 ⟨mw_505, mw_508, mw_5, yd_yX12_see, yp_yX12_see, Nat.le_of_ble_eq_true rfl, Nat.le_of_ble_eq_true rfl, (Nat.le_of_ble_eq_true rfl), (Nat.le_of_ble_eq_true rfl)⟩ mw_506 mw_507 layM_0 rfl rfl rfl (Nat.le_of_ble_eq_true rfl) (c_X12_see (x_l X) (x_D X) (x_q X) g (x_cy X) (x_z X) _  o47 ho47) rfl rfl rfl rfl rfl rfl rfl rfl rfl rfl rfl rfl rfl rfl ?_
            refine go_pop (pc' := 76) hC dX12_text_75 rfl rfl ?_
            refine go_aload_n (pc' := 77) hC dX12_text_76 rfl rfl ?_
            refine go_geti (v := o47.2) (pc' := 80) hC 0 17 layM_0 rfl rfl inlX12 (Nat.le_of_ble_eq_true rfl) mw_489 rfl dX12_text_77 rfl rfl ?_
            refine go_istore_n (lc' := [(0, .ref (x_q X 0)), (1, .int o47.2)]) (pc' := 81) hC dX12_text_80 (Nat.le_of_ble_eq_true rfl) rfl rfl ?_
            refine go_aload_n (pc' := 82) hC dX12_text_81 rfl rfl ?_
            refine go_ldc2 (pc' := 85) hC dX12_text_82 mw_497 rfl ?_
            obtain ⟨o48, ho48, hf⟩ := bd_e hf
            refine go_callV1 (pc' := 88) (As := [.long (1818848869 : Int64)]) (st := []) (st' := [.int o48.1]) (L1' := [(3, x27), (6, x28), (10, x29), (11, o4.2.2.2), (12, x30), (13, x31), (14, x32), (15, x33), (16, x34), (17, o48.2), (18, x36), (19, x37)]) (L2' := []) (L3' := [(2, a38), (3, a39), (4, a40), (5, a41), (6, a42), (7, a43)]) (L4' := []) (L5' := []) (cells' := 0) (slots' := 0)  (b := 0) hC dX12_text_85 ⟨mw_513, mw_516, mw_5, yd_yX12_takesWord, yp_yX12_takesWord, Nat.le_of_ble_eq_true rfl, Nat.le_of_ble_eq_true rfl, (Nat.le_of_ble_eq_true rfl), (Nat.le_of_ble_eq_true rfl)⟩ mw_514 mw_515 layM_0 rfl rfl rfl (Nat.le_of_ble_eq_true rfl) (c_X12_takesWord (x_l X) (x_D X) (x_q X) g (x_cy X) (x_z X) _ (1818848869 : Int64) o48 ho48) rfl rfl rfl rfl rfl rfl rfl rfl rfl rfl rfl rfl rfl rfl ?_
            obtain ⟨k159_67, hk159_67, hf⟩ := lk_e18 hf
            have jk159_67 : ∀ (x49 : Int32) (x50 : Int32) (x51 : Int32) (x52 : Int32) (x53 : Int32) (x54 : Int32) (x55 : Int32) (x56 : Int32) (x57 : Int32) (x58 : Int32) (x59 : Int32) (x60 : Int32) (a61 : Nat → Int32) (a62 : Nat → Int32) (a63 : Nat → Int32) (a64 : Nat → Int32) (a65 : Nat → Int32) (a66 : Nat → Int32), k159_67 x49 x50 x51 x52 x53 x54 x55 x56 x57 x58 x59 x60 a61 a62 a63 a64 a65 a66 = some o → Go X layM S 159 [(0, .ref (x_q X 0))] [.int x49] g [(3, x50), (6, x51), (10, x52), (11, o4.2.2.2), (12, x53), (13, x54), (14, x55), (15, x56), (16, x57), (17, x58), (18, x59), (19, x60)] [] [(2, a61), (3, a62), (4, a63), (5, a64), (6, a65), (7, a66)] [] [] 0 0 := by
              intro x49 x50 x51 x52 x53 x54 x55 x56 x57 x58 x59 x60 a61 a62 a63 a64 a65 a66 hf
              have hf := hk159_67 x49 x50 x51 x52 x53 x54 x55 x56 x57 x58 x59 x60 a61 a62 a63 a64 a65 a66 hf
              clear hk159_67
              refine go_istore_n (lc' := [(0, .ref (x_q X 0)), (2, .int x49)]) (pc' := 160) hC dX12_text_159 (Nat.le_of_ble_eq_true rfl) rfl rfl ?_
              refine go_iload_n (pc' := 161) hC dX12_text_160 rfl rfl ?_
              refine go_if_ne (tgt := 166) (pc' := 164) hC dX12_text_161 (by decide) rfl (fun h68 => ?_) (fun h68 => ?_)
              · have hf := ite_f h68 hf
                refine go_goto (tgt := 52) hC dX12_text_166 (by decide) ?_
                refine go_sub [0] rfl ?_
                exact ih x50 x51 x52 x53 x54 x55 x56 x57 x58 x59 x60 a61 a62 a63 a64 a65 a66 hf
              · have hf := ite_t h68 hf
                refine go_iconst (pc' := 165) hC dX12_text_164 ki_0 rfl ?_
                obtain rfl := Option.some.inj hf
                exact go_iret hC hQ dX12_text_165 rfl rfl rfl rfl (fun _ => rfl) rfl rfl
            clear hk159_67
            refine go_if_eq (tgt := 99) (pc' := 91) hC dX12_text_88 (by decide) rfl (fun h80 => ?_) (fun h80 => ?_)
            · have hf := ite_t h80 hf
              refine go_aload_n (pc' := 100) hC dX12_text_99 rfl rfl ?_
              refine go_ldc2 (pc' := 103) hC dX12_text_100 mw_498 rfl ?_
              obtain ⟨o69, ho69, hf⟩ := bd_e hf
              refine go_callV1 (pc' := 106) (As := [.long (1801807216 : Int64)]) (st := []) (st' := [.int o69.1]) (L1' := [(3, x27), (6, x28), (10, x29), (11, o4.2.2.2), (12, x30), (13, x31), (14, x32), (15, x33), (16, x34), (17, o69.2), (18, x36), (19, x37)]) (L2' := []) (L3' := [(2, a38), (3, a39), (4, a40), (5, a41), (6, a42), (7, a43)]) (L4' := []) (L5' := []) (cells' := 0) (slots' := 0)  (b := 0) hC dX12_text_103 ⟨mw_513, mw_516, mw_5, yd_yX12_takesWord, yp_yX12_takesWord, Nat.le_of_ble_eq_true rfl, Nat.le_of_ble_eq_true rfl, (Nat.le_of_ble_eq_true rfl), (Nat.le_of_ble_eq_true rfl)⟩ mw_514 mw_515 layM_0 rfl rfl rfl (Nat.le_of_ble_eq_true rfl) (c_X12_takesWord (x_l X) (x_D X) (x_q X) g (x_cy X) (x_z X) _ (1801807216 : Int64) o69 ho69) rfl rfl rfl rfl rfl rfl rfl rfl rfl rfl rfl rfl rfl rfl ?_
              refine go_if_eq (tgt := 117) (pc' := 109) hC dX12_text_106 (by decide) rfl (fun h78 => ?_) (fun h78 => ?_)
              · have hf := ite_t h78 hf
                refine go_aload_n (pc' := 118) hC dX12_text_117 rfl rfl ?_
                refine go_ldc2 (pc' := 121) hC dX12_text_118 mw_499 rfl ?_
                obtain ⟨o70, ho70, hf⟩ := bd_e hf
                refine go_callV1 (pc' := 124) (As := [.long (426836849509 : Int64)]) (st := []) (st' := [.int o70.1]) (L1' := [(3, x27), (6, x28), (10, x29), (11, o4.2.2.2), (12, x30), (13, x31), (14, x32), (15, x33), (16, x34), (17, o70.2), (18, x36), (19, x37)]) (L2' := []) (L3' := [(2, a38), (3, a39), (4, a40), (5, a41), (6, a42), (7, a43)]) (L4' := []) (L5' := []) (cells' := 0) (slots' := 0)  (b := 0) hC dX12_text_121 ⟨mw_513, mw_516, mw_5, yd_yX12_takesWord, yp_yX12_takesWord, Nat.le_of_ble_eq_true rfl, Nat.le_of_ble_eq_true rfl, (Nat.le_of_ble_eq_true rfl), (Nat.le_of_ble_eq_true rfl)⟩ mw_514 mw_515 layM_0 rfl rfl rfl (Nat.le_of_ble_eq_true rfl) (c_X12_takesWord (x_l X) (x_D X) (x_q X) g (x_cy X) (x_z X) _ (426836849509 : Int64) o70 ho70) rfl rfl rfl rfl rfl rfl rfl rfl rfl rfl rfl rfl rfl rfl ?_
                refine go_if_eq (tgt := 135) (pc' := 127) hC dX12_text_124 (by decide) rfl (fun h76 => ?_) (fun h76 => ?_)
                · have hf := ite_t h76 hf
                  refine go_aload_n (pc' := 136) hC dX12_text_135 rfl rfl ?_
                  refine go_ldc2 (pc' := 139) hC dX12_text_136 mw_500 rfl ?_
                  obtain ⟨o71, ho71, hf⟩ := bd_e hf
                  refine go_callV1 (pc' := 142) (As := [.long (32765938003961704 : Int64)]) (st := []) (st' := [.int o71.1]) (L1' := [(3, x27), (6, x28), (10, x29), (11, o4.2.2.2), (12, x30), (13, x31), (14, x32), (15, x33), (16, x34), (17, o71.2), (18, x36), (19, x37)]) (L2' := []) (L3' := [(2, a38), (3, a39), (4, a40), (5, a41), (6, a42), (7, a43)]) (L4' := []) (L5' := []) (cells' := 0) (slots' := 0)  (b := 0) hC dX12_text_139 ⟨mw_513, mw_516, mw_5, yd_yX12_takesWord, yp_yX12_takesWord, Nat.le_of_ble_eq_true rfl, Nat.le_of_ble_eq_true rfl, (Nat.le_of_ble_eq_true rfl), (Nat.le_of_ble_eq_true rfl)⟩ mw_514 mw_515 layM_0 rfl rfl rfl (Nat.le_of_ble_eq_true rfl) (c_X12_takesWord (x_l X) (x_D X) (x_q X) g (x_cy X) (x_z X) _ (32765938003961704 : Int64) o71 ho71) rfl rfl rfl rfl rfl rfl rfl rfl rfl rfl rfl rfl rfl rfl ?_
                  refine go_if_eq (tgt := 153) (pc' := 145) hC dX12_text_142 (by decide) rfl (fun h74 => ?_) (fun h74 => ?_)
                  · have hf := ite_t h74 hf
                    refine go_aload_n (pc' := 154) hC dX12_text_153 rfl rfl ?_
                    refine go_iconst (pc' := 155) hC dX12_text_154 ki_0 rfl ?_
                    refine go_iload_n (pc' := 156) hC dX12_text_155 rfl rfl ?_
                    obtain ⟨o72, ho72, hf⟩ := bd_e hf
                    refine go_callV1 (pc' := 159) (As := [.int (0 : Int32), .int o47.2]) (st := []) (st' := [.int o72.1]) (L1' := [(3, x27), (6, x28), (10, x29), (11, o4.2.2.2), (12, x30), (13, x31), (14, x32), (15, x33), (16, x34), (17, o71.2), (18, o72.2), (19, x37)]) (L2' := []) (L3' := [(2, a38), (3, a39), (4, a40), (5, a41), (6, a42), (7, a43)]) (L4' := []) (L5' := []) (cells' := 0) (slots' := 0)  (b := 0) hC dX12_text_156 ⟨mw_509, mw_512, mw_5, yd_yX12_fails, yp_yX12_fails, Nat.le_of_ble_eq_true rfl, Nat.le_of_ble_eq_true rfl, (Nat.le_of_ble_eq_true rfl), (Nat.le_of_ble_eq_true rfl)⟩ mw_510 mw_511 layM_0 rfl rfl rfl (Nat.le_of_ble_eq_true rfl) (c_X12_fails (x_l X) (x_D X) (x_q X) g (x_cy X) (x_z X) _ (0 : Int32) o47.2 o72 ho72) rfl rfl rfl rfl rfl rfl rfl rfl rfl rfl rfl rfl rfl rfl ?_
                    refine go_sub [0] rfl ?_
                    exact jk159_67 o72.1 x27 x28 x29 x30 x31 x32 x33 x34 o71.2 o72.2 x37 a38 a39 a40 a41 a42 a43 hf
                  · have hf := ite_f h74 hf
                    refine go_aload_n (pc' := 146) hC dX12_text_145 rfl rfl ?_
                    refine go_iload_n (pc' := 147) hC dX12_text_146 rfl rfl ?_
                    obtain ⟨o73, ho73, hf⟩ := bd_e hf
                    refine go_callV1 (pc' := 150) (As := [.int o47.2]) (st := []) (st' := [.int o73.1]) (L1' := [(3, x27), (6, x28), (10, x29), (11, o4.2.2.2), (12, o73.2.1), (13, o73.2.2.1), (14, o73.2.2.2.1), (15, o73.2.2.2.2.1), (16, o73.2.2.2.2.2.1), (17, o73.2.2.2.2.2.2.1), (18, o73.2.2.2.2.2.2.2.1), (19, o73.2.2.2.2.2.2.2.2)]) (L2' := []) (L3' := [(2, a38), (3, a39), (4, a40), (5, a41), (6, a42), (7, a43)]) (L4' := []) (L5' := []) (cells' := 0) (slots' := 0)  (b := 0) hC dX12_text_147 ⟨mw_551, mw_554, mw_5, yd_yX12_what, yp_yX12_what, Nat.le_of_ble_eq_true rfl, Nat.le_of_ble_eq_true rfl, (Nat.le_of_ble_eq_true rfl), (Nat.le_of_ble_eq_true rfl)⟩ mw_552 mw_553 layM_0 rfl rfl rfl (Nat.le_of_ble_eq_true rfl) (c_X12_what (x_l X) (x_D X) (x_q X) g (x_cy X) (x_z X) _ o47.2 o73 ho73) rfl rfl rfl rfl rfl rfl rfl rfl rfl rfl rfl rfl rfl rfl ?_
                    refine go_goto (tgt := 159) hC dX12_text_150 (by decide) ?_
                    refine go_sub [0] rfl ?_
                    exact jk159_67 o73.1 x27 x28 x29 o73.2.1 o73.2.2.1 o73.2.2.2.1 o73.2.2.2.2.1 o73.2.2.2.2.2.1 o73.2.2.2.2.2.2.1 o73.2.2.2.2.2.2.2.1 o73.2.2.2.2.2.2.2.2 a38 a39 a40 a41 a42 a43 hf
                · have hf := ite_f h76 hf
                  refine go_aload_n (pc' := 128) hC dX12_text_127 rfl rfl ?_
                  refine go_iload_n (pc' := 129) hC dX12_text_128 rfl rfl ?_
                  obtain ⟨o75, ho75, hf⟩ := bd_e hf
                  refine go_callV1 (pc' := 132) (As := [.int o47.2]) (st := []) (st' := [.int o75.1]) (L1' := [(3, x27), (6, x28), (10, o75.2.1), (11, o4.2.2.2), (12, x30), (13, x31), (14, x32), (15, x33), (16, x34), (17, o75.2.2.1), (18, o75.2.2.2.1), (19, o75.2.2.2.2.1)]) (L2' := []) (L3' := [(2, a38), (3, a39), (4, a40), (5, o75.2.2.2.2.2.1), (6, o75.2.2.2.2.2.2.1), (7, o75.2.2.2.2.2.2.2)]) (L4' := []) (L5' := []) (cells' := 0) (slots' := 0)  (b := 0) hC dX12_text_129 ⟨mw_546, mw_549, mw_5, yd_yX12_cause, yp_yX12_cause, Nat.le_of_ble_eq_true rfl, Nat.le_of_ble_eq_true rfl, (Nat.le_of_ble_eq_true rfl), (Nat.le_of_ble_eq_true rfl)⟩ mw_547 mw_548 layM_0 rfl rfl rfl (Nat.le_of_ble_eq_true rfl) (c_X12_cause (x_l X) (x_D X) (x_q X) g (x_cy X) (x_z X) _ o47.2 o75 ho75) rfl rfl rfl rfl rfl rfl rfl rfl rfl rfl rfl rfl rfl rfl ?_
                  refine go_goto (tgt := 159) hC dX12_text_132 (by decide) ?_
                  refine go_sub [0] rfl ?_
                  exact jk159_67 o75.1 x27 x28 o75.2.1 x30 x31 x32 x33 x34 o75.2.2.1 o75.2.2.2.1 o75.2.2.2.2.1 a38 a39 a40 o75.2.2.2.2.2.1 o75.2.2.2.2.2.2.1 o75.2.2.2.2.2.2.2 hf
              · have hf := ite_f h78 hf
                refine go_aload_n (pc' := 110) hC dX12_text_109 rfl rfl ?_
                refine go_iload_n (pc' := 111) hC dX12_text_110 rfl rfl ?_
                obtain ⟨o77, ho77, hf⟩ := bd_e hf
                refine go_callV1 (pc' := 114) (As := [.int o47.2]) (st := []) (st' := [.int o77.1]) (L1' := [(3, x27), (6, o77.2.1), (10, x29), (11, o4.2.2.2), (12, x30), (13, x31), (14, x32), (15, x33), (16, x34), (17, o77.2.2.1), (18, o77.2.2.2.1), (19, o77.2.2.2.2.1)]) (L2' := []) (L3' := [(2, a38), (3, o77.2.2.2.2.2.1), (4, o77.2.2.2.2.2.2), (5, a41), (6, a42), (7, a43)]) (L4' := []) (L5' := []) (cells' := 0) (slots' := 0)  (b := 0) hC dX12_text_111 ⟨mw_542, mw_545, mw_5, yd_yX12_keeper, yp_yX12_keeper, Nat.le_of_ble_eq_true rfl, Nat.le_of_ble_eq_true rfl, (Nat.le_of_ble_eq_true rfl), (Nat.le_of_ble_eq_true rfl)⟩ mw_543 mw_544 layM_0 rfl rfl rfl (Nat.le_of_ble_eq_true rfl) (c_X12_keeper (x_l X) (x_D X) (x_q X) g (x_cy X) (x_z X) _ o47.2 o77 ho77) rfl rfl rfl rfl rfl rfl rfl rfl rfl rfl rfl rfl rfl rfl ?_
                refine go_goto (tgt := 159) hC dX12_text_114 (by decide) ?_
                refine go_sub [0] rfl ?_
                exact jk159_67 o77.1 x27 o77.2.1 x29 x30 x31 x32 x33 x34 o77.2.2.1 o77.2.2.2.1 o77.2.2.2.2.1 a38 o77.2.2.2.2.2.1 o77.2.2.2.2.2.2 a41 a42 a43 hf
            · have hf := ite_f h80 hf
              refine go_aload_n (pc' := 92) hC dX12_text_91 rfl rfl ?_
              refine go_iload_n (pc' := 93) hC dX12_text_92 rfl rfl ?_
              obtain ⟨o79, ho79, hf⟩ := bd_e hf
              refine go_callV1 (pc' := 96) (As := [.int o47.2]) (st := []) (st' := [.int o79.1]) (L1' := [(3, o79.2.1), (6, x28), (10, x29), (11, o4.2.2.2), (12, x30), (13, x31), (14, o79.2.2.1), (15, o79.2.2.2.1), (16, x34), (17, o79.2.2.2.2.1), (18, o79.2.2.2.2.2.1), (19, o79.2.2.2.2.2.2.1)]) (L2' := []) (L3' := [(2, o79.2.2.2.2.2.2.2), (3, a39), (4, a40), (5, a41), (6, a42), (7, a43)]) (L4' := []) (L5' := []) (cells' := 0) (slots' := 0)  (b := 0) hC dX12_text_93 ⟨mw_528, mw_531, mw_5, yd_yX12_readsLine, yp_yX12_readsLine, Nat.le_of_ble_eq_true rfl, Nat.le_of_ble_eq_true rfl, (Nat.le_of_ble_eq_true rfl), (Nat.le_of_ble_eq_true rfl)⟩ mw_529 mw_530 layM_0 rfl rfl rfl (Nat.le_of_ble_eq_true rfl) (c_X12_readsLine (x_l X) (x_D X) (x_q X) g (x_cy X) (x_z X) _ o47.2 o79 ho79) rfl rfl rfl rfl rfl rfl rfl rfl rfl rfl rfl rfl rfl rfl ?_
              refine go_goto (tgt := 159) hC dX12_text_96 (by decide) ?_
              refine go_sub [0] rfl ?_
              exact jk159_67 o79.1 o79.2.1 x28 x29 x30 x31 o79.2.2.1 o79.2.2.2.1 x34 o79.2.2.2.2.1 o79.2.2.2.2.2.1 o79.2.2.2.2.2.2.1 o79.2.2.2.2.2.2.2 a39 a40 a41 a42 a43 hf
      exact l52_82 fuel o1.1 o1.2.1 o1.2.2.1 o1.2.2.2.2.1 o1.2.2.2.2.2.1 o1.2.2.2.2.2.2.1 o1.2.2.2.2.2.2.2.1 o1.2.2.2.2.2.2.2.2 o4.2.1 o4.2.2.1 o4.2.2.2 (S.2.2.1 2) (S.2.2.1 3) (S.2.2.1 4) (S.2.2.1 5) (S.2.2.1 6) (S.2.2.1 7) hf
    · have hf := ite_t h83 hf
      refine go_iconst (pc' := 43) hC dX12_text_42 ki_0 rfl ?_
      obtain rfl := Option.some.inj hf
      exact go_iret hC hQ dX12_text_43 rfl rfl rfl rfl (fun _ => rfl) rfl rfl
  · have hf := ite_t h86 hf
    refine go_aload_n (pc' := 15) hC dX12_text_14 rfl rfl ?_
    refine go_iconst (pc' := 16) hC dX12_text_15 ki_0 rfl ?_
    refine go_aload_n (pc' := 17) hC dX12_text_16 rfl rfl ?_
    refine go_geti (v := o2.2) (pc' := 20) hC 0 17 layM_0 rfl rfl inlX12 (Nat.le_of_ble_eq_true rfl) mw_489 rfl dX12_text_17 rfl rfl ?_
    obtain ⟨o84, ho84, hf⟩ := bd_e hf
    refine go_callV1 (pc' := 23) (As := [.int (0 : Int32), .int o2.2]) (st := []) (st' := [.int o84.1]) (L1' := [(3, o1.1), (6, o1.2.1), (10, o1.2.2.1), (11, o1.2.2.2.1), (12, o1.2.2.2.2.1), (13, o1.2.2.2.2.2.1), (14, o1.2.2.2.2.2.2.1), (15, o1.2.2.2.2.2.2.2.1), (16, o1.2.2.2.2.2.2.2.2), (17, o2.2), (18, o84.2), (19, (S.1 19))]) (L2' := []) (L3' := [(2, (S.2.2.1 2)), (3, (S.2.2.1 3)), (4, (S.2.2.1 4)), (5, (S.2.2.1 5)), (6, (S.2.2.1 6)), (7, (S.2.2.1 7))]) (L4' := []) (L5' := []) (cells' := 0) (slots' := 0)  (b := 0) hC dX12_text_20 ⟨mw_509, mw_512, mw_5, yd_yX12_fails, yp_yX12_fails, Nat.le_of_ble_eq_true rfl, Nat.le_of_ble_eq_true rfl, (Nat.le_of_ble_eq_true rfl), (Nat.le_of_ble_eq_true rfl)⟩ mw_510 mw_511 layM_0 rfl rfl rfl (Nat.le_of_ble_eq_true rfl) (c_X12_fails (x_l X) (x_D X) (x_q X) g (x_cy X) (x_z X) _ (0 : Int32) o2.2 o84 ho84) rfl rfl rfl rfl rfl rfl rfl rfl rfl rfl rfl rfl rfl rfl ?_
    obtain ⟨h85, hf⟩ := gd_e hf
    obtain rfl := Option.some.inj hf
    exact go_iret hC hQ dX12_text_23 rfl (okz_n h85) rfl rfl (fun _ => rfl) rfl rfl
