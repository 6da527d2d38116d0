theorem dX12_differ_0 : decode cX12_differ 0 = .ok (.aload_n 0, 1) := by decide +kernel
theorem dX12_differ_1 : decode cX12_differ 1 = .ok (.iload_n 1, 1) := by decide +kernel
theorem dX12_differ_2 : decode cX12_differ 2 = .ok (.invokevirtual 382, 3) := by decide +kernel
theorem dX12_differ_5 : decode cX12_differ 5 = .ok (.ifCond .eq 28, 3) := by decide +kernel
theorem dX12_differ_8 : decode cX12_differ 8 = .ok (.aload_n 0, 1) := by decide +kernel
theorem dX12_differ_9 : decode cX12_differ 9 = .ok (.iload_n 2, 1) := by decide +kernel
theorem dX12_differ_10 : decode cX12_differ 10 = .ok (.invokevirtual 382, 3) := by decide +kernel
theorem dX12_differ_13 : decode cX12_differ 13 = .ok (.ifCond .eq 20, 3) := by decide +kernel
theorem dX12_differ_16 : decode cX12_differ 16 = .ok (.iload_n 1, 1) := by decide +kernel
theorem dX12_differ_17 : decode cX12_differ 17 = .ok (.iload_n 2, 1) := by decide +kernel
theorem dX12_differ_18 : decode cX12_differ 18 = .ok (.if_icmp .eq 15, 3) := by decide +kernel
theorem dX12_differ_21 : decode cX12_differ 21 = .ok (.iload_n 3, 1) := by decide +kernel
theorem dX12_differ_22 : decode cX12_differ 22 = .ok (.i2l, 1) := by decide +kernel
theorem dX12_differ_23 : decode cX12_differ 23 = .ok (.lconst 0, 1) := by decide +kernel
theorem dX12_differ_24 : decode cX12_differ 24 = .ok (.ldc2_w 511, 3) := by decide +kernel
theorem dX12_differ_27 : decode cX12_differ 27 = .ok (.invokestatic 218, 3) := by decide +kernel
theorem dX12_differ_30 : decode cX12_differ 30 = .ok (.ifCond .ne 7, 3) := by decide +kernel
theorem dX12_differ_33 : decode cX12_differ 33 = .ok (.ldc2_w 373, 3) := by decide +kernel
theorem dX12_differ_36 : decode cX12_differ 36 = .ok (.lreturn, 1) := by decide +kernel
theorem dX12_differ_37 : decode cX12_differ 37 = .ok (.aload_n 0, 1) := by decide +kernel
theorem dX12_differ_38 : decode cX12_differ 38 = .ok (.invokevirtual 361, 3) := by decide +kernel
theorem dX12_differ_41 : decode cX12_differ 41 = .ok (.aload_n 0, 1) := by decide +kernel
theorem dX12_differ_42 : decode cX12_differ 42 = .ok (.invokevirtual 375, 3) := by decide +kernel
theorem dX12_differ_45 : decode cX12_differ 45 = .ok (.aload_n 0, 1) := by decide +kernel
theorem dX12_differ_46 : decode cX12_differ 46 = .ok (.invokevirtual 364, 3) := by decide +kernel
theorem dX12_differ_49 : decode cX12_differ 49 = .ok (.lconst 0, 1) := by decide +kernel
theorem dX12_differ_50 : decode cX12_differ 50 = .ok (.lstore 4, 2) := by decide +kernel
theorem dX12_differ_52 : decode cX12_differ 52 = .ok (.iconst 0, 1) := by decide +kernel
theorem dX12_differ_53 : decode cX12_differ 53 = .ok (.istore 6, 2) := by decide +kernel
theorem dX12_differ_55 : decode cX12_differ 55 = .ok (.iload 6, 2) := by decide +kernel
theorem dX12_differ_57 : decode cX12_differ 57 = .ok (.aload_n 0, 1) := by decide +kernel
theorem dX12_differ_58 : decode cX12_differ 58 = .ok (.invokevirtual 354, 3) := by decide +kernel
theorem dX12_differ_61 : decode cX12_differ 61 = .ok (.if_icmp .ge 89, 3) := by decide +kernel
theorem dX12_differ_64 : decode cX12_differ 64 = .ok (.iload 6, 2) := by decide +kernel
theorem dX12_differ_66 : decode cX12_differ 66 = .ok (.iload_n 1, 1) := by decide +kernel
theorem dX12_differ_67 : decode cX12_differ 67 = .ok (.ishr, 1) := by decide +kernel
theorem dX12_differ_68 : decode cX12_differ 68 = .ok (.iconst 1, 1) := by decide +kernel
theorem dX12_differ_69 : decode cX12_differ 69 = .ok (.iand, 1) := by decide +kernel
theorem dX12_differ_70 : decode cX12_differ 70 = .ok (.iload_n 3, 1) := by decide +kernel
theorem dX12_differ_71 : decode cX12_differ 71 = .ok (.iconst 2, 1) := by decide +kernel
theorem dX12_differ_72 : decode cX12_differ 72 = .ok (.if_icmp .ge 7, 3) := by decide +kernel
theorem dX12_differ_75 : decode cX12_differ 75 = .ok (.iconst 1, 1) := by decide +kernel
theorem dX12_differ_76 : decode cX12_differ 76 = .ok (.goto 4, 3) := by decide +kernel
theorem dX12_differ_79 : decode cX12_differ 79 = .ok (.iconst 0, 1) := by decide +kernel
theorem dX12_differ_80 : decode cX12_differ 80 = .ok (.if_icmp .ne 30, 3) := by decide +kernel
theorem dX12_differ_83 : decode cX12_differ 83 = .ok (.iload 6, 2) := by decide +kernel
theorem dX12_differ_85 : decode cX12_differ 85 = .ok (.iload_n 2, 1) := by decide +kernel
theorem dX12_differ_86 : decode cX12_differ 86 = .ok (.ishr, 1) := by decide +kernel
theorem dX12_differ_87 : decode cX12_differ 87 = .ok (.iconst 1, 1) := by decide +kernel
theorem dX12_differ_88 : decode cX12_differ 88 = .ok (.iand, 1) := by decide +kernel
theorem dX12_differ_89 : decode cX12_differ 89 = .ok (.iload_n 3, 1) := by decide +kernel
theorem dX12_differ_90 : decode cX12_differ 90 = .ok (.ifCond .eq 8, 3) := by decide +kernel
theorem dX12_differ_93 : decode cX12_differ 93 = .ok (.iload_n 3, 1) := by decide +kernel
theorem dX12_differ_94 : decode cX12_differ 94 = .ok (.iconst 2, 1) := by decide +kernel
theorem dX12_differ_95 : decode cX12_differ 95 = .ok (.if_icmp .ne 7, 3) := by decide +kernel
theorem dX12_differ_98 : decode cX12_differ 98 = .ok (.iconst 1, 1) := by decide +kernel
theorem dX12_differ_99 : decode cX12_differ 99 = .ok (.goto 4, 3) := by decide +kernel
theorem dX12_differ_102 : decode cX12_differ 102 = .ok (.iconst 0, 1) := by decide +kernel
theorem dX12_differ_103 : decode cX12_differ 103 = .ok (.if_icmp .ne 7, 3) := by decide +kernel
theorem dX12_differ_106 : decode cX12_differ 106 = .ok (.iconst 1, 1) := by decide +kernel
theorem dX12_differ_107 : decode cX12_differ 107 = .ok (.goto 4, 3) := by decide +kernel
theorem dX12_differ_110 : decode cX12_differ 110 = .ok (.iconst 0, 1) := by decide +kernel
theorem dX12_differ_111 : decode cX12_differ 111 = .ok (.istore 7, 2) := by decide +kernel
theorem dX12_differ_113 : decode cX12_differ 113 = .ok (.lload 4, 2) := by decide +kernel
theorem dX12_differ_115 : decode cX12_differ 115 = .ok (.iload 7, 2) := by decide +kernel
theorem dX12_differ_117 : decode cX12_differ 117 = .ok (.ifCond .eq 23, 3) := by decide +kernel
theorem dX12_differ_120 : decode cX12_differ 120 = .ok (.aload_n 0, 1) := by decide +kernel
theorem dX12_differ_121 : decode cX12_differ 121 = .ok (.getfield 70, 3) := by decide +kernel
theorem dX12_differ_124 : decode cX12_differ 124 = .ok (.iload 6, 2) := by decide +kernel
theorem dX12_differ_126 : decode cX12_differ 126 = .ok (.baload, 1) := by decide +kernel
theorem dX12_differ_127 : decode cX12_differ 127 = .ok (.ifCond .eq 13, 3) := by decide +kernel
theorem dX12_differ_130 : decode cX12_differ 130 = .ok (.aload_n 0, 1) := by decide +kernel
theorem dX12_differ_131 : decode cX12_differ 131 = .ok (.getfield 73, 3) := by decide +kernel
theorem dX12_differ_134 : decode cX12_differ 134 = .ok (.iload 6, 2) := by decide +kernel
theorem dX12_differ_136 : decode cX12_differ 136 = .ok (.laload, 1) := by decide +kernel
theorem dX12_differ_137 : decode cX12_differ 137 = .ok (.goto 4, 3) := by decide +kernel
theorem dX12_differ_140 : decode cX12_differ 140 = .ok (.lconst 0, 1) := by decide +kernel
theorem dX12_differ_141 : decode cX12_differ 141 = .ok (.ladd, 1) := by decide +kernel
theorem dX12_differ_142 : decode cX12_differ 142 = .ok (.lstore 4, 2) := by decide +kernel
theorem dX12_differ_144 : decode cX12_differ 144 = .ok (.iinc 6 1, 3) := by decide +kernel
theorem dX12_differ_147 : decode cX12_differ 147 = .ok (.goto (-92), 3) := by decide +kernel
theorem dX12_differ_150 : decode cX12_differ 150 = .ok (.lload 4, 2) := by decide +kernel
theorem dX12_differ_152 : decode cX12_differ 152 = .ok (.lreturn, 1) := by decide +kernel
abbrev o_X12_differ : Type := Int64 × Int32 × Int32 × Int32 × (Nat → Int32) × (Nat → Int32) × (Nat → Int32) × (Nat → Int32) × (Nat → Int32) × (Nat → Int32) × (Nat → Int64)
def f_X12_differ_L55 (S : wd_W) (p1 : Int32) (p2 : Int32) (p3 : Int32) (o4 : o_X12_lays) (o5 : o_X12_plain) (o6 : o_X12_weighs) (r9 : (Int64) → (Int32) → (Option o_X12_differ)) (x7 : Int64) (x8 : Int32) : Option o_X12_differ :=
bd (f_X12_sets (wd_o S [(38, o4.1), (39, o4.2.1), (44, o4.2.2.1)] [] [(17, o4.2.2.2.1), (18, o4.2.2.2.2.1), (19, o4.2.2.2.2.2.1), (20, o4.2.2.2.2.2.2), (22, o5.1), (23, o5.2)] [(21, o6)] [])) fun o10 =>
if o10 ≤ x8 then (
some (x7, o4.1, o4.2.1, o4.2.2.1, o4.2.2.2.1, o4.2.2.2.2.1, o4.2.2.2.2.2.1, o4.2.2.2.2.2.2, o5.1, o5.2, o6)) else (
lk (fun x11 x12 =>
lk (fun x14 =>
lk (fun x16 x17 =>
lz (x17 + x16) fun x19 =>
r9 x19 (x8 + (1 : Int32))) fun k141_18 =>
lk (fun x20 =>
k141_18 (0 : Int64) x20) fun k140_21 =>
if x14 = 0 then (
k140_21 x7) else (
gd (okx x8 32768) <|
if (o4.2.2.2.2.2.2 x8.toNatClampNeg) = 0 then (
k140_21 x7) else (
gd (okx x8 32768) <|
k141_18 (o6 x8.toNatClampNeg) x7))) fun k111_15 =>
lk (k111_15 (0 : Int32)) fun k110_26 =>
if x12 = x11 then (
lk (fun x27 x28 =>
if x28 = x27 then (
k111_15 (1 : Int32)) else (
k110_26)) fun k103_29 =>
lk (fun x31 =>
k103_29 (1 : Int32) x31) fun k98_32 =>
if p3 = 0 then (
k98_32 ((x8 >>> (p2 &&& 31)) &&& (1 : Int32))) else (
if p3 = (2 : Int32) then (
k98_32 ((x8 >>> (p2 &&& 31)) &&& (1 : Int32))) else (
k103_29 (0 : Int32) ((x8 >>> (p2 &&& 31)) &&& (1 : Int32))))) else (
k110_26)) fun k80_13 =>
if (2 : Int32) ≤ p3 then (
k80_13 (0 : Int32) ((x8 >>> (p1 &&& 31)) &&& (1 : Int32))) else (
k80_13 (1 : Int32) ((x8 >>> (p1 &&& 31)) &&& (1 : Int32))))
def f_X12_differ (S : wd_W) (p1 : Int32) (p2 : Int32) (p3 : Int32) : Option o_X12_differ :=
bd (f_X12_isThing (wd_o S [(38, (S.1 38)), (39, (S.1 39)), (44, (S.1 44))] [] [(17, (S.2.2.1 17)), (18, (S.2.2.1 18)), (19, (S.2.2.1 19)), (20, (S.2.2.1 20)), (22, (S.2.2.1 22)), (23, (S.2.2.1 23))] [(21, (S.2.2.2.1 21))] []) p1) fun o1 =>
if o1 = 0 then (
some ((-1 : Int64), (S.1 38), (S.1 39), (S.1 44), (S.2.2.1 17), (S.2.2.1 18), (S.2.2.1 19), (S.2.2.1 20), (S.2.2.1 22), (S.2.2.1 23), (S.2.2.2.1 21))) else (
bd (f_X12_isThing (wd_o S [(38, (S.1 38)), (39, (S.1 39)), (44, (S.1 44))] [] [(17, (S.2.2.1 17)), (18, (S.2.2.1 18)), (19, (S.2.2.1 19)), (20, (S.2.2.1 20)), (22, (S.2.2.1 22)), (23, (S.2.2.1 23))] [(21, (S.2.2.2.1 21))] []) p2) fun o2 =>
if o2 = 0 then (
some ((-1 : Int64), (S.1 38), (S.1 39), (S.1 44), (S.2.2.1 17), (S.2.2.1 18), (S.2.2.1 19), (S.2.2.1 20), (S.2.2.1 22), (S.2.2.1 23), (S.2.2.2.1 21))) else (
if p1 = p2 then (
some ((-1 : Int64), (S.1 38), (S.1 39), (S.1 44), (S.2.2.1 17), (S.2.2.1 18), (S.2.2.1 19), (S.2.2.1 20), (S.2.2.1 22), (S.2.2.1 23), (S.2.2.2.1 21))) else (
bd (f_X12_in p3.toInt64 (0 : Int64) (3 : Int64)) fun o3 =>
if o3 = 0 then (
some ((-1 : Int64), (S.1 38), (S.1 39), (S.1 44), (S.2.2.1 17), (S.2.2.1 18), (S.2.2.1 19), (S.2.2.1 20), (S.2.2.1 22), (S.2.2.1 23), (S.2.2.2.1 21))) else (
bd (f_X12_lays (wd_o S [(38, (S.1 38)), (39, (S.1 39)), (44, (S.1 44))] [] [(17, (S.2.2.1 17)), (18, (S.2.2.1 18)), (19, (S.2.2.1 19)), (20, (S.2.2.1 20)), (22, (S.2.2.1 22)), (23, (S.2.2.1 23))] [(21, (S.2.2.2.1 21))] [])) fun o4 =>
bd (f_X12_plain (wd_o S [(38, o4.1), (39, o4.2.1), (44, o4.2.2.1)] [] [(17, o4.2.2.2.1), (18, o4.2.2.2.2.1), (19, o4.2.2.2.2.2.1), (20, o4.2.2.2.2.2.2), (22, (S.2.2.1 22)), (23, (S.2.2.1 23))] [(21, (S.2.2.2.1 21))] [])) fun o5 =>
bd (f_X12_weighs (wd_o S [(38, o4.1), (39, o4.2.1), (44, o4.2.2.1)] [] [(17, o4.2.2.2.1), (18, o4.2.2.2.2.1), (19, o4.2.2.2.2.2.1), (20, o4.2.2.2.2.2.2), (22, o5.1), (23, o5.2)] [(21, (S.2.2.2.1 21))] [])) fun o6 =>
it2 (f_X12_differ_L55 S p1 p2 p3 o4 o5 o6) fuel (0 : Int64) (0 : Int32)))))
set_option maxRecDepth 100000 in
set_option maxHeartbeats 4000000 in
theorem c_X12_differ (l : Launch) (D : va_G) (q g : Nat → Nat) (cy : Nat → ClassId) (z : (Nat → Nat) × (Nat → Nat) × Nat) (S : wd_W) (p1 : Int32) (p2 : Int32) (p3 : Int32) (o : o_X12_differ) (hf : f_X12_differ S p1 p2 p3 = some o) : MX layM l yX12_differ cX12_differ 8 (some .long) ({ frames := 5, cells := 0, slots := 0, locals := 115 } : Room) D q g cy z [.ref (q 0), .int p1, .int p2, .int p3] S false (some (.long o.1)) (wd_o S [(38, o.2.1), (39, o.2.2.1), (44, o.2.2.2.1)] [] [(17, o.2.2.2.2.1), (18, o.2.2.2.2.2.1), (19, o.2.2.2.2.2.2.1), (20, o.2.2.2.2.2.2.2.1), (22, o.2.2.2.2.2.2.2.2.1), (23, o.2.2.2.2.2.2.2.2.2.1)] [(21, o.2.2.2.2.2.2.2.2.2.2)] []) 0 0 := by
  refine mx_of (own := RX12) (lc := [(0, .ref (q 0)), (1, .int p1), (2, .int p2), (3, .int p3)]) (by decide +kernel) rfl layM_ok (Nat.le_of_ble_eq_true rfl) rfl ?_
  intro X hXl hXq hXz hC hQ
  subst hXl; subst hXq; subst hXz
  unfold f_X12_differ at hf
  refine go_keys (L1 := [(38, (S.1 38)), (39, (S.1 39)), (44, (S.1 44))]) (L2 := []) (L3 := [(17, (S.2.2.1 17)), (18, (S.2.2.1 18)), (19, (S.2.2.1 19)), (20, (S.2.2.1 20)), (22, (S.2.2.1 22)), (23, (S.2.2.1 23))]) (L4 := [(21, (S.2.2.2.1 21))]) (L5 := []) [38, 39, 44] [] [17, 18, 19, 20, 22, 23] [21] [] rfl rfl rfl rfl rfl ?_
  refine go_aload_n (pc' := 1) hC dX12_differ_0 rfl rfl ?_
  refine go_iload_n (pc' := 2) hC dX12_differ_1 rfl rfl ?_
  obtain ⟨o1, ho1, hf⟩ := bd_e hf
  refine go_callV0 (pc' := 5) (As := [.int p1]) (st := []) (st' := [.int o1])    (b := 0) hC dX12_differ_2 ⟨mw_956, mw_959, mw_5, yd_yX12_isThing, yp_yX12_isThing, Nat.le_of_ble_eq_true rfl, Nat.le_of_ble_eq_true rfl, (Nat.le_of_ble_eq_true rfl), (Nat.le_of_ble_eq_true rfl)⟩ mw_957 mw_958 layM_0 rfl rfl rfl (Nat.le_of_ble_eq_true rfl) (c_X12_isThing (x_l X) (x_D X) (x_q X) g (x_cy X) (x_z X) _ p1 o1 ho1) rfl rfl ?_
  refine go_if_eq (tgt := 33) (pc' := 8) hC dX12_differ_5 (by decide) rfl (fun h42 => ?_) (fun h42 => ?_)
  · have hf := ite_t h42 hf
    refine go_ldc2 (pc' := 36) hC dX12_differ_33 mw_922 rfl ?_
    obtain rfl := Option.some.inj hf
    exact go_lret hC hQ dX12_differ_36 rfl rfl rfl (fun _ => rfl) rfl rfl
  · have hf := ite_f h42 hf
    refine go_aload_n (pc' := 9) hC dX12_differ_8 rfl rfl ?_
    refine go_iload_n (pc' := 10) hC dX12_differ_9 rfl rfl ?_
    obtain ⟨o2, ho2, hf⟩ := bd_e hf
    refine go_callV0 (pc' := 13) (As := [.int p2]) (st := []) (st' := [.int o2])    (b := 0) hC dX12_differ_10 ⟨mw_956, mw_959, mw_5, yd_yX12_isThing, yp_yX12_isThing, Nat.le_of_ble_eq_true rfl, Nat.le_of_ble_eq_true rfl, (Nat.le_of_ble_eq_true rfl), (Nat.le_of_ble_eq_true rfl)⟩ mw_957 mw_958 layM_0 rfl rfl rfl (Nat.le_of_ble_eq_true rfl) (c_X12_isThing (x_l X) (x_D X) (x_q X) g (x_cy X) (x_z X) _ p2 o2 ho2) rfl rfl ?_
    refine go_if_eq (tgt := 33) (pc' := 16) hC dX12_differ_13 (by decide) rfl (fun h41 => ?_) (fun h41 => ?_)
    · have hf := ite_t h41 hf
      refine go_ldc2 (pc' := 36) hC dX12_differ_33 mw_922 rfl ?_
      obtain rfl := Option.some.inj hf
      exact go_lret hC hQ dX12_differ_36 rfl rfl rfl (fun _ => rfl) rfl rfl
    · have hf := ite_f h41 hf
      refine go_iload_n (pc' := 17) hC dX12_differ_16 rfl rfl ?_
      refine go_iload_n (pc' := 18) hC dX12_differ_17 rfl rfl ?_
      refine go_icmp_eq (tgt := 33) (pc' := 21) hC dX12_differ_18 (by decide) rfl (fun h40 => ?_) (fun h40 => ?_)
      · have hf := ite_t h40 hf
        refine go_ldc2 (pc' := 36) hC dX12_differ_33 mw_922 rfl ?_
        obtain rfl := Option.some.inj hf
        exact go_lret hC hQ dX12_differ_36 rfl rfl rfl (fun _ => rfl) rfl rfl
      · have hf := ite_f h40 hf
        refine go_iload_n (pc' := 22) hC dX12_differ_21 rfl rfl ?_
        refine go_i2l (pc' := 23) hC dX12_differ_22 rfl ?_
        refine go_lconst (pc' := 24) hC dX12_differ_23 kl_0 rfl ?_
        refine go_ldc2 (pc' := 27) hC dX12_differ_24 mw_1507 rfl ?_
        obtain ⟨o3, ho3, hf⟩ := bd_e hf
        refine go_callS0 (pc' := 30) (As := [.long p3.toInt64, .long (0 : Int64), .long (3 : Int64)]) (st := []) (st' := [.int o3])    hC dX12_differ_27 ⟨mw_525, mw_527, mw_5, yd_yX12_in, yp_yX12_in, Nat.le_of_ble_eq_true rfl, Nat.le_of_ble_eq_true rfl, (Nat.le_of_ble_eq_true rfl), (Nat.le_of_ble_eq_true rfl)⟩ mw_526 rfl rfl (Nat.le_of_ble_eq_true rfl) (c_X12_in (x_l X) (x_D X) (x_q X) g (x_cy X) (x_z X) _ p3.toInt64 (0 : Int64) (3 : Int64) o3 ho3) rfl rfl ?_
        refine go_if_ne (tgt := 37) (pc' := 33) hC dX12_differ_30 (by decide) rfl (fun h39 => ?_) (fun h39 => ?_)
        · have hf := ite_f h39 hf
          refine go_aload_n (pc' := 38) hC dX12_differ_37 rfl rfl ?_
          obtain ⟨o4, ho4, hf⟩ := bd_e hf
          refine go_callV1 (pc' := 41) (As := []) (st := []) (st' := []) (L1' := [(38, o4.1), (39, o4.2.1), (44, o4.2.2.1)]) (L2' := []) (L3' := [(17, o4.2.2.2.1), (18, o4.2.2.2.2.1), (19, o4.2.2.2.2.2.1), (20, o4.2.2.2.2.2.2), (22, (S.2.2.1 22)), (23, (S.2.2.1 23))]) (L4' := [(21, (S.2.2.2.1 21))]) (L5' := []) (cells' := 0) (slots' := 0)  (b := 0) hC dX12_differ_38 ⟨mw_860, mw_863, mw_5, yd_yX12_lays, yp_yX12_lays, Nat.le_of_ble_eq_true rfl, Nat.le_of_ble_eq_true rfl, (Nat.le_of_ble_eq_true rfl), (Nat.le_of_ble_eq_true rfl)⟩ mw_861 mw_862 layM_0 rfl rfl rfl (Nat.le_of_ble_eq_true rfl) (c_X12_lays (x_l X) (x_D X) (x_q X) g (x_cy X) (x_z X) _  o4 ho4) rfl rfl rfl rfl rfl rfl rfl rfl rfl rfl rfl rfl rfl rfl ?_
          refine go_aload_n (pc' := 42) hC dX12_differ_41 rfl rfl ?_
          obtain ⟨o5, ho5, hf⟩ := bd_e hf
          refine go_callV1 (pc' := 45) (As := []) (st := []) (st' := []) (L1' := [(38, o4.1), (39, o4.2.1), (44, o4.2.2.1)]) (L2' := []) (L3' := [(17, o4.2.2.2.1), (18, o4.2.2.2.2.1), (19, o4.2.2.2.2.2.1), (20, o4.2.2.2.2.2.2), (22, o5.1), (23, o5.2)]) (L4' := [(21, (S.2.2.2.1 21))]) (L5' := []) (cells' := 0) (slots' := 0)  (b := 0) hC dX12_differ_42 ⟨mw_927, mw_930, mw_5, yd_yX12_plain, yp_yX12_plain, Nat.le_of_ble_eq_true rfl, Nat.le_of_ble_eq_true rfl, (Nat.le_of_ble_eq_true rfl), (Nat.le_of_ble_eq_true rfl)⟩ mw_928 mw_929 layM_0 rfl rfl rfl (Nat.le_of_ble_eq_true rfl) (c_X12_plain (x_l X) (x_D X) (x_q X) g (x_cy X) (x_z X) _  o5 ho5) rfl rfl rfl rfl rfl rfl rfl rfl rfl rfl rfl rfl rfl rfl ?_
          refine go_aload_n (pc' := 46) hC dX12_differ_45 rfl rfl ?_
          obtain ⟨o6, ho6, hf⟩ := bd_e hf
          refine go_callV1 (pc' := 49) (As := []) (st := []) (st' := []) (L1' := [(38, o4.1), (39, o4.2.1), (44, o4.2.2.1)]) (L2' := []) (L3' := [(17, o4.2.2.2.1), (18, o4.2.2.2.2.1), (19, o4.2.2.2.2.2.1), (20, o4.2.2.2.2.2.2), (22, o5.1), (23, o5.2)]) (L4' := [(21, o6)]) (L5' := []) (cells' := 0) (slots' := 0)  (b := 0) hC dX12_differ_46 ⟨mw_935, mw_938, mw_5, yd_yX12_weighs, yp_yX12_weighs, Nat.le_of_ble_eq_true rfl, Nat.le_of_ble_eq_true rfl, (Nat.le_of_ble_eq_true rfl), (Nat.le_of_ble_eq_true rfl)⟩ mw_936 mw_937 layM_0 rfl rfl rfl (Nat.le_of_ble_eq_true rfl) (c_X12_weighs (x_l X) (x_D X) (x_q X) g (x_cy X) (x_z X) _  o6 ho6) rfl rfl rfl rfl rfl rfl rfl rfl rfl rfl rfl rfl rfl rfl ?_
          refine go_lconst (pc' := 50) hC dX12_differ_49 kl_0 rfl ?_
          refine go_lstore (lc' := [(0, .ref (x_q X 0)), (1, .int p1), (2, .int p2), (3, .int p3), (4, .long (0 : Int64))]) (pc' := 52) hC dX12_differ_50 (Nat.le_of_ble_eq_true rfl) rfl rfl ?_
          refine go_iconst (pc' := 53) hC dX12_differ_52 ki_0 rfl ?_
          refine go_istore (lc' := [(0, .ref (x_q X 0)), (1, .int p1), (2, .int p2), (3, .int p3), (4, .long (0 : Int64)), (6, .int (0 : Int32))]) (pc' := 55) hC dX12_differ_53 (Nat.le_of_ble_eq_true rfl) rfl rfl ?_
          have l55_38 : ∀ (nn : Nat) (x7 : Int64) (x8 : Int32), it2 (f_X12_differ_L55 S p1 p2 p3 o4 o5 o6) nn x7 x8 = some o → Go X layM S 55 [(0, .ref (x_q X 0)), (1, .int p1), (2, .int p2), (3, .int p3), (4, .long x7), (6, .int x8)] [] g [(38, o4.1), (39, o4.2.1), (44, o4.2.2.1)] [] [(17, o4.2.2.2.1), (18, o4.2.2.2.2.1), (19, o4.2.2.2.2.2.1), (20, o4.2.2.2.2.2.2), (22, o5.1), (23, o5.2)] [(21, o6)] [] 0 0 := by
            intro nn
            induction nn with
            | zero =>
              intro x7 x8 hf
              exact none_no hf
            | succ nn ih =>
              intro x7 x8 hf
              have hf : f_X12_differ_L55 S p1 p2 p3 o4 o5 o6 (it2 (f_X12_differ_L55 S p1 p2 p3 o4 o5 o6) nn) x7 x8 = some o := hf
              generalize it2 (f_X12_differ_L55 S p1 p2 p3 o4 o5 o6) nn = r9 at ih hf
              unfold f_X12_differ_L55 at hf
              refine go_iload (pc' := 57) hC dX12_differ_55 rfl rfl ?_
              refine go_aload_n (pc' := 58) hC dX12_differ_57 rfl rfl ?_
              obtain ⟨o10, ho10, hf⟩ := bd_e hf
              refine go_callV0 (pc' := 61) (As := []) (st := [.int x8]) (st' := [.int o10, .int x8])    (b := 0) hC dX12_differ_58 ⟨mw_856, mw_859, mw_5, yd_yX12_sets, yp_yX12_sets, Nat.le_of_ble_eq_true rfl, Nat.le_of_ble_eq_true rfl, (Nat.le_of_ble_eq_true rfl), (Nat.le_of_ble_eq_true rfl)⟩ mw_857 mw_858 layM_0 rfl rfl rfl (Nat.le_of_ble_eq_true rfl) (c_X12_sets (x_l X) (x_D X) (x_q X) g (x_cy X) (x_z X) _  o10 ho10) rfl rfl ?_
              refine go_icmp_ge (tgt := 150) (pc' := 64) hC dX12_differ_61 (by decide) rfl (fun h37 => ?_) (fun h37 => ?_)
              · have hf := ite_t h37 hf
                refine go_lload (pc' := 152) hC dX12_differ_150 rfl rfl ?_
                obtain rfl := Option.some.inj hf
                exact go_lret hC hQ dX12_differ_152 rfl rfl rfl (fun _ => rfl) rfl rfl
              · have hf := ite_f h37 hf
                refine go_iload (pc' := 66) hC dX12_differ_64 rfl rfl ?_
                refine go_iload_n (pc' := 67) hC dX12_differ_66 rfl rfl ?_
                refine go_ishr (pc' := 68) hC dX12_differ_67 rfl ?_
                refine go_iconst (pc' := 69) hC dX12_differ_68 ki_1 rfl ?_
                refine go_iand (pc' := 70) hC dX12_differ_69 rfl ?_
                refine go_iload_n (pc' := 71) hC dX12_differ_70 rfl rfl ?_
                refine go_iconst (pc' := 72) hC dX12_differ_71 ki_2 rfl ?_
                obtain ⟨k80_13, hk80_13, hf⟩ := lk_e2 hf
                have jk80_13 : ∀ (x11 : Int32) (x12 : Int32), k80_13 x11 x12 = some o → Go X layM S 80 [(0, .ref (x_q X 0)), (1, .int p1), (2, .int p2), (3, .int p3), (4, .long x7), (6, .int x8)] [.int x11, .int x12] g [(38, o4.1), (39, o4.2.1), (44, o4.2.2.1)] [] [(17, o4.2.2.2.1), (18, o4.2.2.2.2.1), (19, o4.2.2.2.2.2.1), (20, o4.2.2.2.2.2.2), (22, o5.1), (23, o5.2)] [(21, o6)] [] 0 0 := by
                  intro x11 x12 hf
                  have hf := hk80_13 x11 x12 hf
                  clear hk80_13
                  obtain ⟨k111_15, hk111_15, hf⟩ := lk_e1 hf
                  have jk111_15 : ∀ (x14 : Int32), k111_15 x14 = some o → Go X layM S 111 [(0, .ref (x_q X 0)), (1, .int p1), (2, .int p2), (3, .int p3), (4, .long x7), (6, .int x8)] [.int x14] g [(38, o4.1), (39, o4.2.1), (44, o4.2.2.1)] [] [(17, o4.2.2.2.1), (18, o4.2.2.2.2.1), (19, o4.2.2.2.2.2.1), (20, o4.2.2.2.2.2.2), (22, o5.1), (23, o5.2)] [(21, o6)] [] 0 0 := by
                    intro x14 hf
                    have hf := hk111_15 x14 hf
                    clear hk111_15
                    refine go_istore (lc' := [(0, .ref (x_q X 0)), (1, .int p1), (2, .int p2), (3, .int p3), (4, .long x7), (6, .int x8), (7, .int x14)]) (pc' := 113) hC dX12_differ_111 (Nat.le_of_ble_eq_true rfl) rfl rfl ?_
                    refine go_lload (pc' := 115) hC dX12_differ_113 rfl rfl ?_
                    refine go_iload (pc' := 117) hC dX12_differ_115 rfl rfl ?_
                    obtain ⟨k141_18, hk141_18, hf⟩ := lk_e2 hf
                    have jk141_18 : ∀ (x16 : Int64) (x17 : Int64), k141_18 x16 x17 = some o → Go X layM S 141 [(0, .ref (x_q X 0)), (1, .int p1), (2, .int p2), (3, .int p3), (6, .int x8)] [.long x16, .long x17] g [(38, o4.1), (39, o4.2.1), (44, o4.2.2.1)] [] [(17, o4.2.2.2.1), (18, o4.2.2.2.2.1), (19, o4.2.2.2.2.2.1), (20, o4.2.2.2.2.2.2), (22, o5.1), (23, o5.2)] [(21, o6)] [] 0 0 := by
                      intro x16 x17 hf
                      have hf := hk141_18 x16 x17 hf
                      clear hk141_18
                      refine go_ladd (pc' := 142) hC dX12_differ_141 rfl ?_
                      refine go_namel (fun x19 hx => ?_)
                      have hf := lz_r hx hf
                      clear hx
                      refine go_lstore (lc' := [(0, .ref (x_q X 0)), (1, .int p1), (2, .int p2), (3, .int p3), (4, .long x19), (6, .int x8)]) (pc' := 144) hC dX12_differ_142 (Nat.le_of_ble_eq_true rfl) rfl rfl ?_
                      refine go_iinc (lc' := [(0, .ref (x_q X 0)), (1, .int p1), (2, .int p2), (3, .int p3), (4, .long x19), (6, .int (x8 + (1 : Int32)))]) (pc' := 147) hC dX12_differ_144 rfl ki_1 (Nat.le_of_ble_eq_true rfl) rfl rfl ?_
                      refine go_goto (tgt := 55) hC dX12_differ_147 (by decide) ?_
                      exact ih x19 (x8 + (1 : Int32)) hf
                    clear hk141_18
                    obtain ⟨k140_21, hk140_21, hf⟩ := lk_e1 hf
                    have jk140_21 : ∀ (x20 : Int64), k140_21 x20 = some o → Go X layM S 140 [(0, .ref (x_q X 0)), (1, .int p1), (2, .int p2), (3, .int p3), (6, .int x8)] [.long x20] g [(38, o4.1), (39, o4.2.1), (44, o4.2.2.1)] [] [(17, o4.2.2.2.1), (18, o4.2.2.2.2.1), (19, o4.2.2.2.2.2.1), (20, o4.2.2.2.2.2.2), (22, o5.1), (23, o5.2)] [(21, o6)] [] 0 0 := by
                      intro x20 hf
                      have hf := hk140_21 x20 hf
                      clear hk140_21
                      refine go_lconst (pc' := 141) hC dX12_differ_140 kl_0 rfl ?_
                      exact jk141_18 (0 : Int64) x20 hf
                    clear hk140_21
                    refine go_if_eq (tgt := 140) (pc' := 120) hC dX12_differ_117 (by decide) rfl (fun h25 => ?_) (fun h25 => ?_)
                    · have hf := ite_t h25 hf
                      refine go_sub [0, 1, 2, 3, 6] rfl ?_
                      exact jk140_21 x7 hf
                    · have hf := ite_f h25 hf
                      refine go_aload_n (pc' := 121) hC dX12_differ_120 rfl rfl ?_
                      refine go_getq (pc' := 124) hC 0 43 layM_0 rfl rfl inlX12 (Nat.le_of_ble_eq_true rfl) mw_201 rfl dX12_differ_121 rfl ?_
                      refine go_iload (pc' := 126) hC dX12_differ_124 rfl rfl ?_
                      obtain ⟨h22, hf⟩ := gd_e hf
                      refine go_zald (f := o4.2.2.2.2.2.2) (pc' := 127) hC 20 layM_20 rfl rfl dX12_differ_126 (okx_in h22) rfl ?_
                      refine go_if_eq (tgt := 140) (pc' := 130) hC dX12_differ_127 (by decide) rfl (fun h24 => ?_) (fun h24 => ?_)
                      · have hf := ite_t h24 hf
                        refine go_sub [0, 1, 2, 3, 6] rfl ?_
                        exact jk140_21 x7 hf
                      · have hf := ite_f h24 hf
                        refine go_aload_n (pc' := 131) hC dX12_differ_130 rfl rfl ?_
                        refine go_getq (pc' := 134) hC 0 45 layM_0 rfl rfl inlX12 (Nat.le_of_ble_eq_true rfl) mw_202 rfl dX12_differ_131 rfl ?_
                        refine go_iload (pc' := 136) hC dX12_differ_134 rfl rfl ?_
                        obtain ⟨h23, hf⟩ := gd_e hf
                        refine go_lald (f := o6) (pc' := 137) hC 21 layM_21 rfl rfl dX12_differ_136 (okx_in h23) rfl ?_
                        refine go_goto (tgt := 141) hC dX12_differ_137 (by decide) ?_
                        refine go_sub [0, 1, 2, 3, 6] rfl ?_
                        exact jk141_18 (o6 x8.toNatClampNeg) x7 hf
                  clear hk111_15
                  obtain ⟨k110_26, hk110_26, hf⟩ := lk_e0 hf
                  have jk110_26 : ∀ (_ : Unit), k110_26 = some o → Go X layM S 110 [(0, .ref (x_q X 0)), (1, .int p1), (2, .int p2), (3, .int p3), (4, .long x7), (6, .int x8)] [] g [(38, o4.1), (39, o4.2.1), (44, o4.2.2.1)] [] [(17, o4.2.2.2.1), (18, o4.2.2.2.2.1), (19, o4.2.2.2.2.2.1), (20, o4.2.2.2.2.2.2), (22, o5.1), (23, o5.2)] [(21, o6)] [] 0 0 := by
                    intro _ hf
                    have hf := hk110_26 hf
                    clear hk110_26
                    refine go_iconst (pc' := 111) hC dX12_differ_110 ki_0 rfl ?_
                    exact jk111_15 (0 : Int32) hf
                  clear hk110_26
                  refine go_icmp_ne (tgt := 110) (pc' := 83) hC dX12_differ_80 (by decide) rfl (fun h35 => ?_) (fun h35 => ?_)
                  · have hf := ite_f h35 hf
                    exact jk110_26 () hf
                  · have hf := ite_t h35 hf
                    refine go_iload (pc' := 85) hC dX12_differ_83 rfl rfl ?_
                    refine go_iload_n (pc' := 86) hC dX12_differ_85 rfl rfl ?_
                    refine go_ishr (pc' := 87) hC dX12_differ_86 rfl ?_
                    refine go_iconst (pc' := 88) hC dX12_differ_87 ki_1 rfl ?_
                    refine go_iand (pc' := 89) hC dX12_differ_88 rfl ?_
                    refine go_iload_n (pc' := 90) hC dX12_differ_89 rfl rfl ?_
                    obtain ⟨k103_29, hk103_29, hf⟩ := lk_e2 hf
                    have jk103_29 : ∀ (x27 : Int32) (x28 : Int32), k103_29 x27 x28 = some o → Go X layM S 103 [(0, .ref (x_q X 0)), (1, .int p1), (2, .int p2), (3, .int p3), (4, .long x7), (6, .int x8)] [.int x27, .int x28] g [(38, o4.1), (39, o4.2.1), (44, o4.2.2.1)] [] [(17, o4.2.2.2.1), (18, o4.2.2.2.2.1), (19, o4.2.2.2.2.2.1), (20, o4.2.2.2.2.2.2), (22, o5.1), (23, o5.2)] [(21, o6)] [] 0 0 := by
                      intro x27 x28 hf
                      have hf := hk103_29 x27 x28 hf
                      clear hk103_29
                      refine go_icmp_ne (tgt := 110) (pc' := 106) hC dX12_differ_103 (by decide) rfl (fun h30 => ?_) (fun h30 => ?_)
                      · have hf := ite_f h30 hf
                        exact jk110_26 () hf
                      · have hf := ite_t h30 hf
                        refine go_iconst (pc' := 107) hC dX12_differ_106 ki_1 rfl ?_
                        refine go_goto (tgt := 111) hC dX12_differ_107 (by decide) ?_
                        exact jk111_15 (1 : Int32) hf
                    clear hk103_29
                    obtain ⟨k98_32, hk98_32, hf⟩ := lk_e1 hf
                    have jk98_32 : ∀ (x31 : Int32), k98_32 x31 = some o → Go X layM S 98 [(0, .ref (x_q X 0)), (1, .int p1), (2, .int p2), (3, .int p3), (4, .long x7), (6, .int x8)] [.int x31] g [(38, o4.1), (39, o4.2.1), (44, o4.2.2.1)] [] [(17, o4.2.2.2.1), (18, o4.2.2.2.2.1), (19, o4.2.2.2.2.2.1), (20, o4.2.2.2.2.2.2), (22, o5.1), (23, o5.2)] [(21, o6)] [] 0 0 := by
                      intro x31 hf
                      have hf := hk98_32 x31 hf
                      clear hk98_32
                      refine go_iconst (pc' := 99) hC dX12_differ_98 ki_1 rfl ?_
                      refine go_goto (tgt := 103) hC dX12_differ_99 (by decide) ?_
                      exact jk103_29 (1 : Int32) x31 hf
                    clear hk98_32
                    refine go_if_eq (tgt := 98) (pc' := 93) hC dX12_differ_90 (by decide) rfl (fun h34 => ?_) (fun h34 => ?_)
                    · have hf := ite_t h34 hf
                      exact jk98_32 ((x8 >>> (p2 &&& 31)) &&& (1 : Int32)) hf
                    · have hf := ite_f h34 hf
                      refine go_iload_n (pc' := 94) hC dX12_differ_93 rfl rfl ?_
                      refine go_iconst (pc' := 95) hC dX12_differ_94 ki_2 rfl ?_
                      refine go_icmp_ne (tgt := 102) (pc' := 98) hC dX12_differ_95 (by decide) rfl (fun h33 => ?_) (fun h33 => ?_)
                      · have hf := ite_f h33 hf
                        refine go_iconst (pc' := 103) hC dX12_differ_102 ki_0 rfl ?_
                        exact jk103_29 (0 : Int32) ((x8 >>> (p2 &&& 31)) &&& (1 : Int32)) hf
                      · have hf := ite_t h33 hf
                        exact jk98_32 ((x8 >>> (p2 &&& 31)) &&& (1 : Int32)) hf
                clear hk80_13
                refine go_icmp_ge (tgt := 79) (pc' := 75) hC dX12_differ_72 (by decide) rfl (fun h36 => ?_) (fun h36 => ?_)
                · have hf := ite_t h36 hf
                  refine go_iconst (pc' := 80) hC dX12_differ_79 ki_0 rfl ?_
                  exact jk80_13 (0 : Int32) ((x8 >>> (p1 &&& 31)) &&& (1 : Int32)) hf
                · have hf := ite_f h36 hf
                  refine go_iconst (pc' := 76) hC dX12_differ_75 ki_1 rfl ?_
                  refine go_goto (tgt := 80) hC dX12_differ_76 (by decide) ?_
                  exact jk80_13 (1 : Int32) ((x8 >>> (p1 &&& 31)) &&& (1 : Int32)) hf
          exact l55_38 fuel (0 : Int64) (0 : Int32) hf
        · have hf := ite_t h39 hf
          refine go_ldc2 (pc' := 36) hC dX12_differ_33 mw_922 rfl ?_
          obtain rfl := Option.some.inj hf
          exact go_lret hC hQ dX12_differ_36 rfl rfl rfl (fun _ => rfl) rfl rfl
theorem dX12_puts_0 : decode cX12_puts 0 = .ok (.aload_n 0, 1) := by decide +kernel
theorem dX12_puts_1 : decode cX12_puts 1 = .ok (.getfield 149, 3) := by decide +kernel
theorem dX12_puts_4 : decode cX12_puts 4 = .ok (.aload_n 0, 1) := by decide +kernel
theorem dX12_puts_5 : decode cX12_puts 5 = .ok (.getfield 513, 3) := by decide +kernel
theorem dX12_puts_8 : decode cX12_puts 8 = .ok (.iload_n 1, 1) := by decide +kernel
theorem dX12_puts_9 : decode cX12_puts 9 = .ok (.iastore, 1) := by decide +kernel
theorem dX12_puts_10 : decode cX12_puts 10 = .ok (.aload_n 0, 1) := by decide +kernel
theorem dX12_puts_11 : decode cX12_puts 11 = .ok (.dup, 1) := by decide +kernel
theorem dX12_puts_12 : decode cX12_puts 12 = .ok (.getfield 513, 3) := by decide +kernel
theorem dX12_puts_15 : decode cX12_puts 15 = .ok (.iconst 1, 1) := by decide +kernel
theorem dX12_puts_16 : decode cX12_puts 16 = .ok (.iadd, 1) := by decide +kernel
theorem dX12_puts_17 : decode cX12_puts 17 = .ok (.putfield 513, 3) := by decide +kernel
theorem dX12_puts_20 : decode cX12_puts 20 = .ok (.return_, 1) := by decide +kernel
abbrev o_X12_puts : Type := Int32 × (Nat → Int32)
def f_X12_puts (S : wd_W) (p1 : Int32) : Option o_X12_puts :=
gd (okx (S.1 80) 800) <|
lz (upd (S.2.2.1 46) (S.1 80).toNatClampNeg p1) fun a2 =>
lz ((S.1 80) + (1 : Int32)) fun x3 =>
some (x3, a2)
set_option maxRecDepth 100000 in
set_option maxHeartbeats 4000000 in
theorem c_X12_puts (l : Launch) (D : va_G) (q g : Nat → Nat) (cy : Nat → ClassId) (z : (Nat → Nat) × (Nat → Nat) × Nat) (S : wd_W) (p1 : Int32) (o : o_X12_puts) (hf : f_X12_puts S p1 = some o) : MX layM l yX12_puts cX12_puts 2 none ({ frames := 0, cells := 0, slots := 0, locals := 0 } : Room) D q g cy z [.ref (q 0), .int p1] S false (none) (wd_o S [(80, o.1)] [] [(46, o.2)] [] []) 0 0 := by
  refine mx_of (own := RX12) (lc := [(0, .ref (q 0)), (1, .int p1)]) (by decide +kernel) rfl layM_ok (Nat.le_of_ble_eq_true rfl) rfl ?_
  intro X hXl hXq hXz hC hQ
  subst hXl; subst hXq; subst hXz
  unfold f_X12_puts at hf
  refine go_keys (L1 := [(80, (S.1 80))]) (L2 := []) (L3 := [(46, (S.2.2.1 46))]) (L4 := []) (L5 := []) [80] [] [46] [] [] rfl rfl rfl rfl rfl ?_
  refine go_aload_n (pc' := 1) hC dX12_puts_0 rfl rfl ?_
  refine go_getq (pc' := 4) hC 0 78 layM_0 rfl rfl inlX12 (Nat.le_of_ble_eq_true rfl) mw_227 rfl dX12_puts_1 rfl ?_
  refine go_aload_n (pc' := 5) hC dX12_puts_4 rfl rfl ?_
  refine go_geti (v := (S.1 80)) (pc' := 8) hC 0 80 layM_0 rfl rfl inlX12 (Nat.le_of_ble_eq_true rfl) mw_1522 rfl dX12_puts_5 rfl rfl ?_
  refine go_iload_n (pc' := 9) hC dX12_puts_8 rfl rfl ?_
  obtain ⟨h1, hf⟩ := gd_e hf
  refine go_iast (f := (S.2.2.1 46)) (pc' := 10) hC 46 layM_46 rfl rfl dX12_puts_9 (okx_in h1) rfl rfl (fun a2 ha L3' hL => ?_)
  have hf := lz_r ha hf
  clear ha
  obtain rfl : L3' = [(46, a2)] := hL.symm
  refine go_aload_n (pc' := 11) hC dX12_puts_10 rfl rfl ?_
  refine go_dup (pc' := 12) hC dX12_puts_11 rfl rfl ?_
  refine go_geti (v := (S.1 80)) (pc' := 15) hC 0 80 layM_0 rfl rfl inlX12 (Nat.le_of_ble_eq_true rfl) mw_1522 rfl dX12_puts_12 rfl rfl ?_
  refine go_iconst (pc' := 16) hC dX12_puts_15 ki_1 rfl ?_
  refine go_iadd (pc' := 17) hC dX12_puts_16 rfl ?_
  refine go_namei (fun x3 hx => ?_)
  have hf := lz_r hx hf
  clear hx
  refine go_puti (L1' := [(80, x3)]) (pc' := 20) hC 0 80 layM_0 rfl rfl inlX12 tyX12_ok nmX12 (Nat.le_of_ble_eq_true rfl) mw_1522 rfl rfl rfl rfl dX12_puts_17 rfl rfl rfl ?_
  obtain rfl := Option.some.inj hf
  exact go_vret hC hQ dX12_puts_20 rfl rfl rfl (fun _ => rfl) rfl rfl
theorem dX12_gets_0 : decode cX12_gets 0 = .ok (.aload_n 0, 1) := by decide +kernel
theorem dX12_gets_1 : decode cX12_gets 1 = .ok (.dup, 1) := by decide +kernel
theorem dX12_gets_2 : decode cX12_gets 2 = .ok (.getfield 513, 3) := by decide +kernel
theorem dX12_gets_5 : decode cX12_gets 5 = .ok (.iconst 1, 1) := by decide +kernel
theorem dX12_gets_6 : decode cX12_gets 6 = .ok (.iadd, 1) := by decide +kernel
theorem dX12_gets_7 : decode cX12_gets 7 = .ok (.putfield 513, 3) := by decide +kernel
theorem dX12_gets_10 : decode cX12_gets 10 = .ok (.aload_n 0, 1) := by decide +kernel
theorem dX12_gets_11 : decode cX12_gets 11 = .ok (.getfield 149, 3) := by decide +kernel
theorem dX12_gets_14 : decode cX12_gets 14 = .ok (.aload_n 0, 1) := by decide +kernel
theorem dX12_gets_15 : decode cX12_gets 15 = .ok (.getfield 513, 3) := by decide +kernel
theorem dX12_gets_18 : decode cX12_gets 18 = .ok (.iconst 1, 1) := by decide +kernel
theorem dX12_gets_19 : decode cX12_gets 19 = .ok (.isub, 1) := by decide +kernel
theorem dX12_gets_20 : decode cX12_gets 20 = .ok (.iaload, 1) := by decide +kernel
theorem dX12_gets_21 : decode cX12_gets 21 = .ok (.ireturn, 1) := by decide +kernel
abbrev o_X12_gets : Type := Int32 × Int32
def f_X12_gets (S : wd_W) : Option o_X12_gets :=
lz ((S.1 80) + (1 : Int32)) fun x1 =>
gd (okx (x1 - (1 : Int32)) 800) <|
some ((S.2.2.1 46) (x1 - (1 : Int32)).toNatClampNeg, x1)
set_option maxRecDepth 100000 in
set_option maxHeartbeats 4000000 in
theorem c_X12_gets (l : Launch) (D : va_G) (q g : Nat → Nat) (cy : Nat → ClassId) (z : (Nat → Nat) × (Nat → Nat) × Nat) (S : wd_W) (o : o_X12_gets) (hf : f_X12_gets S = some o) : MX layM l yX12_gets cX12_gets 1 (some .int) ({ frames := 0, cells := 0, slots := 0, locals := 0 } : Room) D q g cy z [.ref (q 0)] S false (some (.int o.1)) (wd_o S [(80, o.2)] [] [] [] []) 0 0 := by
  refine mx_of (own := RX12) (lc := [(0, .ref (q 0))]) (by decide +kernel) rfl layM_ok (Nat.le_of_ble_eq_true rfl) rfl ?_
  intro X hXl hXq hXz hC hQ
  subst hXl; subst hXq; subst hXz
  unfold f_X12_gets at hf
  refine go_keys (L1 := [(80, (S.1 80))]) (L2 := []) (L3 := []) (L4 := []) (L5 := []) [80] [] [] [] [] rfl rfl rfl rfl rfl ?_
  refine go_aload_n (pc' := 1) hC dX12_gets_0 rfl rfl ?_
  refine go_dup (pc' := 2) hC dX12_gets_1 rfl rfl ?_
  refine go_geti (v := (S.1 80)) (pc' := 5) hC 0 80 layM_0 rfl rfl inlX12 (Nat.le_of_ble_eq_true rfl) mw_1522 rfl dX12_gets_2 rfl rfl ?_
  refine go_iconst (pc' := 6) hC dX12_gets_5 ki_1 rfl ?_
  refine go_iadd (pc' := 7) hC dX12_gets_6 rfl ?_
  refine go_namei (fun x1 hx => ?_)
  have hf := lz_r hx hf
  clear hx
  refine go_puti (L1' := [(80, x1)]) (pc' := 10) hC 0 80 layM_0 rfl rfl inlX12 tyX12_ok nmX12 (Nat.le_of_ble_eq_true rfl) mw_1522 rfl rfl rfl rfl dX12_gets_7 rfl rfl rfl ?_
  refine go_aload_n (pc' := 11) hC dX12_gets_10 rfl rfl ?_
  refine go_getq (pc' := 14) hC 0 78 layM_0 rfl rfl inlX12 (Nat.le_of_ble_eq_true rfl) mw_227 rfl dX12_gets_11 rfl ?_
  refine go_aload_n (pc' := 15) hC dX12_gets_14 rfl rfl ?_
  refine go_geti (v := x1) (pc' := 18) hC 0 80 layM_0 rfl rfl inlX12 (Nat.le_of_ble_eq_true rfl) mw_1522 rfl dX12_gets_15 rfl rfl ?_
  refine go_iconst (pc' := 19) hC dX12_gets_18 ki_1 rfl ?_
  refine go_isub (pc' := 20) hC dX12_gets_19 rfl ?_
  obtain ⟨h2, hf⟩ := gd_e hf
  refine go_iald (f := (S.2.2.1 46)) (pc' := 21) hC 46 layM_46 rfl rfl dX12_gets_20 (okx_in h2) rfl ?_
  obtain rfl := Option.some.inj hf
  exact go_iret hC hQ dX12_gets_21 rfl rfl rfl rfl (fun _ => rfl) rfl rfl
theorem dX12_image_0 : decode cX12_image 0 = .ok (.iload_n 1, 1) := by decide +kernel
theorem dX12_image_1 : decode cX12_image 1 = .ok (.i2l, 1) := by decide +kernel
theorem dX12_image_2 : decode cX12_image 2 = .ok (.lconst 0, 1) := by decide +kernel
theorem dX12_image_3 : decode cX12_image 3 = .ok (.ldc2_w 511, 3) := by decide +kernel
theorem dX12_image_6 : decode cX12_image 6 = .ok (.invokestatic 218, 3) := by decide +kernel
theorem dX12_image_9 : decode cX12_image 9 = .ok (.ifCond .ne 5, 3) := by decide +kernel
theorem dX12_image_12 : decode cX12_image 12 = .ok (.iconst (-1), 1) := by decide +kernel
theorem dX12_image_13 : decode cX12_image 13 = .ok (.ireturn, 1) := by decide +kernel
theorem dX12_image_14 : decode cX12_image 14 = .ok (.aload_n 0, 1) := by decide +kernel
theorem dX12_image_15 : decode cX12_image 15 = .ok (.getfield 152, 3) := by decide +kernel
theorem dX12_image_18 : decode cX12_image 18 = .ok (.iload_n 1, 1) := by decide +kernel
theorem dX12_image_19 : decode cX12_image 19 = .ok (.iconst 1, 1) := by decide +kernel
theorem dX12_image_20 : decode cX12_image 20 = .ok (.bastore, 1) := by decide +kernel
theorem dX12_image_21 : decode cX12_image 21 = .ok (.aload_n 0, 1) := by decide +kernel
theorem dX12_image_22 : decode cX12_image 22 = .ok (.sipush 200, 3) := by decide +kernel
theorem dX12_image_25 : decode cX12_image 25 = .ok (.iload_n 1, 1) := by decide +kernel
theorem dX12_image_26 : decode cX12_image 26 = .ok (.imul, 1) := by decide +kernel
theorem dX12_image_27 : decode cX12_image 27 = .ok (.putfield 513, 3) := by decide +kernel
theorem dX12_image_30 : decode cX12_image 30 = .ok (.aload_n 0, 1) := by decide +kernel
theorem dX12_image_31 : decode cX12_image 31 = .ok (.aload_n 0, 1) := by decide +kernel
theorem dX12_image_32 : decode cX12_image 32 = .ok (.getfield 276, 3) := by decide +kernel
theorem dX12_image_35 : decode cX12_image 35 = .ok (.invokevirtual 516, 3) := by decide +kernel
theorem dX12_image_38 : decode cX12_image 38 = .ok (.aload_n 0, 1) := by decide +kernel
theorem dX12_image_39 : decode cX12_image 39 = .ok (.aload_n 0, 1) := by decide +kernel
theorem dX12_image_40 : decode cX12_image 40 = .ok (.getfield 279, 3) := by decide +kernel
theorem dX12_image_43 : decode cX12_image 43 = .ok (.invokevirtual 516, 3) := by decide +kernel
theorem dX12_image_46 : decode cX12_image 46 = .ok (.aload_n 0, 1) := by decide +kernel
theorem dX12_image_47 : decode cX12_image 47 = .ok (.aload_n 0, 1) := by decide +kernel
theorem dX12_image_48 : decode cX12_image 48 = .ok (.getfield 282, 3) := by decide +kernel
theorem dX12_image_51 : decode cX12_image 51 = .ok (.invokevirtual 516, 3) := by decide +kernel
theorem dX12_image_54 : decode cX12_image 54 = .ok (.aload_n 0, 1) := by decide +kernel
theorem dX12_image_55 : decode cX12_image 55 = .ok (.aload_n 0, 1) := by decide +kernel
theorem dX12_image_56 : decode cX12_image 56 = .ok (.getfield 285, 3) := by decide +kernel
theorem dX12_image_59 : decode cX12_image 59 = .ok (.invokevirtual 516, 3) := by decide +kernel
theorem dX12_image_62 : decode cX12_image 62 = .ok (.aload_n 0, 1) := by decide +kernel
theorem dX12_image_63 : decode cX12_image 63 = .ok (.aload_n 0, 1) := by decide +kernel
theorem dX12_image_64 : decode cX12_image 64 = .ok (.getfield 288, 3) := by decide +kernel
theorem dX12_image_67 : decode cX12_image 67 = .ok (.invokevirtual 516, 3) := by decide +kernel
theorem dX12_image_70 : decode cX12_image 70 = .ok (.aload_n 0, 1) := by decide +kernel
theorem dX12_image_71 : decode cX12_image 71 = .ok (.aload_n 0, 1) := by decide +kernel
theorem dX12_image_72 : decode cX12_image 72 = .ok (.getfield 291, 3) := by decide +kernel
theorem dX12_image_75 : decode cX12_image 75 = .ok (.invokevirtual 516, 3) := by decide +kernel
theorem dX12_image_78 : decode cX12_image 78 = .ok (.aload_n 0, 1) := by decide +kernel
theorem dX12_image_79 : decode cX12_image 79 = .ok (.aload_n 0, 1) := by decide +kernel
theorem dX12_image_80 : decode cX12_image 80 = .ok (.getfield 294, 3) := by decide +kernel
theorem dX12_image_83 : decode cX12_image 83 = .ok (.invokevirtual 516, 3) := by decide +kernel
theorem dX12_image_86 : decode cX12_image 86 = .ok (.aload_n 0, 1) := by decide +kernel
theorem dX12_image_87 : decode cX12_image 87 = .ok (.aload_n 0, 1) := by decide +kernel
theorem dX12_image_88 : decode cX12_image 88 = .ok (.getfield 297, 3) := by decide +kernel
theorem dX12_image_91 : decode cX12_image 91 = .ok (.invokevirtual 516, 3) := by decide +kernel
theorem dX12_image_94 : decode cX12_image 94 = .ok (.aload_n 0, 1) := by decide +kernel
theorem dX12_image_95 : decode cX12_image 95 = .ok (.aload_n 0, 1) := by decide +kernel
theorem dX12_image_96 : decode cX12_image 96 = .ok (.getfield 300, 3) := by decide +kernel
theorem dX12_image_99 : decode cX12_image 99 = .ok (.invokevirtual 516, 3) := by decide +kernel
theorem dX12_image_102 : decode cX12_image 102 = .ok (.aload_n 0, 1) := by decide +kernel
theorem dX12_image_103 : decode cX12_image 103 = .ok (.aload_n 0, 1) := by decide +kernel
theorem dX12_image_104 : decode cX12_image 104 = .ok (.getfield 303, 3) := by decide +kernel
theorem dX12_image_107 : decode cX12_image 107 = .ok (.invokevirtual 516, 3) := by decide +kernel
theorem dX12_image_110 : decode cX12_image 110 = .ok (.aload_n 0, 1) := by decide +kernel
theorem dX12_image_111 : decode cX12_image 111 = .ok (.aload_n 0, 1) := by decide +kernel
theorem dX12_image_112 : decode cX12_image 112 = .ok (.getfield 306, 3) := by decide +kernel
theorem dX12_image_115 : decode cX12_image 115 = .ok (.invokevirtual 516, 3) := by decide +kernel
theorem dX12_image_118 : decode cX12_image 118 = .ok (.iconst 0, 1) := by decide +kernel
theorem dX12_image_119 : decode cX12_image 119 = .ok (.istore_n 2, 1) := by decide +kernel
theorem dX12_image_120 : decode cX12_image 120 = .ok (.iload_n 2, 1) := by decide +kernel
theorem dX12_image_121 : decode cX12_image 121 = .ok (.bipush 12, 2) := by decide +kernel
theorem dX12_image_123 : decode cX12_image 123 = .ok (.if_icmp .ge 77, 3) := by decide +kernel
theorem dX12_image_126 : decode cX12_image 126 = .ok (.aload_n 0, 1) := by decide +kernel
theorem dX12_image_127 : decode cX12_image 127 = .ok (.aload_n 0, 1) := by decide +kernel
theorem dX12_image_128 : decode cX12_image 128 = .ok (.getfield 32, 3) := by decide +kernel
theorem dX12_image_131 : decode cX12_image 131 = .ok (.iload_n 2, 1) := by decide +kernel
theorem dX12_image_132 : decode cX12_image 132 = .ok (.iaload, 1) := by decide +kernel
theorem dX12_image_133 : decode cX12_image 133 = .ok (.invokevirtual 516, 3) := by decide +kernel
theorem dX12_image_136 : decode cX12_image 136 = .ok (.aload_n 0, 1) := by decide +kernel
theorem dX12_image_137 : decode cX12_image 137 = .ok (.aload_n 0, 1) := by decide +kernel
theorem dX12_image_138 : decode cX12_image 138 = .ok (.getfield 35, 3) := by decide +kernel
theorem dX12_image_141 : decode cX12_image 141 = .ok (.iload_n 2, 1) := by decide +kernel
theorem dX12_image_142 : decode cX12_image 142 = .ok (.iaload, 1) := by decide +kernel
theorem dX12_image_143 : decode cX12_image 143 = .ok (.invokevirtual 516, 3) := by decide +kernel
theorem dX12_image_146 : decode cX12_image 146 = .ok (.aload_n 0, 1) := by decide +kernel
theorem dX12_image_147 : decode cX12_image 147 = .ok (.aload_n 0, 1) := by decide +kernel
theorem dX12_image_148 : decode cX12_image 148 = .ok (.getfield 38, 3) := by decide +kernel
theorem dX12_image_151 : decode cX12_image 151 = .ok (.iload_n 2, 1) := by decide +kernel
theorem dX12_image_152 : decode cX12_image 152 = .ok (.iaload, 1) := by decide +kernel
theorem dX12_image_153 : decode cX12_image 153 = .ok (.invokevirtual 516, 3) := by decide +kernel
theorem dX12_image_156 : decode cX12_image 156 = .ok (.aload_n 0, 1) := by decide +kernel
theorem dX12_image_157 : decode cX12_image 157 = .ok (.aload_n 0, 1) := by decide +kernel
theorem dX12_image_158 : decode cX12_image 158 = .ok (.getfield 41, 3) := by decide +kernel
theorem dX12_image_161 : decode cX12_image 161 = .ok (.iload_n 2, 1) := by decide +kernel
theorem dX12_image_162 : decode cX12_image 162 = .ok (.baload, 1) := by decide +kernel
theorem dX12_image_163 : decode cX12_image 163 = .ok (.ifCond .eq 7, 3) := by decide +kernel
theorem dX12_image_166 : decode cX12_image 166 = .ok (.iconst 1, 1) := by decide +kernel
theorem dX12_image_167 : decode cX12_image 167 = .ok (.goto 4, 3) := by decide +kernel
theorem dX12_image_170 : decode cX12_image 170 = .ok (.iconst 0, 1) := by decide +kernel
theorem dX12_image_171 : decode cX12_image 171 = .ok (.invokevirtual 516, 3) := by decide +kernel
theorem dX12_image_174 : decode cX12_image 174 = .ok (.aload_n 0, 1) := by decide +kernel
theorem dX12_image_175 : decode cX12_image 175 = .ok (.aload_n 0, 1) := by decide +kernel
theorem dX12_image_176 : decode cX12_image 176 = .ok (.getfield 45, 3) := by decide +kernel
theorem dX12_image_179 : decode cX12_image 179 = .ok (.iload_n 2, 1) := by decide +kernel
theorem dX12_image_180 : decode cX12_image 180 = .ok (.iaload, 1) := by decide +kernel
theorem dX12_image_181 : decode cX12_image 181 = .ok (.invokevirtual 516, 3) := by decide +kernel
theorem dX12_image_184 : decode cX12_image 184 = .ok (.aload_n 0, 1) := by decide +kernel
theorem dX12_image_185 : decode cX12_image 185 = .ok (.aload_n 0, 1) := by decide +kernel
theorem dX12_image_186 : decode cX12_image 186 = .ok (.getfield 48, 3) := by decide +kernel
theorem dX12_image_189 : decode cX12_image 189 = .ok (.iload_n 2, 1) := by decide +kernel
theorem dX12_image_190 : decode cX12_image 190 = .ok (.iaload, 1) := by decide +kernel
theorem dX12_image_191 : decode cX12_image 191 = .ok (.invokevirtual 516, 3) := by decide +kernel
theorem dX12_image_194 : decode cX12_image 194 = .ok (.iinc 2 1, 3) := by decide +kernel
theorem dX12_image_197 : decode cX12_image 197 = .ok (.goto (-77), 3) := by decide +kernel
theorem dX12_image_200 : decode cX12_image 200 = .ok (.iconst 0, 1) := by decide +kernel
theorem dX12_image_201 : decode cX12_image 201 = .ok (.istore_n 2, 1) := by decide +kernel
theorem dX12_image_202 : decode cX12_image 202 = .ok (.iload_n 2, 1) := by decide +kernel
theorem dX12_image_203 : decode cX12_image 203 = .ok (.bipush 10, 2) := by decide +kernel
theorem dX12_image_205 : decode cX12_image 205 = .ok (.if_icmp .ge 29, 3) := by decide +kernel
theorem dX12_image_208 : decode cX12_image 208 = .ok (.aload_n 0, 1) := by decide +kernel
theorem dX12_image_209 : decode cX12_image 209 = .ok (.aload_n 0, 1) := by decide +kernel
theorem dX12_image_210 : decode cX12_image 210 = .ok (.getfield 51, 3) := by decide +kernel
theorem dX12_image_213 : decode cX12_image 213 = .ok (.iload_n 2, 1) := by decide +kernel
theorem dX12_image_214 : decode cX12_image 214 = .ok (.iaload, 1) := by decide +kernel
theorem dX12_image_215 : decode cX12_image 215 = .ok (.invokevirtual 516, 3) := by decide +kernel
theorem dX12_image_218 : decode cX12_image 218 = .ok (.aload_n 0, 1) := by decide +kernel
theorem dX12_image_219 : decode cX12_image 219 = .ok (.aload_n 0, 1) := by decide +kernel
theorem dX12_image_220 : decode cX12_image 220 = .ok (.getfield 54, 3) := by decide +kernel
theorem dX12_image_223 : decode cX12_image 223 = .ok (.iload_n 2, 1) := by decide +kernel
theorem dX12_image_224 : decode cX12_image 224 = .ok (.iaload, 1) := by decide +kernel
theorem dX12_image_225 : decode cX12_image 225 = .ok (.invokevirtual 516, 3) := by decide +kernel
theorem dX12_image_228 : decode cX12_image 228 = .ok (.iinc 2 1, 3) := by decide +kernel
theorem dX12_image_231 : decode cX12_image 231 = .ok (.goto (-29), 3) := by decide +kernel
theorem dX12_image_234 : decode cX12_image 234 = .ok (.iconst 0, 1) := by decide +kernel
theorem dX12_image_235 : decode cX12_image 235 = .ok (.istore_n 2, 1) := by decide +kernel
theorem dX12_image_236 : decode cX12_image 236 = .ok (.iload_n 2, 1) := by decide +kernel
theorem dX12_image_237 : decode cX12_image 237 = .ok (.bipush 15, 2) := by decide +kernel
theorem dX12_image_239 : decode cX12_image 239 = .ok (.if_icmp .ge 19, 3) := by decide +kernel
theorem dX12_image_242 : decode cX12_image 242 = .ok (.aload_n 0, 1) := by decide +kernel
theorem dX12_image_243 : decode cX12_image 243 = .ok (.aload_n 0, 1) := by decide +kernel
theorem dX12_image_244 : decode cX12_image 244 = .ok (.getfield 57, 3) := by decide +kernel
theorem dX12_image_247 : decode cX12_image 247 = .ok (.iload_n 2, 1) := by decide +kernel
theorem dX12_image_248 : decode cX12_image 248 = .ok (.iaload, 1) := by decide +kernel
theorem dX12_image_249 : decode cX12_image 249 = .ok (.invokevirtual 516, 3) := by decide +kernel
theorem dX12_image_252 : decode cX12_image 252 = .ok (.iinc 2 1, 3) := by decide +kernel
theorem dX12_image_255 : decode cX12_image 255 = .ok (.goto (-19), 3) := by decide +kernel
theorem dX12_image_258 : decode cX12_image 258 = .ok (.iconst 0, 1) := by decide +kernel
theorem dX12_image_259 : decode cX12_image 259 = .ok (.istore_n 2, 1) := by decide +kernel
theorem dX12_image_260 : decode cX12_image 260 = .ok (.iload_n 2, 1) := by decide +kernel
theorem dX12_image_261 : decode cX12_image 261 = .ok (.bipush 9, 2) := by decide +kernel
theorem dX12_image_263 : decode cX12_image 263 = .ok (.if_icmp .ge 39, 3) := by decide +kernel
theorem dX12_image_266 : decode cX12_image 266 = .ok (.aload_n 0, 1) := by decide +kernel
theorem dX12_image_267 : decode cX12_image 267 = .ok (.aload_n 0, 1) := by decide +kernel
theorem dX12_image_268 : decode cX12_image 268 = .ok (.getfield 92, 3) := by decide +kernel
theorem dX12_image_271 : decode cX12_image 271 = .ok (.iload_n 2, 1) := by decide +kernel
theorem dX12_image_272 : decode cX12_image 272 = .ok (.iaload, 1) := by decide +kernel
theorem dX12_image_273 : decode cX12_image 273 = .ok (.invokevirtual 516, 3) := by decide +kernel
theorem dX12_image_276 : decode cX12_image 276 = .ok (.aload_n 0, 1) := by decide +kernel
theorem dX12_image_277 : decode cX12_image 277 = .ok (.aload_n 0, 1) := by decide +kernel
theorem dX12_image_278 : decode cX12_image 278 = .ok (.getfield 95, 3) := by decide +kernel
theorem dX12_image_281 : decode cX12_image 281 = .ok (.iload_n 2, 1) := by decide +kernel
theorem dX12_image_282 : decode cX12_image 282 = .ok (.iaload, 1) := by decide +kernel
theorem dX12_image_283 : decode cX12_image 283 = .ok (.invokevirtual 516, 3) := by decide +kernel
theorem dX12_image_286 : decode cX12_image 286 = .ok (.aload_n 0, 1) := by decide +kernel
theorem dX12_image_287 : decode cX12_image 287 = .ok (.aload_n 0, 1) := by decide +kernel
theorem dX12_image_288 : decode cX12_image 288 = .ok (.getfield 98, 3) := by decide +kernel
theorem dX12_image_291 : decode cX12_image 291 = .ok (.iload_n 2, 1) := by decide +kernel
theorem dX12_image_292 : decode cX12_image 292 = .ok (.iaload, 1) := by decide +kernel
theorem dX12_image_293 : decode cX12_image 293 = .ok (.invokevirtual 516, 3) := by decide +kernel
theorem dX12_image_296 : decode cX12_image 296 = .ok (.iinc 2 1, 3) := by decide +kernel
theorem dX12_image_299 : decode cX12_image 299 = .ok (.goto (-39), 3) := by decide +kernel
theorem dX12_image_302 : decode cX12_image 302 = .ok (.iconst 0, 1) := by decide +kernel
theorem dX12_image_303 : decode cX12_image 303 = .ok (.istore_n 2, 1) := by decide +kernel
theorem dX12_image_304 : decode cX12_image 304 = .ok (.iload_n 2, 1) := by decide +kernel
theorem dX12_image_305 : decode cX12_image 305 = .ok (.bipush 6, 2) := by decide +kernel
theorem dX12_image_307 : decode cX12_image 307 = .ok (.if_icmp .ge 47, 3) := by decide +kernel
theorem dX12_image_310 : decode cX12_image 310 = .ok (.aload_n 0, 1) := by decide +kernel
theorem dX12_image_311 : decode cX12_image 311 = .ok (.aload_n 0, 1) := by decide +kernel
theorem dX12_image_312 : decode cX12_image 312 = .ok (.getfield 107, 3) := by decide +kernel
theorem dX12_image_315 : decode cX12_image 315 = .ok (.iload_n 2, 1) := by decide +kernel
theorem dX12_image_316 : decode cX12_image 316 = .ok (.iaload, 1) := by decide +kernel
theorem dX12_image_317 : decode cX12_image 317 = .ok (.invokevirtual 516, 3) := by decide +kernel
theorem dX12_image_320 : decode cX12_image 320 = .ok (.aload_n 0, 1) := by decide +kernel
theorem dX12_image_321 : decode cX12_image 321 = .ok (.aload_n 0, 1) := by decide +kernel
theorem dX12_image_322 : decode cX12_image 322 = .ok (.getfield 110, 3) := by decide +kernel
theorem dX12_image_325 : decode cX12_image 325 = .ok (.iload_n 2, 1) := by decide +kernel
theorem dX12_image_326 : decode cX12_image 326 = .ok (.iaload, 1) := by decide +kernel
theorem dX12_image_327 : decode cX12_image 327 = .ok (.invokevirtual 516, 3) := by decide +kernel
theorem dX12_image_330 : decode cX12_image 330 = .ok (.aload_n 0, 1) := by decide +kernel
theorem dX12_image_331 : decode cX12_image 331 = .ok (.aload_n 0, 1) := by decide +kernel
theorem dX12_image_332 : decode cX12_image 332 = .ok (.getfield 113, 3) := by decide +kernel
theorem dX12_image_335 : decode cX12_image 335 = .ok (.iload_n 2, 1) := by decide +kernel
theorem dX12_image_336 : decode cX12_image 336 = .ok (.baload, 1) := by decide +kernel
theorem dX12_image_337 : decode cX12_image 337 = .ok (.ifCond .eq 7, 3) := by decide +kernel
theorem dX12_image_340 : decode cX12_image 340 = .ok (.iconst 1, 1) := by decide +kernel
theorem dX12_image_341 : decode cX12_image 341 = .ok (.goto 4, 3) := by decide +kernel
theorem dX12_image_344 : decode cX12_image 344 = .ok (.iconst 0, 1) := by decide +kernel
theorem dX12_image_345 : decode cX12_image 345 = .ok (.invokevirtual 516, 3) := by decide +kernel
theorem dX12_image_348 : decode cX12_image 348 = .ok (.iinc 2 1, 3) := by decide +kernel
theorem dX12_image_351 : decode cX12_image 351 = .ok (.goto (-47), 3) := by decide +kernel
theorem dX12_image_354 : decode cX12_image 354 = .ok (.aload_n 0, 1) := by decide +kernel
theorem dX12_image_355 : decode cX12_image 355 = .ok (.getfield 288, 3) := by decide +kernel
theorem dX12_image_358 : decode cX12_image 358 = .ok (.ireturn, 1) := by decide +kernel
abbrev o_X12_image : Type := Int32 × Int32 × (Nat → Int32) × (Nat → Int32)
def f_X12_image_L304 (S : wd_W) (a3 : Nat → Int32) (k354_30 : (Int32) → (Nat → Int32) → (Option o_X12_image)) (r34 : (Int32) → (Int32) → (Nat → Int32) → (Option o_X12_image)) (x31 : Int32) (x32 : Int32) (a33 : Nat → Int32) : Option o_X12_image :=
if (6 : Int32) ≤ x31 then (
k354_30 x32 a33) else (
gd (okx x31 6) <|
bd (f_X12_puts (wd_o S [(80, x32)] [] [(46, a33), (47, a3)] [] []) ((S.2.2.1 32) x31.toNatClampNeg)) fun o36 =>
gd (okx x31 6) <|
bd (f_X12_puts (wd_o S [(80, o36.1)] [] [(46, o36.2), (47, a3)] [] []) ((S.2.2.1 33) x31.toNatClampNeg)) fun o38 =>
gd (okx x31 6) <|
lk (fun x40 =>
bd (f_X12_puts (wd_o S [(80, o38.1)] [] [(46, o38.2), (47, a3)] [] []) x40) fun o42 =>
r34 (x31 + (1 : Int32)) o42.1 o42.2) fun k345_41 =>
if ((S.2.2.1 34) x31.toNatClampNeg) = 0 then (
k345_41 (0 : Int32)) else (
k345_41 (1 : Int32)))
def f_X12_image_L260 (S : wd_W) (a3 : Nat → Int32) (k302_27 : (Int32) → (Nat → Int32) → (Option o_X12_image)) (r49 : (Int32) → (Int32) → (Nat → Int32) → (Option o_X12_image)) (x46 : Int32) (x47 : Int32) (a48 : Nat → Int32) : Option o_X12_image :=
if (9 : Int32) ≤ x46 then (
k302_27 x47 a48) else (
gd (okx x46 9) <|
bd (f_X12_puts (wd_o S [(80, x47)] [] [(46, a48), (47, a3)] [] []) ((S.2.2.1 27) x46.toNatClampNeg)) fun o51 =>
gd (okx x46 9) <|
bd (f_X12_puts (wd_o S [(80, o51.1)] [] [(46, o51.2), (47, a3)] [] []) ((S.2.2.1 28) x46.toNatClampNeg)) fun o53 =>
gd (okx x46 9) <|
bd (f_X12_puts (wd_o S [(80, o53.1)] [] [(46, o53.2), (47, a3)] [] []) ((S.2.2.1 29) x46.toNatClampNeg)) fun o55 =>
r49 (x46 + (1 : Int32)) o55.1 o55.2)
def f_X12_image_L236 (S : wd_W) (a3 : Nat → Int32) (k258_24 : (Int32) → (Nat → Int32) → (Option o_X12_image)) (r61 : (Int32) → (Int32) → (Nat → Int32) → (Option o_X12_image)) (x58 : Int32) (x59 : Int32) (a60 : Nat → Int32) : Option o_X12_image :=
if (15 : Int32) ≤ x58 then (
k258_24 x59 a60) else (
gd (okx x58 15) <|
bd (f_X12_puts (wd_o S [(80, x59)] [] [(46, a60), (47, a3)] [] []) ((S.2.2.1 16) x58.toNatClampNeg)) fun o63 =>
r61 (x58 + (1 : Int32)) o63.1 o63.2)
def f_X12_image_L202 (S : wd_W) (a3 : Nat → Int32) (k234_21 : (Int32) → (Nat → Int32) → (Option o_X12_image)) (r69 : (Int32) → (Int32) → (Nat → Int32) → (Option o_X12_image)) (x66 : Int32) (x67 : Int32) (a68 : Nat → Int32) : Option o_X12_image :=
if (10 : Int32) ≤ x66 then (
k234_21 x67 a68) else (
gd (okx x66 10) <|
bd (f_X12_puts (wd_o S [(80, x67)] [] [(46, a68), (47, a3)] [] []) ((S.2.2.1 14) x66.toNatClampNeg)) fun o71 =>
gd (okx x66 10) <|
bd (f_X12_puts (wd_o S [(80, o71.1)] [] [(46, o71.2), (47, a3)] [] []) ((S.2.2.1 15) x66.toNatClampNeg)) fun o73 =>
r69 (x66 + (1 : Int32)) o73.1 o73.2)
def f_X12_image_L120 (S : wd_W) (a3 : Nat → Int32) (k200_18 : (Int32) → (Nat → Int32) → (Option o_X12_image)) (r79 : (Int32) → (Int32) → (Nat → Int32) → (Option o_X12_image)) (x76 : Int32) (x77 : Int32) (a78 : Nat → Int32) : Option o_X12_image :=
if (12 : Int32) ≤ x76 then (
k200_18 x77 a78) else (
gd (okx x76 13) <|
bd (f_X12_puts (wd_o S [(80, x77)] [] [(46, a78), (47, a3)] [] []) ((S.2.2.1 8) x76.toNatClampNeg)) fun o81 =>
gd (okx x76 13) <|
bd (f_X12_puts (wd_o S [(80, o81.1)] [] [(46, o81.2), (47, a3)] [] []) ((S.2.2.1 9) x76.toNatClampNeg)) fun o83 =>
gd (okx x76 13) <|
bd (f_X12_puts (wd_o S [(80, o83.1)] [] [(46, o83.2), (47, a3)] [] []) ((S.2.2.1 10) x76.toNatClampNeg)) fun o85 =>
gd (okx x76 13) <|
lk (fun x87 =>
bd (f_X12_puts (wd_o S [(80, o85.1)] [] [(46, o85.2), (47, a3)] [] []) x87) fun o89 =>
gd (okx x76 13) <|
bd (f_X12_puts (wd_o S [(80, o89.1)] [] [(46, o89.2), (47, a3)] [] []) ((S.2.2.1 12) x76.toNatClampNeg)) fun o91 =>
gd (okx x76 13) <|
bd (f_X12_puts (wd_o S [(80, o91.1)] [] [(46, o91.2), (47, a3)] [] []) ((S.2.2.1 13) x76.toNatClampNeg)) fun o93 =>
r79 (x76 + (1 : Int32)) o93.1 o93.2) fun k171_88 =>
if ((S.2.2.1 11) x76.toNatClampNeg) = 0 then (
k171_88 (0 : Int32)) else (
k171_88 (1 : Int32)))
def f_X12_image (S : wd_W) (p1 : Int32) : Option o_X12_image :=
bd (f_X12_in p1.toInt64 (0 : Int64) (3 : Int64)) fun o1 =>
if o1 = 0 then (
some ((-1 : Int32), (S.1 80), (S.2.2.1 46), (S.2.2.1 47))) else (
gd (okx p1 4) <|
lz (upd (S.2.2.1 47) p1.toNatClampNeg (vp_nar .boolean (1 : Int32))) fun a3 =>
lz ((200 : Int32) * p1) fun x4 =>
bd (f_X12_puts (wd_o S [(80, x4)] [] [(46, (S.2.2.1 46)), (47, a3)] [] []) (S.1 20)) fun o5 =>
bd (f_X12_puts (wd_o S [(80, o5.1)] [] [(46, o5.2), (47, a3)] [] []) (S.1 21)) fun o6 =>
bd (f_X12_puts (wd_o S [(80, o6.1)] [] [(46, o6.2), (47, a3)] [] []) (S.1 30)) fun o7 =>
bd (f_X12_puts (wd_o S [(80, o7.1)] [] [(46, o7.2), (47, a3)] [] []) (S.1 31)) fun o8 =>
bd (f_X12_puts (wd_o S [(80, o8.1)] [] [(46, o8.2), (47, a3)] [] []) (S.1 32)) fun o9 =>
bd (f_X12_puts (wd_o S [(80, o9.1)] [] [(46, o9.2), (47, a3)] [] []) (S.1 34)) fun o10 =>
bd (f_X12_puts (wd_o S [(80, o10.1)] [] [(46, o10.2), (47, a3)] [] []) (S.1 35)) fun o11 =>
bd (f_X12_puts (wd_o S [(80, o11.1)] [] [(46, o11.2), (47, a3)] [] []) (S.1 36)) fun o12 =>
bd (f_X12_puts (wd_o S [(80, o12.1)] [] [(46, o12.2), (47, a3)] [] []) (S.1 37)) fun o13 =>
bd (f_X12_puts (wd_o S [(80, o13.1)] [] [(46, o13.2), (47, a3)] [] []) (S.1 51)) fun o14 =>
bd (f_X12_puts (wd_o S [(80, o14.1)] [] [(46, o14.2), (47, a3)] [] []) (S.1 60)) fun o15 =>
lk (fun x16 a17 =>
lk (fun x19 a20 =>
lk (fun x22 a23 =>
lk (fun x25 a26 =>
lk (fun x28 a29 =>
some ((S.1 32), x28, a29, a3)) fun k354_30 =>
it3 (f_X12_image_L304 S a3 k354_30) fuel (0 : Int32) x25 a26) fun k302_27 =>
it3 (f_X12_image_L260 S a3 k302_27) fuel (0 : Int32) x22 a23) fun k258_24 =>
it3 (f_X12_image_L236 S a3 k258_24) fuel (0 : Int32) x19 a20) fun k234_21 =>
it3 (f_X12_image_L202 S a3 k234_21) fuel (0 : Int32) x16 a17) fun k200_18 =>
it3 (f_X12_image_L120 S a3 k200_18) fuel (0 : Int32) o15.1 o15.2)
set_option maxRecDepth 100000 in
set_option maxHeartbeats 4000000 in
theorem c_X12_image (l : Launch) (D : va_G) (q g : Nat → Nat) (cy : Nat → ClassId) (z : (Nat → Nat) × (Nat → Nat) × Nat) (S : wd_W) (p1 : Int32) (o : o_X12_image) (hf : f_X12_image S p1 = some o) : MX layM l yX12_image cX12_image 3 (some .int) ({ frames := 1, cells := 0, slots := 0, locals := 25 } : Room) D q g cy z [.ref (q 0), .int p1] S false (some (.int o.1)) (wd_o S [(80, o.2.1)] [] [(46, o.2.2.1), (47, o.2.2.2)] [] []) 0 0 := by
  refine mx_of (own := RX12) (lc := [(0, .ref (q 0)), (1, .int p1)]) (by decide +kernel) rfl layM_ok (Nat.le_of_ble_eq_true rfl) rfl ?_
  intro X hXl hXq hXz hC hQ
  subst hXl; subst hXq; subst hXz
  unfold f_X12_image at hf
  refine go_keys (L1 := [(80, (S.1 80))]) (L2 := []) (L3 := [(46, (S.2.2.1 46)), (47, (S.2.2.1 47))]) (L4 := []) (L5 := []) [80] [] [46, 47] [] [] rfl rfl rfl rfl rfl ?_
  refine go_iload_n (pc' := 1) hC dX12_image_0 rfl rfl ?_
  refine go_i2l (pc' := 2) hC dX12_image_1 rfl ?_
  refine go_lconst (pc' := 3) hC dX12_image_2 kl_0 rfl ?_
  refine go_ldc2 (pc' := 6) hC dX12_image_3 mw_1507 rfl ?_
  obtain ⟨o1, ho1, hf⟩ := bd_e hf
  refine go_callS0 (pc' := 9) (As := [.long p1.toInt64, .long (0 : Int64), .long (3 : Int64)]) (st := []) (st' := [.int o1])    hC dX12_image_6 ⟨mw_525, mw_527, mw_5, yd_yX12_in, yp_yX12_in, Nat.le_of_ble_eq_true rfl, Nat.le_of_ble_eq_true rfl, (Nat.le_of_ble_eq_true rfl), (Nat.le_of_ble_eq_true rfl)⟩ mw_526 rfl rfl (Nat.le_of_ble_eq_true rfl) (c_X12_in (x_l X) (x_D X) (x_q X) g (x_cy X) (x_z X) _ p1.toInt64 (0 : Int64) (3 : Int64) o1 ho1) rfl rfl ?_
  refine go_if_ne (tgt := 14) (pc' := 12) hC dX12_image_9 (by decide) rfl (fun h97 => ?_) (fun h97 => ?_)
  · have hf := ite_f h97 hf
    refine go_aload_n (pc' := 15) hC dX12_image_14 rfl rfl ?_
    refine go_getq (pc' := 18) hC 0 79 layM_0 rfl rfl inlX12 (Nat.le_of_ble_eq_true rfl) mw_228 rfl dX12_image_15 rfl ?_
    refine go_iload_n (pc' := 19) hC dX12_image_18 rfl rfl ?_
    refine go_iconst (pc' := 20) hC dX12_image_19 ki_1 rfl ?_
    obtain ⟨h2, hf⟩ := gd_e hf
    refine go_zast (f := (S.2.2.1 47)) (pc' := 21) hC 47 layM_47 rfl rfl dX12_image_20 (okx_in h2) rfl rfl (fun a3 ha L3' hL => ?_)
    have hf := lz_r ha hf
    clear ha
    obtain rfl : L3' = [(46, (S.2.2.1 46)), (47, a3)] := hL.symm
    refine go_aload_n (pc' := 22) hC dX12_image_21 rfl rfl ?_
    refine go_sipush (pc' := 25) hC dX12_image_22 ks_200 rfl ?_
    refine go_iload_n (pc' := 26) hC dX12_image_25 rfl rfl ?_
    refine go_imul (pc' := 27) hC dX12_image_26 rfl ?_
    refine go_namei (fun x4 hx => ?_)
    have hf := lz_r hx hf
    clear hx
    refine go_puti (L1' := [(80, x4)]) (pc' := 30) hC 0 80 layM_0 rfl rfl inlX12 tyX12_ok nmX12 (Nat.le_of_ble_eq_true rfl) mw_1522 rfl rfl rfl rfl dX12_image_27 rfl rfl rfl ?_
    refine go_aload_n (pc' := 31) hC dX12_image_30 rfl rfl ?_
    refine go_aload_n (pc' := 32) hC dX12_image_31 rfl rfl ?_
    refine go_geti (v := (S.1 20)) (pc' := 35) hC 0 20 layM_0 rfl rfl inlX12 (Nat.le_of_ble_eq_true rfl) mw_246 rfl dX12_image_32 rfl rfl ?_
    obtain ⟨o5, ho5, hf⟩ := bd_e hf
    refine go_callV1 (pc' := 38) (As := [.int (S.1 20)]) (st := []) (st' := []) (L1' := [(80, o5.1)]) (L2' := []) (L3' := [(46, o5.2), (47, a3)]) (L4' := []) (L5' := []) (cells' := 0) (slots' := 0)  (b := 0) hC dX12_image_35 ⟨mw_1523, mw_1526, mw_5, yd_yX12_puts, yp_yX12_puts, Nat.le_of_ble_eq_true rfl, Nat.le_of_ble_eq_true rfl, (Nat.le_of_ble_eq_true rfl), (Nat.le_of_ble_eq_true rfl)⟩ mw_1524 mw_1525 layM_0 rfl rfl rfl (Nat.le_of_ble_eq_true rfl) (c_X12_puts (x_l X) (x_D X) (x_q X) g (x_cy X) (x_z X) _ (S.1 20) o5 ho5) rfl rfl rfl rfl rfl rfl rfl rfl rfl rfl rfl rfl rfl rfl ?_
    refine go_aload_n (pc' := 39) hC dX12_image_38 rfl rfl ?_
    refine go_aload_n (pc' := 40) hC dX12_image_39 rfl rfl ?_
    refine go_geti (v := (S.1 21)) (pc' := 43) hC 0 21 layM_0 rfl rfl inlX12 (Nat.le_of_ble_eq_true rfl) mw_247 rfl dX12_image_40 rfl rfl ?_
    obtain ⟨o6, ho6, hf⟩ := bd_e hf
    refine go_callV1 (pc' := 46) (As := [.int (S.1 21)]) (st := []) (st' := []) (L1' := [(80, o6.1)]) (L2' := []) (L3' := [(46, o6.2), (47, a3)]) (L4' := []) (L5' := []) (cells' := 0) (slots' := 0)  (b := 0) hC dX12_image_43 ⟨mw_1523, mw_1526, mw_5, yd_yX12_puts, yp_yX12_puts, Nat.le_of_ble_eq_true rfl, Nat.le_of_ble_eq_true rfl, (Nat.le_of_ble_eq_true rfl), (Nat.le_of_ble_eq_true rfl)⟩ mw_1524 mw_1525 layM_0 rfl rfl rfl (Nat.le_of_ble_eq_true rfl) (c_X12_puts (x_l X) (x_D X) (x_q X) g (x_cy X) (x_z X) _ (S.1 21) o6 ho6) rfl rfl rfl rfl rfl rfl rfl rfl rfl rfl rfl rfl rfl rfl ?_
    refine go_aload_n (pc' := 47) hC dX12_image_46 rfl rfl ?_
    refine go_aload_n (pc' := 48) hC dX12_image_47 rfl rfl ?_
    refine go_geti (v := (S.1 30)) (pc' := 51) hC 0 30 layM_0 rfl rfl inlX12 (Nat.le_of_ble_eq_true rfl) mw_248 rfl dX12_image_48 rfl rfl ?_
    obtain ⟨o7, ho7, hf⟩ := bd_e hf
    refine go_callV1 (pc' := 54) (As := [.int (S.1 30)]) (st := []) (st' := []) (L1' := [(80, o7.1)]) (L2' := []) (L3' := [(46, o7.2), (47, a3)]) (L4' := []) (L5' := []) (cells' := 0) (slots' := 0)  (b := 0) hC dX12_image_51 ⟨mw_1523, mw_1526, mw_5, yd_yX12_puts, yp_yX12_puts, Nat.le_of_ble_eq_true rfl, Nat.le_of_ble_eq_true rfl, (Nat.le_of_ble_eq_true rfl), (Nat.le_of_ble_eq_true rfl)⟩ mw_1524 mw_1525 layM_0 rfl rfl rfl (Nat.le_of_ble_eq_true rfl) (c_X12_puts (x_l X) (x_D X) (x_q X) g (x_cy X) (x_z X) _ (S.1 30) o7 ho7) rfl rfl rfl rfl rfl rfl rfl rfl rfl rfl rfl rfl rfl rfl ?_
    refine go_aload_n (pc' := 55) hC dX12_image_54 rfl rfl ?_
    refine go_aload_n (pc' := 56) hC dX12_image_55 rfl rfl ?_
    refine go_geti (v := (S.1 31)) (pc' := 59) hC 0 31 layM_0 rfl rfl inlX12 (Nat.le_of_ble_eq_true rfl) mw_249 rfl dX12_image_56 rfl rfl ?_
    obtain ⟨o8, ho8, hf⟩ := bd_e hf
    refine go_callV1 (pc' := 62) (As := [.int (S.1 31)]) (st := []) (st' := []) (L1' := [(80, o8.1)]) (L2' := []) (L3' := [(46, o8.2), (47, a3)]) (L4' := []) (L5' := []) (cells' := 0) (slots' := 0)  (b := 0) hC dX12_image_59 ⟨mw_1523, mw_1526, mw_5, yd_yX12_puts, yp_yX12_puts, Nat.le_of_ble_eq_true rfl, Nat.le_of_ble_eq_true rfl, (Nat.le_of_ble_eq_true rfl), (Nat.le_of_ble_eq_true rfl)⟩ mw_1524 mw_1525 layM_0 rfl rfl rfl (Nat.le_of_ble_eq_true rfl) (c_X12_puts (x_l X) (x_D X) (x_q X) g (x_cy X) (x_z X) _ (S.1 31) o8 ho8) rfl rfl rfl rfl rfl rfl rfl rfl rfl rfl rfl rfl rfl rfl ?_
    refine go_aload_n (pc' := 63) hC dX12_image_62 rfl rfl ?_
    refine go_aload_n (pc' := 64) hC dX12_image_63 rfl rfl ?_
    refine go_geti (v := (S.1 32)) (pc' := 67) hC 0 32 layM_0 rfl rfl inlX12 (Nat.le_of_ble_eq_true rfl) mw_250 rfl dX12_image_64 rfl rfl ?_
    obtain ⟨o9, ho9, hf⟩ := bd_e hf
    refine go_callV1 (pc' := 70) (As := [.int (S.1 32)]) (st := []) (st' := []) (L1' := [(80, o9.1)]) (L2' := []) (L3' := [(46, o9.2), (47, a3)]) (L4' := []) (L5' := []) (cells' := 0) (slots' := 0)  (b := 0) hC dX12_image_67 ⟨mw_1523, mw_1526, mw_5, yd_yX12_puts, yp_yX12_puts, Nat.le_of_ble_eq_true rfl, Nat.le_of_ble_eq_true rfl, (Nat.le_of_ble_eq_true rfl), (Nat.le_of_ble_eq_true rfl)⟩ mw_1524 mw_1525 layM_0 rfl rfl rfl (Nat.le_of_ble_eq_true rfl) (c_X12_puts (x_l X) (x_D X) (x_q X) g (x_cy X) (x_z X) _ (S.1 32) o9 ho9) rfl rfl rfl rfl rfl rfl rfl rfl rfl rfl rfl rfl rfl rfl ?_
    refine go_aload_n (pc' := 71) hC dX12_image_70 rfl rfl ?_
    refine go_aload_n (pc' := 72) hC dX12_image_71 rfl rfl ?_
    refine go_geti (v := (S.1 34)) (pc' := 75) hC 0 34 layM_0 rfl rfl inlX12 (Nat.le_of_ble_eq_true rfl) mw_251 rfl dX12_image_72 rfl rfl ?_
    obtain ⟨o10, ho10, hf⟩ := bd_e hf
    refine go_callV1 (pc' := 78) (As := [.int (S.1 34)]) (st := []) (st' := []) (L1' := [(80, o10.1)]) (L2' := []) (L3' := [(46, o10.2), (47, a3)]) (L4' := []) (L5' := []) (cells' := 0) (slots' := 0)  (b := 0) hC dX12_image_75 ⟨mw_1523, mw_1526, mw_5, yd_yX12_puts, yp_yX12_puts, Nat.le_of_ble_eq_true rfl, Nat.le_of_ble_eq_true rfl, (Nat.le_of_ble_eq_true rfl), (Nat.le_of_ble_eq_true rfl)⟩ mw_1524 mw_1525 layM_0 rfl rfl rfl (Nat.le_of_ble_eq_true rfl) (c_X12_puts (x_l X) (x_D X) (x_q X) g (x_cy X) (x_z X) _ (S.1 34) o10 ho10) rfl rfl rfl rfl rfl rfl rfl rfl rfl rfl rfl rfl rfl rfl ?_
    refine go_aload_n (pc' := 79) hC dX12_image_78 rfl rfl ?_
    refine go_aload_n (pc' := 80) hC dX12_image_79 rfl rfl ?_
    refine go_geti (v := (S.1 35)) (pc' := 83) hC 0 35 layM_0 rfl rfl inlX12 (Nat.le_of_ble_eq_true rfl) mw_252 rfl dX12_image_80 rfl rfl ?_
    obtain ⟨o11, ho11, hf⟩ := bd_e hf
    refine go_callV1 (pc' := 86) (As := [.int (S.1 35)]) (st := []) (st' := []) (L1' := [(80, o11.1)]) (L2' := []) (L3' := [(46, o11.2), (47, a3)]) (L4' := []) (L5' := []) (cells' := 0) (slots' := 0)  (b := 0) hC dX12_image_83 ⟨mw_1523, mw_1526, mw_5, yd_yX12_puts, yp_yX12_puts, Nat.le_of_ble_eq_true rfl, Nat.le_of_ble_eq_true rfl, (Nat.le_of_ble_eq_true rfl), (Nat.le_of_ble_eq_true rfl)⟩ mw_1524 mw_1525 layM_0 rfl rfl rfl (Nat.le_of_ble_eq_true rfl) (c_X12_puts (x_l X) (x_D X) (x_q X) g (x_cy X) (x_z X) _ (S.1 35) o11 ho11) rfl rfl rfl rfl rfl rfl rfl rfl rfl rfl rfl rfl rfl rfl ?_
    refine go_aload_n (pc' := 87) hC dX12_image_86 rfl rfl ?_
    refine go_aload_n (pc' := 88) hC dX12_image_87 rfl rfl ?_
    refine go_geti (v := (S.1 36)) (pc' := 91) hC 0 36 layM_0 rfl rfl inlX12 (Nat.le_of_ble_eq_true rfl) mw_253 rfl dX12_image_88 rfl rfl ?_
    obtain ⟨o12, ho12, hf⟩ := bd_e hf
    refine go_callV1 (pc' := 94) (As := [.int (S.1 36)]) (st := []) (st' := []) (L1' := [(80, o12.1)]) (L2' := []) (L3' := [(46, o12.2), (47, a3)]) (L4' := []) (L5' := []) (cells' := 0) (slots' := 0)  (b := 0) hC dX12_image_91 ⟨mw_1523, mw_1526, mw_5, yd_yX12_puts, yp_yX12_puts, Nat.le_of_ble_eq_true rfl, Nat.le_of_ble_eq_true rfl, (Nat.le_of_ble_eq_true rfl), (Nat.le_of_ble_eq_true rfl)⟩ mw_1524 mw_1525 layM_0 rfl rfl rfl (Nat.le_of_ble_eq_true rfl) (c_X12_puts (x_l X) (x_D X) (x_q X) g (x_cy X) (x_z X) _ (S.1 36) o12 ho12) rfl rfl rfl rfl rfl rfl rfl rfl rfl rfl rfl rfl rfl rfl ?_
    refine go_aload_n (pc' := 95) hC dX12_image_94 rfl rfl ?_
    refine go_aload_n (pc' := 96) hC dX12_image_95 rfl rfl ?_
    refine go_geti (v := (S.1 37)) (pc' := 99) hC 0 37 layM_0 rfl rfl inlX12 (Nat.le_of_ble_eq_true rfl) mw_254 rfl dX12_image_96 rfl rfl ?_
    obtain ⟨o13, ho13, hf⟩ := bd_e hf
    refine go_callV1 (pc' := 102) (As := [.int (S.1 37)]) (st := []) (st' := []) (L1' := [(80, o13.1)]) (L2' := []) (L3' := [(46, o13.2), (47, a3)]) (L4' := []) (L5' := []) (cells' := 0) (slots' := 0)  (b := 0) hC dX12_image_99 ⟨mw_1523, mw_1526, mw_5, yd_yX12_puts, yp_yX12_puts, Nat.le_of_ble_eq_true rfl, Nat.le_of_ble_eq_true rfl, (Nat.le_of_ble_eq_true rfl), (Nat.le_of_ble_eq_true rfl)⟩ mw_1524 mw_1525 layM_0 rfl rfl rfl (Nat.le_of_ble_eq_true rfl) (c_X12_puts (x_l X) (x_D X) (x_q X) g (x_cy X) (x_z X) _ (S.1 37) o13 ho13) rfl rfl rfl rfl rfl rfl rfl rfl rfl rfl rfl rfl rfl rfl ?_
    refine go_aload_n (pc' := 103) hC dX12_image_102 rfl rfl ?_
    refine go_aload_n (pc' := 104) hC dX12_image_103 rfl rfl ?_
    refine go_geti (v := (S.1 51)) (pc' := 107) hC 0 51 layM_0 rfl rfl inlX12 (Nat.le_of_ble_eq_true rfl) mw_255 rfl dX12_image_104 rfl rfl ?_
    obtain ⟨o14, ho14, hf⟩ := bd_e hf
    refine go_callV1 (pc' := 110) (As := [.int (S.1 51)]) (st := []) (st' := []) (L1' := [(80, o14.1)]) (L2' := []) (L3' := [(46, o14.2), (47, a3)]) (L4' := []) (L5' := []) (cells' := 0) (slots' := 0)  (b := 0) hC dX12_image_107 ⟨mw_1523, mw_1526, mw_5, yd_yX12_puts, yp_yX12_puts, Nat.le_of_ble_eq_true rfl, Nat.le_of_ble_eq_true rfl, (Nat.le_of_ble_eq_true rfl), (Nat.le_of_ble_eq_true rfl)⟩ mw_1524 mw_1525 layM_0 rfl rfl rfl (Nat.le_of_ble_eq_true rfl) (c_X12_puts (x_l X) (x_D X) (x_q X) g (x_cy X) (x_z X) _ (S.1 51) o14 ho14) rfl rfl rfl rfl rfl rfl rfl rfl rfl rfl rfl rfl rfl rfl ?_
    refine go_aload_n (pc' := 111) hC dX12_image_110 rfl rfl ?_
    refine go_aload_n (pc' := 112) hC dX12_image_111 rfl rfl ?_
    refine go_geti (v := (S.1 60)) (pc' := 115) hC 0 60 layM_0 rfl rfl inlX12 (Nat.le_of_ble_eq_true rfl) mw_256 rfl dX12_image_112 rfl rfl ?_
    obtain ⟨o15, ho15, hf⟩ := bd_e hf
    refine go_callV1 (pc' := 118) (As := [.int (S.1 60)]) (st := []) (st' := []) (L1' := [(80, o15.1)]) (L2' := []) (L3' := [(46, o15.2), (47, a3)]) (L4' := []) (L5' := []) (cells' := 0) (slots' := 0)  (b := 0) hC dX12_image_115 ⟨mw_1523, mw_1526, mw_5, yd_yX12_puts, yp_yX12_puts, Nat.le_of_ble_eq_true rfl, Nat.le_of_ble_eq_true rfl, (Nat.le_of_ble_eq_true rfl), (Nat.le_of_ble_eq_true rfl)⟩ mw_1524 mw_1525 layM_0 rfl rfl rfl (Nat.le_of_ble_eq_true rfl) (c_X12_puts (x_l X) (x_D X) (x_q X) g (x_cy X) (x_z X) _ (S.1 60) o15 ho15) rfl rfl rfl rfl rfl rfl rfl rfl rfl rfl rfl rfl rfl rfl ?_
    refine go_iconst (pc' := 119) hC dX12_image_118 ki_0 rfl ?_
    refine go_istore_n (lc' := [(0, .ref (x_q X 0)), (1, .int p1), (2, .int (0 : Int32))]) (pc' := 120) hC dX12_image_119 (Nat.le_of_ble_eq_true rfl) rfl rfl ?_
    obtain ⟨k200_18, hk200_18, hf⟩ := lk_e2 hf
    have jk200_18 : ∀ (x16 : Int32) (a17 : Nat → Int32), k200_18 x16 a17 = some o → Go X layM S 200 [(0, .ref (x_q X 0))] [] g [(80, x16)] [] [(46, a17), (47, a3)] [] [] 0 0 := by
      intro x16 a17 hf
      have hf := hk200_18 x16 a17 hf
      clear hk200_18
      refine go_iconst (pc' := 201) hC dX12_image_200 ki_0 rfl ?_
      refine go_istore_n (lc' := [(0, .ref (x_q X 0)), (2, .int (0 : Int32))]) (pc' := 202) hC dX12_image_201 (Nat.le_of_ble_eq_true rfl) rfl rfl ?_
      obtain ⟨k234_21, hk234_21, hf⟩ := lk_e2 hf
      have jk234_21 : ∀ (x19 : Int32) (a20 : Nat → Int32), k234_21 x19 a20 = some o → Go X layM S 234 [(0, .ref (x_q X 0))] [] g [(80, x19)] [] [(46, a20), (47, a3)] [] [] 0 0 := by
        intro x19 a20 hf
        have hf := hk234_21 x19 a20 hf
        clear hk234_21
        refine go_iconst (pc' := 235) hC dX12_image_234 ki_0 rfl ?_
        refine go_istore_n (lc' := [(0, .ref (x_q X 0)), (2, .int (0 : Int32))]) (pc' := 236) hC dX12_image_235 (Nat.le_of_ble_eq_true rfl) rfl rfl ?_
        obtain ⟨k258_24, hk258_24, hf⟩ := lk_e2 hf
        have jk258_24 : ∀ (x22 : Int32) (a23 : Nat → Int32), k258_24 x22 a23 = some o → Go X layM S 258 [(0, .ref (x_q X 0))] [] g [(80, x22)] [] [(46, a23), (47, a3)] [] [] 0 0 := by
          intro x22 a23 hf
          have hf := hk258_24 x22 a23 hf
          clear hk258_24
          refine go_iconst (pc' := 259) hC dX12_image_258 ki_0 rfl ?_
          refine go_istore_n (lc' := [(0, .ref (x_q X 0)), (2, .int (0 : Int32))]) (pc' := 260) hC dX12_image_259 (Nat.le_of_ble_eq_true rfl) rfl rfl ?_
          obtain ⟨k302_27, hk302_27, hf⟩ := lk_e2 hf
          have jk302_27 : ∀ (x25 : Int32) (a26 : Nat → Int32), k302_27 x25 a26 = some o → Go X layM S 302 [(0, .ref (x_q X 0))] [] g [(80, x25)] [] [(46, a26), (47, a3)] [] [] 0 0 := by
            intro x25 a26 hf
            have hf := hk302_27 x25 a26 hf
            clear hk302_27
            refine go_iconst (pc' := 303) hC dX12_image_302 ki_0 rfl ?_
            refine go_istore_n (lc' := [(0, .ref (x_q X 0)), (2, .int (0 : Int32))]) (pc' := 304) hC dX12_image_303 (Nat.le_of_ble_eq_true rfl) rfl rfl ?_
            obtain ⟨k354_30, hk354_30, hf⟩ := lk_e2 hf
            have jk354_30 : ∀ (x28 : Int32) (a29 : Nat → Int32), k354_30 x28 a29 = some o → Go X layM S 354 [(0, .ref (x_q X 0))] [] g [(80, x28)] [] [(46, a29), (47, a3)] [] [] 0 0 := by
              intro x28 a29 hf
              have hf := hk354_30 x28 a29 hf
              clear hk354_30
              refine go_aload_n (pc' := 355) hC dX12_image_354 rfl rfl ?_
              refine go_geti (v := (S.1 32)) (pc' := 358) hC 0 32 layM_0 rfl rfl inlX12 (Nat.le_of_ble_eq_true rfl) mw_250 rfl dX12_image_355 rfl rfl ?_
              obtain rfl := Option.some.inj hf
              exact go_iret hC hQ dX12_image_358 rfl rfl rfl rfl (fun _ => rfl) rfl rfl
            clear hk354_30
            have l304_45 : ∀ (nn : Nat) (x31 : Int32) (x32 : Int32) (a33 : Nat → Int32), it3 (f_X12_image_L304 S a3 k354_30) nn x31 x32 a33 = some o → Go X layM S 304 [(0, .ref (x_q X 0)), (2, .int x31)] [] g [(80, x32)] [] [(46, a33), (47, a3)] [] [] 0 0 := by
              intro nn
              induction nn with
              | zero =>
                intro x31 x32 a33 hf
                exact none_no hf
              | succ nn ih =>
                intro x31 x32 a33 hf
                have hf : f_X12_image_L304 S a3 k354_30 (it3 (f_X12_image_L304 S a3 k354_30) nn) x31 x32 a33 = some o := hf
                generalize it3 (f_X12_image_L304 S a3 k354_30) nn = r34 at ih hf
                unfold f_X12_image_L304 at hf
                refine go_iload_n (pc' := 305) hC dX12_image_304 rfl rfl ?_
                refine go_bipush (pc' := 307) hC dX12_image_305 kb_6 rfl ?_
                refine go_icmp_ge (tgt := 354) (pc' := 310) hC dX12_image_307 (by decide) rfl (fun h44 => ?_) (fun h44 => ?_)
                · have hf := ite_t h44 hf
                  refine go_sub [0] rfl ?_
                  exact jk354_30 x32 a33 hf
                · have hf := ite_f h44 hf
                  refine go_aload_n (pc' := 311) hC dX12_image_310 rfl rfl ?_
                  refine go_aload_n (pc' := 312) hC dX12_image_311 rfl rfl ?_
                  refine go_getq (pc' := 315) hC 0 61 layM_0 rfl rfl inlX12 (Nat.le_of_ble_eq_true rfl) mw_213 rfl dX12_image_312 rfl ?_
                  refine go_iload_n (pc' := 316) hC dX12_image_315 rfl rfl ?_
                  obtain ⟨h35, hf⟩ := gd_e hf
                  refine go_iald (f := (S.2.2.1 32)) (pc' := 317) hC 32 layM_32 rfl rfl dX12_image_316 (okx_in h35) rfl ?_
                  obtain ⟨o36, ho36, hf⟩ := bd_e hf
                  refine go_callV1 (pc' := 320) (As := [.int ((S.2.2.1 32) x31.toNatClampNeg)]) (st := []) (st' := []) (L1' := [(80, o36.1)]) (L2' := []) (L3' := [(46, o36.2), (47, a3)]) (L4' := []) (L5' := []) (cells' := 0) (slots' := 0)  (b := 0) hC dX12_image_317 ⟨mw_1523, mw_1526, mw_5, yd_yX12_puts, yp_yX12_puts, Nat.le_of_ble_eq_true rfl, Nat.le_of_ble_eq_true rfl, (Nat.le_of_ble_eq_true rfl), (Nat.le_of_ble_eq_true rfl)⟩ mw_1524 mw_1525 layM_0 rfl rfl rfl (Nat.le_of_ble_eq_true rfl) (c_X12_puts (x_l X) (x_D X) (x_q X) g (x_cy X) (x_z X) _ ((S.2.2.1 32) x31.toNatClampNeg) o36 ho36) rfl rfl rfl rfl rfl rfl rfl rfl rfl rfl rfl rfl rfl rfl ?_
                  refine go_aload_n (pc' := 321) hC dX12_image_320 rfl rfl ?_
                  refine go_aload_n (pc' := 322) hC dX12_image_321 rfl rfl ?_
                  refine go_getq (pc' := 325) hC 0 62 layM_0 rfl rfl inlX12 (Nat.le_of_ble_eq_true rfl) mw_214 rfl dX12_image_322 rfl ?_
                  refine go_iload_n (pc' := 326) hC dX12_image_325 rfl rfl ?_
                  obtain ⟨h37, hf⟩ := gd_e hf
                  refine go_iald (f := (S.2.2.1 33)) (pc' := 327) hC 33 layM_33 rfl rfl dX12_image_326 (okx_in h37) rfl ?_
                  obtain ⟨o38, ho38, hf⟩ := bd_e hf
                  refine go_callV1 (pc' := 330) (As := [.int ((S.2.2.1 33) x31.toNatClampNeg)]) (st := []) (st' := []) (L1' := [(80, o38.1)]) (L2' := []) (L3' := [(46, o38.2), (47, a3)]) (L4' := []) (L5' := []) (cells' := 0) (slots' := 0)  (b := 0) hC dX12_image_327 ⟨mw_1523, mw_1526, mw_5, yd_yX12_puts, yp_yX12_puts, Nat.le_of_ble_eq_true rfl, Nat.le_of_ble_eq_true rfl, (Nat.le_of_ble_eq_true rfl), (Nat.le_of_ble_eq_true rfl)⟩ mw_1524 mw_1525 layM_0 rfl rfl rfl (Nat.le_of_ble_eq_true rfl) (c_X12_puts (x_l X) (x_D X) (x_q X) g (x_cy X) (x_z X) _ ((S.2.2.1 33) x31.toNatClampNeg) o38 ho38) rfl rfl rfl rfl rfl rfl rfl rfl rfl rfl rfl rfl rfl rfl ?_
                  refine go_aload_n (pc' := 331) hC dX12_image_330 rfl rfl ?_
                  refine go_aload_n (pc' := 332) hC dX12_image_331 rfl rfl ?_
                  refine go_getq (pc' := 335) hC 0 63 layM_0 rfl rfl inlX12 (Nat.le_of_ble_eq_true rfl) mw_215 rfl dX12_image_332 rfl ?_
                  refine go_iload_n (pc' := 336) hC dX12_image_335 rfl rfl ?_
                  obtain ⟨h39, hf⟩ := gd_e hf
                  refine go_zald (f := (S.2.2.1 34)) (pc' := 337) hC 34 layM_34 rfl rfl dX12_image_336 (okx_in h39) rfl ?_
                  obtain ⟨k345_41, hk345_41, hf⟩ := lk_e1 hf
                  have jk345_41 : ∀ (x40 : Int32), k345_41 x40 = some o → Go X layM S 345 [(0, .ref (x_q X 0)), (2, .int x31)] [.int x40, .ref (x_q X 0)] g [(80, o38.1)] [] [(46, o38.2), (47, a3)] [] [] 0 0 := by
                    intro x40 hf
                    have hf := hk345_41 x40 hf
                    clear hk345_41
                    obtain ⟨o42, ho42, hf⟩ := bd_e hf
                    refine go_callV1 (pc' := 348) (As := [.int x40]) (st := []) (st' := []) (L1' := [(80, o42.1)]) (L2' := []) (L3' := [(46, o42.2), (47, a3)]) (L4' := []) (L5' := []) (cells' := 0) (slots' := 0)  (b := 0) hC dX12_image_345 ⟨mw_1523, mw_1526, mw_5, yd_yX12_puts, yp_yX12_puts, Nat.le_of_ble_eq_true rfl, Nat.le_of_ble_eq_true rfl, (Nat.le_of_ble_eq_true rfl), (Nat.le_of_ble_eq_true rfl)⟩ mw_1524 mw_1525 layM_0 rfl rfl rfl (Nat.le_of_ble_eq_true rfl) (c_X12_puts (x_l X) (x_D X) (x_q X) g (x_cy X) (x_z X) _ x40 o42 ho42) rfl rfl rfl rfl rfl rfl rfl rfl rfl rfl rfl rfl rfl rfl ?_
                    refine go_iinc (lc' := [(0, .ref (x_q X 0)), (2, .int (x31 + (1 : Int32)))]) (pc' := 351) hC dX12_image_348 rfl ki_1 (Nat.le_of_ble_eq_true rfl) rfl rfl ?_
                    refine go_goto (tgt := 304) hC dX12_image_351 (by decide) ?_
                    exact ih (x31 + (1 : Int32)) o42.1 o42.2 hf
                  clear hk345_41
                  refine go_if_eq (tgt := 344) (pc' := 340) hC dX12_image_337 (by decide) rfl (fun h43 => ?_) (fun h43 => ?_)
                  · have hf := ite_t h43 hf
                    refine go_iconst (pc' := 345) hC dX12_image_344 ki_0 rfl ?_
                    exact jk345_41 (0 : Int32) hf
                  · have hf := ite_f h43 hf
                    refine go_iconst (pc' := 341) hC dX12_image_340 ki_1 rfl ?_
                    refine go_goto (tgt := 345) hC dX12_image_341 (by decide) ?_
                    exact jk345_41 (1 : Int32) hf
            exact l304_45 fuel (0 : Int32) x25 a26 hf
          clear hk302_27
          have l260_57 : ∀ (nn : Nat) (x46 : Int32) (x47 : Int32) (a48 : Nat → Int32), it3 (f_X12_image_L260 S a3 k302_27) nn x46 x47 a48 = some o → Go X layM S 260 [(0, .ref (x_q X 0)), (2, .int x46)] [] g [(80, x47)] [] [(46, a48), (47, a3)] [] [] 0 0 := by
            intro nn
            induction nn with
            | zero =>
              intro x46 x47 a48 hf
              exact none_no hf
            | succ nn ih =>
              intro x46 x47 a48 hf
              have hf : f_X12_image_L260 S a3 k302_27 (it3 (f_X12_image_L260 S a3 k302_27) nn) x46 x47 a48 = some o := hf
              generalize it3 (f_X12_image_L260 S a3 k302_27) nn = r49 at ih hf
              unfold f_X12_image_L260 at hf
              refine go_iload_n (pc' := 261) hC dX12_image_260 rfl rfl ?_
              refine go_bipush (pc' := 263) hC dX12_image_261 kb_9 rfl ?_
              refine go_icmp_ge (tgt := 302) (pc' := 266) hC dX12_image_263 (by decide) rfl (fun h56 => ?_) (fun h56 => ?_)
              · have hf := ite_t h56 hf
                refine go_sub [0] rfl ?_
                exact jk302_27 x47 a48 hf
              · have hf := ite_f h56 hf
                refine go_aload_n (pc' := 267) hC dX12_image_266 rfl rfl ?_
                refine go_aload_n (pc' := 268) hC dX12_image_267 rfl rfl ?_
                refine go_getq (pc' := 271) hC 0 52 layM_0 rfl rfl inlX12 (Nat.le_of_ble_eq_true rfl) mw_208 rfl dX12_image_268 rfl ?_
                refine go_iload_n (pc' := 272) hC dX12_image_271 rfl rfl ?_
                obtain ⟨h50, hf⟩ := gd_e hf
                refine go_iald (f := (S.2.2.1 27)) (pc' := 273) hC 27 layM_27 rfl rfl dX12_image_272 (okx_in h50) rfl ?_
                obtain ⟨o51, ho51, hf⟩ := bd_e hf
                refine go_callV1 (pc' := 276) (As := [.int ((S.2.2.1 27) x46.toNatClampNeg)]) (st := []) (st' := []) (L1' := [(80, o51.1)]) (L2' := []) (L3' := [(46, o51.2), (47, a3)]) (L4' := []) (L5' := []) (cells' := 0) (slots' := 0)  (b := 0) hC dX12_image_273 ⟨mw_1523, mw_1526, mw_5, yd_yX12_puts, yp_yX12_puts, Nat.le_of_ble_eq_true rfl, Nat.le_of_ble_eq_true rfl, (Nat.le_of_ble_eq_true rfl), (Nat.le_of_ble_eq_true rfl)⟩ mw_1524 mw_1525 layM_0 rfl rfl rfl (Nat.le_of_ble_eq_true rfl) (c_X12_puts (x_l X) (x_D X) (x_q X) g (x_cy X) (x_z X) _ ((S.2.2.1 27) x46.toNatClampNeg) o51 ho51) rfl rfl rfl rfl rfl rfl rfl rfl rfl rfl rfl rfl rfl rfl ?_
                refine go_aload_n (pc' := 277) hC dX12_image_276 rfl rfl ?_
                refine go_aload_n (pc' := 278) hC dX12_image_277 rfl rfl ?_
                refine go_getq (pc' := 281) hC 0 53 layM_0 rfl rfl inlX12 (Nat.le_of_ble_eq_true rfl) mw_209 rfl dX12_image_278 rfl ?_
                refine go_iload_n (pc' := 282) hC dX12_image_281 rfl rfl ?_
                obtain ⟨h52, hf⟩ := gd_e hf
                refine go_iald (f := (S.2.2.1 28)) (pc' := 283) hC 28 layM_28 rfl rfl dX12_image_282 (okx_in h52) rfl ?_
                obtain ⟨o53, ho53, hf⟩ := bd_e hf
                refine go_callV1 (pc' := 286) (As := [.int ((S.2.2.1 28) x46.toNatClampNeg)]) (st := []) (st' := []) (L1' := [(80, o53.1)]) (L2' := []) (L3' := [(46, o53.2), (47, a3)]) (L4' := []) (L5' := []) (cells' := 0) (slots' := 0)  (b := 0) hC dX12_image_283 ⟨mw_1523, mw_1526, mw_5, yd_yX12_puts, yp_yX12_puts, Nat.le_of_ble_eq_true rfl, Nat.le_of_ble_eq_true rfl, (Nat.le_of_ble_eq_true rfl), (Nat.le_of_ble_eq_true rfl)⟩ mw_1524 mw_1525 layM_0 rfl rfl rfl (Nat.le_of_ble_eq_true rfl) (c_X12_puts (x_l X) (x_D X) (x_q X) g (x_cy X) (x_z X) _ ((S.2.2.1 28) x46.toNatClampNeg) o53 ho53) rfl rfl rfl rfl rfl rfl rfl rfl rfl rfl rfl rfl rfl rfl ?_
                refine go_aload_n (pc' := 287) hC dX12_image_286 rfl rfl ?_
                refine go_aload_n (pc' := 288) hC dX12_image_287 rfl rfl ?_
                refine go_getq (pc' := 291) hC 0 54 layM_0 rfl rfl inlX12 (Nat.le_of_ble_eq_true rfl) mw_210 rfl dX12_image_288 rfl ?_
                refine go_iload_n (pc' := 292) hC dX12_image_291 rfl rfl ?_
                obtain ⟨h54, hf⟩ := gd_e hf
                refine go_iald (f := (S.2.2.1 29)) (pc' := 293) hC 29 layM_29 rfl rfl dX12_image_292 (okx_in h54) rfl ?_
                obtain ⟨o55, ho55, hf⟩ := bd_e hf
                refine go_callV1 (pc' := 296) (As := [.int ((S.2.2.1 29) x46.toNatClampNeg)]) (st := []) (st' := []) (L1' := [(80, o55.1)]) (L2' := []) (L3' := [(46, o55.2), (47, a3)]) (L4' := []) (L5' := []) (cells' := 0) (slots' := 0)  (b := 0) hC dX12_image_293 ⟨mw_1523, mw_1526, mw_5, yd_yX12_puts, yp_yX12_puts, Nat.le_of_ble_eq_true rfl, Nat.le_of_ble_eq_true rfl, (Nat.le_of_ble_eq_true rfl), (Nat.le_of_ble_eq_true rfl)⟩ mw_1524 mw_1525 layM_0 rfl rfl rfl (Nat.le_of_ble_eq_true rfl) (c_X12_puts (x_l X) (x_D X) (x_q X) g (x_cy X) (x_z X) _ ((S.2.2.1 29) x46.toNatClampNeg) o55 ho55) rfl rfl rfl rfl rfl rfl rfl rfl rfl rfl rfl rfl rfl rfl ?_
                refine go_iinc (lc' := [(0, .ref (x_q X 0)), (2, .int (x46 + (1 : Int32)))]) (pc' := 299) hC dX12_image_296 rfl ki_1 (Nat.le_of_ble_eq_true rfl) rfl rfl ?_
                refine go_goto (tgt := 260) hC dX12_image_299 (by decide) ?_
                exact ih (x46 + (1 : Int32)) o55.1 o55.2 hf
          exact l260_57 fuel (0 : Int32) x22 a23 hf
        clear hk258_24
        have l236_65 : ∀ (nn : Nat) (x58 : Int32) (x59 : Int32) (a60 : Nat → Int32), it3 (f_X12_image_L236 S a3 k258_24) nn x58 x59 a60 = some o → Go X layM S 236 [(0, .ref (x_q X 0)), (2, .int x58)] [] g [(80, x59)] [] [(46, a60), (47, a3)] [] [] 0 0 := by
          intro nn
          induction nn with
          | zero =>
            intro x58 x59 a60 hf
            exact none_no hf
          | succ nn ih =>
            intro x58 x59 a60 hf
            have hf : f_X12_image_L236 S a3 k258_24 (it3 (f_X12_image_L236 S a3 k258_24) nn) x58 x59 a60 = some o := hf
            generalize it3 (f_X12_image_L236 S a3 k258_24) nn = r61 at ih hf
            unfold f_X12_image_L236 at hf
            refine go_iload_n (pc' := 237) hC dX12_image_236 rfl rfl ?_
            refine go_bipush (pc' := 239) hC dX12_image_237 kb_15 rfl ?_
            refine go_icmp_ge (tgt := 258) (pc' := 242) hC dX12_image_239 (by decide) rfl (fun h64 => ?_) (fun h64 => ?_)
            · have hf := ite_t h64 hf
              refine go_sub [0] rfl ?_
              exact jk258_24 x59 a60 hf
            · have hf := ite_f h64 hf
              refine go_aload_n (pc' := 243) hC dX12_image_242 rfl rfl ?_
              refine go_aload_n (pc' := 244) hC dX12_image_243 rfl rfl ?_
              refine go_getq (pc' := 247) hC 0 33 layM_0 rfl rfl inlX12 (Nat.le_of_ble_eq_true rfl) mw_196 rfl dX12_image_244 rfl ?_
              refine go_iload_n (pc' := 248) hC dX12_image_247 rfl rfl ?_
              obtain ⟨h62, hf⟩ := gd_e hf
              refine go_iald (f := (S.2.2.1 16)) (pc' := 249) hC 16 layM_16 rfl rfl dX12_image_248 (okx_in h62) rfl ?_
              obtain ⟨o63, ho63, hf⟩ := bd_e hf
              refine go_callV1 (pc' := 252) (As := [.int ((S.2.2.1 16) x58.toNatClampNeg)]) (st := []) (st' := []) (L1' := [(80, o63.1)]) (L2' := []) (L3' := [(46, o63.2), (47, a3)]) (L4' := []) (L5' := []) (cells' := 0) (slots' := 0)  (b := 0) hC dX12_image_249 ⟨mw_1523, mw_1526, mw_5, yd_yX12_puts, yp_yX12_puts, Nat.le_of_ble_eq_true rfl, Nat.le_of_ble_eq_true rfl, (Nat.le_of_ble_eq_true rfl), (Nat.le_of_ble_eq_true rfl)⟩ mw_1524 mw_1525 layM_0 rfl rfl rfl (Nat.le_of_ble_eq_true rfl) (c_X12_puts (x_l X) (x_D X) (x_q X) g (x_cy X) (x_z X) _ ((S.2.2.1 16) x58.toNatClampNeg) o63 ho63) rfl rfl rfl rfl rfl rfl rfl rfl rfl rfl rfl rfl rfl rfl ?_
              refine go_iinc (lc' := [(0, .ref (x_q X 0)), (2, .int (x58 + (1 : Int32)))]) (pc' := 255) hC dX12_image_252 rfl ki_1 (Nat.le_of_ble_eq_true rfl) rfl rfl ?_
              refine go_goto (tgt := 236) hC dX12_image_255 (by decide) ?_
              exact ih (x58 + (1 : Int32)) o63.1 o63.2 hf
        exact l236_65 fuel (0 : Int32) x19 a20 hf
      clear hk234_21
      have l202_75 : ∀ (nn : Nat) (x66 : Int32) (x67 : Int32) (a68 : Nat → Int32), it3 (f_X12_image_L202 S a3 k234_21) nn x66 x67 a68 = some o → Go X layM S 202 [(0, .ref (x_q X 0)), (2, .int x66)] [] g [(80, x67)] [] [(46, a68), (47, a3)] [] [] 0 0 := by
        intro nn
        induction nn with
        | zero =>
          intro x66 x67 a68 hf
          exact none_no hf
        | succ nn ih =>
          intro x66 x67 a68 hf
          have hf : f_X12_image_L202 S a3 k234_21 (it3 (f_X12_image_L202 S a3 k234_21) nn) x66 x67 a68 = some o := hf
          generalize it3 (f_X12_image_L202 S a3 k234_21) nn = r69 at ih hf
          unfold f_X12_image_L202 at hf
          refine go_iload_n (pc' := 203) hC dX12_image_202 rfl rfl ?_
          refine go_bipush (pc' := 205) hC dX12_image_203 kb_10 rfl ?_
          refine go_icmp_ge (tgt := 234) (pc' := 208) hC dX12_image_205 (by decide) rfl (fun h74 => ?_) (fun h74 => ?_)
          · have hf := ite_t h74 hf
            refine go_sub [0] rfl ?_
            exact jk234_21 x67 a68 hf
          · have hf := ite_f h74 hf
            refine go_aload_n (pc' := 209) hC dX12_image_208 rfl rfl ?_
            refine go_aload_n (pc' := 210) hC dX12_image_209 rfl rfl ?_
            refine go_getq (pc' := 213) hC 0 28 layM_0 rfl rfl inlX12 (Nat.le_of_ble_eq_true rfl) mw_194 rfl dX12_image_210 rfl ?_
            refine go_iload_n (pc' := 214) hC dX12_image_213 rfl rfl ?_
            obtain ⟨h70, hf⟩ := gd_e hf
            refine go_iald (f := (S.2.2.1 14)) (pc' := 215) hC 14 layM_14 rfl rfl dX12_image_214 (okx_in h70) rfl ?_
            obtain ⟨o71, ho71, hf⟩ := bd_e hf
            refine go_callV1 (pc' := 218) (As := [.int ((S.2.2.1 14) x66.toNatClampNeg)]) (st := []) (st' := []) (L1' := [(80, o71.1)]) (L2' := []) (L3' := [(46, o71.2), (47, a3)]) (L4' := []) (L5' := []) (cells' := 0) (slots' := 0)  (b := 0) hC dX12_image_215 ⟨mw_1523, mw_1526, mw_5, yd_yX12_puts, yp_yX12_puts, Nat.le_of_ble_eq_true rfl, Nat.le_of_ble_eq_true rfl, (Nat.le_of_ble_eq_true rfl), (Nat.le_of_ble_eq_true rfl)⟩ mw_1524 mw_1525 layM_0 rfl rfl rfl (Nat.le_of_ble_eq_true rfl) (c_X12_puts (x_l X) (x_D X) (x_q X) g (x_cy X) (x_z X) _ ((S.2.2.1 14) x66.toNatClampNeg) o71 ho71) rfl rfl rfl rfl rfl rfl rfl rfl rfl rfl rfl rfl rfl rfl ?_
            refine go_aload_n (pc' := 219) hC dX12_image_218 rfl rfl ?_
            refine go_aload_n (pc' := 220) hC dX12_image_219 rfl rfl ?_
            refine go_getq (pc' := 223) hC 0 29 layM_0 rfl rfl inlX12 (Nat.le_of_ble_eq_true rfl) mw_195 rfl dX12_image_220 rfl ?_
            refine go_iload_n (pc' := 224) hC dX12_image_223 rfl rfl ?_
            obtain ⟨h72, hf⟩ := gd_e hf
            refine go_iald (f := (S.2.2.1 15)) (pc' := 225) hC 15 layM_15 rfl rfl dX12_image_224 (okx_in h72) rfl ?_
            obtain ⟨o73, ho73, hf⟩ := bd_e hf
            refine go_callV1 (pc' := 228) (As := [.int ((S.2.2.1 15) x66.toNatClampNeg)]) (st := []) (st' := []) (L1' := [(80, o73.1)]) (L2' := []) (L3' := [(46, o73.2), (47, a3)]) (L4' := []) (L5' := []) (cells' := 0) (slots' := 0)  (b := 0) hC dX12_image_225 ⟨mw_1523, mw_1526, mw_5, yd_yX12_puts, yp_yX12_puts, Nat.le_of_ble_eq_true rfl, Nat.le_of_ble_eq_true rfl, (Nat.le_of_ble_eq_true rfl), (Nat.le_of_ble_eq_true rfl)⟩ mw_1524 mw_1525 layM_0 rfl rfl rfl (Nat.le_of_ble_eq_true rfl) (c_X12_puts (x_l X) (x_D X) (x_q X) g (x_cy X) (x_z X) _ ((S.2.2.1 15) x66.toNatClampNeg) o73 ho73) rfl rfl rfl rfl rfl rfl rfl rfl rfl rfl rfl rfl rfl rfl ?_
            refine go_iinc (lc' := [(0, .ref (x_q X 0)), (2, .int (x66 + (1 : Int32)))]) (pc' := 231) hC dX12_image_228 rfl ki_1 (Nat.le_of_ble_eq_true rfl) rfl rfl ?_
            refine go_goto (tgt := 202) hC dX12_image_231 (by decide) ?_
            exact ih (x66 + (1 : Int32)) o73.1 o73.2 hf
      exact l202_75 fuel (0 : Int32) x16 a17 hf
    clear hk200_18
    have l120_96 : ∀ (nn : Nat) (x76 : Int32) (x77 : Int32) (a78 : Nat → Int32), it3 (f_X12_image_L120 S a3 k200_18) nn x76 x77 a78 = some o → Go X layM S 120 [(0, .ref (x_q X 0)), (2, .int x76)] [] g [(80, x77)] [] [(46, a78), (47, a3)] [] [] 0 0 := by
      intro nn
      induction nn with
      | zero =>
        intro x76 x77 a78 hf
        exact none_no hf
      | succ nn ih =>
        intro x76 x77 a78 hf
        have hf : f_X12_image_L120 S a3 k200_18 (it3 (f_X12_image_L120 S a3 k200_18) nn) x76 x77 a78 = some o := hf
        generalize it3 (f_X12_image_L120 S a3 k200_18) nn = r79 at ih hf
        unfold f_X12_image_L120 at hf
        refine go_iload_n (pc' := 121) hC dX12_image_120 rfl rfl ?_
        refine go_bipush (pc' := 123) hC dX12_image_121 kb_12 rfl ?_
        refine go_icmp_ge (tgt := 200) (pc' := 126) hC dX12_image_123 (by decide) rfl (fun h95 => ?_) (fun h95 => ?_)
        · have hf := ite_t h95 hf
          refine go_sub [0] rfl ?_
          exact jk200_18 x77 a78 hf
        · have hf := ite_f h95 hf
          refine go_aload_n (pc' := 127) hC dX12_image_126 rfl rfl ?_
          refine go_aload_n (pc' := 128) hC dX12_image_127 rfl rfl ?_
          refine go_getq (pc' := 131) hC 0 22 layM_0 rfl rfl inlX12 (Nat.le_of_ble_eq_true rfl) mw_187 rfl dX12_image_128 rfl ?_
          refine go_iload_n (pc' := 132) hC dX12_image_131 rfl rfl ?_
          obtain ⟨h80, hf⟩ := gd_e hf
          refine go_iald (f := (S.2.2.1 8)) (pc' := 133) hC 8 layM_8 rfl rfl dX12_image_132 (okx_in h80) rfl ?_
          obtain ⟨o81, ho81, hf⟩ := bd_e hf
          refine go_callV1 (pc' := 136) (As := [.int ((S.2.2.1 8) x76.toNatClampNeg)]) (st := []) (st' := []) (L1' := [(80, o81.1)]) (L2' := []) (L3' := [(46, o81.2), (47, a3)]) (L4' := []) (L5' := []) (cells' := 0) (slots' := 0)  (b := 0) hC dX12_image_133 ⟨mw_1523, mw_1526, mw_5, yd_yX12_puts, yp_yX12_puts, Nat.le_of_ble_eq_true rfl, Nat.le_of_ble_eq_true rfl, (Nat.le_of_ble_eq_true rfl), (Nat.le_of_ble_eq_true rfl)⟩ mw_1524 mw_1525 layM_0 rfl rfl rfl (Nat.le_of_ble_eq_true rfl) (c_X12_puts (x_l X) (x_D X) (x_q X) g (x_cy X) (x_z X) _ ((S.2.2.1 8) x76.toNatClampNeg) o81 ho81) rfl rfl rfl rfl rfl rfl rfl rfl rfl rfl rfl rfl rfl rfl ?_
          refine go_aload_n (pc' := 137) hC dX12_image_136 rfl rfl ?_
          refine go_aload_n (pc' := 138) hC dX12_image_137 rfl rfl ?_
          refine go_getq (pc' := 141) hC 0 23 layM_0 rfl rfl inlX12 (Nat.le_of_ble_eq_true rfl) mw_188 rfl dX12_image_138 rfl ?_
          refine go_iload_n (pc' := 142) hC dX12_image_141 rfl rfl ?_
          obtain ⟨h82, hf⟩ := gd_e hf
          refine go_iald (f := (S.2.2.1 9)) (pc' := 143) hC 9 layM_9 rfl rfl dX12_image_142 (okx_in h82) rfl ?_
          obtain ⟨o83, ho83, hf⟩ := bd_e hf
          refine go_callV1 (pc' := 146) (As := [.int ((S.2.2.1 9) x76.toNatClampNeg)]) (st := []) (st' := []) (L1' := [(80, o83.1)]) (L2' := []) (L3' := [(46, o83.2), (47, a3)]) (L4' := []) (L5' := []) (cells' := 0) (slots' := 0)  (b := 0) hC dX12_image_143 ⟨mw_1523, mw_1526, mw_5, yd_yX12_puts, yp_yX12_puts, Nat.le_of_ble_eq_true rfl, Nat.le_of_ble_eq_true rfl, (Nat.le_of_ble_eq_true rfl), (Nat.le_of_ble_eq_true rfl)⟩ mw_1524 mw_1525 layM_0 rfl rfl rfl (Nat.le_of_ble_eq_true rfl) (c_X12_puts (x_l X) (x_D X) (x_q X) g (x_cy X) (x_z X) _ ((S.2.2.1 9) x76.toNatClampNeg) o83 ho83) rfl rfl rfl rfl rfl rfl rfl rfl rfl rfl rfl rfl rfl rfl ?_
          refine go_aload_n (pc' := 147) hC dX12_image_146 rfl rfl ?_
          refine go_aload_n (pc' := 148) hC dX12_image_147 rfl rfl ?_
          refine go_getq (pc' := 151) hC 0 24 layM_0 rfl rfl inlX12 (Nat.le_of_ble_eq_true rfl) mw_189 rfl dX12_image_148 rfl ?_
          refine go_iload_n (pc' := 152) hC dX12_image_151 rfl rfl ?_
          obtain ⟨h84, hf⟩ := gd_e hf
          refine go_iald (f := (S.2.2.1 10)) (pc' := 153) hC 10 layM_10 rfl rfl dX12_image_152 (okx_in h84) rfl ?_
          obtain ⟨o85, ho85, hf⟩ := bd_e hf
          refine go_callV1 (pc' := 156) (As := [.int ((S.2.2.1 10) x76.toNatClampNeg)]) (st := []) (st' := []) (L1' := [(80, o85.1)]) (L2' := []) (L3' := [(46, o85.2), (47, a3)]) (L4' := []) (L5' := []) (cells' := 0) (slots' := 0)  (b := 0) hC dX12_image_153 ⟨mw_1523, mw_1526, mw_5, yd_yX12_puts, yp_yX12_puts, Nat.le_of_ble_eq_true rfl, Nat.le_of_ble_eq_true rfl, (Nat.le_of_ble_eq_true rfl), (Nat.le_of_ble_eq_true rfl)⟩ mw_1524 mw_1525 layM_0 rfl rfl rfl (Nat.le_of_ble_eq_true rfl) (c_X12_puts (x_l X) (x_D X) (x_q X) g (x_cy X) (x_z X) _ ((S.2.2.1 10) x76.toNatClampNeg) o85 ho85) rfl rfl rfl rfl rfl rfl rfl rfl rfl rfl rfl rfl rfl rfl ?_
          refine go_aload_n (pc' := 157) hC dX12_image_156 rfl rfl ?_
          refine go_aload_n (pc' := 158) hC dX12_image_157 rfl rfl ?_
          refine go_getq (pc' := 161) hC 0 25 layM_0 rfl rfl inlX12 (Nat.le_of_ble_eq_true rfl) mw_191 rfl dX12_image_158 rfl ?_
          refine go_iload_n (pc' := 162) hC dX12_image_161 rfl rfl ?_
          obtain ⟨h86, hf⟩ := gd_e hf
          refine go_zald (f := (S.2.2.1 11)) (pc' := 163) hC 11 layM_11 rfl rfl dX12_image_162 (okx_in h86) rfl ?_
          obtain ⟨k171_88, hk171_88, hf⟩ := lk_e1 hf
          have jk171_88 : ∀ (x87 : Int32), k171_88 x87 = some o → Go X layM S 171 [(0, .ref (x_q X 0)), (2, .int x76)] [.int x87, .ref (x_q X 0)] g [(80, o85.1)] [] [(46, o85.2), (47, a3)] [] [] 0 0 := by
            intro x87 hf
            have hf := hk171_88 x87 hf
            clear hk171_88
            obtain ⟨o89, ho89, hf⟩ := bd_e hf
            refine go_callV1 (pc' := 174) (As := [.int x87]) (st := []) (st' := []) (L1' := [(80, o89.1)]) (L2' := []) (L3' := [(46, o89.2), (47, a3)]) (L4' := []) (L5' := []) (cells' := 0) (slots' := 0)  (b := 0) hC dX12_image_171 ⟨mw_1523, mw_1526, mw_5, yd_yX12_puts, yp_yX12_puts, Nat.le_of_ble_eq_true rfl, Nat.le_of_ble_eq_true rfl, (Nat.le_of_ble_eq_true rfl), (Nat.le_of_ble_eq_true rfl)⟩ mw_1524 mw_1525 layM_0 rfl rfl rfl (Nat.le_of_ble_eq_true rfl) (c_X12_puts (x_l X) (x_D X) (x_q X) g (x_cy X) (x_z X) _ x87 o89 ho89) rfl rfl rfl rfl rfl rfl rfl rfl rfl rfl rfl rfl rfl rfl ?_
            refine go_aload_n (pc' := 175) hC dX12_image_174 rfl rfl ?_
            refine go_aload_n (pc' := 176) hC dX12_image_175 rfl rfl ?_
            refine go_getq (pc' := 179) hC 0 26 layM_0 rfl rfl inlX12 (Nat.le_of_ble_eq_true rfl) mw_192 rfl dX12_image_176 rfl ?_
            refine go_iload_n (pc' := 180) hC dX12_image_179 rfl rfl ?_
            obtain ⟨h90, hf⟩ := gd_e hf
            refine go_iald (f := (S.2.2.1 12)) (pc' := 181) hC 12 layM_12 rfl rfl dX12_image_180 (okx_in h90) rfl ?_
            obtain ⟨o91, ho91, hf⟩ := bd_e hf
            refine go_callV1 (pc' := 184) (As := [.int ((S.2.2.1 12) x76.toNatClampNeg)]) (st := []) (st' := []) (L1' := [(80, o91.1)]) (L2' := []) (L3' := [(46, o91.2), (47, a3)]) (L4' := []) (L5' := []) (cells' := 0) (slots' := 0)  (b := 0) hC dX12_image_181 ⟨mw_1523, mw_1526, mw_5, yd_yX12_puts, yp_yX12_puts, Nat.le_of_ble_eq_true rfl, Nat.le_of_ble_eq_true rfl, (Nat.le_of_ble_eq_true rfl), (Nat.le_of_ble_eq_true rfl)⟩ mw_1524 mw_1525 layM_0 rfl rfl rfl (Nat.le_of_ble_eq_true rfl) (c_X12_puts (x_l X) (x_D X) (x_q X) g (x_cy X) (x_z X) _ ((S.2.2.1 12) x76.toNatClampNeg) o91 ho91) rfl rfl rfl rfl rfl rfl rfl rfl rfl rfl rfl rfl rfl rfl ?_
            refine go_aload_n (pc' := 185) hC dX12_image_184 rfl rfl ?_
            refine go_aload_n (pc' := 186) hC dX12_image_185 rfl rfl ?_
            refine go_getq (pc' := 189) hC 0 27 layM_0 rfl rfl inlX12 (Nat.le_of_ble_eq_true rfl) mw_193 rfl dX12_image_186 rfl ?_
            refine go_iload_n (pc' := 190) hC dX12_image_189 rfl rfl ?_
            obtain ⟨h92, hf⟩ := gd_e hf
            refine go_iald (f := (S.2.2.1 13)) (pc' := 191) hC 13 layM_13 rfl rfl dX12_image_190 (okx_in h92) rfl ?_
            obtain ⟨o93, ho93, hf⟩ := bd_e hf
            refine go_callV1 (pc' := 194) (As := [.int ((S.2.2.1 13) x76.toNatClampNeg)]) (st := []) (st' := []) (L1' := [(80, o93.1)]) (L2' := []) (L3' := [(46, o93.2), (47, a3)]) (L4' := []) (L5' := []) (cells' := 0) (slots' := 0)  (b := 0) hC dX12_image_191 ⟨mw_1523, mw_1526, mw_5, yd_yX12_puts, yp_yX12_puts, Nat.le_of_ble_eq_true rfl, Nat.le_of_ble_eq_true rfl, (Nat.le_of_ble_eq_true rfl), (Nat.le_of_ble_eq_true rfl)⟩ mw_1524 mw_1525 layM_0 rfl rfl rfl (Nat.le_of_ble_eq_true rfl) (c_X12_puts (x_l X) (x_D X) (x_q X) g (x_cy X) (x_z X) _ ((S.2.2.1 13) x76.toNatClampNeg) o93 ho93) rfl rfl rfl rfl rfl rfl rfl rfl rfl rfl rfl rfl rfl rfl ?_
            refine go_iinc (lc' := [(0, .ref (x_q X 0)), (2, .int (x76 + (1 : Int32)))]) (pc' := 197) hC dX12_image_194 rfl ki_1 (Nat.le_of_ble_eq_true rfl) rfl rfl ?_
            refine go_goto (tgt := 120) hC dX12_image_197 (by decide) ?_
            exact ih (x76 + (1 : Int32)) o93.1 o93.2 hf
          clear hk171_88
          refine go_if_eq (tgt := 170) (pc' := 166) hC dX12_image_163 (by decide) rfl (fun h94 => ?_) (fun h94 => ?_)
          · have hf := ite_t h94 hf
            refine go_iconst (pc' := 171) hC dX12_image_170 ki_0 rfl ?_
            exact jk171_88 (0 : Int32) hf
          · have hf := ite_f h94 hf
            refine go_iconst (pc' := 167) hC dX12_image_166 ki_1 rfl ?_
            refine go_goto (tgt := 171) hC dX12_image_167 (by decide) ?_
            exact jk171_88 (1 : Int32) hf
    refine go_sub [0, 2] rfl ?_
    exact l120_96 fuel (0 : Int32) o15.1 o15.2 hf
  · have hf := ite_t h97 hf
    refine go_iconst (pc' := 13) hC dX12_image_12 ki_m1 rfl ?_
    obtain rfl := Option.some.inj hf
    exact go_iret hC hQ dX12_image_13 rfl rfl rfl rfl (fun _ => rfl) rfl rfl
theorem dX12_restore_0 : decode cX12_restore 0 = .ok (.iload_n 1, 1) := by decide +kernel
theorem dX12_restore_1 : decode cX12_restore 1 = .ok (.i2l, 1) := by decide +kernel
theorem dX12_restore_2 : decode cX12_restore 2 = .ok (.lconst 0, 1) := by decide +kernel
theorem dX12_restore_3 : decode cX12_restore 3 = .ok (.ldc2_w 511, 3) := by decide +kernel
theorem dX12_restore_6 : decode cX12_restore 6 = .ok (.invokestatic 218, 3) := by decide +kernel
theorem dX12_restore_9 : decode cX12_restore 9 = .ok (.ifCond .eq 12, 3) := by decide +kernel
theorem dX12_restore_12 : decode cX12_restore 12 = .ok (.aload_n 0, 1) := by decide +kernel
theorem dX12_restore_13 : decode cX12_restore 13 = .ok (.getfield 152, 3) := by decide +kernel
theorem dX12_restore_16 : decode cX12_restore 16 = .ok (.iload_n 1, 1) := by decide +kernel
theorem dX12_restore_17 : decode cX12_restore 17 = .ok (.baload, 1) := by decide +kernel
theorem dX12_restore_18 : decode cX12_restore 18 = .ok (.ifCond .ne 5, 3) := by decide +kernel
theorem dX12_restore_21 : decode cX12_restore 21 = .ok (.iconst (-1), 1) := by decide +kernel
theorem dX12_restore_22 : decode cX12_restore 22 = .ok (.ireturn, 1) := by decide +kernel
theorem dX12_restore_23 : decode cX12_restore 23 = .ok (.aload_n 0, 1) := by decide +kernel
theorem dX12_restore_24 : decode cX12_restore 24 = .ok (.sipush 200, 3) := by decide +kernel
theorem dX12_restore_27 : decode cX12_restore 27 = .ok (.iload_n 1, 1) := by decide +kernel
theorem dX12_restore_28 : decode cX12_restore 28 = .ok (.imul, 1) := by decide +kernel
theorem dX12_restore_29 : decode cX12_restore 29 = .ok (.putfield 513, 3) := by decide +kernel
theorem dX12_restore_32 : decode cX12_restore 32 = .ok (.aload_n 0, 1) := by decide +kernel
theorem dX12_restore_33 : decode cX12_restore 33 = .ok (.aload_n 0, 1) := by decide +kernel
theorem dX12_restore_34 : decode cX12_restore 34 = .ok (.invokevirtual 519, 3) := by decide +kernel
theorem dX12_restore_37 : decode cX12_restore 37 = .ok (.putfield 276, 3) := by decide +kernel
theorem dX12_restore_40 : decode cX12_restore 40 = .ok (.aload_n 0, 1) := by decide +kernel
theorem dX12_restore_41 : decode cX12_restore 41 = .ok (.aload_n 0, 1) := by decide +kernel
theorem dX12_restore_42 : decode cX12_restore 42 = .ok (.invokevirtual 519, 3) := by decide +kernel
theorem dX12_restore_45 : decode cX12_restore 45 = .ok (.putfield 279, 3) := by decide +kernel
theorem dX12_restore_48 : decode cX12_restore 48 = .ok (.aload_n 0, 1) := by decide +kernel
theorem dX12_restore_49 : decode cX12_restore 49 = .ok (.aload_n 0, 1) := by decide +kernel
theorem dX12_restore_50 : decode cX12_restore 50 = .ok (.invokevirtual 519, 3) := by decide +kernel
theorem dX12_restore_53 : decode cX12_restore 53 = .ok (.putfield 282, 3) := by decide +kernel
theorem dX12_restore_56 : decode cX12_restore 56 = .ok (.aload_n 0, 1) := by decide +kernel
theorem dX12_restore_57 : decode cX12_restore 57 = .ok (.aload_n 0, 1) := by decide +kernel
theorem dX12_restore_58 : decode cX12_restore 58 = .ok (.invokevirtual 519, 3) := by decide +kernel
theorem dX12_restore_61 : decode cX12_restore 61 = .ok (.putfield 285, 3) := by decide +kernel
theorem dX12_restore_64 : decode cX12_restore 64 = .ok (.aload_n 0, 1) := by decide +kernel
theorem dX12_restore_65 : decode cX12_restore 65 = .ok (.aload_n 0, 1) := by decide +kernel
theorem dX12_restore_66 : decode cX12_restore 66 = .ok (.invokevirtual 519, 3) := by decide +kernel
theorem dX12_restore_69 : decode cX12_restore 69 = .ok (.putfield 288, 3) := by decide +kernel
theorem dX12_restore_72 : decode cX12_restore 72 = .ok (.aload_n 0, 1) := by decide +kernel
theorem dX12_restore_73 : decode cX12_restore 73 = .ok (.aload_n 0, 1) := by decide +kernel
theorem dX12_restore_74 : decode cX12_restore 74 = .ok (.invokevirtual 519, 3) := by decide +kernel
theorem dX12_restore_77 : decode cX12_restore 77 = .ok (.putfield 291, 3) := by decide +kernel
theorem dX12_restore_80 : decode cX12_restore 80 = .ok (.aload_n 0, 1) := by decide +kernel
theorem dX12_restore_81 : decode cX12_restore 81 = .ok (.aload_n 0, 1) := by decide +kernel
theorem dX12_restore_82 : decode cX12_restore 82 = .ok (.invokevirtual 519, 3) := by decide +kernel
theorem dX12_restore_85 : decode cX12_restore 85 = .ok (.putfield 294, 3) := by decide +kernel
theorem dX12_restore_88 : decode cX12_restore 88 = .ok (.aload_n 0, 1) := by decide +kernel
theorem dX12_restore_89 : decode cX12_restore 89 = .ok (.aload_n 0, 1) := by decide +kernel
theorem dX12_restore_90 : decode cX12_restore 90 = .ok (.invokevirtual 519, 3) := by decide +kernel
theorem dX12_restore_93 : decode cX12_restore 93 = .ok (.putfield 297, 3) := by decide +kernel
theorem dX12_restore_96 : decode cX12_restore 96 = .ok (.aload_n 0, 1) := by decide +kernel
theorem dX12_restore_97 : decode cX12_restore 97 = .ok (.aload_n 0, 1) := by decide +kernel
theorem dX12_restore_98 : decode cX12_restore 98 = .ok (.invokevirtual 519, 3) := by decide +kernel
theorem dX12_restore_101 : decode cX12_restore 101 = .ok (.putfield 300, 3) := by decide +kernel
theorem dX12_restore_104 : decode cX12_restore 104 = .ok (.aload_n 0, 1) := by decide +kernel
theorem dX12_restore_105 : decode cX12_restore 105 = .ok (.aload_n 0, 1) := by decide +kernel
theorem dX12_restore_106 : decode cX12_restore 106 = .ok (.invokevirtual 519, 3) := by decide +kernel
theorem dX12_restore_109 : decode cX12_restore 109 = .ok (.putfield 303, 3) := by decide +kernel
theorem dX12_restore_112 : decode cX12_restore 112 = .ok (.aload_n 0, 1) := by decide +kernel
theorem dX12_restore_113 : decode cX12_restore 113 = .ok (.aload_n 0, 1) := by decide +kernel
theorem dX12_restore_114 : decode cX12_restore 114 = .ok (.invokevirtual 519, 3) := by decide +kernel
theorem dX12_restore_117 : decode cX12_restore 117 = .ok (.putfield 306, 3) := by decide +kernel
theorem dX12_restore_120 : decode cX12_restore 120 = .ok (.iconst 0, 1) := by decide +kernel
theorem dX12_restore_121 : decode cX12_restore 121 = .ok (.istore_n 2, 1) := by decide +kernel
theorem dX12_restore_122 : decode cX12_restore 122 = .ok (.iload_n 2, 1) := by decide +kernel
theorem dX12_restore_123 : decode cX12_restore 123 = .ok (.bipush 12, 2) := by decide +kernel
theorem dX12_restore_125 : decode cX12_restore 125 = .ok (.if_icmp .ge 78, 3) := by decide +kernel
theorem dX12_restore_128 : decode cX12_restore 128 = .ok (.aload_n 0, 1) := by decide +kernel
theorem dX12_restore_129 : decode cX12_restore 129 = .ok (.getfield 32, 3) := by decide +kernel
theorem dX12_restore_132 : decode cX12_restore 132 = .ok (.iload_n 2, 1) := by decide +kernel
theorem dX12_restore_133 : decode cX12_restore 133 = .ok (.aload_n 0, 1) := by decide +kernel
theorem dX12_restore_134 : decode cX12_restore 134 = .ok (.invokevirtual 519, 3) := by decide +kernel
theorem dX12_restore_137 : decode cX12_restore 137 = .ok (.iastore, 1) := by decide +kernel
theorem dX12_restore_138 : decode cX12_restore 138 = .ok (.aload_n 0, 1) := by decide +kernel
theorem dX12_restore_139 : decode cX12_restore 139 = .ok (.getfield 35, 3) := by decide +kernel
theorem dX12_restore_142 : decode cX12_restore 142 = .ok (.iload_n 2, 1) := by decide +kernel
theorem dX12_restore_143 : decode cX12_restore 143 = .ok (.aload_n 0, 1) := by decide +kernel
theorem dX12_restore_144 : decode cX12_restore 144 = .ok (.invokevirtual 519, 3) := by decide +kernel
theorem dX12_restore_147 : decode cX12_restore 147 = .ok (.iastore, 1) := by decide +kernel
theorem dX12_restore_148 : decode cX12_restore 148 = .ok (.aload_n 0, 1) := by decide +kernel
theorem dX12_restore_149 : decode cX12_restore 149 = .ok (.getfield 38, 3) := by decide +kernel
theorem dX12_restore_152 : decode cX12_restore 152 = .ok (.iload_n 2, 1) := by decide +kernel
theorem dX12_restore_153 : decode cX12_restore 153 = .ok (.aload_n 0, 1) := by decide +kernel
theorem dX12_restore_154 : decode cX12_restore 154 = .ok (.invokevirtual 519, 3) := by decide +kernel
theorem dX12_restore_157 : decode cX12_restore 157 = .ok (.iastore, 1) := by decide +kernel
theorem dX12_restore_158 : decode cX12_restore 158 = .ok (.aload_n 0, 1) := by decide +kernel
theorem dX12_restore_159 : decode cX12_restore 159 = .ok (.getfield 41, 3) := by decide +kernel
theorem dX12_restore_162 : decode cX12_restore 162 = .ok (.iload_n 2, 1) := by decide +kernel
theorem dX12_restore_163 : decode cX12_restore 163 = .ok (.aload_n 0, 1) := by decide +kernel
theorem dX12_restore_164 : decode cX12_restore 164 = .ok (.invokevirtual 519, 3) := by decide +kernel
theorem dX12_restore_167 : decode cX12_restore 167 = .ok (.iconst 1, 1) := by decide +kernel
theorem dX12_restore_168 : decode cX12_restore 168 = .ok (.if_icmp .ne 7, 3) := by decide +kernel
theorem dX12_restore_171 : decode cX12_restore 171 = .ok (.iconst 1, 1) := by decide +kernel
theorem dX12_restore_172 : decode cX12_restore 172 = .ok (.goto 4, 3) := by decide +kernel
theorem dX12_restore_175 : decode cX12_restore 175 = .ok (.iconst 0, 1) := by decide +kernel
theorem dX12_restore_176 : decode cX12_restore 176 = .ok (.bastore, 1) := by decide +kernel
theorem dX12_restore_177 : decode cX12_restore 177 = .ok (.aload_n 0, 1) := by decide +kernel
theorem dX12_restore_178 : decode cX12_restore 178 = .ok (.getfield 45, 3) := by decide +kernel
theorem dX12_restore_181 : decode cX12_restore 181 = .ok (.iload_n 2, 1) := by decide +kernel
theorem dX12_restore_182 : decode cX12_restore 182 = .ok (.aload_n 0, 1) := by decide +kernel
theorem dX12_restore_183 : decode cX12_restore 183 = .ok (.invokevirtual 519, 3) := by decide +kernel
theorem dX12_restore_186 : decode cX12_restore 186 = .ok (.iastore, 1) := by decide +kernel
theorem dX12_restore_187 : decode cX12_restore 187 = .ok (.aload_n 0, 1) := by decide +kernel
theorem dX12_restore_188 : decode cX12_restore 188 = .ok (.getfield 48, 3) := by decide +kernel
theorem dX12_restore_191 : decode cX12_restore 191 = .ok (.iload_n 2, 1) := by decide +kernel
theorem dX12_restore_192 : decode cX12_restore 192 = .ok (.aload_n 0, 1) := by decide +kernel
theorem dX12_restore_193 : decode cX12_restore 193 = .ok (.invokevirtual 519, 3) := by decide +kernel
theorem dX12_restore_196 : decode cX12_restore 196 = .ok (.iastore, 1) := by decide +kernel
theorem dX12_restore_197 : decode cX12_restore 197 = .ok (.iinc 2 1, 3) := by decide +kernel
theorem dX12_restore_200 : decode cX12_restore 200 = .ok (.goto (-78), 3) := by decide +kernel
theorem dX12_restore_203 : decode cX12_restore 203 = .ok (.iconst 0, 1) := by decide +kernel
theorem dX12_restore_204 : decode cX12_restore 204 = .ok (.istore_n 2, 1) := by decide +kernel
theorem dX12_restore_205 : decode cX12_restore 205 = .ok (.iload_n 2, 1) := by decide +kernel
theorem dX12_restore_206 : decode cX12_restore 206 = .ok (.bipush 10, 2) := by decide +kernel
theorem dX12_restore_208 : decode cX12_restore 208 = .ok (.if_icmp .ge 29, 3) := by decide +kernel
theorem dX12_restore_211 : decode cX12_restore 211 = .ok (.aload_n 0, 1) := by decide +kernel
theorem dX12_restore_212 : decode cX12_restore 212 = .ok (.getfield 51, 3) := by decide +kernel
theorem dX12_restore_215 : decode cX12_restore 215 = .ok (.iload_n 2, 1) := by decide +kernel
theorem dX12_restore_216 : decode cX12_restore 216 = .ok (.aload_n 0, 1) := by decide +kernel
theorem dX12_restore_217 : decode cX12_restore 217 = .ok (.invokevirtual 519, 3) := by decide +kernel
theorem dX12_restore_220 : decode cX12_restore 220 = .ok (.iastore, 1) := by decide +kernel
theorem dX12_restore_221 : decode cX12_restore 221 = .ok (.aload_n 0, 1) := by decide +kernel
theorem dX12_restore_222 : decode cX12_restore 222 = .ok (.getfield 54, 3) := by decide +kernel
theorem dX12_restore_225 : decode cX12_restore 225 = .ok (.iload_n 2, 1) := by decide +kernel
theorem dX12_restore_226 : decode cX12_restore 226 = .ok (.aload_n 0, 1) := by decide +kernel
theorem dX12_restore_227 : decode cX12_restore 227 = .ok (.invokevirtual 519, 3) := by decide +kernel
theorem dX12_restore_230 : decode cX12_restore 230 = .ok (.iastore, 1) := by decide +kernel
theorem dX12_restore_231 : decode cX12_restore 231 = .ok (.iinc 2 1, 3) := by decide +kernel
theorem dX12_restore_234 : decode cX12_restore 234 = .ok (.goto (-29), 3) := by decide +kernel
theorem dX12_restore_237 : decode cX12_restore 237 = .ok (.iconst 0, 1) := by decide +kernel
theorem dX12_restore_238 : decode cX12_restore 238 = .ok (.istore_n 2, 1) := by decide +kernel
theorem dX12_restore_239 : decode cX12_restore 239 = .ok (.iload_n 2, 1) := by decide +kernel
theorem dX12_restore_240 : decode cX12_restore 240 = .ok (.bipush 15, 2) := by decide +kernel
theorem dX12_restore_242 : decode cX12_restore 242 = .ok (.if_icmp .ge 19, 3) := by decide +kernel
theorem dX12_restore_245 : decode cX12_restore 245 = .ok (.aload_n 0, 1) := by decide +kernel
theorem dX12_restore_246 : decode cX12_restore 246 = .ok (.getfield 57, 3) := by decide +kernel
theorem dX12_restore_249 : decode cX12_restore 249 = .ok (.iload_n 2, 1) := by decide +kernel
theorem dX12_restore_250 : decode cX12_restore 250 = .ok (.aload_n 0, 1) := by decide +kernel
theorem dX12_restore_251 : decode cX12_restore 251 = .ok (.invokevirtual 519, 3) := by decide +kernel
theorem dX12_restore_254 : decode cX12_restore 254 = .ok (.iastore, 1) := by decide +kernel
theorem dX12_restore_255 : decode cX12_restore 255 = .ok (.iinc 2 1, 3) := by decide +kernel
theorem dX12_restore_258 : decode cX12_restore 258 = .ok (.goto (-19), 3) := by decide +kernel
theorem dX12_restore_261 : decode cX12_restore 261 = .ok (.iconst 0, 1) := by decide +kernel
theorem dX12_restore_262 : decode cX12_restore 262 = .ok (.istore_n 2, 1) := by decide +kernel
theorem dX12_restore_263 : decode cX12_restore 263 = .ok (.iload_n 2, 1) := by decide +kernel
theorem dX12_restore_264 : decode cX12_restore 264 = .ok (.bipush 9, 2) := by decide +kernel
theorem dX12_restore_266 : decode cX12_restore 266 = .ok (.if_icmp .ge 39, 3) := by decide +kernel
theorem dX12_restore_269 : decode cX12_restore 269 = .ok (.aload_n 0, 1) := by decide +kernel
theorem dX12_restore_270 : decode cX12_restore 270 = .ok (.getfield 92, 3) := by decide +kernel
theorem dX12_restore_273 : decode cX12_restore 273 = .ok (.iload_n 2, 1) := by decide +kernel
theorem dX12_restore_274 : decode cX12_restore 274 = .ok (.aload_n 0, 1) := by decide +kernel
theorem dX12_restore_275 : decode cX12_restore 275 = .ok (.invokevirtual 519, 3) := by decide +kernel
theorem dX12_restore_278 : decode cX12_restore 278 = .ok (.iastore, 1) := by decide +kernel
theorem dX12_restore_279 : decode cX12_restore 279 = .ok (.aload_n 0, 1) := by decide +kernel
theorem dX12_restore_280 : decode cX12_restore 280 = .ok (.getfield 95, 3) := by decide +kernel
theorem dX12_restore_283 : decode cX12_restore 283 = .ok (.iload_n 2, 1) := by decide +kernel
theorem dX12_restore_284 : decode cX12_restore 284 = .ok (.aload_n 0, 1) := by decide +kernel
theorem dX12_restore_285 : decode cX12_restore 285 = .ok (.invokevirtual 519, 3) := by decide +kernel
theorem dX12_restore_288 : decode cX12_restore 288 = .ok (.iastore, 1) := by decide +kernel
theorem dX12_restore_289 : decode cX12_restore 289 = .ok (.aload_n 0, 1) := by decide +kernel
theorem dX12_restore_290 : decode cX12_restore 290 = .ok (.getfield 98, 3) := by decide +kernel
theorem dX12_restore_293 : decode cX12_restore 293 = .ok (.iload_n 2, 1) := by decide +kernel
theorem dX12_restore_294 : decode cX12_restore 294 = .ok (.aload_n 0, 1) := by decide +kernel
theorem dX12_restore_295 : decode cX12_restore 295 = .ok (.invokevirtual 519, 3) := by decide +kernel
theorem dX12_restore_298 : decode cX12_restore 298 = .ok (.iastore, 1) := by decide +kernel
theorem dX12_restore_299 : decode cX12_restore 299 = .ok (.iinc 2 1, 3) := by decide +kernel
theorem dX12_restore_302 : decode cX12_restore 302 = .ok (.goto (-39), 3) := by decide +kernel
theorem dX12_restore_305 : decode cX12_restore 305 = .ok (.iconst 0, 1) := by decide +kernel
theorem dX12_restore_306 : decode cX12_restore 306 = .ok (.istore_n 2, 1) := by decide +kernel
theorem dX12_restore_307 : decode cX12_restore 307 = .ok (.iload_n 2, 1) := by decide +kernel
theorem dX12_restore_308 : decode cX12_restore 308 = .ok (.bipush 6, 2) := by decide +kernel
theorem dX12_restore_310 : decode cX12_restore 310 = .ok (.if_icmp .ge 48, 3) := by decide +kernel
theorem dX12_restore_313 : decode cX12_restore 313 = .ok (.aload_n 0, 1) := by decide +kernel
theorem dX12_restore_314 : decode cX12_restore 314 = .ok (.getfield 107, 3) := by decide +kernel
theorem dX12_restore_317 : decode cX12_restore 317 = .ok (.iload_n 2, 1) := by decide +kernel
theorem dX12_restore_318 : decode cX12_restore 318 = .ok (.aload_n 0, 1) := by decide +kernel
theorem dX12_restore_319 : decode cX12_restore 319 = .ok (.invokevirtual 519, 3) := by decide +kernel
theorem dX12_restore_322 : decode cX12_restore 322 = .ok (.iastore, 1) := by decide +kernel
theorem dX12_restore_323 : decode cX12_restore 323 = .ok (.aload_n 0, 1) := by decide +kernel
theorem dX12_restore_324 : decode cX12_restore 324 = .ok (.getfield 110, 3) := by decide +kernel
theorem dX12_restore_327 : decode cX12_restore 327 = .ok (.iload_n 2, 1) := by decide +kernel
theorem dX12_restore_328 : decode cX12_restore 328 = .ok (.aload_n 0, 1) := by decide +kernel
theorem dX12_restore_329 : decode cX12_restore 329 = .ok (.invokevirtual 519, 3) := by decide +kernel
theorem dX12_restore_332 : decode cX12_restore 332 = .ok (.iastore, 1) := by decide +kernel
theorem dX12_restore_333 : decode cX12_restore 333 = .ok (.aload_n 0, 1) := by decide +kernel
theorem dX12_restore_334 : decode cX12_restore 334 = .ok (.getfield 113, 3) := by decide +kernel
theorem dX12_restore_337 : decode cX12_restore 337 = .ok (.iload_n 2, 1) := by decide +kernel
theorem dX12_restore_338 : decode cX12_restore 338 = .ok (.aload_n 0, 1) := by decide +kernel
theorem dX12_restore_339 : decode cX12_restore 339 = .ok (.invokevirtual 519, 3) := by decide +kernel
theorem dX12_restore_342 : decode cX12_restore 342 = .ok (.iconst 1, 1) := by decide +kernel
theorem dX12_restore_343 : decode cX12_restore 343 = .ok (.if_icmp .ne 7, 3) := by decide +kernel
theorem dX12_restore_346 : decode cX12_restore 346 = .ok (.iconst 1, 1) := by decide +kernel
theorem dX12_restore_347 : decode cX12_restore 347 = .ok (.goto 4, 3) := by decide +kernel
theorem dX12_restore_350 : decode cX12_restore 350 = .ok (.iconst 0, 1) := by decide +kernel
theorem dX12_restore_351 : decode cX12_restore 351 = .ok (.bastore, 1) := by decide +kernel
theorem dX12_restore_352 : decode cX12_restore 352 = .ok (.iinc 2 1, 3) := by decide +kernel
theorem dX12_restore_355 : decode cX12_restore 355 = .ok (.goto (-48), 3) := by decide +kernel
theorem dX12_restore_358 : decode cX12_restore 358 = .ok (.aload_n 0, 1) := by decide +kernel
theorem dX12_restore_359 : decode cX12_restore 359 = .ok (.iconst 0, 1) := by decide +kernel
theorem dX12_restore_360 : decode cX12_restore 360 = .ok (.putfield 309, 3) := by decide +kernel
theorem dX12_restore_363 : decode cX12_restore 363 = .ok (.aload_n 0, 1) := by decide +kernel
theorem dX12_restore_364 : decode cX12_restore 364 = .ok (.iconst 0, 1) := by decide +kernel
theorem dX12_restore_365 : decode cX12_restore 365 = .ok (.putfield 312, 3) := by decide +kernel
theorem dX12_restore_368 : decode cX12_restore 368 = .ok (.aload_n 0, 1) := by decide +kernel
theorem dX12_restore_369 : decode cX12_restore 369 = .ok (.getfield 288, 3) := by decide +kernel
theorem dX12_restore_372 : decode cX12_restore 372 = .ok (.ireturn, 1) := by decide +kernel
abbrev o_X12_restore : Type := Int32 × wd_W
def f_X12_restore_L307 (k358_45 : (wd_W) → (Option o_X12_restore)) (r49 : (Int32) → (wd_W) → (Option o_X12_restore)) (x47 : Int32) (S48 : wd_W) : Option o_X12_restore :=
if (6 : Int32) ≤ x47 then (
k358_45 S48) else (
bd (f_X12_gets (wd_o S48 [(80, (S48.1 80))] [] [] [] [])) fun o50 =>
lz (wd_o S48 [(80, o50.2)] [] [] [] []) fun S51 =>
gd (okx x47 6) <|
lz (upd (S51.2.2.1 32) x47.toNatClampNeg o50.1) fun a53 =>
lz (wd_o S51 [] [] [(32, a53)] [] []) fun S55 =>
bd (f_X12_gets (wd_o S55 [(80, (S55.1 80))] [] [] [] [])) fun o54 =>
lz (wd_o S55 [(80, o54.2)] [] [] [] []) fun S56 =>
gd (okx x47 6) <|
lz (upd (S56.2.2.1 33) x47.toNatClampNeg o54.1) fun a58 =>
lz (wd_o S56 [] [] [(33, a58)] [] []) fun S60 =>
bd (f_X12_gets (wd_o S60 [(80, (S60.1 80))] [] [] [] [])) fun o59 =>
lk (fun x61 x62 =>
lz (wd_o S60 [(80, o59.2)] [] [] [] []) fun S64 =>
gd (okx x62 6) <|
lz (upd (S64.2.2.1 34) x62.toNatClampNeg (vp_nar .boolean x61)) fun a66 =>
r49 (x47 + (1 : Int32)) (wd_o S64 [] [] [(34, a66)] [] [])) fun k351_63 =>
if o59.1 = (1 : Int32) then (
k351_63 (1 : Int32) x47) else (
k351_63 (0 : Int32) x47))
def f_X12_restore_L263 (k305_43 : (wd_W) → (Option o_X12_restore)) (r72 : (Int32) → (wd_W) → (Option o_X12_restore)) (x70 : Int32) (S71 : wd_W) : Option o_X12_restore :=
if (9 : Int32) ≤ x70 then (
k305_43 S71) else (
bd (f_X12_gets (wd_o S71 [(80, (S71.1 80))] [] [] [] [])) fun o73 =>
lz (wd_o S71 [(80, o73.2)] [] [] [] []) fun S74 =>
gd (okx x70 9) <|
lz (upd (S74.2.2.1 27) x70.toNatClampNeg o73.1) fun a76 =>
lz (wd_o S74 [] [] [(27, a76)] [] []) fun S78 =>
bd (f_X12_gets (wd_o S78 [(80, (S78.1 80))] [] [] [] [])) fun o77 =>
lz (wd_o S78 [(80, o77.2)] [] [] [] []) fun S79 =>
gd (okx x70 9) <|
lz (upd (S79.2.2.1 28) x70.toNatClampNeg o77.1) fun a81 =>
lz (wd_o S79 [] [] [(28, a81)] [] []) fun S83 =>
bd (f_X12_gets (wd_o S83 [(80, (S83.1 80))] [] [] [] [])) fun o82 =>
lz (wd_o S83 [(80, o82.2)] [] [] [] []) fun S84 =>
gd (okx x70 9) <|
lz (upd (S84.2.2.1 29) x70.toNatClampNeg o82.1) fun a86 =>
r72 (x70 + (1 : Int32)) (wd_o S84 [] [] [(29, a86)] [] []))
def f_X12_restore_L239 (k261_41 : (wd_W) → (Option o_X12_restore)) (r91 : (Int32) → (wd_W) → (Option o_X12_restore)) (x89 : Int32) (S90 : wd_W) : Option o_X12_restore :=
if (15 : Int32) ≤ x89 then (
k261_41 S90) else (
bd (f_X12_gets (wd_o S90 [(80, (S90.1 80))] [] [] [] [])) fun o92 =>
lz (wd_o S90 [(80, o92.2)] [] [] [] []) fun S93 =>
gd (okx x89 15) <|
lz (upd (S93.2.2.1 16) x89.toNatClampNeg o92.1) fun a95 =>
r91 (x89 + (1 : Int32)) (wd_o S93 [] [] [(16, a95)] [] []))
def f_X12_restore_L205 (k237_39 : (wd_W) → (Option o_X12_restore)) (r100 : (Int32) → (wd_W) → (Option o_X12_restore)) (x98 : Int32) (S99 : wd_W) : Option o_X12_restore :=
if (10 : Int32) ≤ x98 then (
k237_39 S99) else (
bd (f_X12_gets (wd_o S99 [(80, (S99.1 80))] [] [] [] [])) fun o101 =>
lz (wd_o S99 [(80, o101.2)] [] [] [] []) fun S102 =>
gd (okx x98 10) <|
lz (upd (S102.2.2.1 14) x98.toNatClampNeg o101.1) fun a104 =>
lz (wd_o S102 [] [] [(14, a104)] [] []) fun S106 =>
bd (f_X12_gets (wd_o S106 [(80, (S106.1 80))] [] [] [] [])) fun o105 =>
lz (wd_o S106 [(80, o105.2)] [] [] [] []) fun S107 =>
gd (okx x98 10) <|
lz (upd (S107.2.2.1 15) x98.toNatClampNeg o105.1) fun a109 =>
r100 (x98 + (1 : Int32)) (wd_o S107 [] [] [(15, a109)] [] []))
def f_X12_restore_L122 (k203_37 : (wd_W) → (Option o_X12_restore)) (r114 : (Int32) → (wd_W) → (Option o_X12_restore)) (x112 : Int32) (S113 : wd_W) : Option o_X12_restore :=
if (12 : Int32) ≤ x112 then (
k203_37 S113) else (
bd (f_X12_gets (wd_o S113 [(80, (S113.1 80))] [] [] [] [])) fun o115 =>
lz (wd_o S113 [(80, o115.2)] [] [] [] []) fun S116 =>
gd (okx x112 13) <|
lz (upd (S116.2.2.1 8) x112.toNatClampNeg o115.1) fun a118 =>
lz (wd_o S116 [] [] [(8, a118)] [] []) fun S120 =>
bd (f_X12_gets (wd_o S120 [(80, (S120.1 80))] [] [] [] [])) fun o119 =>
lz (wd_o S120 [(80, o119.2)] [] [] [] []) fun S121 =>
gd (okx x112 13) <|
lz (upd (S121.2.2.1 9) x112.toNatClampNeg o119.1) fun a123 =>
lz (wd_o S121 [] [] [(9, a123)] [] []) fun S125 =>
bd (f_X12_gets (wd_o S125 [(80, (S125.1 80))] [] [] [] [])) fun o124 =>
lz (wd_o S125 [(80, o124.2)] [] [] [] []) fun S126 =>
gd (okx x112 13) <|
lz (upd (S126.2.2.1 10) x112.toNatClampNeg o124.1) fun a128 =>
lz (wd_o S126 [] [] [(10, a128)] [] []) fun S130 =>
bd (f_X12_gets (wd_o S130 [(80, (S130.1 80))] [] [] [] [])) fun o129 =>
lk (fun x131 x132 =>
lz (wd_o S130 [(80, o129.2)] [] [] [] []) fun S134 =>
gd (okx x132 13) <|
lz (upd (S134.2.2.1 11) x132.toNatClampNeg (vp_nar .boolean x131)) fun a136 =>
lz (wd_o S134 [] [] [(11, a136)] [] []) fun S138 =>
bd (f_X12_gets (wd_o S138 [(80, (S138.1 80))] [] [] [] [])) fun o137 =>
lz (wd_o S138 [(80, o137.2)] [] [] [] []) fun S139 =>
gd (okx x112 13) <|
lz (upd (S139.2.2.1 12) x112.toNatClampNeg o137.1) fun a141 =>
lz (wd_o S139 [] [] [(12, a141)] [] []) fun S143 =>
bd (f_X12_gets (wd_o S143 [(80, (S143.1 80))] [] [] [] [])) fun o142 =>
lz (wd_o S143 [(80, o142.2)] [] [] [] []) fun S144 =>
gd (okx x112 13) <|
lz (upd (S144.2.2.1 13) x112.toNatClampNeg o142.1) fun a146 =>
r114 (x112 + (1 : Int32)) (wd_o S144 [] [] [(13, a146)] [] [])) fun k176_133 =>
if o129.1 = (1 : Int32) then (
k176_133 (1 : Int32) x112) else (
k176_133 (0 : Int32) x112))
def f_X12_restore (S : wd_W) (p1 : Int32) : Option o_X12_restore :=
bd (f_X12_in p1.toInt64 (0 : Int64) (3 : Int64)) fun o1 =>
if o1 = 0 then (
some ((-1 : Int32), S)) else (
gd (okx p1 4) <|
if ((S.2.2.1 47) p1.toNatClampNeg) = 0 then (
some ((-1 : Int32), S)) else (
lz ((200 : Int32) * p1) fun x3 =>
bd (f_X12_gets (wd_o S [(80, x3)] [] [] [] [])) fun o4 =>
lz (wd_o S [(80, o4.2)] [] [] [] []) fun S5 =>
lz (wd_o S5 [(20, o4.1)] [] [] [] []) fun S7 =>
bd (f_X12_gets (wd_o S7 [(80, (S7.1 80))] [] [] [] [])) fun o6 =>
lz (wd_o S7 [(80, o6.2)] [] [] [] []) fun S8 =>
lz (wd_o S8 [(21, o6.1)] [] [] [] []) fun S10 =>
bd (f_X12_gets (wd_o S10 [(80, (S10.1 80))] [] [] [] [])) fun o9 =>
lz (wd_o S10 [(80, o9.2)] [] [] [] []) fun S11 =>
lz (wd_o S11 [(30, o9.1)] [] [] [] []) fun S13 =>
bd (f_X12_gets (wd_o S13 [(80, (S13.1 80))] [] [] [] [])) fun o12 =>
lz (wd_o S13 [(80, o12.2)] [] [] [] []) fun S14 =>
lz (wd_o S14 [(31, o12.1)] [] [] [] []) fun S16 =>
bd (f_X12_gets (wd_o S16 [(80, (S16.1 80))] [] [] [] [])) fun o15 =>
lz (wd_o S16 [(80, o15.2)] [] [] [] []) fun S17 =>
lz (wd_o S17 [(32, o15.1)] [] [] [] []) fun S19 =>
bd (f_X12_gets (wd_o S19 [(80, (S19.1 80))] [] [] [] [])) fun o18 =>
lz (wd_o S19 [(80, o18.2)] [] [] [] []) fun S20 =>
lz (wd_o S20 [(34, o18.1)] [] [] [] []) fun S22 =>
bd (f_X12_gets (wd_o S22 [(80, (S22.1 80))] [] [] [] [])) fun o21 =>
lz (wd_o S22 [(80, o21.2)] [] [] [] []) fun S23 =>
lz (wd_o S23 [(35, o21.1)] [] [] [] []) fun S25 =>
bd (f_X12_gets (wd_o S25 [(80, (S25.1 80))] [] [] [] [])) fun o24 =>
lz (wd_o S25 [(80, o24.2)] [] [] [] []) fun S26 =>
lz (wd_o S26 [(36, o24.1)] [] [] [] []) fun S28 =>
bd (f_X12_gets (wd_o S28 [(80, (S28.1 80))] [] [] [] [])) fun o27 =>
lz (wd_o S28 [(80, o27.2)] [] [] [] []) fun S29 =>
lz (wd_o S29 [(37, o27.1)] [] [] [] []) fun S31 =>
bd (f_X12_gets (wd_o S31 [(80, (S31.1 80))] [] [] [] [])) fun o30 =>
lz (wd_o S31 [(80, o30.2)] [] [] [] []) fun S32 =>
lz (wd_o S32 [(51, o30.1)] [] [] [] []) fun S34 =>
bd (f_X12_gets (wd_o S34 [(80, (S34.1 80))] [] [] [] [])) fun o33 =>
lz (wd_o S34 [(80, o33.2)] [] [] [] []) fun S35 =>
lk (fun S36 =>
lk (fun S38 =>
lk (fun S40 =>
lk (fun S42 =>
lk (fun S44 =>
lz (wd_o S44 [(55, (0 : Int32))] [] [] [] []) fun S46 =>
some ((S46.1 32), (wd_o S46 [(44, (0 : Int32))] [] [] [] []))) fun k358_45 =>
it2 (f_X12_restore_L307 k358_45) fuel (0 : Int32) S42) fun k305_43 =>
it2 (f_X12_restore_L263 k305_43) fuel (0 : Int32) S40) fun k261_41 =>
it2 (f_X12_restore_L239 k261_41) fuel (0 : Int32) S38) fun k237_39 =>
it2 (f_X12_restore_L205 k237_39) fuel (0 : Int32) S36) fun k203_37 =>
it2 (f_X12_restore_L122 k203_37) fuel (0 : Int32) (wd_o S35 [(60, o33.1)] [] [] [] [])))
set_option maxRecDepth 100000 in
set_option maxHeartbeats 4000000 in
theorem c_X12_restore (l : Launch) (D : va_G) (q g : Nat → Nat) (cy : Nat → ClassId) (z : (Nat → Nat) × (Nat → Nat) × Nat) (S : wd_W) (p1 : Int32) (o : o_X12_restore) (hf : f_X12_restore S p1 = some o) : MX layM l yX12_restore cX12_restore 3 (some .int) ({ frames := 1, cells := 0, slots := 0, locals := 25 } : Room) D q g cy z [.ref (q 0), .int p1] S false (some (.int o.1)) o.2 0 0 := by
  refine mx_of (own := RX12) (lc := [(0, .ref (q 0)), (1, .int p1)]) (by decide +kernel) rfl layM_ok (Nat.le_of_ble_eq_true rfl) rfl ?_
  intro X hXl hXq hXz hC hQ
  subst hXl; subst hXq; subst hXz
  unfold f_X12_restore at hf
  refine go_iload_n (pc' := 1) hC dX12_restore_0 rfl rfl ?_
  refine go_i2l (pc' := 2) hC dX12_restore_1 rfl ?_
  refine go_lconst (pc' := 3) hC dX12_restore_2 kl_0 rfl ?_
  refine go_ldc2 (pc' := 6) hC dX12_restore_3 mw_1507 rfl ?_
  obtain ⟨o1, ho1, hf⟩ := bd_e hf
  refine go_callS0 (pc' := 9) (As := [.long p1.toInt64, .long (0 : Int64), .long (3 : Int64)]) (st := []) (st' := [.int o1])    hC dX12_restore_6 ⟨mw_525, mw_527, mw_5, yd_yX12_in, yp_yX12_in, Nat.le_of_ble_eq_true rfl, Nat.le_of_ble_eq_true rfl, (Nat.le_of_ble_eq_true rfl), (Nat.le_of_ble_eq_true rfl)⟩ mw_526 rfl rfl (Nat.le_of_ble_eq_true rfl) (c_X12_in (x_l X) (x_D X) (x_q X) g (x_cy X) (x_z X) _ p1.toInt64 (0 : Int64) (3 : Int64) o1 ho1) rfl rfl ?_
  refine go_if_eq (tgt := 21) (pc' := 12) hC dX12_restore_9 (by decide) rfl (fun h151 => ?_) (fun h151 => ?_)
  · have hf := ite_t h151 hf
    refine go_iconst (pc' := 22) hC dX12_restore_21 ki_m1 rfl ?_
    obtain rfl := Option.some.inj hf
    exact go_iret hC hQ dX12_restore_22 rfl rfl rfl rfl (fun _ => rfl) rfl rfl
  · have hf := ite_f h151 hf
    refine go_aload_n (pc' := 13) hC dX12_restore_12 rfl rfl ?_
    refine go_getq (pc' := 16) hC 0 79 layM_0 rfl rfl inlX12 (Nat.le_of_ble_eq_true rfl) mw_228 rfl dX12_restore_13 rfl ?_
    refine go_iload_n (pc' := 17) hC dX12_restore_16 rfl rfl ?_
    obtain ⟨h2, hf⟩ := gd_e hf
    refine go_zald (f := (S.2.2.1 47)) (pc' := 18) hC 47 layM_47 rfl rfl dX12_restore_17 (okx_in h2) rfl ?_
    refine go_if_ne (tgt := 23) (pc' := 21) hC dX12_restore_18 (by decide) rfl (fun h150 => ?_) (fun h150 => ?_)
    · have hf := ite_f h150 hf
      refine go_aload_n (pc' := 24) hC dX12_restore_23 rfl rfl ?_
      refine go_sipush (pc' := 27) hC dX12_restore_24 ks_200 rfl ?_
      refine go_iload_n (pc' := 28) hC dX12_restore_27 rfl rfl ?_
      refine go_imul (pc' := 29) hC dX12_restore_28 rfl ?_
      refine go_keys (L1 := [(80, (S.1 80))]) (L2 := []) (L3 := []) (L4 := []) (L5 := []) [80] [] [] [] [] rfl rfl rfl rfl rfl ?_
      refine go_namei (fun x3 hx => ?_)
      have hf := lz_r hx hf
      clear hx
      refine go_puti (L1' := [(80, x3)]) (pc' := 32) hC 0 80 layM_0 rfl rfl inlX12 tyX12_ok nmX12 (Nat.le_of_ble_eq_true rfl) mw_1522 rfl rfl rfl rfl dX12_restore_29 rfl rfl rfl ?_
      refine go_aload_n (pc' := 33) hC dX12_restore_32 rfl rfl ?_
      refine go_aload_n (pc' := 34) hC dX12_restore_33 rfl rfl ?_
      obtain ⟨o4, ho4, hf⟩ := bd_e hf
      refine go_callV1 (pc' := 37) (As := []) (st := [.ref (x_q X 0)]) (st' := [.int o4.1, .ref (x_q X 0)]) (L1' := [(80, o4.2)]) (L2' := []) (L3' := []) (L4' := []) (L5' := []) (cells' := 0) (slots' := 0)  (b := 0) hC dX12_restore_34 ⟨mw_1535, mw_1538, mw_5, yd_yX12_gets, yp_yX12_gets, Nat.le_of_ble_eq_true rfl, Nat.le_of_ble_eq_true rfl, (Nat.le_of_ble_eq_true rfl), (Nat.le_of_ble_eq_true rfl)⟩ mw_1536 mw_1537 layM_0 rfl rfl rfl (Nat.le_of_ble_eq_true rfl) (c_X12_gets (x_l X) (x_D X) (x_q X) g (x_cy X) (x_z X) _  o4 ho4) rfl rfl rfl rfl rfl rfl rfl rfl rfl rfl rfl rfl rfl rfl ?_
      refine go_base (fun S5 hx => ?_)
      have hf := lz_r hx hf
      clear hx
      refine go_keys (L1 := [(20, (S5.1 20))]) (L2 := []) (L3 := []) (L4 := []) (L5 := []) [20] [] [] [] [] rfl rfl rfl rfl rfl ?_
      refine go_puti (L1' := [(20, o4.1)]) (pc' := 40) hC 0 20 layM_0 rfl rfl inlX12 tyX12_ok nmX12 (Nat.le_of_ble_eq_true rfl) mw_246 rfl rfl rfl rfl dX12_restore_37 rfl rfl rfl ?_
      refine go_aload_n (pc' := 41) hC dX12_restore_40 rfl rfl ?_
      refine go_aload_n (pc' := 42) hC dX12_restore_41 rfl rfl ?_
      refine go_base (fun S7 hx => ?_)
      have hf := lz_r hx hf
      clear hx
      refine go_keys (L1 := [(80, (S7.1 80))]) (L2 := []) (L3 := []) (L4 := []) (L5 := []) [80] [] [] [] [] rfl rfl rfl rfl rfl ?_
      obtain ⟨o6, ho6, hf⟩ := bd_e hf
      refine go_callV1 (pc' := 45) (As := []) (st := [.ref (x_q X 0)]) (st' := [.int o6.1, .ref (x_q X 0)]) (L1' := [(80, o6.2)]) (L2' := []) (L3' := []) (L4' := []) (L5' := []) (cells' := 0) (slots' := 0)  (b := 0) hC dX12_restore_42 ⟨mw_1535, mw_1538, mw_5, yd_yX12_gets, yp_yX12_gets, Nat.le_of_ble_eq_true rfl, Nat.le_of_ble_eq_true rfl, (Nat.le_of_ble_eq_true rfl), (Nat.le_of_ble_eq_true rfl)⟩ mw_1536 mw_1537 layM_0 rfl rfl rfl (Nat.le_of_ble_eq_true rfl) (c_X12_gets (x_l X) (x_D X) (x_q X) g (x_cy X) (x_z X) _  o6 ho6) rfl rfl rfl rfl rfl rfl rfl rfl rfl rfl rfl rfl rfl rfl ?_
      refine go_base (fun S8 hx => ?_)
      have hf := lz_r hx hf
      clear hx
      refine go_keys (L1 := [(21, (S8.1 21))]) (L2 := []) (L3 := []) (L4 := []) (L5 := []) [21] [] [] [] [] rfl rfl rfl rfl rfl ?_
      refine go_puti (L1' := [(21, o6.1)]) (pc' := 48) hC 0 21 layM_0 rfl rfl inlX12 tyX12_ok nmX12 (Nat.le_of_ble_eq_true rfl) mw_247 rfl rfl rfl rfl dX12_restore_45 rfl rfl rfl ?_
      refine go_aload_n (pc' := 49) hC dX12_restore_48 rfl rfl ?_
      refine go_aload_n (pc' := 50) hC dX12_restore_49 rfl rfl ?_
      refine go_base (fun S10 hx => ?_)
      have hf := lz_r hx hf
      clear hx
      refine go_keys (L1 := [(80, (S10.1 80))]) (L2 := []) (L3 := []) (L4 := []) (L5 := []) [80] [] [] [] [] rfl rfl rfl rfl rfl ?_
      obtain ⟨o9, ho9, hf⟩ := bd_e hf
      refine go_callV1 (pc' := 53) (As := []) (st := [.ref (x_q X 0)]) (st' := [.int o9.1, .ref (x_q X 0)]) (L1' := [(80, o9.2)]) (L2' := []) (L3' := []) (L4' := []) (L5' := []) (cells' := 0) (slots' := 0)  (b := 0) hC dX12_restore_50 ⟨mw_1535, mw_1538, mw_5, yd_yX12_gets, yp_yX12_gets, Nat.le_of_ble_eq_true rfl, Nat.le_of_ble_eq_true rfl, (Nat.le_of_ble_eq_true rfl), (Nat.le_of_ble_eq_true rfl)⟩ mw_1536 mw_1537 layM_0 rfl rfl rfl (Nat.le_of_ble_eq_true rfl) (c_X12_gets (x_l X) (x_D X) (x_q X) g (x_cy X) (x_z X) _  o9 ho9) rfl rfl rfl rfl rfl rfl rfl rfl rfl rfl rfl rfl rfl rfl ?_
      refine go_base (fun S11 hx => ?_)
      have hf := lz_r hx hf
      clear hx
      refine go_keys (L1 := [(30, (S11.1 30))]) (L2 := []) (L3 := []) (L4 := []) (L5 := []) [30] [] [] [] [] rfl rfl rfl rfl rfl ?_
      refine go_puti (L1' := [(30, o9.1)]) (pc' := 56) hC 0 30 layM_0 rfl rfl inlX12 tyX12_ok nmX12 (Nat.le_of_ble_eq_true rfl) mw_248 rfl rfl rfl rfl dX12_restore_53 rfl rfl rfl ?_
      refine go_aload_n (pc' := 57) hC dX12_restore_56 rfl rfl ?_
      refine go_aload_n (pc' := 58) hC dX12_restore_57 rfl rfl ?_
      refine go_base (fun S13 hx => ?_)
      have hf := lz_r hx hf
      clear hx
      refine go_keys (L1 := [(80, (S13.1 80))]) (L2 := []) (L3 := []) (L4 := []) (L5 := []) [80] [] [] [] [] rfl rfl rfl rfl rfl ?_
      obtain ⟨o12, ho12, hf⟩ := bd_e hf
      refine go_callV1 (pc' := 61) (As := []) (st := [.ref (x_q X 0)]) (st' := [.int o12.1, .ref (x_q X 0)]) (L1' := [(80, o12.2)]) (L2' := []) (L3' := []) (L4' := []) (L5' := []) (cells' := 0) (slots' := 0)  (b := 0) hC dX12_restore_58 ⟨mw_1535, mw_1538, mw_5, yd_yX12_gets, yp_yX12_gets, Nat.le_of_ble_eq_true rfl, Nat.le_of_ble_eq_true rfl, (Nat.le_of_ble_eq_true rfl), (Nat.le_of_ble_eq_true rfl)⟩ mw_1536 mw_1537 layM_0 rfl rfl rfl (Nat.le_of_ble_eq_true rfl) (c_X12_gets (x_l X) (x_D X) (x_q X) g (x_cy X) (x_z X) _  o12 ho12) rfl rfl rfl rfl rfl rfl rfl rfl rfl rfl rfl rfl rfl rfl ?_
      refine go_base (fun S14 hx => ?_)
      have hf := lz_r hx hf
      clear hx
      refine go_keys (L1 := [(31, (S14.1 31))]) (L2 := []) (L3 := []) (L4 := []) (L5 := []) [31] [] [] [] [] rfl rfl rfl rfl rfl ?_
      refine go_puti (L1' := [(31, o12.1)]) (pc' := 64) hC 0 31 layM_0 rfl rfl inlX12 tyX12_ok nmX12 (Nat.le_of_ble_eq_true rfl) mw_249 rfl rfl rfl rfl dX12_restore_61 rfl rfl rfl ?_
      refine go_aload_n (pc' := 65) hC dX12_restore_64 rfl rfl ?_
      refine go_aload_n (pc' := 66) hC dX12_restore_65 rfl rfl ?_
      refine go_base (fun S16 hx => ?_)
      have hf := lz_r hx hf
      clear hx
      refine go_keys (L1 := [(80, (S16.1 80))]) (L2 := []) (L3 := []) (L4 := []) (L5 := []) [80] [] [] [] [] rfl rfl rfl rfl rfl ?_
      obtain ⟨o15, ho15, hf⟩ := bd_e hf
      refine go_callV1 (pc' := 69) (As := []) (st := [.ref (x_q X 0)]) (st' := [.int o15.1, .ref (x_q X 0)]) (L1' := [(80, o15.2)]) (L2' := []) (L3' := []) (L4' := []) (L5' := []) (cells' := 0) (slots' := 0)  (b := 0) hC dX12_restore_66 ⟨mw_1535, mw_1538, mw_5, yd_yX12_gets, yp_yX12_gets, Nat.le_of_ble_eq_true rfl, Nat.le_of_ble_eq_true rfl, (Nat.le_of_ble_eq_true rfl), (Nat.le_of_ble_eq_true rfl)⟩ mw_1536 mw_1537 layM_0 rfl rfl rfl (Nat.le_of_ble_eq_true rfl) (c_X12_gets (x_l X) (x_D X) (x_q X) g (x_cy X) (x_z X) _  o15 ho15) rfl rfl rfl rfl rfl rfl rfl rfl rfl rfl rfl rfl rfl rfl ?_
      refine go_base (fun S17 hx => ?_)
      have hf := lz_r hx hf
      clear hx
      refine go_keys (L1 := [(32, (S17.1 32))]) (L2 := []) (L3 := []) (L4 := []) (L5 := []) [32] [] [] [] [] rfl rfl rfl rfl rfl ?_
      refine go_puti (L1' := [(32, o15.1)]) (pc' := 72) hC 0 32 layM_0 rfl rfl inlX12 tyX12_ok nmX12 (Nat.le_of_ble_eq_true rfl) mw_250 rfl rfl rfl rfl dX12_restore_69 rfl rfl rfl ?_
      refine go_aload_n (pc' := 73) hC dX12_restore_72 rfl rfl ?_
      refine go_aload_n (pc' := 74) hC dX12_restore_73 rfl rfl ?_
      refine go_base (fun S19 hx => ?_)
      have hf := lz_r hx hf
      clear hx
      refine go_keys (L1 := [(80, (S19.1 80))]) (L2 := []) (L3 := []) (L4 := []) (L5 := []) [80] [] [] [] [] rfl rfl rfl rfl rfl ?_
      obtain ⟨o18, ho18, hf⟩ := bd_e hf
      refine go_callV1 (pc' := 77) (As := []) (st := [.ref (x_q X 0)]) (st' := [.int o18.1, .ref (x_q X 0)]) (L1' := [(80, o18.2)]) (L2' := []) (L3' := []) (L4' := []) (L5' := []) (cells' := 0) (slots' := 0)  (b := 0) hC dX12_restore_74 ⟨mw_1535, mw_1538, mw_5, yd_yX12_gets, yp_yX12_gets, Nat.le_of_ble_eq_true rfl, Nat.le_of_ble_eq_true rfl, (Nat.le_of_ble_eq_true rfl), (Nat.le_of_ble_eq_true rfl)⟩ mw_1536 mw_1537 layM_0 rfl rfl rfl (Nat.le_of_ble_eq_true rfl) (c_X12_gets (x_l X) (x_D X) (x_q X) g (x_cy X) (x_z X) _  o18 ho18) rfl rfl rfl rfl rfl rfl rfl rfl rfl rfl rfl rfl rfl rfl ?_
      refine go_base (fun S20 hx => ?_)
      have hf := lz_r hx hf
      clear hx
      refine go_keys (L1 := [(34, (S20.1 34))]) (L2 := []) (L3 := []) (L4 := []) (L5 := []) [34] [] [] [] [] rfl rfl rfl rfl rfl ?_
      refine go_puti (L1' := [(34, o18.1)]) (pc' := 80) hC 0 34 layM_0 rfl rfl inlX12 tyX12_ok nmX12 (Nat.le_of_ble_eq_true rfl) mw_251 rfl rfl rfl rfl dX12_restore_77 rfl rfl rfl ?_
      refine go_aload_n (pc' := 81) hC dX12_restore_80 rfl rfl ?_
      refine go_aload_n (pc' := 82) hC dX12_restore_81 rfl rfl ?_
      refine go_base (fun S22 hx => ?_)
      have hf := lz_r hx hf
      clear hx
      refine go_keys (L1 := [(80, (S22.1 80))]) (L2 := []) (L3 := []) (L4 := []) (L5 := []) [80] [] [] [] [] rfl rfl rfl rfl rfl ?_
      obtain ⟨o21, ho21, hf⟩ := bd_e hf
      refine go_callV1 (pc' := 85) (As := []) (st := [.ref (x_q X 0)]) (st' := [.int o21.1, .ref (x_q X 0)]) (L1' := [(80, o21.2)]) (L2' := []) (L3' := []) (L4' := []) (L5' := []) (cells' := 0) (slots' := 0)  (b := 0) hC dX12_restore_82 ⟨mw_1535, mw_1538, mw_5, yd_yX12_gets, yp_yX12_gets, Nat.le_of_ble_eq_true rfl, Nat.le_of_ble_eq_true rfl, (Nat.le_of_ble_eq_true rfl), (Nat.le_of_ble_eq_true rfl)⟩ mw_1536 mw_1537 layM_0 rfl rfl rfl (Nat.le_of_ble_eq_true rfl) (c_X12_gets (x_l X) (x_D X) (x_q X) g (x_cy X) (x_z X) _  o21 ho21) rfl rfl rfl rfl rfl rfl rfl rfl rfl rfl rfl rfl rfl rfl ?_
      refine go_base (fun S23 hx => ?_)
      have hf := lz_r hx hf
      clear hx
      refine go_keys (L1 := [(35, (S23.1 35))]) (L2 := []) (L3 := []) (L4 := []) (L5 := []) [35] [] [] [] [] rfl rfl rfl rfl rfl ?_
      refine go_puti (L1' := [(35, o21.1)]) (pc' := 88) hC 0 35 layM_0 rfl rfl inlX12 tyX12_ok nmX12 (Nat.le_of_ble_eq_true rfl) mw_252 rfl rfl rfl rfl dX12_restore_85 rfl rfl rfl ?_
      refine go_aload_n (pc' := 89) hC dX12_restore_88 rfl rfl ?_
      refine go_aload_n (pc' := 90) hC dX12_restore_89 rfl rfl ?_
      refine go_base (fun S25 hx => ?_)
      have hf := lz_r hx hf
      clear hx
      refine go_keys (L1 := [(80, (S25.1 80))]) (L2 := []) (L3 := []) (L4 := []) (L5 := []) [80] [] [] [] [] rfl rfl rfl rfl rfl ?_
      obtain ⟨o24, ho24, hf⟩ := bd_e hf
      refine go_callV1 (pc' := 93) (As := []) (st := [.ref (x_q X 0)]) (st' := [.int o24.1, .ref (x_q X 0)]) (L1' := [(80, o24.2)]) (L2' := []) (L3' := []) (L4' := []) (L5' := []) (cells' := 0) (slots' := 0)  (b := 0) hC dX12_restore_90 ⟨mw_1535, mw_1538, mw_5, yd_yX12_gets, yp_yX12_gets, Nat.le_of_ble_eq_true rfl, Nat.le_of_ble_eq_true rfl, (Nat.le_of_ble_eq_true rfl), (Nat.le_of_ble_eq_true rfl)⟩ mw_1536 mw_1537 layM_0 rfl rfl rfl (Nat.le_of_ble_eq_true rfl) (c_X12_gets (x_l X) (x_D X) (x_q X) g (x_cy X) (x_z X) _  o24 ho24) rfl rfl rfl rfl rfl rfl rfl rfl rfl rfl rfl rfl rfl rfl ?_
      refine go_base (fun S26 hx => ?_)
      have hf := lz_r hx hf
      clear hx
      refine go_keys (L1 := [(36, (S26.1 36))]) (L2 := []) (L3 := []) (L4 := []) (L5 := []) [36] [] [] [] [] rfl rfl rfl rfl rfl ?_
      refine go_puti (L1' := [(36, o24.1)]) (pc' := 96) hC 0 36 layM_0 rfl rfl inlX12 tyX12_ok nmX12 (Nat.le_of_ble_eq_true rfl) mw_253 rfl rfl rfl rfl dX12_restore_93 rfl rfl rfl ?_
      refine go_aload_n (pc' := 97) hC dX12_restore_96 rfl rfl ?_
      refine go_aload_n (pc' := 98) hC dX12_restore_97 rfl rfl ?_
      refine go_base (fun S28 hx => ?_)
      have hf := lz_r hx hf
      clear hx
      refine go_keys (L1 := [(80, (S28.1 80))]) (L2 := []) (L3 := []) (L4 := []) (L5 := []) [80] [] [] [] [] rfl rfl rfl rfl rfl ?_
      obtain ⟨o27, ho27, hf⟩ := bd_e hf
      refine go_callV1 (pc' := 101) (As := []) (st := [.ref (x_q X 0)]) (st' := [.int o27.1, .ref (x_q X 0)]) (L1' := [(80, o27.2)]) (L2' := []) (L3' := []) (L4' := []) (L5' := []) (cells' := 0) (slots' := 0)  (b := 0) hC dX12_restore_98 ⟨mw_1535, mw_1538, mw_5, yd_yX12_gets, yp_yX12_gets, Nat.le_of_ble_eq_true rfl, Nat.le_of_ble_eq_true rfl, (Nat.le_of_ble_eq_true rfl), (Nat.le_of_ble_eq_true rfl)⟩ mw_1536 mw_1537 layM_0 rfl rfl rfl (Nat.le_of_ble_eq_true rfl) (c_X12_gets (x_l X) (x_D X) (x_q X) g (x_cy X) (x_z X) _  o27 ho27) rfl rfl rfl rfl rfl rfl rfl rfl rfl rfl rfl rfl rfl rfl ?_
      refine go_base (fun S29 hx => ?_)
      have hf := lz_r hx hf
      clear hx
      refine go_keys (L1 := [(37, (S29.1 37))]) (L2 := []) (L3 := []) (L4 := []) (L5 := []) [37] [] [] [] [] rfl rfl rfl rfl rfl ?_
      refine go_puti (L1' := [(37, o27.1)]) (pc' := 104) hC 0 37 layM_0 rfl rfl inlX12 tyX12_ok nmX12 (Nat.le_of_ble_eq_true rfl) mw_254 rfl rfl rfl rfl dX12_restore_101 rfl rfl rfl ?_
      refine go_aload_n (pc' := 105) hC dX12_restore_104 rfl rfl ?_
      refine go_aload_n (pc' := 106) hC dX12_restore_105 rfl rfl ?_
      refine go_base (fun S31 hx => ?_)
      have hf := lz_r hx hf
      clear hx
      refine go_keys (L1 := [(80, (S31.1 80))]) (L2 := []) (L3 := []) (L4 := []) (L5 := []) [80] [] [] [] [] rfl rfl rfl rfl rfl ?_
      obtain ⟨o30, ho30, hf⟩ := bd_e hf
      refine go_callV1 (pc' := 109) (As := []) (st := [.ref (x_q X 0)]) (st' := [.int o30.1, .ref (x_q X 0)]) (L1' := [(80, o30.2)]) (L2' := []) (L3' := []) (L4' := []) (L5' := []) (cells' := 0) (slots' := 0)  (b := 0) hC dX12_restore_106 ⟨mw_1535, mw_1538, mw_5, yd_yX12_gets, yp_yX12_gets, Nat.le_of_ble_eq_true rfl, Nat.le_of_ble_eq_true rfl, (Nat.le_of_ble_eq_true rfl), (Nat.le_of_ble_eq_true rfl)⟩ mw_1536 mw_1537 layM_0 rfl rfl rfl (Nat.le_of_ble_eq_true rfl) (c_X12_gets (x_l X) (x_D X) (x_q X) g (x_cy X) (x_z X) _  o30 ho30) rfl rfl rfl rfl rfl rfl rfl rfl rfl rfl rfl rfl rfl rfl ?_
      refine go_base (fun S32 hx => ?_)
      have hf := lz_r hx hf
      clear hx
      refine go_keys (L1 := [(51, (S32.1 51))]) (L2 := []) (L3 := []) (L4 := []) (L5 := []) [51] [] [] [] [] rfl rfl rfl rfl rfl ?_
      refine go_puti (L1' := [(51, o30.1)]) (pc' := 112) hC 0 51 layM_0 rfl rfl inlX12 tyX12_ok nmX12 (Nat.le_of_ble_eq_true rfl) mw_255 rfl rfl rfl rfl dX12_restore_109 rfl rfl rfl ?_
      refine go_aload_n (pc' := 113) hC dX12_restore_112 rfl rfl ?_
      refine go_aload_n (pc' := 114) hC dX12_restore_113 rfl rfl ?_
      refine go_base (fun S34 hx => ?_)
      have hf := lz_r hx hf
      clear hx
      refine go_keys (L1 := [(80, (S34.1 80))]) (L2 := []) (L3 := []) (L4 := []) (L5 := []) [80] [] [] [] [] rfl rfl rfl rfl rfl ?_
      obtain ⟨o33, ho33, hf⟩ := bd_e hf
      refine go_callV1 (pc' := 117) (As := []) (st := [.ref (x_q X 0)]) (st' := [.int o33.1, .ref (x_q X 0)]) (L1' := [(80, o33.2)]) (L2' := []) (L3' := []) (L4' := []) (L5' := []) (cells' := 0) (slots' := 0)  (b := 0) hC dX12_restore_114 ⟨mw_1535, mw_1538, mw_5, yd_yX12_gets, yp_yX12_gets, Nat.le_of_ble_eq_true rfl, Nat.le_of_ble_eq_true rfl, (Nat.le_of_ble_eq_true rfl), (Nat.le_of_ble_eq_true rfl)⟩ mw_1536 mw_1537 layM_0 rfl rfl rfl (Nat.le_of_ble_eq_true rfl) (c_X12_gets (x_l X) (x_D X) (x_q X) g (x_cy X) (x_z X) _  o33 ho33) rfl rfl rfl rfl rfl rfl rfl rfl rfl rfl rfl rfl rfl rfl ?_
      refine go_base (fun S35 hx => ?_)
      have hf := lz_r hx hf
      clear hx
      refine go_keys (L1 := [(60, (S35.1 60))]) (L2 := []) (L3 := []) (L4 := []) (L5 := []) [60] [] [] [] [] rfl rfl rfl rfl rfl ?_
      refine go_puti (L1' := [(60, o33.1)]) (pc' := 120) hC 0 60 layM_0 rfl rfl inlX12 tyX12_ok nmX12 (Nat.le_of_ble_eq_true rfl) mw_256 rfl rfl rfl rfl dX12_restore_117 rfl rfl rfl ?_
      refine go_iconst (pc' := 121) hC dX12_restore_120 ki_0 rfl ?_
      refine go_istore_n (lc' := [(0, .ref (x_q X 0)), (1, .int p1), (2, .int (0 : Int32))]) (pc' := 122) hC dX12_restore_121 (Nat.le_of_ble_eq_true rfl) rfl rfl ?_
      obtain ⟨k203_37, hk203_37, hf⟩ := lk_e1 hf
      have jk203_37 : ∀ (S36 : wd_W), k203_37 S36 = some o → Go X layM S36 203 [(0, .ref (x_q X 0))] [] g [] [] [] [] [] 0 0 := by
        intro S36 hf
        have hf := hk203_37 S36 hf
        clear hk203_37
        refine go_iconst (pc' := 204) hC dX12_restore_203 ki_0 rfl ?_
        refine go_istore_n (lc' := [(0, .ref (x_q X 0)), (2, .int (0 : Int32))]) (pc' := 205) hC dX12_restore_204 (Nat.le_of_ble_eq_true rfl) rfl rfl ?_
        obtain ⟨k237_39, hk237_39, hf⟩ := lk_e1 hf
        have jk237_39 : ∀ (S38 : wd_W), k237_39 S38 = some o → Go X layM S38 237 [(0, .ref (x_q X 0))] [] g [] [] [] [] [] 0 0 := by
          intro S38 hf
          have hf := hk237_39 S38 hf
          clear hk237_39
          refine go_iconst (pc' := 238) hC dX12_restore_237 ki_0 rfl ?_
          refine go_istore_n (lc' := [(0, .ref (x_q X 0)), (2, .int (0 : Int32))]) (pc' := 239) hC dX12_restore_238 (Nat.le_of_ble_eq_true rfl) rfl rfl ?_
          obtain ⟨k261_41, hk261_41, hf⟩ := lk_e1 hf
          have jk261_41 : ∀ (S40 : wd_W), k261_41 S40 = some o → Go X layM S40 261 [(0, .ref (x_q X 0))] [] g [] [] [] [] [] 0 0 := by
            intro S40 hf
            have hf := hk261_41 S40 hf
            clear hk261_41
            refine go_iconst (pc' := 262) hC dX12_restore_261 ki_0 rfl ?_
            refine go_istore_n (lc' := [(0, .ref (x_q X 0)), (2, .int (0 : Int32))]) (pc' := 263) hC dX12_restore_262 (Nat.le_of_ble_eq_true rfl) rfl rfl ?_
            obtain ⟨k305_43, hk305_43, hf⟩ := lk_e1 hf
            have jk305_43 : ∀ (S42 : wd_W), k305_43 S42 = some o → Go X layM S42 305 [(0, .ref (x_q X 0))] [] g [] [] [] [] [] 0 0 := by
              intro S42 hf
              have hf := hk305_43 S42 hf
              clear hk305_43
              refine go_iconst (pc' := 306) hC dX12_restore_305 ki_0 rfl ?_
              refine go_istore_n (lc' := [(0, .ref (x_q X 0)), (2, .int (0 : Int32))]) (pc' := 307) hC dX12_restore_306 (Nat.le_of_ble_eq_true rfl) rfl rfl ?_
              obtain ⟨k358_45, hk358_45, hf⟩ := lk_e1 hf
              have jk358_45 : ∀ (S44 : wd_W), k358_45 S44 = some o → Go X layM S44 358 [(0, .ref (x_q X 0))] [] g [] [] [] [] [] 0 0 := by
                intro S44 hf
                have hf := hk358_45 S44 hf
                clear hk358_45
                refine go_aload_n (pc' := 359) hC dX12_restore_358 rfl rfl ?_
                refine go_iconst (pc' := 360) hC dX12_restore_359 ki_0 rfl ?_
                refine go_keys (L1 := [(55, (S44.1 55))]) (L2 := []) (L3 := []) (L4 := []) (L5 := []) [55] [] [] [] [] rfl rfl rfl rfl rfl ?_
                refine go_puti (L1' := [(55, (0 : Int32))]) (pc' := 363) hC 0 55 layM_0 rfl rfl inlX12 tyX12_ok nmX12 (Nat.le_of_ble_eq_true rfl) mw_257 rfl rfl rfl rfl dX12_restore_360 rfl rfl rfl ?_
                refine go_aload_n (pc' := 364) hC dX12_restore_363 rfl rfl ?_
                refine go_iconst (pc' := 365) hC dX12_restore_364 ki_0 rfl ?_
                refine go_base (fun S46 hx => ?_)
                have hf := lz_r hx hf
                clear hx
                refine go_keys (L1 := [(44, (S46.1 44))]) (L2 := []) (L3 := []) (L4 := []) (L5 := []) [44] [] [] [] [] rfl rfl rfl rfl rfl ?_
                refine go_puti (L1' := [(44, (0 : Int32))]) (pc' := 368) hC 0 44 layM_0 rfl rfl inlX12 tyX12_ok nmX12 (Nat.le_of_ble_eq_true rfl) mw_258 rfl rfl rfl rfl dX12_restore_365 rfl rfl rfl ?_
                refine go_aload_n (pc' := 369) hC dX12_restore_368 rfl rfl ?_
                refine go_geti (v := (S46.1 32)) (pc' := 372) hC 0 32 layM_0 rfl rfl inlX12 (Nat.le_of_ble_eq_true rfl) mw_250 rfl dX12_restore_369 rfl rfl ?_
                obtain rfl := Option.some.inj hf
                exact go_iret hC hQ dX12_restore_372 rfl rfl rfl rfl (fun _ => rfl) rfl rfl
              clear hk358_45
              have l307_69 : ∀ (nn : Nat) (x47 : Int32) (S48 : wd_W), it2 (f_X12_restore_L307 k358_45) nn x47 S48 = some o → Go X layM S48 307 [(0, .ref (x_q X 0)), (2, .int x47)] [] g [] [] [] [] [] 0 0 := by
                intro nn
                induction nn with
                | zero =>
                  intro x47 S48 hf
                  exact none_no hf
                | succ nn ih =>
                  intro x47 S48 hf
                  have hf : f_X12_restore_L307 k358_45 (it2 (f_X12_restore_L307 k358_45) nn) x47 S48 = some o := hf
                  generalize it2 (f_X12_restore_L307 k358_45) nn = r49 at ih hf
                  unfold f_X12_restore_L307 at hf
                  refine go_iload_n (pc' := 308) hC dX12_restore_307 rfl rfl ?_
                  refine go_bipush (pc' := 310) hC dX12_restore_308 kb_6 rfl ?_
                  refine go_icmp_ge (tgt := 358) (pc' := 313) hC dX12_restore_310 (by decide) rfl (fun h68 => ?_) (fun h68 => ?_)
                  · have hf := ite_t h68 hf
                    refine go_sub [0] rfl ?_
                    exact jk358_45 S48 hf
                  · have hf := ite_f h68 hf
                    refine go_aload_n (pc' := 314) hC dX12_restore_313 rfl rfl ?_
                    refine go_getq (pc' := 317) hC 0 61 layM_0 rfl rfl inlX12 (Nat.le_of_ble_eq_true rfl) mw_213 rfl dX12_restore_314 rfl ?_
                    refine go_iload_n (pc' := 318) hC dX12_restore_317 rfl rfl ?_
                    refine go_aload_n (pc' := 319) hC dX12_restore_318 rfl rfl ?_
                    refine go_keys (L1 := [(80, (S48.1 80))]) (L2 := []) (L3 := []) (L4 := []) (L5 := []) [80] [] [] [] [] rfl rfl rfl rfl rfl ?_
                    obtain ⟨o50, ho50, hf⟩ := bd_e hf
                    refine go_callV1 (pc' := 322) (As := []) (st := [.int x47, .ref (x_q X 32)]) (st' := [.int o50.1, .int x47, .ref (x_q X 32)]) (L1' := [(80, o50.2)]) (L2' := []) (L3' := []) (L4' := []) (L5' := []) (cells' := 0) (slots' := 0)  (b := 0) hC dX12_restore_319 ⟨mw_1535, mw_1538, mw_5, yd_yX12_gets, yp_yX12_gets, Nat.le_of_ble_eq_true rfl, Nat.le_of_ble_eq_true rfl, (Nat.le_of_ble_eq_true rfl), (Nat.le_of_ble_eq_true rfl)⟩ mw_1536 mw_1537 layM_0 rfl rfl rfl (Nat.le_of_ble_eq_true rfl) (c_X12_gets (x_l X) (x_D X) (x_q X) g (x_cy X) (x_z X) _  o50 ho50) rfl rfl rfl rfl rfl rfl rfl rfl rfl rfl rfl rfl rfl rfl ?_
                    refine go_base (fun S51 hx => ?_)
                    have hf := lz_r hx hf
                    clear hx
                    refine go_keys (L1 := []) (L2 := []) (L3 := [(32, (S51.2.2.1 32))]) (L4 := []) (L5 := []) [] [] [32] [] [] rfl rfl rfl rfl rfl ?_
                    obtain ⟨h52, hf⟩ := gd_e hf
                    refine go_iast (f := (S51.2.2.1 32)) (pc' := 323) hC 32 layM_32 rfl rfl dX12_restore_322 (okx_in h52) rfl rfl (fun a53 ha L3' hL => ?_)
                    have hf := lz_r ha hf
                    clear ha
                    obtain rfl : L3' = [(32, a53)] := hL.symm
                    refine go_aload_n (pc' := 324) hC dX12_restore_323 rfl rfl ?_
                    refine go_getq (pc' := 327) hC 0 62 layM_0 rfl rfl inlX12 (Nat.le_of_ble_eq_true rfl) mw_214 rfl dX12_restore_324 rfl ?_
                    refine go_iload_n (pc' := 328) hC dX12_restore_327 rfl rfl ?_
                    refine go_aload_n (pc' := 329) hC dX12_restore_328 rfl rfl ?_
                    refine go_base (fun S55 hx => ?_)
                    have hf := lz_r hx hf
                    clear hx
                    refine go_keys (L1 := [(80, (S55.1 80))]) (L2 := []) (L3 := []) (L4 := []) (L5 := []) [80] [] [] [] [] rfl rfl rfl rfl rfl ?_
                    obtain ⟨o54, ho54, hf⟩ := bd_e hf
                    refine go_callV1 (pc' := 332) (As := []) (st := [.int x47, .ref (x_q X 33)]) (st' := [.int o54.1, .int x47, .ref (x_q X 33)]) (L1' := [(80, o54.2)]) (L2' := []) (L3' := []) (L4' := []) (L5' := []) (cells' := 0) (slots' := 0)  (b := 0) hC dX12_restore_329 ⟨mw_1535, mw_1538, mw_5, yd_yX12_gets, yp_yX12_gets, Nat.le_of_ble_eq_true rfl, Nat.le_of_ble_eq_true rfl, (Nat.le_of_ble_eq_true rfl), (Nat.le_of_ble_eq_true rfl)⟩ mw_1536 mw_1537 layM_0 rfl rfl rfl (Nat.le_of_ble_eq_true rfl) (c_X12_gets (x_l X) (x_D X) (x_q X) g (x_cy X) (x_z X) _  o54 ho54) rfl rfl rfl rfl rfl rfl rfl rfl rfl rfl rfl rfl rfl rfl ?_
                    refine go_base (fun S56 hx => ?_)
                    have hf := lz_r hx hf
                    clear hx
                    refine go_keys (L1 := []) (L2 := []) (L3 := [(33, (S56.2.2.1 33))]) (L4 := []) (L5 := []) [] [] [33] [] [] rfl rfl rfl rfl rfl ?_
                    obtain ⟨h57, hf⟩ := gd_e hf
                    refine go_iast (f := (S56.2.2.1 33)) (pc' := 333) hC 33 layM_33 rfl rfl dX12_restore_332 (okx_in h57) rfl rfl (fun a58 ha L3' hL => ?_)
                    have hf := lz_r ha hf
                    clear ha
                    obtain rfl : L3' = [(33, a58)] := hL.symm
                    refine go_aload_n (pc' := 334) hC dX12_restore_333 rfl rfl ?_
                    refine go_getq (pc' := 337) hC 0 63 layM_0 rfl rfl inlX12 (Nat.le_of_ble_eq_true rfl) mw_215 rfl dX12_restore_334 rfl ?_
                    refine go_iload_n (pc' := 338) hC dX12_restore_337 rfl rfl ?_
                    refine go_aload_n (pc' := 339) hC dX12_restore_338 rfl rfl ?_
                    refine go_base (fun S60 hx => ?_)
                    have hf := lz_r hx hf
                    clear hx
                    refine go_keys (L1 := [(80, (S60.1 80))]) (L2 := []) (L3 := []) (L4 := []) (L5 := []) [80] [] [] [] [] rfl rfl rfl rfl rfl ?_
                    obtain ⟨o59, ho59, hf⟩ := bd_e hf
                    refine go_callV1 (pc' := 342) (As := []) (st := [.int x47, .ref (x_q X 34)]) (st' := [.int o59.1, .int x47, .ref (x_q X 34)]) (L1' := [(80, o59.2)]) (L2' := []) (L3' := []) (L4' := []) (L5' := []) (cells' := 0) (slots' := 0)  (b := 0) hC dX12_restore_339 ⟨mw_1535, mw_1538, mw_5, yd_yX12_gets, yp_yX12_gets, Nat.le_of_ble_eq_true rfl, Nat.le_of_ble_eq_true rfl, (Nat.le_of_ble_eq_true rfl), (Nat.le_of_ble_eq_true rfl)⟩ mw_1536 mw_1537 layM_0 rfl rfl rfl (Nat.le_of_ble_eq_true rfl) (c_X12_gets (x_l X) (x_D X) (x_q X) g (x_cy X) (x_z X) _  o59 ho59) rfl rfl rfl rfl rfl rfl rfl rfl rfl rfl rfl rfl rfl rfl ?_
                    refine go_iconst (pc' := 343) hC dX12_restore_342 ki_1 rfl ?_
                    obtain ⟨k351_63, hk351_63, hf⟩ := lk_e2 hf
                    have jk351_63 : ∀ (x61 : Int32) (x62 : Int32), k351_63 x61 x62 = some o → Go X layM S60 351 [(0, .ref (x_q X 0)), (2, .int x47)] [.int x61, .int x62, .ref (x_q X 34)] g [(80, o59.2)] [] [] [] [] 0 0 := by
                      intro x61 x62 hf
                      have hf := hk351_63 x61 x62 hf
                      clear hk351_63
                      refine go_base (fun S64 hx => ?_)
                      have hf := lz_r hx hf
                      clear hx
                      refine go_keys (L1 := []) (L2 := []) (L3 := [(34, (S64.2.2.1 34))]) (L4 := []) (L5 := []) [] [] [34] [] [] rfl rfl rfl rfl rfl ?_
                      obtain ⟨h65, hf⟩ := gd_e hf
                      refine go_zast (f := (S64.2.2.1 34)) (pc' := 352) hC 34 layM_34 rfl rfl dX12_restore_351 (okx_in h65) rfl rfl (fun a66 ha L3' hL => ?_)
                      have hf := lz_r ha hf
                      clear ha
                      obtain rfl : L3' = [(34, a66)] := hL.symm
                      refine go_iinc (lc' := [(0, .ref (x_q X 0)), (2, .int (x47 + (1 : Int32)))]) (pc' := 355) hC dX12_restore_352 rfl ki_1 (Nat.le_of_ble_eq_true rfl) rfl rfl ?_
                      refine go_goto (tgt := 307) hC dX12_restore_355 (by decide) ?_
                      refine go_base (fun S9 hS9 => ?_)
                      subst hS9
                      exact ih (x47 + (1 : Int32)) (wd_o S64 [] [] [(34, a66)] [] []) hf
                    clear hk351_63
                    refine go_icmp_ne (tgt := 350) (pc' := 346) hC dX12_restore_343 (by decide) rfl (fun h67 => ?_) (fun h67 => ?_)
                    · have hf := ite_f h67 hf
                      refine go_iconst (pc' := 351) hC dX12_restore_350 ki_0 rfl ?_
                      exact jk351_63 (0 : Int32) x47 hf
                    · have hf := ite_t h67 hf
                      refine go_iconst (pc' := 347) hC dX12_restore_346 ki_1 rfl ?_
                      refine go_goto (tgt := 351) hC dX12_restore_347 (by decide) ?_
                      exact jk351_63 (1 : Int32) x47 hf
              exact l307_69 fuel (0 : Int32) S42 hf
            clear hk305_43
            have l263_88 : ∀ (nn : Nat) (x70 : Int32) (S71 : wd_W), it2 (f_X12_restore_L263 k305_43) nn x70 S71 = some o → Go X layM S71 263 [(0, .ref (x_q X 0)), (2, .int x70)] [] g [] [] [] [] [] 0 0 := by
              intro nn
              induction nn with
              | zero =>
                intro x70 S71 hf
                exact none_no hf
              | succ nn ih =>
                intro x70 S71 hf
                have hf : f_X12_restore_L263 k305_43 (it2 (f_X12_restore_L263 k305_43) nn) x70 S71 = some o := hf
                generalize it2 (f_X12_restore_L263 k305_43) nn = r72 at ih hf
                unfold f_X12_restore_L263 at hf
                refine go_iload_n (pc' := 264) hC dX12_restore_263 rfl rfl ?_
                refine go_bipush (pc' := 266) hC dX12_restore_264 kb_9 rfl ?_
                refine go_icmp_ge (tgt := 305) (pc' := 269) hC dX12_restore_266 (by decide) rfl (fun h87 => ?_) (fun h87 => ?_)
                · have hf := ite_t h87 hf
                  refine go_sub [0] rfl ?_
                  exact jk305_43 S71 hf
                · have hf := ite_f h87 hf
                  refine go_aload_n (pc' := 270) hC dX12_restore_269 rfl rfl ?_
                  refine go_getq (pc' := 273) hC 0 52 layM_0 rfl rfl inlX12 (Nat.le_of_ble_eq_true rfl) mw_208 rfl dX12_restore_270 rfl ?_
                  refine go_iload_n (pc' := 274) hC dX12_restore_273 rfl rfl ?_
                  refine go_aload_n (pc' := 275) hC dX12_restore_274 rfl rfl ?_
                  refine go_keys (L1 := [(80, (S71.1 80))]) (L2 := []) (L3 := []) (L4 := []) (L5 := []) [80] [] [] [] [] rfl rfl rfl rfl rfl ?_
                  obtain ⟨o73, ho73, hf⟩ := bd_e hf
                  refine go_callV1 (pc' := 278) (As := []) (st := [.int x70, .ref (x_q X 27)]) (st' := [.int o73.1, .int x70, .ref (x_q X 27)]) (L1' := [(80, o73.2)]) (L2' := []) (L3' := []) (L4' := []) (L5' := []) (cells' := 0) (slots' := 0)  (b := 0) hC dX12_restore_275 ⟨mw_1535, mw_1538, mw_5, yd_yX12_gets, yp_yX12_gets, Nat.le_of_ble_eq_true rfl, Nat.le_of_ble_eq_true rfl, (Nat.le_of_ble_eq_true rfl), (Nat.le_of_ble_eq_true rfl)⟩ mw_1536 mw_1537 layM_0 rfl rfl rfl (Nat.le_of_ble_eq_true rfl) (c_X12_gets (x_l X) (x_D X) (x_q X) g (x_cy X) (x_z X) _  o73 ho73) rfl rfl rfl rfl rfl rfl rfl rfl rfl rfl rfl rfl rfl rfl ?_
                  refine go_base (fun S74 hx => ?_)
                  have hf := lz_r hx hf
                  clear hx
                  refine go_keys (L1 := []) (L2 := []) (L3 := [(27, (S74.2.2.1 27))]) (L4 := []) (L5 := []) [] [] [27] [] [] rfl rfl rfl rfl rfl ?_
                  obtain ⟨h75, hf⟩ := gd_e hf
                  refine go_iast (f := (S74.2.2.1 27)) (pc' := 279) hC 27 layM_27 rfl rfl dX12_restore_278 (okx_in h75) rfl rfl (fun a76 ha L3' hL => ?_)
                  have hf := lz_r ha hf
                  clear ha
                  obtain rfl : L3' = [(27, a76)] := hL.symm
                  refine go_aload_n (pc' := 280) hC dX12_restore_279 rfl rfl ?_
                  refine go_getq (pc' := 283) hC 0 53 layM_0 rfl rfl inlX12 (Nat.le_of_ble_eq_true rfl) mw_209 rfl dX12_restore_280 rfl ?_
                  refine go_iload_n (pc' := 284) hC dX12_restore_283 rfl rfl ?_
                  refine go_aload_n (pc' := 285) hC dX12_restore_284 rfl rfl ?_
                  refine go_base (fun S78 hx => ?_)
                  have hf := lz_r hx hf
                  clear hx
                  refine go_keys (L1 := [(80, (S78.1 80))]) (L2 := []) (L3 := []) (L4 := []) (L5 := []) [80] [] [] [] [] rfl rfl rfl rfl rfl ?_
                  obtain ⟨o77, ho77, hf⟩ := bd_e hf
                  refine go_callV1 (pc' := 288) (As := []) (st := [.int x70, .ref (x_q X 28)]) (st' := [.int o77.1, .int x70, .ref (x_q X 28)]) (L1' := [(80, o77.2)]) (L2' := []) (L3' := []) (L4' := []) (L5' := []) (cells' := 0) (slots' := 0)  (b := 0) hC dX12_restore_285 ⟨mw_1535, mw_1538, mw_5, yd_yX12_gets, yp_yX12_gets, Nat.le_of_ble_eq_true rfl, Nat.le_of_ble_eq_true rfl, (Nat.le_of_ble_eq_true rfl), (Nat.le_of_ble_eq_true rfl)⟩ mw_1536 mw_1537 layM_0 rfl rfl rfl (Nat.le_of_ble_eq_true rfl) (c_X12_gets (x_l X) (x_D X) (x_q X) g (x_cy X) (x_z X) _  o77 ho77) rfl rfl rfl rfl rfl rfl rfl rfl rfl rfl rfl rfl rfl rfl ?_
                  refine go_base (fun S79 hx => ?_)
                  have hf := lz_r hx hf
                  clear hx
                  refine go_keys (L1 := []) (L2 := []) (L3 := [(28, (S79.2.2.1 28))]) (L4 := []) (L5 := []) [] [] [28] [] [] rfl rfl rfl rfl rfl ?_
                  obtain ⟨h80, hf⟩ := gd_e hf
                  refine go_iast (f := (S79.2.2.1 28)) (pc' := 289) hC 28 layM_28 rfl rfl dX12_restore_288 (okx_in h80) rfl rfl (fun a81 ha L3' hL => ?_)
                  have hf := lz_r ha hf
                  clear ha
                  obtain rfl : L3' = [(28, a81)] := hL.symm
                  refine go_aload_n (pc' := 290) hC dX12_restore_289 rfl rfl ?_
                  refine go_getq (pc' := 293) hC 0 54 layM_0 rfl rfl inlX12 (Nat.le_of_ble_eq_true rfl) mw_210 rfl dX12_restore_290 rfl ?_
                  refine go_iload_n (pc' := 294) hC dX12_restore_293 rfl rfl ?_
                  refine go_aload_n (pc' := 295) hC dX12_restore_294 rfl rfl ?_
                  refine go_base (fun S83 hx => ?_)
                  have hf := lz_r hx hf
                  clear hx
                  refine go_keys (L1 := [(80, (S83.1 80))]) (L2 := []) (L3 := []) (L4 := []) (L5 := []) [80] [] [] [] [] rfl rfl rfl rfl rfl ?_
                  obtain ⟨o82, ho82, hf⟩ := bd_e hf
                  refine go_callV1 (pc' := 298) (As := []) (st := [.int x70, .ref (x_q X 29)]) (st' := [.int o82.1, .int x70, .ref (x_q X 29)]) (L1' := [(80, o82.2)]) (L2' := []) (L3' := []) (L4' := []) (L5' := []) (cells' := 0) (slots' := 0)  (b := 0) hC dX12_restore_295 ⟨mw_1535, mw_1538, mw_5, yd_yX12_gets, yp_yX12_gets, Nat.le_of_ble_eq_true rfl, Nat.le_of_ble_eq_true rfl, (Nat.le_of_ble_eq_true rfl), (Nat.le_of_ble_eq_true rfl)⟩ mw_1536 mw_1537 layM_0 rfl rfl rfl (Nat.le_of_ble_eq_true rfl) (c_X12_gets (x_l X) (x_D X) (x_q X) g (x_cy X) (x_z X) _  o82 ho82) rfl rfl rfl rfl rfl rfl rfl rfl rfl rfl rfl rfl rfl rfl ?_
                  refine go_base (fun S84 hx => ?_)
                  have hf := lz_r hx hf
                  clear hx
                  refine go_keys (L1 := []) (L2 := []) (L3 := [(29, (S84.2.2.1 29))]) (L4 := []) (L5 := []) [] [] [29] [] [] rfl rfl rfl rfl rfl ?_
                  obtain ⟨h85, hf⟩ := gd_e hf
                  refine go_iast (f := (S84.2.2.1 29)) (pc' := 299) hC 29 layM_29 rfl rfl dX12_restore_298 (okx_in h85) rfl rfl (fun a86 ha L3' hL => ?_)
                  have hf := lz_r ha hf
                  clear ha
                  obtain rfl : L3' = [(29, a86)] := hL.symm
                  refine go_iinc (lc' := [(0, .ref (x_q X 0)), (2, .int (x70 + (1 : Int32)))]) (pc' := 302) hC dX12_restore_299 rfl ki_1 (Nat.le_of_ble_eq_true rfl) rfl rfl ?_
                  refine go_goto (tgt := 263) hC dX12_restore_302 (by decide) ?_
                  refine go_base (fun S9 hS9 => ?_)
                  subst hS9
                  exact ih (x70 + (1 : Int32)) (wd_o S84 [] [] [(29, a86)] [] []) hf
            exact l263_88 fuel (0 : Int32) S40 hf
          clear hk261_41
          have l239_97 : ∀ (nn : Nat) (x89 : Int32) (S90 : wd_W), it2 (f_X12_restore_L239 k261_41) nn x89 S90 = some o → Go X layM S90 239 [(0, .ref (x_q X 0)), (2, .int x89)] [] g [] [] [] [] [] 0 0 := by
            intro nn
            induction nn with
            | zero =>
              intro x89 S90 hf
              exact none_no hf
            | succ nn ih =>
              intro x89 S90 hf
              have hf : f_X12_restore_L239 k261_41 (it2 (f_X12_restore_L239 k261_41) nn) x89 S90 = some o := hf
              generalize it2 (f_X12_restore_L239 k261_41) nn = r91 at ih hf
              unfold f_X12_restore_L239 at hf
              refine go_iload_n (pc' := 240) hC dX12_restore_239 rfl rfl ?_
              refine go_bipush (pc' := 242) hC dX12_restore_240 kb_15 rfl ?_
              refine go_icmp_ge (tgt := 261) (pc' := 245) hC dX12_restore_242 (by decide) rfl (fun h96 => ?_) (fun h96 => ?_)
              · have hf := ite_t h96 hf
                refine go_sub [0] rfl ?_
                exact jk261_41 S90 hf
              · have hf := ite_f h96 hf
                refine go_aload_n (pc' := 246) hC dX12_restore_245 rfl rfl ?_
                refine go_getq (pc' := 249) hC 0 33 layM_0 rfl rfl inlX12 (Nat.le_of_ble_eq_true rfl) mw_196 rfl dX12_restore_246 rfl ?_
                refine go_iload_n (pc' := 250) hC dX12_restore_249 rfl rfl ?_
                refine go_aload_n (pc' := 251) hC dX12_restore_250 rfl rfl ?_
                refine go_keys (L1 := [(80, (S90.1 80))]) (L2 := []) (L3 := []) (L4 := []) (L5 := []) [80] [] [] [] [] rfl rfl rfl rfl rfl ?_
                obtain ⟨o92, ho92, hf⟩ := bd_e hf
                refine go_callV1 (pc' := 254) (As := []) (st := [.int x89, .ref (x_q X 16)]) (st' := [.int o92.1, .int x89, .ref (x_q X 16)]) (L1' := [(80, o92.2)]) (L2' := []) (L3' := []) (L4' := []) (L5' := []) (cells' := 0) (slots' := 0)  (b := 0) hC dX12_restore_251 ⟨mw_1535, mw_1538, mw_5, yd_yX12_gets, yp_yX12_gets, Nat.le_of_ble_eq_true rfl, Nat.le_of_ble_eq_true rfl, (Nat.le_of_ble_eq_true rfl), (Nat.le_of_ble_eq_true rfl)⟩ mw_1536 mw_1537 layM_0 rfl rfl rfl (Nat.le_of_ble_eq_true rfl) (c_X12_gets (x_l X) (x_D X) (x_q X) g (x_cy X) (x_z X) _  o92 ho92) rfl rfl rfl rfl rfl rfl rfl rfl rfl rfl rfl rfl rfl rfl ?_
                refine go_base (fun S93 hx => ?_)
                have hf := lz_r hx hf
                clear hx
                refine go_keys (L1 := []) (L2 := []) (L3 := [(16, (S93.2.2.1 16))]) (L4 := []) (L5 := []) [] [] [16] [] [] rfl rfl rfl rfl rfl ?_
                obtain ⟨h94, hf⟩ := gd_e hf
                refine go_iast (f := (S93.2.2.1 16)) (pc' := 255) hC 16 layM_16 rfl rfl dX12_restore_254 (okx_in h94) rfl rfl (fun a95 ha L3' hL => ?_)
                have hf := lz_r ha hf
                clear ha
                obtain rfl : L3' = [(16, a95)] := hL.symm
                refine go_iinc (lc' := [(0, .ref (x_q X 0)), (2, .int (x89 + (1 : Int32)))]) (pc' := 258) hC dX12_restore_255 rfl ki_1 (Nat.le_of_ble_eq_true rfl) rfl rfl ?_
                refine go_goto (tgt := 239) hC dX12_restore_258 (by decide) ?_
                refine go_base (fun S9 hS9 => ?_)
                subst hS9
                exact ih (x89 + (1 : Int32)) (wd_o S93 [] [] [(16, a95)] [] []) hf
          exact l239_97 fuel (0 : Int32) S38 hf
        clear hk237_39
        have l205_111 : ∀ (nn : Nat) (x98 : Int32) (S99 : wd_W), it2 (f_X12_restore_L205 k237_39) nn x98 S99 = some o → Go X layM S99 205 [(0, .ref (x_q X 0)), (2, .int x98)] [] g [] [] [] [] [] 0 0 := by
          intro nn
          induction nn with
          | zero =>
            intro x98 S99 hf
            exact none_no hf
          | succ nn ih =>
            intro x98 S99 hf
            have hf : f_X12_restore_L205 k237_39 (it2 (f_X12_restore_L205 k237_39) nn) x98 S99 = some o := hf
            generalize it2 (f_X12_restore_L205 k237_39) nn = r100 at ih hf
            unfold f_X12_restore_L205 at hf
            refine go_iload_n (pc' := 206) hC dX12_restore_205 rfl rfl ?_
            refine go_bipush (pc' := 208) hC dX12_restore_206 kb_10 rfl ?_
            refine go_icmp_ge (tgt := 237) (pc' := 211) hC dX12_restore_208 (by decide) rfl (fun h110 => ?_) (fun h110 => ?_)
            · have hf := ite_t h110 hf
              refine go_sub [0] rfl ?_
              exact jk237_39 S99 hf
            · have hf := ite_f h110 hf
              refine go_aload_n (pc' := 212) hC dX12_restore_211 rfl rfl ?_
              refine go_getq (pc' := 215) hC 0 28 layM_0 rfl rfl inlX12 (Nat.le_of_ble_eq_true rfl) mw_194 rfl dX12_restore_212 rfl ?_
              refine go_iload_n (pc' := 216) hC dX12_restore_215 rfl rfl ?_
              refine go_aload_n (pc' := 217) hC dX12_restore_216 rfl rfl ?_
              refine go_keys (L1 := [(80, (S99.1 80))]) (L2 := []) (L3 := []) (L4 := []) (L5 := []) [80] [] [] [] [] rfl rfl rfl rfl rfl ?_
              obtain ⟨o101, ho101, hf⟩ := bd_e hf
              refine go_callV1 (pc' := 220) (As := []) (st := [.int x98, .ref (x_q X 14)]) (st' := [.int o101.1, .int x98, .ref (x_q X 14)]) (L1' := [(80, o101.2)]) (L2' := []) (L3' := []) (L4' := []) (L5' := []) (cells' := 0) (slots' := 0)  (b := 0) hC dX12_restore_217 ⟨mw_1535, mw_1538, mw_5, yd_yX12_gets, yp_yX12_gets, Nat.le_of_ble_eq_true rfl, Nat.le_of_ble_eq_true rfl, (Nat.le_of_ble_eq_true rfl), (Nat.le_of_ble_eq_true rfl)⟩ mw_1536 mw_1537 layM_0 rfl rfl rfl (Nat.le_of_ble_eq_true rfl) (c_X12_gets (x_l X) (x_D X) (x_q X) g (x_cy X) (x_z X) _  o101 ho101) rfl rfl rfl rfl rfl rfl rfl rfl rfl rfl rfl rfl rfl rfl ?_
              refine go_base (fun S102 hx => ?_)
              have hf := lz_r hx hf
              clear hx
              refine go_keys (L1 := []) (L2 := []) (L3 := [(14, (S102.2.2.1 14))]) (L4 := []) (L5 := []) [] [] [14] [] [] rfl rfl rfl rfl rfl ?_
              obtain ⟨h103, hf⟩ := gd_e hf
              refine go_iast (f := (S102.2.2.1 14)) (pc' := 221) hC 14 layM_14 rfl rfl dX12_restore_220 (okx_in h103) rfl rfl (fun a104 ha L3' hL => ?_)
              have hf := lz_r ha hf
              clear ha
              obtain rfl : L3' = [(14, a104)] := hL.symm
              refine go_aload_n (pc' := 222) hC dX12_restore_221 rfl rfl ?_
              refine go_getq (pc' := 225) hC 0 29 layM_0 rfl rfl inlX12 (Nat.le_of_ble_eq_true rfl) mw_195 rfl dX12_restore_222 rfl ?_
              refine go_iload_n (pc' := 226) hC dX12_restore_225 rfl rfl ?_
              refine go_aload_n (pc' := 227) hC dX12_restore_226 rfl rfl ?_
              refine go_base (fun S106 hx => ?_)
              have hf := lz_r hx hf
              clear hx
              refine go_keys (L1 := [(80, (S106.1 80))]) (L2 := []) (L3 := []) (L4 := []) (L5 := []) [80] [] [] [] [] rfl rfl rfl rfl rfl ?_
              obtain ⟨o105, ho105, hf⟩ := bd_e hf
              refine go_callV1 (pc' := 230) (As := []) (st := [.int x98, .ref (x_q X 15)]) (st' := [.int o105.1, .int x98, .ref (x_q X 15)]) (L1' := [(80, o105.2)]) (L2' := []) (L3' := []) (L4' := []) (L5' := []) (cells' := 0) (slots' := 0)  (b := 0) hC dX12_restore_227 ⟨mw_1535, mw_1538, mw_5, yd_yX12_gets, yp_yX12_gets, Nat.le_of_ble_eq_true rfl, Nat.le_of_ble_eq_true rfl, (Nat.le_of_ble_eq_true rfl), (Nat.le_of_ble_eq_true rfl)⟩ mw_1536 mw_1537 layM_0 rfl rfl rfl (Nat.le_of_ble_eq_true rfl) (c_X12_gets (x_l X) (x_D X) (x_q X) g (x_cy X) (x_z X) _  o105 ho105) rfl rfl rfl rfl rfl rfl rfl rfl rfl rfl rfl rfl rfl rfl ?_
              refine go_base (fun S107 hx => ?_)
              have hf := lz_r hx hf
              clear hx
              refine go_keys (L1 := []) (L2 := []) (L3 := [(15, (S107.2.2.1 15))]) (L4 := []) (L5 := []) [] [] [15] [] [] rfl rfl rfl rfl rfl ?_
              obtain ⟨h108, hf⟩ := gd_e hf
              refine go_iast (f := (S107.2.2.1 15)) (pc' := 231) hC 15 layM_15 rfl rfl dX12_restore_230 (okx_in h108) rfl rfl (fun a109 ha L3' hL => ?_)
              have hf := lz_r ha hf
              clear ha
              obtain rfl : L3' = [(15, a109)] := hL.symm
              refine go_iinc (lc' := [(0, .ref (x_q X 0)), (2, .int (x98 + (1 : Int32)))]) (pc' := 234) hC dX12_restore_231 rfl ki_1 (Nat.le_of_ble_eq_true rfl) rfl rfl ?_
              refine go_goto (tgt := 205) hC dX12_restore_234 (by decide) ?_
              refine go_base (fun S9 hS9 => ?_)
              subst hS9
              exact ih (x98 + (1 : Int32)) (wd_o S107 [] [] [(15, a109)] [] []) hf
        exact l205_111 fuel (0 : Int32) S36 hf
      clear hk203_37
      have l122_149 : ∀ (nn : Nat) (x112 : Int32) (S113 : wd_W), it2 (f_X12_restore_L122 k203_37) nn x112 S113 = some o → Go X layM S113 122 [(0, .ref (x_q X 0)), (2, .int x112)] [] g [] [] [] [] [] 0 0 := by
        intro nn
        induction nn with
        | zero =>
          intro x112 S113 hf
          exact none_no hf
        | succ nn ih =>
          intro x112 S113 hf
          have hf : f_X12_restore_L122 k203_37 (it2 (f_X12_restore_L122 k203_37) nn) x112 S113 = some o := hf
          generalize it2 (f_X12_restore_L122 k203_37) nn = r114 at ih hf
          unfold f_X12_restore_L122 at hf
          refine go_iload_n (pc' := 123) hC dX12_restore_122 rfl rfl ?_
          refine go_bipush (pc' := 125) hC dX12_restore_123 kb_12 rfl ?_
          refine go_icmp_ge (tgt := 203) (pc' := 128) hC dX12_restore_125 (by decide) rfl (fun h148 => ?_) (fun h148 => ?_)
          · have hf := ite_t h148 hf
            refine go_sub [0] rfl ?_
            exact jk203_37 S113 hf
          · have hf := ite_f h148 hf
            refine go_aload_n (pc' := 129) hC dX12_restore_128 rfl rfl ?_
            refine go_getq (pc' := 132) hC 0 22 layM_0 rfl rfl inlX12 (Nat.le_of_ble_eq_true rfl) mw_187 rfl dX12_restore_129 rfl ?_
            refine go_iload_n (pc' := 133) hC dX12_restore_132 rfl rfl ?_
            refine go_aload_n (pc' := 134) hC dX12_restore_133 rfl rfl ?_
            refine go_keys (L1 := [(80, (S113.1 80))]) (L2 := []) (L3 := []) (L4 := []) (L5 := []) [80] [] [] [] [] rfl rfl rfl rfl rfl ?_
            obtain ⟨o115, ho115, hf⟩ := bd_e hf
            refine go_callV1 (pc' := 137) (As := []) (st := [.int x112, .ref (x_q X 8)]) (st' := [.int o115.1, .int x112, .ref (x_q X 8)]) (L1' := [(80, o115.2)]) (L2' := []) (L3' := []) (L4' := []) (L5' := []) (cells' := 0) (slots' := 0)  (b := 0) hC dX12_restore_134 ⟨mw_1535, mw_1538, mw_5, yd_yX12_gets, yp_yX12_gets, Nat.le_of_ble_eq_true rfl, Nat.le_of_ble_eq_true rfl, (Nat.le_of_ble_eq_true rfl), (Nat.le_of_ble_eq_true rfl)⟩ mw_1536 mw_1537 layM_0 rfl rfl rfl (Nat.le_of_ble_eq_true rfl) (c_X12_gets (x_l X) (x_D X) (x_q X) g (x_cy X) (x_z X) _  o115 ho115) rfl rfl rfl rfl rfl rfl rfl rfl rfl rfl rfl rfl rfl rfl ?_
            refine go_base (fun S116 hx => ?_)
            have hf := lz_r hx hf
            clear hx
            refine go_keys (L1 := []) (L2 := []) (L3 := [(8, (S116.2.2.1 8))]) (L4 := []) (L5 := []) [] [] [8] [] [] rfl rfl rfl rfl rfl ?_
            obtain ⟨h117, hf⟩ := gd_e hf
            refine go_iast (f := (S116.2.2.1 8)) (pc' := 138) hC 8 layM_8 rfl rfl dX12_restore_137 (okx_in h117) rfl rfl (fun a118 ha L3' hL => ?_)
            have hf := lz_r ha hf
            clear ha
            obtain rfl : L3' = [(8, a118)] := hL.symm
            refine go_aload_n (pc' := 139) hC dX12_restore_138 rfl rfl ?_
            refine go_getq (pc' := 142) hC 0 23 layM_0 rfl rfl inlX12 (Nat.le_of_ble_eq_true rfl) mw_188 rfl dX12_restore_139 rfl ?_
            refine go_iload_n (pc' := 143) hC dX12_restore_142 rfl rfl ?_
            refine go_aload_n (pc' := 144) hC dX12_restore_143 rfl rfl ?_
            refine go_base (fun S120 hx => ?_)
            have hf := lz_r hx hf
            clear hx
            refine go_keys (L1 := [(80, (S120.1 80))]) (L2 := []) (L3 := []) (L4 := []) (L5 := []) [80] [] [] [] [] rfl rfl rfl rfl rfl ?_
            obtain ⟨o119, ho119, hf⟩ := bd_e hf
            refine go_callV1 (pc' := 147) (As := []) (st := [.int x112, .ref (x_q X 9)]) (st' := [.int o119.1, .int x112, .ref (x_q X 9)]) (L1' := [(80, o119.2)]) (L2' := []) (L3' := []) (L4' := []) (L5' := []) (cells' := 0) (slots' := 0)  (b := 0) hC dX12_restore_144 ⟨mw_1535, mw_1538, mw_5, yd_yX12_gets, yp_yX12_gets, Nat.le_of_ble_eq_true rfl, Nat.le_of_ble_eq_true rfl, (Nat.le_of_ble_eq_true rfl), (Nat.le_of_ble_eq_true rfl)⟩ mw_1536 mw_1537 layM_0 rfl rfl rfl (Nat.le_of_ble_eq_true rfl) (c_X12_gets (x_l X) (x_D X) (x_q X) g (x_cy X) (x_z X) _  o119 ho119) rfl rfl rfl rfl rfl rfl rfl rfl rfl rfl rfl rfl rfl rfl ?_
            refine go_base (fun S121 hx => ?_)
            have hf := lz_r hx hf
            clear hx
            refine go_keys (L1 := []) (L2 := []) (L3 := [(9, (S121.2.2.1 9))]) (L4 := []) (L5 := []) [] [] [9] [] [] rfl rfl rfl rfl rfl ?_
            obtain ⟨h122, hf⟩ := gd_e hf
            refine go_iast (f := (S121.2.2.1 9)) (pc' := 148) hC 9 layM_9 rfl rfl dX12_restore_147 (okx_in h122) rfl rfl (fun a123 ha L3' hL => ?_)
            have hf := lz_r ha hf
            clear ha
            obtain rfl : L3' = [(9, a123)] := hL.symm
            refine go_aload_n (pc' := 149) hC dX12_restore_148 rfl rfl ?_
            refine go_getq (pc' := 152) hC 0 24 layM_0 rfl rfl inlX12 (Nat.le_of_ble_eq_true rfl) mw_189 rfl dX12_restore_149 rfl ?_
            refine go_iload_n (pc' := 153) hC dX12_restore_152 rfl rfl ?_
            refine go_aload_n (pc' := 154) hC dX12_restore_153 rfl rfl ?_
            refine go_base (fun S125 hx => ?_)
            have hf := lz_r hx hf
            clear hx
            refine go_keys (L1 := [(80, (S125.1 80))]) (L2 := []) (L3 := []) (L4 := []) (L5 := []) [80] [] [] [] [] rfl rfl rfl rfl rfl ?_
            obtain ⟨o124, ho124, hf⟩ := bd_e hf
            refine go_callV1 (pc' := 157) (As := []) (st := [.int x112, .ref (x_q X 10)]) (st' := [.int o124.1, .int x112, .ref (x_q X 10)]) (L1' := [(80, o124.2)]) (L2' := []) (L3' := []) (L4' := []) (L5' := []) (cells' := 0) (slots' := 0)  (b := 0) hC dX12_restore_154 ⟨mw_1535, mw_1538, mw_5, yd_yX12_gets, yp_yX12_gets, Nat.le_of_ble_eq_true rfl, Nat.le_of_ble_eq_true rfl, (Nat.le_of_ble_eq_true rfl), (Nat.le_of_ble_eq_true rfl)⟩ mw_1536 mw_1537 layM_0 rfl rfl rfl (Nat.le_of_ble_eq_true rfl) (c_X12_gets (x_l X) (x_D X) (x_q X) g (x_cy X) (x_z X) _  o124 ho124) rfl rfl rfl rfl rfl rfl rfl rfl rfl rfl rfl rfl rfl rfl ?_
            refine go_base (fun S126 hx => ?_)
            have hf := lz_r hx hf
            clear hx
            refine go_keys (L1 := []) (L2 := []) (L3 := [(10, (S126.2.2.1 10))]) (L4 := []) (L5 := []) [] [] [10] [] [] rfl rfl rfl rfl rfl ?_
            obtain ⟨h127, hf⟩ := gd_e hf
            refine go_iast (f := (S126.2.2.1 10)) (pc' := 158) hC 10 layM_10 rfl rfl dX12_restore_157 (okx_in h127) rfl rfl (fun a128 ha L3' hL => ?_)
            have hf := lz_r ha hf
            clear ha
            obtain rfl : L3' = [(10, a128)] := hL.symm
            refine go_aload_n (pc' := 159) hC dX12_restore_158 rfl rfl ?_
            refine go_getq (pc' := 162) hC 0 25 layM_0 rfl rfl inlX12 (Nat.le_of_ble_eq_true rfl) mw_191 rfl dX12_restore_159 rfl ?_
            refine go_iload_n (pc' := 163) hC dX12_restore_162 rfl rfl ?_
            refine go_aload_n (pc' := 164) hC dX12_restore_163 rfl rfl ?_
            refine go_base (fun S130 hx => ?_)
            have hf := lz_r hx hf
            clear hx
            refine go_keys (L1 := [(80, (S130.1 80))]) (L2 := []) (L3 := []) (L4 := []) (L5 := []) [80] [] [] [] [] rfl rfl rfl rfl rfl ?_
            obtain ⟨o129, ho129, hf⟩ := bd_e hf
            refine go_callV1 (pc' := 167) (As := []) (st := [.int x112, .ref (x_q X 11)]) (st' := [.int o129.1, .int x112, .ref (x_q X 11)]) (L1' := [(80, o129.2)]) (L2' := []) (L3' := []) (L4' := []) (L5' := []) (cells' := 0) (slots' := 0)  (b := 0) hC dX12_restore_164 ⟨mw_1535, mw_1538, mw_5, yd_yX12_gets, yp_yX12_gets, Nat.le_of_ble_eq_true rfl, Nat.le_of_ble_eq_true rfl, (Nat.le_of_ble_eq_true rfl), (Nat.le_of_ble_eq_true rfl)⟩ mw_1536 mw_1537 layM_0 rfl rfl rfl (Nat.le_of_ble_eq_true rfl) (c_X12_gets (x_l X) (x_D X) (x_q X) g (x_cy X) (x_z X) _  o129 ho129) rfl rfl rfl rfl rfl rfl rfl rfl rfl rfl rfl rfl rfl rfl ?_
            refine go_iconst (pc' := 168) hC dX12_restore_167 ki_1 rfl ?_
            obtain ⟨k176_133, hk176_133, hf⟩ := lk_e2 hf
            have jk176_133 : ∀ (x131 : Int32) (x132 : Int32), k176_133 x131 x132 = some o → Go X layM S130 176 [(0, .ref (x_q X 0)), (2, .int x112)] [.int x131, .int x132, .ref (x_q X 11)] g [(80, o129.2)] [] [] [] [] 0 0 := by
              intro x131 x132 hf
              have hf := hk176_133 x131 x132 hf
              clear hk176_133
              refine go_base (fun S134 hx => ?_)
              have hf := lz_r hx hf
              clear hx
              refine go_keys (L1 := []) (L2 := []) (L3 := [(11, (S134.2.2.1 11))]) (L4 := []) (L5 := []) [] [] [11] [] [] rfl rfl rfl rfl rfl ?_
              obtain ⟨h135, hf⟩ := gd_e hf
              refine go_zast (f := (S134.2.2.1 11)) (pc' := 177) hC 11 layM_11 rfl rfl dX12_restore_176 (okx_in h135) rfl rfl (fun a136 ha L3' hL => ?_)
              have hf := lz_r ha hf
              clear ha
              obtain rfl : L3' = [(11, a136)] := hL.symm
              refine go_aload_n (pc' := 178) hC dX12_restore_177 rfl rfl ?_
              refine go_getq (pc' := 181) hC 0 26 layM_0 rfl rfl inlX12 (Nat.le_of_ble_eq_true rfl) mw_192 rfl dX12_restore_178 rfl ?_
              refine go_iload_n (pc' := 182) hC dX12_restore_181 rfl rfl ?_
              refine go_aload_n (pc' := 183) hC dX12_restore_182 rfl rfl ?_
              refine go_base (fun S138 hx => ?_)
              have hf := lz_r hx hf
              clear hx
              refine go_keys (L1 := [(80, (S138.1 80))]) (L2 := []) (L3 := []) (L4 := []) (L5 := []) [80] [] [] [] [] rfl rfl rfl rfl rfl ?_
              obtain ⟨o137, ho137, hf⟩ := bd_e hf
              refine go_callV1 (pc' := 186) (As := []) (st := [.int x112, .ref (x_q X 12)]) (st' := [.int o137.1, .int x112, .ref (x_q X 12)]) (L1' := [(80, o137.2)]) (L2' := []) (L3' := []) (L4' := []) (L5' := []) (cells' := 0) (slots' := 0)  (b := 0) hC dX12_restore_183 ⟨mw_1535, mw_1538, mw_5, yd_yX12_gets, yp_yX12_gets, Nat.le_of_ble_eq_true rfl, Nat.le_of_ble_eq_true rfl, (Nat.le_of_ble_eq_true rfl), (Nat.le_of_ble_eq_true rfl)⟩ mw_1536 mw_1537 layM_0 rfl rfl rfl (Nat.le_of_ble_eq_true rfl) (c_X12_gets (x_l X) (x_D X) (x_q X) g (x_cy X) (x_z X) _  o137 ho137) rfl rfl rfl rfl rfl rfl rfl rfl rfl rfl rfl rfl rfl rfl ?_
              refine go_base (fun S139 hx => ?_)
              have hf := lz_r hx hf
              clear hx
              refine go_keys (L1 := []) (L2 := []) (L3 := [(12, (S139.2.2.1 12))]) (L4 := []) (L5 := []) [] [] [12] [] [] rfl rfl rfl rfl rfl ?_
              obtain ⟨h140, hf⟩ := gd_e hf
              refine go_iast (f := (S139.2.2.1 12)) (pc' := 187) hC 12 layM_12 rfl rfl dX12_restore_186 (okx_in h140) rfl rfl (fun a141 ha L3' hL => ?_)
              have hf := lz_r ha hf
              clear ha
              obtain rfl : L3' = [(12, a141)] := hL.symm
              refine go_aload_n (pc' := 188) hC dX12_restore_187 rfl rfl ?_
              refine go_getq (pc' := 191) hC 0 27 layM_0 rfl rfl inlX12 (Nat.le_of_ble_eq_true rfl) mw_193 rfl dX12_restore_188 rfl ?_
              refine go_iload_n (pc' := 192) hC dX12_restore_191 rfl rfl ?_
              refine go_aload_n (pc' := 193) hC dX12_restore_192 rfl rfl ?_
              refine go_base (fun S143 hx => ?_)
              have hf := lz_r hx hf
              clear hx
              refine go_keys (L1 := [(80, (S143.1 80))]) (L2 := []) (L3 := []) (L4 := []) (L5 := []) [80] [] [] [] [] rfl rfl rfl rfl rfl ?_
              obtain ⟨o142, ho142, hf⟩ := bd_e hf
              refine go_callV1 (pc' := 196) (As := []) (st := [.int x112, .ref (x_q X 13)]) (st' := [.int o142.1, .int x112, .ref (x_q X 13)]) (L1' := [(80, o142.2)]) (L2' := []) (L3' := []) (L4' := []) (L5' := []) (cells' := 0) (slots' := 0)  (b := 0) hC dX12_restore_193 ⟨mw_1535, mw_1538, mw_5, yd_yX12_gets, yp_yX12_gets, Nat.le_of_ble_eq_true rfl, Nat.le_of_ble_eq_true rfl, (Nat.le_of_ble_eq_true rfl), (Nat.le_of_ble_eq_true rfl)⟩ mw_1536 mw_1537 layM_0 rfl rfl rfl (Nat.le_of_ble_eq_true rfl) (c_X12_gets (x_l X) (x_D X) (x_q X) g (x_cy X) (x_z X) _  o142 ho142) rfl rfl rfl rfl rfl rfl rfl rfl rfl rfl rfl rfl rfl rfl ?_
              refine go_base (fun S144 hx => ?_)
              have hf := lz_r hx hf
              clear hx
              refine go_keys (L1 := []) (L2 := []) (L3 := [(13, (S144.2.2.1 13))]) (L4 := []) (L5 := []) [] [] [13] [] [] rfl rfl rfl rfl rfl ?_
              obtain ⟨h145, hf⟩ := gd_e hf
              refine go_iast (f := (S144.2.2.1 13)) (pc' := 197) hC 13 layM_13 rfl rfl dX12_restore_196 (okx_in h145) rfl rfl (fun a146 ha L3' hL => ?_)
              have hf := lz_r ha hf
              clear ha
              obtain rfl : L3' = [(13, a146)] := hL.symm
              refine go_iinc (lc' := [(0, .ref (x_q X 0)), (2, .int (x112 + (1 : Int32)))]) (pc' := 200) hC dX12_restore_197 rfl ki_1 (Nat.le_of_ble_eq_true rfl) rfl rfl ?_
              refine go_goto (tgt := 122) hC dX12_restore_200 (by decide) ?_
              refine go_base (fun S9 hS9 => ?_)
              subst hS9
              exact ih (x112 + (1 : Int32)) (wd_o S144 [] [] [(13, a146)] [] []) hf
            clear hk176_133
            refine go_icmp_ne (tgt := 175) (pc' := 171) hC dX12_restore_168 (by decide) rfl (fun h147 => ?_) (fun h147 => ?_)
            · have hf := ite_f h147 hf
              refine go_iconst (pc' := 176) hC dX12_restore_175 ki_0 rfl ?_
              exact jk176_133 (0 : Int32) x112 hf
            · have hf := ite_t h147 hf
              refine go_iconst (pc' := 172) hC dX12_restore_171 ki_1 rfl ?_
              refine go_goto (tgt := 176) hC dX12_restore_172 (by decide) ?_
              exact jk176_133 (1 : Int32) x112 hf
      refine go_sub [0, 2] rfl ?_
      refine go_base (fun S9 hS9 => ?_)
      subst hS9
      exact l122_149 fuel (0 : Int32) (wd_o S35 [(60, o33.1)] [] [] [] []) hf
    · have hf := ite_t h150 hf
      refine go_iconst (pc' := 22) hC dX12_restore_21 ki_m1 rfl ?_
      obtain rfl := Option.some.inj hf
      exact go_iret hC hQ dX12_restore_22 rfl rfl rfl rfl (fun _ => rfl) rfl rfl
theorem dX12_count_0 : decode cX12_count 0 = .ok (.iload_n 1, 1) := by decide +kernel
theorem dX12_count_1 : decode cX12_count 1 = .ok (.tableswitch 87 0 7 #[47, 52, 57, 62, 67, 72, 77, 82], 47) := by decide +kernel
theorem dX12_count_48 : decode cX12_count 48 = .ok (.aload_n 0, 1) := by decide +kernel
theorem dX12_count_49 : decode cX12_count 49 = .ok (.getfield 276, 3) := by decide +kernel
theorem dX12_count_52 : decode cX12_count 52 = .ok (.ireturn, 1) := by decide +kernel
theorem dX12_count_53 : decode cX12_count 53 = .ok (.aload_n 0, 1) := by decide +kernel
theorem dX12_count_54 : decode cX12_count 54 = .ok (.getfield 279, 3) := by decide +kernel
theorem dX12_count_57 : decode cX12_count 57 = .ok (.ireturn, 1) := by decide +kernel
theorem dX12_count_58 : decode cX12_count 58 = .ok (.aload_n 0, 1) := by decide +kernel
theorem dX12_count_59 : decode cX12_count 59 = .ok (.getfield 282, 3) := by decide +kernel
theorem dX12_count_62 : decode cX12_count 62 = .ok (.ireturn, 1) := by decide +kernel
theorem dX12_count_63 : decode cX12_count 63 = .ok (.aload_n 0, 1) := by decide +kernel
theorem dX12_count_64 : decode cX12_count 64 = .ok (.getfield 285, 3) := by decide +kernel
theorem dX12_count_67 : decode cX12_count 67 = .ok (.ireturn, 1) := by decide +kernel
theorem dX12_count_68 : decode cX12_count 68 = .ok (.aload_n 0, 1) := by decide +kernel
theorem dX12_count_69 : decode cX12_count 69 = .ok (.getfield 303, 3) := by decide +kernel
theorem dX12_count_72 : decode cX12_count 72 = .ok (.ireturn, 1) := by decide +kernel
theorem dX12_count_73 : decode cX12_count 73 = .ok (.aload_n 0, 1) := by decide +kernel
theorem dX12_count_74 : decode cX12_count 74 = .ok (.getfield 306, 3) := by decide +kernel
theorem dX12_count_77 : decode cX12_count 77 = .ok (.ireturn, 1) := by decide +kernel
theorem dX12_count_78 : decode cX12_count 78 = .ok (.aload_n 0, 1) := by decide +kernel
theorem dX12_count_79 : decode cX12_count 79 = .ok (.getfield 291, 3) := by decide +kernel
theorem dX12_count_82 : decode cX12_count 82 = .ok (.ireturn, 1) := by decide +kernel
theorem dX12_count_83 : decode cX12_count 83 = .ok (.aload_n 0, 1) := by decide +kernel
theorem dX12_count_84 : decode cX12_count 84 = .ok (.getfield 161, 3) := by decide +kernel
theorem dX12_count_87 : decode cX12_count 87 = .ok (.ireturn, 1) := by decide +kernel
theorem dX12_count_88 : decode cX12_count 88 = .ok (.iconst (-1), 1) := by decide +kernel
theorem dX12_count_89 : decode cX12_count 89 = .ok (.ireturn, 1) := by decide +kernel
abbrev o_X12_count : Type := Int32
def f_X12_count (S : wd_W) (p1 : Int32) : Option o_X12_count :=
if p1 = (0 : Int32) then (
some (S.1 20)) else (
if p1 = (1 : Int32) then (
some (S.1 21)) else (
if p1 = (2 : Int32) then (
some (S.1 30)) else (
if p1 = (3 : Int32) then (
some (S.1 31)) else (
if p1 = (4 : Int32) then (
some (S.1 51)) else (
if p1 = (5 : Int32) then (
some (S.1 60)) else (
if p1 = (6 : Int32) then (
some (S.1 34)) else (
if p1 = (7 : Int32) then (
some (S.1 1)) else (
some (-1 : Int32)))))))))
set_option maxRecDepth 100000 in
set_option maxHeartbeats 4000000 in
theorem c_X12_count (l : Launch) (D : va_G) (q g : Nat → Nat) (cy : Nat → ClassId) (z : (Nat → Nat) × (Nat → Nat) × Nat) (S : wd_W) (p1 : Int32) (o : o_X12_count) (hf : f_X12_count S p1 = some o) : MX layM l yX12_count cX12_count 2 (some .int) ({ frames := 0, cells := 0, slots := 0, locals := 0 } : Room) D q g cy z [.ref (q 0), .int p1] S false (some (.int o)) (wd_o S [] [] [] [] []) 0 0 := by
  refine mx_of (own := RX12) (lc := [(0, .ref (q 0)), (1, .int p1)]) (by decide +kernel) rfl layM_ok (Nat.le_of_ble_eq_true rfl) rfl ?_
  intro X hXl hXq hXz hC hQ
  subst hXl; subst hXq; subst hXz
  unfold f_X12_count at hf
  refine go_iload_n (pc' := 1) hC dX12_count_0 rfl rfl ?_
  by_cases h1 : p1 = (0 : Int32)
  · have hf := ite_t h1 hf
    refine go_tabIn' (v := (0 : Int32)) (tgt := 48) hC dX12_count_1 h1 kt_0 (by decide) (by decide) rfl (by decide) ?_
    refine go_aload_n (pc' := 49) hC dX12_count_48 rfl rfl ?_
    refine go_geti (v := (S.1 20)) (pc' := 52) hC 0 20 layM_0 rfl rfl inlX12 (Nat.le_of_ble_eq_true rfl) mw_246 rfl dX12_count_49 rfl rfl ?_
    obtain rfl := Option.some.inj hf
    exact go_iret hC hQ dX12_count_52 rfl rfl rfl rfl (fun _ => rfl) rfl rfl
  · have hf := ite_f h1 hf
    by_cases h2 : p1 = (1 : Int32)
    · have hf := ite_t h2 hf
      refine go_tabIn' (v := (1 : Int32)) (tgt := 53) hC dX12_count_1 h2 kt_1 (by decide) (by decide) rfl (by decide) ?_
      refine go_aload_n (pc' := 54) hC dX12_count_53 rfl rfl ?_
      refine go_geti (v := (S.1 21)) (pc' := 57) hC 0 21 layM_0 rfl rfl inlX12 (Nat.le_of_ble_eq_true rfl) mw_247 rfl dX12_count_54 rfl rfl ?_
      obtain rfl := Option.some.inj hf
      exact go_iret hC hQ dX12_count_57 rfl rfl rfl rfl (fun _ => rfl) rfl rfl
    · have hf := ite_f h2 hf
      by_cases h3 : p1 = (2 : Int32)
      · have hf := ite_t h3 hf
        refine go_tabIn' (v := (2 : Int32)) (tgt := 58) hC dX12_count_1 h3 kt_2 (by decide) (by decide) rfl (by decide) ?_
        refine go_aload_n (pc' := 59) hC dX12_count_58 rfl rfl ?_
        refine go_geti (v := (S.1 30)) (pc' := 62) hC 0 30 layM_0 rfl rfl inlX12 (Nat.le_of_ble_eq_true rfl) mw_248 rfl dX12_count_59 rfl rfl ?_
        obtain rfl := Option.some.inj hf
        exact go_iret hC hQ dX12_count_62 rfl rfl rfl rfl (fun _ => rfl) rfl rfl
      · have hf := ite_f h3 hf
        by_cases h4 : p1 = (3 : Int32)
        · have hf := ite_t h4 hf
          refine go_tabIn' (v := (3 : Int32)) (tgt := 63) hC dX12_count_1 h4 kt_3 (by decide) (by decide) rfl (by decide) ?_
          refine go_aload_n (pc' := 64) hC dX12_count_63 rfl rfl ?_
          refine go_geti (v := (S.1 31)) (pc' := 67) hC 0 31 layM_0 rfl rfl inlX12 (Nat.le_of_ble_eq_true rfl) mw_249 rfl dX12_count_64 rfl rfl ?_
          obtain rfl := Option.some.inj hf
          exact go_iret hC hQ dX12_count_67 rfl rfl rfl rfl (fun _ => rfl) rfl rfl
        · have hf := ite_f h4 hf
          by_cases h5 : p1 = (4 : Int32)
          · have hf := ite_t h5 hf
            refine go_tabIn' (v := (4 : Int32)) (tgt := 68) hC dX12_count_1 h5 kt_4 (by decide) (by decide) rfl (by decide) ?_
            refine go_aload_n (pc' := 69) hC dX12_count_68 rfl rfl ?_
            refine go_geti (v := (S.1 51)) (pc' := 72) hC 0 51 layM_0 rfl rfl inlX12 (Nat.le_of_ble_eq_true rfl) mw_255 rfl dX12_count_69 rfl rfl ?_
            obtain rfl := Option.some.inj hf
            exact go_iret hC hQ dX12_count_72 rfl rfl rfl rfl (fun _ => rfl) rfl rfl
          · have hf := ite_f h5 hf
            by_cases h6 : p1 = (5 : Int32)
            · have hf := ite_t h6 hf
              refine go_tabIn' (v := (5 : Int32)) (tgt := 73) hC dX12_count_1 h6 kt_5 (by decide) (by decide) rfl (by decide) ?_
              refine go_aload_n (pc' := 74) hC dX12_count_73 rfl rfl ?_
              refine go_geti (v := (S.1 60)) (pc' := 77) hC 0 60 layM_0 rfl rfl inlX12 (Nat.le_of_ble_eq_true rfl) mw_256 rfl dX12_count_74 rfl rfl ?_
              obtain rfl := Option.some.inj hf
              exact go_iret hC hQ dX12_count_77 rfl rfl rfl rfl (fun _ => rfl) rfl rfl
            · have hf := ite_f h6 hf
              by_cases h7 : p1 = (6 : Int32)
              · have hf := ite_t h7 hf
                refine go_tabIn' (v := (6 : Int32)) (tgt := 78) hC dX12_count_1 h7 kt_6 (by decide) (by decide) rfl (by decide) ?_
                refine go_aload_n (pc' := 79) hC dX12_count_78 rfl rfl ?_
                refine go_geti (v := (S.1 34)) (pc' := 82) hC 0 34 layM_0 rfl rfl inlX12 (Nat.le_of_ble_eq_true rfl) mw_251 rfl dX12_count_79 rfl rfl ?_
                obtain rfl := Option.some.inj hf
                exact go_iret hC hQ dX12_count_82 rfl rfl rfl rfl (fun _ => rfl) rfl rfl
              · have hf := ite_f h7 hf
                by_cases h8 : p1 = (7 : Int32)
                · have hf := ite_t h8 hf
                  refine go_tabIn' (v := (7 : Int32)) (tgt := 83) hC dX12_count_1 h8 kt_7 (by decide) (by decide) rfl (by decide) ?_
                  refine go_aload_n (pc' := 84) hC dX12_count_83 rfl rfl ?_
                  refine go_geti (v := (S.1 1)) (pc' := 87) hC 0 1 layM_0 rfl rfl inlX12 (Nat.le_of_ble_eq_true rfl) mw_281 rfl dX12_count_84 rfl rfl ?_
                  obtain rfl := Option.some.inj hf
                  exact go_iret hC hQ dX12_count_87 rfl rfl rfl rfl (fun _ => rfl) rfl rfl
                · have hf := ite_f h8 hf
                  refine go_tabOut (tgt := 88) hC dX12_count_1 ?_ (by decide) ?_
                  · have e0 := lv_neT h1 kt_0; have e1 := lv_neT h2 kt_1; have e2 := lv_neT h3 kt_2; have e3 := lv_neT h4 kt_3; have e4 := lv_neT h5 kt_4; have e5 := lv_neT h6 kt_5; have e6 := lv_neT h7 kt_6; have e7 := lv_neT h8 kt_7; omega
                  · refine go_iconst (pc' := 89) hC dX12_count_88 ki_m1 rfl ?_
                    obtain rfl := Option.some.inj hf
                    exact go_iret hC hQ dX12_count_89 rfl rfl rfl rfl (fun _ => rfl) rfl rfl
