theorem dX12_hasOne_0 : decode cX12_hasOne 0 = .ok (.bipush 60, 2) := by decide +kernel
theorem dX12_hasOne_2 : decode cX12_hasOne 2 = .ok (.iload_n 1, 1) := by decide +kernel
theorem dX12_hasOne_3 : decode cX12_hasOne 3 = .ok (.imul, 1) := by decide +kernel
theorem dX12_hasOne_4 : decode cX12_hasOne 4 = .ok (.istore 4, 2) := by decide +kernel
theorem dX12_hasOne_6 : decode cX12_hasOne 6 = .ok (.iload 4, 2) := by decide +kernel
theorem dX12_hasOne_8 : decode cX12_hasOne 8 = .ok (.bipush 60, 2) := by decide +kernel
theorem dX12_hasOne_10 : decode cX12_hasOne 10 = .ok (.iload_n 1, 1) := by decide +kernel
theorem dX12_hasOne_11 : decode cX12_hasOne 11 = .ok (.imul, 1) := by decide +kernel
theorem dX12_hasOne_12 : decode cX12_hasOne 12 = .ok (.aload_n 0, 1) := by decide +kernel
theorem dX12_hasOne_13 : decode cX12_hasOne 13 = .ok (.getfield 86, 3) := by decide +kernel
theorem dX12_hasOne_16 : decode cX12_hasOne 16 = .ok (.iload_n 1, 1) := by decide +kernel
theorem dX12_hasOne_17 : decode cX12_hasOne 17 = .ok (.iaload, 1) := by decide +kernel
theorem dX12_hasOne_18 : decode cX12_hasOne 18 = .ok (.iadd, 1) := by decide +kernel
theorem dX12_hasOne_19 : decode cX12_hasOne 19 = .ok (.if_icmp .ge 36, 3) := by decide +kernel
theorem dX12_hasOne_22 : decode cX12_hasOne 22 = .ok (.iload 4, 2) := by decide +kernel
theorem dX12_hasOne_24 : decode cX12_hasOne 24 = .ok (.bipush 60, 2) := by decide +kernel
theorem dX12_hasOne_26 : decode cX12_hasOne 26 = .ok (.iload_n 1, 1) := by decide +kernel
theorem dX12_hasOne_27 : decode cX12_hasOne 27 = .ok (.imul, 1) := by decide +kernel
theorem dX12_hasOne_28 : decode cX12_hasOne 28 = .ok (.iload_n 2, 1) := by decide +kernel
theorem dX12_hasOne_29 : decode cX12_hasOne 29 = .ok (.iadd, 1) := by decide +kernel
theorem dX12_hasOne_30 : decode cX12_hasOne 30 = .ok (.if_icmp .ge 25, 3) := by decide +kernel
theorem dX12_hasOne_33 : decode cX12_hasOne 33 = .ok (.aload_n 0, 1) := by decide +kernel
theorem dX12_hasOne_34 : decode cX12_hasOne 34 = .ok (.getfield 83, 3) := by decide +kernel
theorem dX12_hasOne_37 : decode cX12_hasOne 37 = .ok (.iload 4, 2) := by decide +kernel
theorem dX12_hasOne_39 : decode cX12_hasOne 39 = .ok (.iaload, 1) := by decide +kernel
theorem dX12_hasOne_40 : decode cX12_hasOne 40 = .ok (.iload_n 3, 1) := by decide +kernel
theorem dX12_hasOne_41 : decode cX12_hasOne 41 = .ok (.iconst (-1), 1) := by decide +kernel
theorem dX12_hasOne_42 : decode cX12_hasOne 42 = .ok (.ixor, 1) := by decide +kernel
theorem dX12_hasOne_43 : decode cX12_hasOne 43 = .ok (.iand, 1) := by decide +kernel
theorem dX12_hasOne_44 : decode cX12_hasOne 44 = .ok (.ifCond .ne 5, 3) := by decide +kernel
theorem dX12_hasOne_47 : decode cX12_hasOne 47 = .ok (.iconst 1, 1) := by decide +kernel
theorem dX12_hasOne_48 : decode cX12_hasOne 48 = .ok (.ireturn, 1) := by decide +kernel
theorem dX12_hasOne_49 : decode cX12_hasOne 49 = .ok (.iinc 4 1, 3) := by decide +kernel
theorem dX12_hasOne_52 : decode cX12_hasOne 52 = .ok (.goto (-46), 3) := by decide +kernel
theorem dX12_hasOne_55 : decode cX12_hasOne 55 = .ok (.iconst 0, 1) := by decide +kernel
theorem dX12_hasOne_56 : decode cX12_hasOne 56 = .ok (.ireturn, 1) := by decide +kernel
abbrev o_X12_hasOne : Type := Int32
def f_X12_hasOne_L6 (S : wd_W) (p1 : Int32) (p2 : Int32) (p3 : Int32) (r3 : (Int32) → (Option o_X12_hasOne)) (x2 : Int32) : Option o_X12_hasOne :=
gd (okx p1 2) <|
if (((60 : Int32) * p1) + ((S.2.2.1 25) p1.toNatClampNeg)) ≤ x2 then (
some (0 : Int32)) else (
if (((60 : Int32) * p1) + p2) ≤ x2 then (
some (0 : Int32)) else (
gd (okx x2 120) <|
if (((S.2.2.1 24) x2.toNatClampNeg) &&& (p3 ^^^ (-1 : Int32))) = 0 then (
some (1 : Int32)) else (
r3 (x2 + (1 : Int32)))))
def f_X12_hasOne (S : wd_W) (p1 : Int32) (p2 : Int32) (p3 : Int32) : Option o_X12_hasOne :=
lz ((60 : Int32) * p1) fun x1 =>
it1 (f_X12_hasOne_L6 S p1 p2 p3) fuel x1
set_option maxRecDepth 100000 in
set_option maxHeartbeats 4000000 in
theorem c_X12_hasOne (l : Launch) (D : va_G) (q g : Nat → Nat) (cy : Nat → ClassId) (z : (Nat → Nat) × (Nat → Nat) × Nat) (S : wd_W) (p1 : Int32) (p2 : Int32) (p3 : Int32) (o : o_X12_hasOne) (hf : f_X12_hasOne S p1 p2 p3 = some o) : MX layM l yX12_hasOne cX12_hasOne 5 (some .boolean) ({ frames := 0, cells := 0, slots := 0, locals := 0 } : Room) D q g cy z [.ref (q 0), .int p1, .int p2, .int p3] S false (some (.int o)) (wd_o S [] [] [] [] []) 0 0 := by
  refine mx_of (own := RX12) (lc := [(0, .ref (q 0)), (1, .int p1), (2, .int p2), (3, .int p3)]) (by decide +kernel) rfl layM_ok (Nat.le_of_ble_eq_true rfl) rfl ?_
  intro X hXl hXq hXz hC hQ
  subst hXl; subst hXq; subst hXz
  unfold f_X12_hasOne at hf
  refine go_bipush (pc' := 2) hC dX12_hasOne_0 kb_60 rfl ?_
  refine go_iload_n (pc' := 3) hC dX12_hasOne_2 rfl rfl ?_
  refine go_imul (pc' := 4) hC dX12_hasOne_3 rfl ?_
  refine go_namei (fun x1 hx => ?_)
  have hf := lz_r hx hf
  clear hx
  refine go_istore (lc' := [(0, .ref (x_q X 0)), (1, .int p1), (2, .int p2), (3, .int p3), (4, .int x1)]) (pc' := 6) hC dX12_hasOne_4 (Nat.le_of_ble_eq_true rfl) rfl rfl ?_
  have l6_9 : ∀ (nn : Nat) (x2 : Int32), it1 (f_X12_hasOne_L6 S p1 p2 p3) nn x2 = some o → Go X layM S 6 [(0, .ref (x_q X 0)), (1, .int p1), (2, .int p2), (3, .int p3), (4, .int x2)] [] g [] [] [] [] [] 0 0 := by
    intro nn
    induction nn with
    | zero =>
      intro x2 hf
      exact none_no hf
    | succ nn ih =>
      intro x2 hf
      have hf : f_X12_hasOne_L6 S p1 p2 p3 (it1 (f_X12_hasOne_L6 S p1 p2 p3) nn) x2 = some o := hf
      generalize it1 (f_X12_hasOne_L6 S p1 p2 p3) nn = r3 at ih hf
      unfold f_X12_hasOne_L6 at hf
      refine go_iload (pc' := 8) hC dX12_hasOne_6 rfl rfl ?_
      refine go_bipush (pc' := 10) hC dX12_hasOne_8 kb_60 rfl ?_
      refine go_iload_n (pc' := 11) hC dX12_hasOne_10 rfl rfl ?_
      refine go_imul (pc' := 12) hC dX12_hasOne_11 rfl ?_
      refine go_aload_n (pc' := 13) hC dX12_hasOne_12 rfl rfl ?_
      refine go_getq (pc' := 16) hC 0 49 layM_0 rfl rfl inlX12 (Nat.le_of_ble_eq_true rfl) mw_206 rfl dX12_hasOne_13 rfl ?_
      refine go_iload_n (pc' := 17) hC dX12_hasOne_16 rfl rfl ?_
      obtain ⟨h4, hf⟩ := gd_e hf
      refine go_iald (f := (S.2.2.1 25)) (pc' := 18) hC 25 layM_25 rfl rfl dX12_hasOne_17 (okx_in h4) rfl ?_
      refine go_iadd (pc' := 19) hC dX12_hasOne_18 rfl ?_
      refine go_icmp_ge (tgt := 55) (pc' := 22) hC dX12_hasOne_19 (by decide) rfl (fun h8 => ?_) (fun h8 => ?_)
      · have hf := ite_t h8 hf
        refine go_iconst (pc' := 56) hC dX12_hasOne_55 ki_0 rfl ?_
        obtain rfl := Option.some.inj hf
        exact go_iret hC hQ dX12_hasOne_56 rfl rfl rfl rfl (fun _ => rfl) rfl rfl
      · have hf := ite_f h8 hf
        refine go_iload (pc' := 24) hC dX12_hasOne_22 rfl rfl ?_
        refine go_bipush (pc' := 26) hC dX12_hasOne_24 kb_60 rfl ?_
        refine go_iload_n (pc' := 27) hC dX12_hasOne_26 rfl rfl ?_
        refine go_imul (pc' := 28) hC dX12_hasOne_27 rfl ?_
        refine go_iload_n (pc' := 29) hC dX12_hasOne_28 rfl rfl ?_
        refine go_iadd (pc' := 30) hC dX12_hasOne_29 rfl ?_
        refine go_icmp_ge (tgt := 55) (pc' := 33) hC dX12_hasOne_30 (by decide) rfl (fun h7 => ?_) (fun h7 => ?_)
        · have hf := ite_t h7 hf
          refine go_iconst (pc' := 56) hC dX12_hasOne_55 ki_0 rfl ?_
          obtain rfl := Option.some.inj hf
          exact go_iret hC hQ dX12_hasOne_56 rfl rfl rfl rfl (fun _ => rfl) rfl rfl
        · have hf := ite_f h7 hf
          refine go_aload_n (pc' := 34) hC dX12_hasOne_33 rfl rfl ?_
          refine go_getq (pc' := 37) hC 0 48 layM_0 rfl rfl inlX12 (Nat.le_of_ble_eq_true rfl) mw_205 rfl dX12_hasOne_34 rfl ?_
          refine go_iload (pc' := 39) hC dX12_hasOne_37 rfl rfl ?_
          obtain ⟨h5, hf⟩ := gd_e hf
          refine go_iald (f := (S.2.2.1 24)) (pc' := 40) hC 24 layM_24 rfl rfl dX12_hasOne_39 (okx_in h5) rfl ?_
          refine go_iload_n (pc' := 41) hC dX12_hasOne_40 rfl rfl ?_
          refine go_iconst (pc' := 42) hC dX12_hasOne_41 ki_m1 rfl ?_
          refine go_ixor (pc' := 43) hC dX12_hasOne_42 rfl ?_
          refine go_iand (pc' := 44) hC dX12_hasOne_43 rfl ?_
          refine go_if_ne (tgt := 49) (pc' := 47) hC dX12_hasOne_44 (by decide) rfl (fun h6 => ?_) (fun h6 => ?_)
          · have hf := ite_f h6 hf
            refine go_iinc (lc' := [(0, .ref (x_q X 0)), (1, .int p1), (2, .int p2), (3, .int p3), (4, .int (x2 + (1 : Int32)))]) (pc' := 52) hC dX12_hasOne_49 rfl ki_1 (Nat.le_of_ble_eq_true rfl) rfl rfl ?_
            refine go_goto (tgt := 6) hC dX12_hasOne_52 (by decide) ?_
            exact ih (x2 + (1 : Int32)) hf
          · have hf := ite_t h6 hf
            refine go_iconst (pc' := 48) hC dX12_hasOne_47 ki_1 rfl ?_
            obtain rfl := Option.some.inj hf
            exact go_iret hC hQ dX12_hasOne_48 rfl rfl rfl rfl (fun _ => rfl) rfl rfl
  exact l6_9 fuel x1 hf
theorem dX12_ends_0 : decode cX12_ends 0 = .ok (.iload_n 1, 1) := by decide +kernel
theorem dX12_ends_1 : decode cX12_ends 1 = .ok (.i2l, 1) := by decide +kernel
theorem dX12_ends_2 : decode cX12_ends 2 = .ok (.lconst 0, 1) := by decide +kernel
theorem dX12_ends_3 : decode cX12_ends 3 = .ok (.ldc2_w 408, 3) := by decide +kernel
theorem dX12_ends_6 : decode cX12_ends 6 = .ok (.invokestatic 218, 3) := by decide +kernel
theorem dX12_ends_9 : decode cX12_ends 9 = .ok (.ifCond .eq 13, 3) := by decide +kernel
theorem dX12_ends_12 : decode cX12_ends 12 = .ok (.iload_n 2, 1) := by decide +kernel
theorem dX12_ends_13 : decode cX12_ends 13 = .ok (.i2l, 1) := by decide +kernel
theorem dX12_ends_14 : decode cX12_ends 14 = .ok (.lconst 0, 1) := by decide +kernel
theorem dX12_ends_15 : decode cX12_ends 15 = .ok (.lconst 1, 1) := by decide +kernel
theorem dX12_ends_16 : decode cX12_ends 16 = .ok (.invokestatic 218, 3) := by decide +kernel
theorem dX12_ends_19 : decode cX12_ends 19 = .ok (.ifCond .ne 7, 3) := by decide +kernel
theorem dX12_ends_22 : decode cX12_ends 22 = .ok (.ldc2_w 373, 3) := by decide +kernel
theorem dX12_ends_25 : decode cX12_ends 25 = .ok (.lreturn, 1) := by decide +kernel
theorem dX12_ends_26 : decode cX12_ends 26 = .ok (.aload_n 0, 1) := by decide +kernel
theorem dX12_ends_27 : decode cX12_ends 27 = .ok (.iload_n 2, 1) := by decide +kernel
theorem dX12_ends_28 : decode cX12_ends 28 = .ok (.iconst 1, 1) := by decide +kernel
theorem dX12_ends_29 : decode cX12_ends 29 = .ok (.if_icmp .ne 7, 3) := by decide +kernel
theorem dX12_ends_32 : decode cX12_ends 32 = .ok (.iconst 1, 1) := by decide +kernel
theorem dX12_ends_33 : decode cX12_ends 33 = .ok (.goto 4, 3) := by decide +kernel
theorem dX12_ends_36 : decode cX12_ends 36 = .ok (.iconst 0, 1) := by decide +kernel
theorem dX12_ends_37 : decode cX12_ends 37 = .ok (.invokevirtual 404, 3) := by decide +kernel
theorem dX12_ends_40 : decode cX12_ends 40 = .ok (.aload_n 0, 1) := by decide +kernel
theorem dX12_ends_41 : decode cX12_ends 41 = .ok (.invokevirtual 375, 3) := by decide +kernel
theorem dX12_ends_44 : decode cX12_ends 44 = .ok (.aload_n 0, 1) := by decide +kernel
theorem dX12_ends_45 : decode cX12_ends 45 = .ok (.invokevirtual 364, 3) := by decide +kernel
theorem dX12_ends_48 : decode cX12_ends 48 = .ok (.lconst 0, 1) := by decide +kernel
theorem dX12_ends_49 : decode cX12_ends 49 = .ok (.lstore_n 3, 1) := by decide +kernel
theorem dX12_ends_50 : decode cX12_ends 50 = .ok (.iconst 0, 1) := by decide +kernel
theorem dX12_ends_51 : decode cX12_ends 51 = .ok (.istore 5, 2) := by decide +kernel
theorem dX12_ends_53 : decode cX12_ends 53 = .ok (.iload 5, 2) := by decide +kernel
theorem dX12_ends_55 : decode cX12_ends 55 = .ok (.aload_n 0, 1) := by decide +kernel
theorem dX12_ends_56 : decode cX12_ends 56 = .ok (.invokevirtual 354, 3) := by decide +kernel
theorem dX12_ends_59 : decode cX12_ends 59 = .ok (.if_icmp .ge 61, 3) := by decide +kernel
theorem dX12_ends_62 : decode cX12_ends 62 = .ok (.lload_n 3, 1) := by decide +kernel
theorem dX12_ends_63 : decode cX12_ends 63 = .ok (.iload_n 2, 1) := by decide +kernel
theorem dX12_ends_64 : decode cX12_ends 64 = .ok (.ifCond .ne 17, 3) := by decide +kernel
theorem dX12_ends_67 : decode cX12_ends 67 = .ok (.aload_n 0, 1) := by decide +kernel
theorem dX12_ends_68 : decode cX12_ends 68 = .ok (.iconst 0, 1) := by decide +kernel
theorem dX12_ends_69 : decode cX12_ends 69 = .ok (.iload_n 1, 1) := by decide +kernel
theorem dX12_ends_70 : decode cX12_ends 70 = .ok (.iload 5, 2) := by decide +kernel
theorem dX12_ends_72 : decode cX12_ends 72 = .ok (.invokevirtual 410, 3) := by decide +kernel
theorem dX12_ends_75 : decode cX12_ends 75 = .ok (.ifCond .eq 36, 3) := by decide +kernel
theorem dX12_ends_78 : decode cX12_ends 78 = .ok (.goto 23, 3) := by decide +kernel
theorem dX12_ends_81 : decode cX12_ends 81 = .ok (.aload_n 0, 1) := by decide +kernel
theorem dX12_ends_82 : decode cX12_ends 82 = .ok (.iconst 1, 1) := by decide +kernel
theorem dX12_ends_83 : decode cX12_ends 83 = .ok (.iload_n 1, 1) := by decide +kernel
theorem dX12_ends_84 : decode cX12_ends 84 = .ok (.aload_n 0, 1) := by decide +kernel
theorem dX12_ends_85 : decode cX12_ends 85 = .ok (.invokevirtual 354, 3) := by decide +kernel
theorem dX12_ends_88 : decode cX12_ends 88 = .ok (.iconst 1, 1) := by decide +kernel
theorem dX12_ends_89 : decode cX12_ends 89 = .ok (.isub, 1) := by decide +kernel
theorem dX12_ends_90 : decode cX12_ends 90 = .ok (.iload 5, 2) := by decide +kernel
theorem dX12_ends_92 : decode cX12_ends 92 = .ok (.iconst (-1), 1) := by decide +kernel
theorem dX12_ends_93 : decode cX12_ends 93 = .ok (.ixor, 1) := by decide +kernel
theorem dX12_ends_94 : decode cX12_ends 94 = .ok (.iand, 1) := by decide +kernel
theorem dX12_ends_95 : decode cX12_ends 95 = .ok (.invokevirtual 410, 3) := by decide +kernel
theorem dX12_ends_98 : decode cX12_ends 98 = .ok (.ifCond .ne 13, 3) := by decide +kernel
theorem dX12_ends_101 : decode cX12_ends 101 = .ok (.aload_n 0, 1) := by decide +kernel
theorem dX12_ends_102 : decode cX12_ends 102 = .ok (.getfield 73, 3) := by decide +kernel
theorem dX12_ends_105 : decode cX12_ends 105 = .ok (.iload 5, 2) := by decide +kernel
theorem dX12_ends_107 : decode cX12_ends 107 = .ok (.laload, 1) := by decide +kernel
theorem dX12_ends_108 : decode cX12_ends 108 = .ok (.goto 4, 3) := by decide +kernel
theorem dX12_ends_111 : decode cX12_ends 111 = .ok (.lconst 0, 1) := by decide +kernel
theorem dX12_ends_112 : decode cX12_ends 112 = .ok (.ladd, 1) := by decide +kernel
theorem dX12_ends_113 : decode cX12_ends 113 = .ok (.lstore_n 3, 1) := by decide +kernel
theorem dX12_ends_114 : decode cX12_ends 114 = .ok (.iinc 5 1, 3) := by decide +kernel
theorem dX12_ends_117 : decode cX12_ends 117 = .ok (.goto (-64), 3) := by decide +kernel
theorem dX12_ends_120 : decode cX12_ends 120 = .ok (.lload_n 3, 1) := by decide +kernel
theorem dX12_ends_121 : decode cX12_ends 121 = .ok (.lreturn, 1) := by decide +kernel
abbrev o_X12_ends : Type := Int64 × Int32 × Int32 × Int32 × (Nat → Int32) × (Nat → Int32) × (Nat → Int32) × (Nat → Int32) × (Nat → Int32) × (Nat → Int32) × (Nat → Int32) × (Nat → Int32) × (Nat → Int32) × (Nat → Int64)
def f_X12_ends_L53 (S : wd_W) (p1 : Int32) (p2 : Int32) (o5 : o_X12_lists) (o6 : o_X12_plain) (o7 : o_X12_weighs) (r10 : (Int64) → (Int32) → (Option o_X12_ends)) (x8 : Int64) (x9 : Int32) : Option o_X12_ends :=
bd (f_X12_sets (wd_o S [(38, o5.1), (39, o5.2.1), (44, o5.2.2.1)] [] [(17, o5.2.2.2.1), (18, o5.2.2.2.2.1), (19, o5.2.2.2.2.2.1), (20, o5.2.2.2.2.2.2.1), (22, o6.1), (23, o6.2), (24, o5.2.2.2.2.2.2.2.1), (25, o5.2.2.2.2.2.2.2.2.1), (26, o5.2.2.2.2.2.2.2.2.2)] [(21, o7)] [])) fun o11 =>
if o11 ≤ x9 then (
some (x8, o5.1, o5.2.1, o5.2.2.1, o5.2.2.2.1, o5.2.2.2.2.1, o5.2.2.2.2.2.1, o5.2.2.2.2.2.2.1, o6.1, o6.2, o5.2.2.2.2.2.2.2.1, o5.2.2.2.2.2.2.2.2.1, o5.2.2.2.2.2.2.2.2.2, o7)) else (
lk (fun x12 x13 =>
lz (x13 + x12) fun x15 =>
r10 x15 (x9 + (1 : Int32))) fun k112_14 =>
lk (fun x16 =>
k112_14 (0 : Int64) x16) fun k111_17 =>
lk (fun x18 =>
gd (okx x9 32768) <|
k112_14 (o7 x9.toNatClampNeg) x18) fun k101_19 =>
if p2 = 0 then (
bd (f_X12_hasOne (wd_o S [(38, o5.1), (39, o5.2.1), (44, o5.2.2.1)] [] [(17, o5.2.2.2.1), (18, o5.2.2.2.2.1), (19, o5.2.2.2.2.2.1), (20, o5.2.2.2.2.2.2.1), (22, o6.1), (23, o6.2), (24, o5.2.2.2.2.2.2.2.1), (25, o5.2.2.2.2.2.2.2.2.1), (26, o5.2.2.2.2.2.2.2.2.2)] [(21, o7)] []) (0 : Int32) p1 x9) fun o24 =>
if o24 = 0 then (
k111_17 x8) else (
k101_19 x8)) else (
bd (f_X12_sets (wd_o S [(38, o5.1), (39, o5.2.1), (44, o5.2.2.1)] [] [(17, o5.2.2.2.1), (18, o5.2.2.2.2.1), (19, o5.2.2.2.2.2.1), (20, o5.2.2.2.2.2.2.1), (22, o6.1), (23, o6.2), (24, o5.2.2.2.2.2.2.2.1), (25, o5.2.2.2.2.2.2.2.2.1), (26, o5.2.2.2.2.2.2.2.2.2)] [(21, o7)] [])) fun o21 =>
bd (f_X12_hasOne (wd_o S [(38, o5.1), (39, o5.2.1), (44, o5.2.2.1)] [] [(17, o5.2.2.2.1), (18, o5.2.2.2.2.1), (19, o5.2.2.2.2.2.1), (20, o5.2.2.2.2.2.2.1), (22, o6.1), (23, o6.2), (24, o5.2.2.2.2.2.2.2.1), (25, o5.2.2.2.2.2.2.2.2.1), (26, o5.2.2.2.2.2.2.2.2.2)] [(21, o7)] []) (1 : Int32) p1 ((o21 - (1 : Int32)) &&& (x9 ^^^ (-1 : Int32)))) fun o22 =>
if o22 = 0 then (
k101_19 x8) else (
k111_17 x8)))
def f_X12_ends (S : wd_W) (p1 : Int32) (p2 : Int32) : Option o_X12_ends :=
bd (f_X12_in p1.toInt64 (0 : Int64) (60 : Int64)) fun o1 =>
if o1 = 0 then (
some ((-1 : Int64), (S.1 38), (S.1 39), (S.1 44), (S.2.2.1 17), (S.2.2.1 18), (S.2.2.1 19), (S.2.2.1 20), (S.2.2.1 22), (S.2.2.1 23), (S.2.2.1 24), (S.2.2.1 25), (S.2.2.1 26), (S.2.2.2.1 21))) else (
bd (f_X12_in p2.toInt64 (0 : Int64) (1 : Int64)) fun o2 =>
if o2 = 0 then (
some ((-1 : Int64), (S.1 38), (S.1 39), (S.1 44), (S.2.2.1 17), (S.2.2.1 18), (S.2.2.1 19), (S.2.2.1 20), (S.2.2.1 22), (S.2.2.1 23), (S.2.2.1 24), (S.2.2.1 25), (S.2.2.1 26), (S.2.2.2.1 21))) else (
lk (fun x3 =>
bd (f_X12_lists (wd_o S [(38, (S.1 38)), (39, (S.1 39)), (44, (S.1 44))] [] [(17, (S.2.2.1 17)), (18, (S.2.2.1 18)), (19, (S.2.2.1 19)), (20, (S.2.2.1 20)), (22, (S.2.2.1 22)), (23, (S.2.2.1 23)), (24, (S.2.2.1 24)), (25, (S.2.2.1 25)), (26, (S.2.2.1 26))] [(21, (S.2.2.2.1 21))] []) x3) fun o5 =>
bd (f_X12_plain (wd_o S [(38, o5.1), (39, o5.2.1), (44, o5.2.2.1)] [] [(17, o5.2.2.2.1), (18, o5.2.2.2.2.1), (19, o5.2.2.2.2.2.1), (20, o5.2.2.2.2.2.2.1), (22, (S.2.2.1 22)), (23, (S.2.2.1 23)), (24, o5.2.2.2.2.2.2.2.1), (25, o5.2.2.2.2.2.2.2.2.1), (26, o5.2.2.2.2.2.2.2.2.2)] [(21, (S.2.2.2.1 21))] [])) fun o6 =>
bd (f_X12_weighs (wd_o S [(38, o5.1), (39, o5.2.1), (44, o5.2.2.1)] [] [(17, o5.2.2.2.1), (18, o5.2.2.2.2.1), (19, o5.2.2.2.2.2.1), (20, o5.2.2.2.2.2.2.1), (22, o6.1), (23, o6.2), (24, o5.2.2.2.2.2.2.2.1), (25, o5.2.2.2.2.2.2.2.2.1), (26, o5.2.2.2.2.2.2.2.2.2)] [(21, (S.2.2.2.1 21))] [])) fun o7 =>
it2 (f_X12_ends_L53 S p1 p2 o5 o6 o7) fuel (0 : Int64) (0 : Int32)) fun k37_4 =>
if p2 = (1 : Int32) then (
k37_4 (1 : Int32)) else (
k37_4 (0 : Int32))))
set_option maxRecDepth 100000 in
set_option maxHeartbeats 4000000 in
theorem c_X12_ends (l : Launch) (D : va_G) (q g : Nat → Nat) (cy : Nat → ClassId) (z : (Nat → Nat) × (Nat → Nat) × Nat) (S : wd_W) (p1 : Int32) (p2 : Int32) (o : o_X12_ends) (hf : f_X12_ends S p1 p2 = some o) : MX layM l yX12_ends cX12_ends 6 (some .long) ({ frames := 6, cells := 0, slots := 0, locals := 143 } : Room) D q g cy z [.ref (q 0), .int p1, .int p2] S false (some (.long o.1)) (wd_o S [(38, o.2.1), (39, o.2.2.1), (44, o.2.2.2.1)] [] [(17, o.2.2.2.2.1), (18, o.2.2.2.2.2.1), (19, o.2.2.2.2.2.2.1), (20, o.2.2.2.2.2.2.2.1), (22, o.2.2.2.2.2.2.2.2.1), (23, o.2.2.2.2.2.2.2.2.2.1), (24, o.2.2.2.2.2.2.2.2.2.2.1), (25, o.2.2.2.2.2.2.2.2.2.2.2.1), (26, o.2.2.2.2.2.2.2.2.2.2.2.2.1)] [(21, o.2.2.2.2.2.2.2.2.2.2.2.2.2)] []) 0 0 := by
  refine mx_of (own := RX12) (lc := [(0, .ref (q 0)), (1, .int p1), (2, .int p2)]) (by decide +kernel) rfl layM_ok (Nat.le_of_ble_eq_true rfl) rfl ?_
  intro X hXl hXq hXz hC hQ
  subst hXl; subst hXq; subst hXz
  unfold f_X12_ends at hf
  refine go_keys (L1 := [(38, (S.1 38)), (39, (S.1 39)), (44, (S.1 44))]) (L2 := []) (L3 := [(17, (S.2.2.1 17)), (18, (S.2.2.1 18)), (19, (S.2.2.1 19)), (20, (S.2.2.1 20)), (22, (S.2.2.1 22)), (23, (S.2.2.1 23)), (24, (S.2.2.1 24)), (25, (S.2.2.1 25)), (26, (S.2.2.1 26))]) (L4 := [(21, (S.2.2.2.1 21))]) (L5 := []) [38, 39, 44] [] [17, 18, 19, 20, 22, 23, 24, 25, 26] [21] [] rfl rfl rfl rfl rfl ?_
  refine go_iload_n (pc' := 1) hC dX12_ends_0 rfl rfl ?_
  refine go_i2l (pc' := 2) hC dX12_ends_1 rfl ?_
  refine go_lconst (pc' := 3) hC dX12_ends_2 kl_0 rfl ?_
  refine go_ldc2 (pc' := 6) hC dX12_ends_3 mw_1061 rfl ?_
  obtain ⟨o1, ho1, hf⟩ := bd_e hf
  refine go_callS0 (pc' := 9) (As := [.long p1.toInt64, .long (0 : Int64), .long (60 : Int64)]) (st := []) (st' := [.int o1])    hC dX12_ends_6 ⟨mw_525, mw_527, mw_5, yd_yX12_in, yp_yX12_in, Nat.le_of_ble_eq_true rfl, Nat.le_of_ble_eq_true rfl, (Nat.le_of_ble_eq_true rfl), (Nat.le_of_ble_eq_true rfl)⟩ mw_526 rfl rfl (Nat.le_of_ble_eq_true rfl) (c_X12_in (x_l X) (x_D X) (x_q X) g (x_cy X) (x_z X) _ p1.toInt64 (0 : Int64) (60 : Int64) o1 ho1) rfl rfl ?_
  refine go_if_eq (tgt := 22) (pc' := 12) hC dX12_ends_9 (by decide) rfl (fun h31 => ?_) (fun h31 => ?_)
  · have hf := ite_t h31 hf
    refine go_ldc2 (pc' := 25) hC dX12_ends_22 mw_922 rfl ?_
    obtain rfl := Option.some.inj hf
    exact go_lret hC hQ dX12_ends_25 rfl rfl rfl (fun _ => rfl) rfl rfl
  · have hf := ite_f h31 hf
    refine go_iload_n (pc' := 13) hC dX12_ends_12 rfl rfl ?_
    refine go_i2l (pc' := 14) hC dX12_ends_13 rfl ?_
    refine go_lconst (pc' := 15) hC dX12_ends_14 kl_0 rfl ?_
    refine go_lconst (pc' := 16) hC dX12_ends_15 kl_1 rfl ?_
    obtain ⟨o2, ho2, hf⟩ := bd_e hf
    refine go_callS0 (pc' := 19) (As := [.long p2.toInt64, .long (0 : Int64), .long (1 : Int64)]) (st := []) (st' := [.int o2])    hC dX12_ends_16 ⟨mw_525, mw_527, mw_5, yd_yX12_in, yp_yX12_in, Nat.le_of_ble_eq_true rfl, Nat.le_of_ble_eq_true rfl, (Nat.le_of_ble_eq_true rfl), (Nat.le_of_ble_eq_true rfl)⟩ mw_526 rfl rfl (Nat.le_of_ble_eq_true rfl) (c_X12_in (x_l X) (x_D X) (x_q X) g (x_cy X) (x_z X) _ p2.toInt64 (0 : Int64) (1 : Int64) o2 ho2) rfl rfl ?_
    refine go_if_ne (tgt := 26) (pc' := 22) hC dX12_ends_19 (by decide) rfl (fun h30 => ?_) (fun h30 => ?_)
    · have hf := ite_f h30 hf
      refine go_aload_n (pc' := 27) hC dX12_ends_26 rfl rfl ?_
      refine go_iload_n (pc' := 28) hC dX12_ends_27 rfl rfl ?_
      refine go_iconst (pc' := 29) hC dX12_ends_28 ki_1 rfl ?_
      obtain ⟨k37_4, hk37_4, hf⟩ := lk_e1 hf
      have jk37_4 : ∀ (x3 : Int32), k37_4 x3 = some o → Go X layM S 37 [(0, .ref (x_q X 0)), (1, .int p1), (2, .int p2)] [.int x3, .ref (x_q X 0)] g [(38, (S.1 38)), (39, (S.1 39)), (44, (S.1 44))] [] [(17, (S.2.2.1 17)), (18, (S.2.2.1 18)), (19, (S.2.2.1 19)), (20, (S.2.2.1 20)), (22, (S.2.2.1 22)), (23, (S.2.2.1 23)), (24, (S.2.2.1 24)), (25, (S.2.2.1 25)), (26, (S.2.2.1 26))] [(21, (S.2.2.2.1 21))] [] 0 0 := by
        intro x3 hf
        have hf := hk37_4 x3 hf
        clear hk37_4
        obtain ⟨o5, ho5, hf⟩ := bd_e hf
        refine go_callV1 (pc' := 40) (As := [.int x3]) (st := []) (st' := []) (L1' := [(38, o5.1), (39, o5.2.1), (44, o5.2.2.1)]) (L2' := []) (L3' := [(17, o5.2.2.2.1), (18, o5.2.2.2.2.1), (19, o5.2.2.2.2.2.1), (20, o5.2.2.2.2.2.2.1), (22, (S.2.2.1 22)), (23, (S.2.2.1 23)), (24, o5.2.2.2.2.2.2.2.1), (25, o5.2.2.2.2.2.2.2.2.1), (26, o5.2.2.2.2.2.2.2.2.2)]) (L4' := [(21, (S.2.2.2.1 21))]) (L5' := []) (cells' := 0) (slots' := 0)  (b := 0) hC dX12_ends_37 ⟨mw_1022, mw_1025, mw_5, yd_yX12_lists, yp_yX12_lists, Nat.le_of_ble_eq_true rfl, Nat.le_of_ble_eq_true rfl, (Nat.le_of_ble_eq_true rfl), (Nat.le_of_ble_eq_true rfl)⟩ mw_1023 mw_1024 layM_0 rfl rfl rfl (Nat.le_of_ble_eq_true rfl) (c_X12_lists (x_l X) (x_D X) (x_q X) g (x_cy X) (x_z X) _ x3 o5 ho5) rfl rfl rfl rfl rfl rfl rfl rfl rfl rfl rfl rfl rfl rfl ?_
        refine go_aload_n (pc' := 41) hC dX12_ends_40 rfl rfl ?_
        obtain ⟨o6, ho6, hf⟩ := bd_e hf
        refine go_callV1 (pc' := 44) (As := []) (st := []) (st' := []) (L1' := [(38, o5.1), (39, o5.2.1), (44, o5.2.2.1)]) (L2' := []) (L3' := [(17, o5.2.2.2.1), (18, o5.2.2.2.2.1), (19, o5.2.2.2.2.2.1), (20, o5.2.2.2.2.2.2.1), (22, o6.1), (23, o6.2), (24, o5.2.2.2.2.2.2.2.1), (25, o5.2.2.2.2.2.2.2.2.1), (26, o5.2.2.2.2.2.2.2.2.2)]) (L4' := [(21, (S.2.2.2.1 21))]) (L5' := []) (cells' := 0) (slots' := 0)  (b := 0) hC dX12_ends_41 ⟨mw_927, mw_930, mw_5, yd_yX12_plain, yp_yX12_plain, Nat.le_of_ble_eq_true rfl, Nat.le_of_ble_eq_true rfl, (Nat.le_of_ble_eq_true rfl), (Nat.le_of_ble_eq_true rfl)⟩ mw_928 mw_929 layM_0 rfl rfl rfl (Nat.le_of_ble_eq_true rfl) (c_X12_plain (x_l X) (x_D X) (x_q X) g (x_cy X) (x_z X) _  o6 ho6) rfl rfl rfl rfl rfl rfl rfl rfl rfl rfl rfl rfl rfl rfl ?_
        refine go_aload_n (pc' := 45) hC dX12_ends_44 rfl rfl ?_
        obtain ⟨o7, ho7, hf⟩ := bd_e hf
        refine go_callV1 (pc' := 48) (As := []) (st := []) (st' := []) (L1' := [(38, o5.1), (39, o5.2.1), (44, o5.2.2.1)]) (L2' := []) (L3' := [(17, o5.2.2.2.1), (18, o5.2.2.2.2.1), (19, o5.2.2.2.2.2.1), (20, o5.2.2.2.2.2.2.1), (22, o6.1), (23, o6.2), (24, o5.2.2.2.2.2.2.2.1), (25, o5.2.2.2.2.2.2.2.2.1), (26, o5.2.2.2.2.2.2.2.2.2)]) (L4' := [(21, o7)]) (L5' := []) (cells' := 0) (slots' := 0)  (b := 0) hC dX12_ends_45 ⟨mw_935, mw_938, mw_5, yd_yX12_weighs, yp_yX12_weighs, Nat.le_of_ble_eq_true rfl, Nat.le_of_ble_eq_true rfl, (Nat.le_of_ble_eq_true rfl), (Nat.le_of_ble_eq_true rfl)⟩ mw_936 mw_937 layM_0 rfl rfl rfl (Nat.le_of_ble_eq_true rfl) (c_X12_weighs (x_l X) (x_D X) (x_q X) g (x_cy X) (x_z X) _  o7 ho7) rfl rfl rfl rfl rfl rfl rfl rfl rfl rfl rfl rfl rfl rfl ?_
        refine go_lconst (pc' := 49) hC dX12_ends_48 kl_0 rfl ?_
        refine go_lstore_n (lc' := [(0, .ref (x_q X 0)), (1, .int p1), (2, .int p2), (3, .long (0 : Int64))]) (pc' := 50) hC dX12_ends_49 (Nat.le_of_ble_eq_true rfl) rfl rfl ?_
        refine go_iconst (pc' := 51) hC dX12_ends_50 ki_0 rfl ?_
        refine go_istore (lc' := [(0, .ref (x_q X 0)), (1, .int p1), (2, .int p2), (3, .long (0 : Int64)), (5, .int (0 : Int32))]) (pc' := 53) hC dX12_ends_51 (Nat.le_of_ble_eq_true rfl) rfl rfl ?_
        have l53_28 : ∀ (nn : Nat) (x8 : Int64) (x9 : Int32), it2 (f_X12_ends_L53 S p1 p2 o5 o6 o7) nn x8 x9 = some o → Go X layM S 53 [(0, .ref (x_q X 0)), (1, .int p1), (2, .int p2), (3, .long x8), (5, .int x9)] [] g [(38, o5.1), (39, o5.2.1), (44, o5.2.2.1)] [] [(17, o5.2.2.2.1), (18, o5.2.2.2.2.1), (19, o5.2.2.2.2.2.1), (20, o5.2.2.2.2.2.2.1), (22, o6.1), (23, o6.2), (24, o5.2.2.2.2.2.2.2.1), (25, o5.2.2.2.2.2.2.2.2.1), (26, o5.2.2.2.2.2.2.2.2.2)] [(21, o7)] [] 0 0 := by
          intro nn
          induction nn with
          | zero =>
            intro x8 x9 hf
            exact none_no hf
          | succ nn ih =>
            intro x8 x9 hf
            have hf : f_X12_ends_L53 S p1 p2 o5 o6 o7 (it2 (f_X12_ends_L53 S p1 p2 o5 o6 o7) nn) x8 x9 = some o := hf
            generalize it2 (f_X12_ends_L53 S p1 p2 o5 o6 o7) nn = r10 at ih hf
            unfold f_X12_ends_L53 at hf
            refine go_iload (pc' := 55) hC dX12_ends_53 rfl rfl ?_
            refine go_aload_n (pc' := 56) hC dX12_ends_55 rfl rfl ?_
            obtain ⟨o11, ho11, hf⟩ := bd_e hf
            refine go_callV0 (pc' := 59) (As := []) (st := [.int x9]) (st' := [.int o11, .int x9])    (b := 0) hC dX12_ends_56 ⟨mw_856, mw_859, mw_5, yd_yX12_sets, yp_yX12_sets, Nat.le_of_ble_eq_true rfl, Nat.le_of_ble_eq_true rfl, (Nat.le_of_ble_eq_true rfl), (Nat.le_of_ble_eq_true rfl)⟩ mw_857 mw_858 layM_0 rfl rfl rfl (Nat.le_of_ble_eq_true rfl) (c_X12_sets (x_l X) (x_D X) (x_q X) g (x_cy X) (x_z X) _  o11 ho11) rfl rfl ?_
            refine go_icmp_ge (tgt := 120) (pc' := 62) hC dX12_ends_59 (by decide) rfl (fun h27 => ?_) (fun h27 => ?_)
            · have hf := ite_t h27 hf
              refine go_lload_n (pc' := 121) hC dX12_ends_120 rfl rfl ?_
              obtain rfl := Option.some.inj hf
              exact go_lret hC hQ dX12_ends_121 rfl rfl rfl (fun _ => rfl) rfl rfl
            · have hf := ite_f h27 hf
              refine go_lload_n (pc' := 63) hC dX12_ends_62 rfl rfl ?_
              refine go_iload_n (pc' := 64) hC dX12_ends_63 rfl rfl ?_
              obtain ⟨k112_14, hk112_14, hf⟩ := lk_e2 hf
              have jk112_14 : ∀ (x12 : Int64) (x13 : Int64), k112_14 x12 x13 = some o → Go X layM S 112 [(0, .ref (x_q X 0)), (1, .int p1), (2, .int p2), (5, .int x9)] [.long x12, .long x13] g [(38, o5.1), (39, o5.2.1), (44, o5.2.2.1)] [] [(17, o5.2.2.2.1), (18, o5.2.2.2.2.1), (19, o5.2.2.2.2.2.1), (20, o5.2.2.2.2.2.2.1), (22, o6.1), (23, o6.2), (24, o5.2.2.2.2.2.2.2.1), (25, o5.2.2.2.2.2.2.2.2.1), (26, o5.2.2.2.2.2.2.2.2.2)] [(21, o7)] [] 0 0 := by
                intro x12 x13 hf
                have hf := hk112_14 x12 x13 hf
                clear hk112_14
                refine go_ladd (pc' := 113) hC dX12_ends_112 rfl ?_
                refine go_namel (fun x15 hx => ?_)
                have hf := lz_r hx hf
                clear hx
                refine go_lstore_n (lc' := [(0, .ref (x_q X 0)), (1, .int p1), (2, .int p2), (3, .long x15), (5, .int x9)]) (pc' := 114) hC dX12_ends_113 (Nat.le_of_ble_eq_true rfl) rfl rfl ?_
                refine go_iinc (lc' := [(0, .ref (x_q X 0)), (1, .int p1), (2, .int p2), (3, .long x15), (5, .int (x9 + (1 : Int32)))]) (pc' := 117) hC dX12_ends_114 rfl ki_1 (Nat.le_of_ble_eq_true rfl) rfl rfl ?_
                refine go_goto (tgt := 53) hC dX12_ends_117 (by decide) ?_
                exact ih x15 (x9 + (1 : Int32)) hf
              clear hk112_14
              obtain ⟨k111_17, hk111_17, hf⟩ := lk_e1 hf
              have jk111_17 : ∀ (x16 : Int64), k111_17 x16 = some o → Go X layM S 111 [(0, .ref (x_q X 0)), (1, .int p1), (2, .int p2), (5, .int x9)] [.long x16] g [(38, o5.1), (39, o5.2.1), (44, o5.2.2.1)] [] [(17, o5.2.2.2.1), (18, o5.2.2.2.2.1), (19, o5.2.2.2.2.2.1), (20, o5.2.2.2.2.2.2.1), (22, o6.1), (23, o6.2), (24, o5.2.2.2.2.2.2.2.1), (25, o5.2.2.2.2.2.2.2.2.1), (26, o5.2.2.2.2.2.2.2.2.2)] [(21, o7)] [] 0 0 := by
                intro x16 hf
                have hf := hk111_17 x16 hf
                clear hk111_17
                refine go_lconst (pc' := 112) hC dX12_ends_111 kl_0 rfl ?_
                exact jk112_14 (0 : Int64) x16 hf
              clear hk111_17
              obtain ⟨k101_19, hk101_19, hf⟩ := lk_e1 hf
              have jk101_19 : ∀ (x18 : Int64), k101_19 x18 = some o → Go X layM S 101 [(0, .ref (x_q X 0)), (1, .int p1), (2, .int p2), (5, .int x9)] [.long x18] g [(38, o5.1), (39, o5.2.1), (44, o5.2.2.1)] [] [(17, o5.2.2.2.1), (18, o5.2.2.2.2.1), (19, o5.2.2.2.2.2.1), (20, o5.2.2.2.2.2.2.1), (22, o6.1), (23, o6.2), (24, o5.2.2.2.2.2.2.2.1), (25, o5.2.2.2.2.2.2.2.2.1), (26, o5.2.2.2.2.2.2.2.2.2)] [(21, o7)] [] 0 0 := by
                intro x18 hf
                have hf := hk101_19 x18 hf
                clear hk101_19
                refine go_aload_n (pc' := 102) hC dX12_ends_101 rfl rfl ?_
                refine go_getq (pc' := 105) hC 0 45 layM_0 rfl rfl inlX12 (Nat.le_of_ble_eq_true rfl) mw_202 rfl dX12_ends_102 rfl ?_
                refine go_iload (pc' := 107) hC dX12_ends_105 rfl rfl ?_
                obtain ⟨h20, hf⟩ := gd_e hf
                refine go_lald (f := o7) (pc' := 108) hC 21 layM_21 rfl rfl dX12_ends_107 (okx_in h20) rfl ?_
                refine go_goto (tgt := 112) hC dX12_ends_108 (by decide) ?_
                exact jk112_14 (o7 x9.toNatClampNeg) x18 hf
              clear hk101_19
              refine go_if_ne (tgt := 81) (pc' := 67) hC dX12_ends_64 (by decide) rfl (fun h26 => ?_) (fun h26 => ?_)
              · have hf := ite_f h26 hf
                refine go_aload_n (pc' := 82) hC dX12_ends_81 rfl rfl ?_
                refine go_iconst (pc' := 83) hC dX12_ends_82 ki_1 rfl ?_
                refine go_iload_n (pc' := 84) hC dX12_ends_83 rfl rfl ?_
                refine go_aload_n (pc' := 85) hC dX12_ends_84 rfl rfl ?_
                obtain ⟨o21, ho21, hf⟩ := bd_e hf
                refine go_callV0 (pc' := 88) (As := []) (st := [.int p1, .int (1 : Int32), .ref (x_q X 0), .long x8]) (st' := [.int o21, .int p1, .int (1 : Int32), .ref (x_q X 0), .long x8])    (b := 0) hC dX12_ends_85 ⟨mw_856, mw_859, mw_5, yd_yX12_sets, yp_yX12_sets, Nat.le_of_ble_eq_true rfl, Nat.le_of_ble_eq_true rfl, (Nat.le_of_ble_eq_true rfl), (Nat.le_of_ble_eq_true rfl)⟩ mw_857 mw_858 layM_0 rfl rfl rfl (Nat.le_of_ble_eq_true rfl) (c_X12_sets (x_l X) (x_D X) (x_q X) g (x_cy X) (x_z X) _  o21 ho21) rfl rfl ?_
                refine go_iconst (pc' := 89) hC dX12_ends_88 ki_1 rfl ?_
                refine go_isub (pc' := 90) hC dX12_ends_89 rfl ?_
                refine go_iload (pc' := 92) hC dX12_ends_90 rfl rfl ?_
                refine go_iconst (pc' := 93) hC dX12_ends_92 ki_m1 rfl ?_
                refine go_ixor (pc' := 94) hC dX12_ends_93 rfl ?_
                refine go_iand (pc' := 95) hC dX12_ends_94 rfl ?_
                obtain ⟨o22, ho22, hf⟩ := bd_e hf
                refine go_callV0 (pc' := 98) (As := [.int (1 : Int32), .int p1, .int ((o21 - (1 : Int32)) &&& (x9 ^^^ (-1 : Int32)))]) (st := [.long x8]) (st' := [.int o22, .long x8])    (b := 0) hC dX12_ends_95 ⟨mw_1062, mw_1065, mw_5, yd_yX12_hasOne, yp_yX12_hasOne, Nat.le_of_ble_eq_true rfl, Nat.le_of_ble_eq_true rfl, (Nat.le_of_ble_eq_true rfl), (Nat.le_of_ble_eq_true rfl)⟩ mw_1063 mw_1064 layM_0 rfl rfl rfl (Nat.le_of_ble_eq_true rfl) (c_X12_hasOne (x_l X) (x_D X) (x_q X) g (x_cy X) (x_z X) _ (1 : Int32) p1 ((o21 - (1 : Int32)) &&& (x9 ^^^ (-1 : Int32))) o22 ho22) rfl rfl ?_
                refine go_if_ne (tgt := 111) (pc' := 101) hC dX12_ends_98 (by decide) rfl (fun h23 => ?_) (fun h23 => ?_)
                · have hf := ite_f h23 hf
                  refine go_sub [0, 1, 2, 5] rfl ?_
                  exact jk111_17 x8 hf
                · have hf := ite_t h23 hf
                  refine go_sub [0, 1, 2, 5] rfl ?_
                  exact jk101_19 x8 hf
              · have hf := ite_t h26 hf
                refine go_aload_n (pc' := 68) hC dX12_ends_67 rfl rfl ?_
                refine go_iconst (pc' := 69) hC dX12_ends_68 ki_0 rfl ?_
                refine go_iload_n (pc' := 70) hC dX12_ends_69 rfl rfl ?_
                refine go_iload (pc' := 72) hC dX12_ends_70 rfl rfl ?_
                obtain ⟨o24, ho24, hf⟩ := bd_e hf
                refine go_callV0 (pc' := 75) (As := [.int (0 : Int32), .int p1, .int x9]) (st := [.long x8]) (st' := [.int o24, .long x8])    (b := 0) hC dX12_ends_72 ⟨mw_1062, mw_1065, mw_5, yd_yX12_hasOne, yp_yX12_hasOne, Nat.le_of_ble_eq_true rfl, Nat.le_of_ble_eq_true rfl, (Nat.le_of_ble_eq_true rfl), (Nat.le_of_ble_eq_true rfl)⟩ mw_1063 mw_1064 layM_0 rfl rfl rfl (Nat.le_of_ble_eq_true rfl) (c_X12_hasOne (x_l X) (x_D X) (x_q X) g (x_cy X) (x_z X) _ (0 : Int32) p1 x9 o24 ho24) rfl rfl ?_
                refine go_if_eq (tgt := 111) (pc' := 78) hC dX12_ends_75 (by decide) rfl (fun h25 => ?_) (fun h25 => ?_)
                · have hf := ite_t h25 hf
                  refine go_sub [0, 1, 2, 5] rfl ?_
                  exact jk111_17 x8 hf
                · have hf := ite_f h25 hf
                  refine go_goto (tgt := 101) hC dX12_ends_78 (by decide) ?_
                  refine go_sub [0, 1, 2, 5] rfl ?_
                  exact jk101_19 x8 hf
        exact l53_28 fuel (0 : Int64) (0 : Int32) hf
      clear hk37_4
      refine go_icmp_ne (tgt := 36) (pc' := 32) hC dX12_ends_29 (by decide) rfl (fun h29 => ?_) (fun h29 => ?_)
      · have hf := ite_f h29 hf
        refine go_iconst (pc' := 37) hC dX12_ends_36 ki_0 rfl ?_
        exact jk37_4 (0 : Int32) hf
      · have hf := ite_t h29 hf
        refine go_iconst (pc' := 33) hC dX12_ends_32 ki_1 rfl ?_
        refine go_goto (tgt := 37) hC dX12_ends_33 (by decide) ?_
        exact jk37_4 (1 : Int32) hf
    · have hf := ite_t h30 hf
      refine go_ldc2 (pc' := 25) hC dX12_ends_22 mw_922 rfl ?_
      obtain rfl := Option.some.inj hf
      exact go_lret hC hQ dX12_ends_25 rfl rfl rfl (fun _ => rfl) rfl rfl
theorem dX12_row_0 : decode cX12_row 0 = .ok (.aload_n 0, 1) := by decide +kernel
theorem dX12_row_1 : decode cX12_row 1 = .ok (.invokevirtual 361, 3) := by decide +kernel
theorem dX12_row_4 : decode cX12_row 4 = .ok (.aload_n 0, 1) := by decide +kernel
theorem dX12_row_5 : decode cX12_row 5 = .ok (.invokevirtual 354, 3) := by decide +kernel
theorem dX12_row_8 : decode cX12_row 8 = .ok (.iconst 1, 1) := by decide +kernel
theorem dX12_row_9 : decode cX12_row 9 = .ok (.aload_n 0, 1) := by decide +kernel
theorem dX12_row_10 : decode cX12_row 10 = .ok (.getfield 279, 3) := by decide +kernel
theorem dX12_row_13 : decode cX12_row 13 = .ok (.ishl, 1) := by decide +kernel
theorem dX12_row_14 : decode cX12_row 14 = .ok (.isub, 1) := by decide +kernel
theorem dX12_row_15 : decode cX12_row 15 = .ok (.istore_n 2, 1) := by decide +kernel
theorem dX12_row_16 : decode cX12_row 16 = .ok (.iconst 0, 1) := by decide +kernel
theorem dX12_row_17 : decode cX12_row 17 = .ok (.istore_n 3, 1) := by decide +kernel
theorem dX12_row_18 : decode cX12_row 18 = .ok (.iconst 0, 1) := by decide +kernel
theorem dX12_row_19 : decode cX12_row 19 = .ok (.istore 4, 2) := by decide +kernel
theorem dX12_row_21 : decode cX12_row 21 = .ok (.iload 4, 2) := by decide +kernel
theorem dX12_row_23 : decode cX12_row 23 = .ok (.iconst 1, 1) := by decide +kernel
theorem dX12_row_24 : decode cX12_row 24 = .ok (.aload_n 0, 1) := by decide +kernel
theorem dX12_row_25 : decode cX12_row 25 = .ok (.getfield 279, 3) := by decide +kernel
theorem dX12_row_28 : decode cX12_row 28 = .ok (.ishl, 1) := by decide +kernel
theorem dX12_row_29 : decode cX12_row 29 = .ok (.if_icmp .ge 38, 3) := by decide +kernel
theorem dX12_row_32 : decode cX12_row 32 = .ok (.iload_n 3, 1) := by decide +kernel
theorem dX12_row_33 : decode cX12_row 33 = .ok (.iload 4, 2) := by decide +kernel
theorem dX12_row_35 : decode cX12_row 35 = .ok (.invokestatic 344, 3) := by decide +kernel
theorem dX12_row_38 : decode cX12_row 38 = .ok (.iload_n 1, 1) := by decide +kernel
theorem dX12_row_39 : decode cX12_row 39 = .ok (.if_icmp .ne 19, 3) := by decide +kernel
theorem dX12_row_42 : decode cX12_row 42 = .ok (.aload_n 0, 1) := by decide +kernel
theorem dX12_row_43 : decode cX12_row 43 = .ok (.getfield 70, 3) := by decide +kernel
theorem dX12_row_46 : decode cX12_row 46 = .ok (.iload 4, 2) := by decide +kernel
theorem dX12_row_48 : decode cX12_row 48 = .ok (.iload_n 2, 1) := by decide +kernel
theorem dX12_row_49 : decode cX12_row 49 = .ok (.ior, 1) := by decide +kernel
theorem dX12_row_50 : decode cX12_row 50 = .ok (.baload, 1) := by decide +kernel
theorem dX12_row_51 : decode cX12_row 51 = .ok (.ifCond .eq 7, 3) := by decide +kernel
theorem dX12_row_54 : decode cX12_row 54 = .ok (.iconst 1, 1) := by decide +kernel
theorem dX12_row_55 : decode cX12_row 55 = .ok (.goto 4, 3) := by decide +kernel
theorem dX12_row_58 : decode cX12_row 58 = .ok (.iconst 0, 1) := by decide +kernel
theorem dX12_row_59 : decode cX12_row 59 = .ok (.iadd, 1) := by decide +kernel
theorem dX12_row_60 : decode cX12_row 60 = .ok (.istore_n 3, 1) := by decide +kernel
theorem dX12_row_61 : decode cX12_row 61 = .ok (.iinc 4 1, 3) := by decide +kernel
theorem dX12_row_64 : decode cX12_row 64 = .ok (.goto (-43), 3) := by decide +kernel
theorem dX12_row_67 : decode cX12_row 67 = .ok (.iload_n 3, 1) := by decide +kernel
theorem dX12_row_68 : decode cX12_row 68 = .ok (.ireturn, 1) := by decide +kernel
abbrev o_X12_row : Type := Int32 × Int32 × Int32 × Int32 × (Nat → Int32) × (Nat → Int32) × (Nat → Int32) × (Nat → Int32)
def f_X12_row_L21 (S : wd_W) (p1 : Int32) (o1 : o_X12_lays) (x3 : Int32) (r6 : (Int32) → (Int32) → (Option o_X12_row)) (x4 : Int32) (x5 : Int32) : Option o_X12_row :=
if ((1 : Int32) <<< ((S.1 21) &&& 31)) ≤ x5 then (
some (x4, o1.1, o1.2.1, o1.2.2.1, o1.2.2.2.1, o1.2.2.2.2.1, o1.2.2.2.2.2.1, o1.2.2.2.2.2.2)) else (
bd (f_X12_bits x5) fun o7 =>
lk (fun x8 x9 =>
lz (x9 + x8) fun x11 =>
r6 x11 (x5 + (1 : Int32))) fun k59_10 =>
lk (fun x12 =>
k59_10 (0 : Int32) x12) fun k58_13 =>
if o7 = p1 then (
gd (okx (x5 ||| x3) 32768) <|
if (o1.2.2.2.2.2.2 (x5 ||| x3).toNatClampNeg) = 0 then (
k58_13 x4) else (
k59_10 (1 : Int32) x4)) else (
k58_13 x4))
def f_X12_row (S : wd_W) (p1 : Int32) : Option o_X12_row :=
bd (f_X12_lays (wd_o S [(38, (S.1 38)), (39, (S.1 39)), (44, (S.1 44))] [] [(17, (S.2.2.1 17)), (18, (S.2.2.1 18)), (19, (S.2.2.1 19)), (20, (S.2.2.1 20))] [] [])) fun o1 =>
bd (f_X12_sets (wd_o S [(38, o1.1), (39, o1.2.1), (44, o1.2.2.1)] [] [(17, o1.2.2.2.1), (18, o1.2.2.2.2.1), (19, o1.2.2.2.2.2.1), (20, o1.2.2.2.2.2.2)] [] [])) fun o2 =>
lz (o2 - ((1 : Int32) <<< ((S.1 21) &&& 31))) fun x3 =>
it2 (f_X12_row_L21 S p1 o1 x3) fuel (0 : Int32) (0 : Int32)
set_option maxRecDepth 100000 in
set_option maxHeartbeats 4000000 in
theorem c_X12_row (l : Launch) (D : va_G) (q g : Nat → Nat) (cy : Nat → ClassId) (z : (Nat → Nat) × (Nat → Nat) × Nat) (S : wd_W) (p1 : Int32) (o : o_X12_row) (hf : f_X12_row S p1 = some o) : MX layM l yX12_row cX12_row 5 (some .int) ({ frames := 5, cells := 0, slots := 0, locals := 115 } : Room) D q g cy z [.ref (q 0), .int p1] S false (some (.int o.1)) (wd_o S [(38, o.2.1), (39, o.2.2.1), (44, o.2.2.2.1)] [] [(17, o.2.2.2.2.1), (18, o.2.2.2.2.2.1), (19, o.2.2.2.2.2.2.1), (20, o.2.2.2.2.2.2.2)] [] []) 0 0 := by
  refine mx_of (own := RX12) (lc := [(0, .ref (q 0)), (1, .int p1)]) (by decide +kernel) rfl layM_ok (Nat.le_of_ble_eq_true rfl) rfl ?_
  intro X hXl hXq hXz hC hQ
  subst hXl; subst hXq; subst hXz
  unfold f_X12_row at hf
  refine go_keys (L1 := [(38, (S.1 38)), (39, (S.1 39)), (44, (S.1 44))]) (L2 := []) (L3 := [(17, (S.2.2.1 17)), (18, (S.2.2.1 18)), (19, (S.2.2.1 19)), (20, (S.2.2.1 20))]) (L4 := []) (L5 := []) [38, 39, 44] [] [17, 18, 19, 20] [] [] rfl rfl rfl rfl rfl ?_
  refine go_aload_n (pc' := 1) hC dX12_row_0 rfl rfl ?_
  obtain ⟨o1, ho1, hf⟩ := bd_e hf
  refine go_callV1 (pc' := 4) (As := []) (st := []) (st' := []) (L1' := [(38, o1.1), (39, o1.2.1), (44, o1.2.2.1)]) (L2' := []) (L3' := [(17, o1.2.2.2.1), (18, o1.2.2.2.2.1), (19, o1.2.2.2.2.2.1), (20, o1.2.2.2.2.2.2)]) (L4' := []) (L5' := []) (cells' := 0) (slots' := 0)  (b := 0) hC dX12_row_1 ⟨mw_860, mw_863, mw_5, yd_yX12_lays, yp_yX12_lays, Nat.le_of_ble_eq_true rfl, Nat.le_of_ble_eq_true rfl, (Nat.le_of_ble_eq_true rfl), (Nat.le_of_ble_eq_true rfl)⟩ mw_861 mw_862 layM_0 rfl rfl rfl (Nat.le_of_ble_eq_true rfl) (c_X12_lays (x_l X) (x_D X) (x_q X) g (x_cy X) (x_z X) _  o1 ho1) rfl rfl rfl rfl rfl rfl rfl rfl rfl rfl rfl rfl rfl rfl ?_
  refine go_aload_n (pc' := 5) hC dX12_row_4 rfl rfl ?_
  obtain ⟨o2, ho2, hf⟩ := bd_e hf
  refine go_callV0 (pc' := 8) (As := []) (st := []) (st' := [.int o2])    (b := 0) hC dX12_row_5 ⟨mw_856, mw_859, mw_5, yd_yX12_sets, yp_yX12_sets, Nat.le_of_ble_eq_true rfl, Nat.le_of_ble_eq_true rfl, (Nat.le_of_ble_eq_true rfl), (Nat.le_of_ble_eq_true rfl)⟩ mw_857 mw_858 layM_0 rfl rfl rfl (Nat.le_of_ble_eq_true rfl) (c_X12_sets (x_l X) (x_D X) (x_q X) g (x_cy X) (x_z X) _  o2 ho2) rfl rfl ?_
  refine go_iconst (pc' := 9) hC dX12_row_8 ki_1 rfl ?_
  refine go_aload_n (pc' := 10) hC dX12_row_9 rfl rfl ?_
  refine go_geti (v := (S.1 21)) (pc' := 13) hC 0 21 layM_0 rfl rfl inlX12 (Nat.le_of_ble_eq_true rfl) mw_247 rfl dX12_row_10 rfl rfl ?_
  refine go_ishl (pc' := 14) hC dX12_row_13 rfl ?_
  refine go_isub (pc' := 15) hC dX12_row_14 rfl ?_
  refine go_namei (fun x3 hx => ?_)
  have hf := lz_r hx hf
  clear hx
  refine go_istore_n (lc' := [(0, .ref (x_q X 0)), (1, .int p1), (2, .int x3)]) (pc' := 16) hC dX12_row_15 (Nat.le_of_ble_eq_true rfl) rfl rfl ?_
  refine go_iconst (pc' := 17) hC dX12_row_16 ki_0 rfl ?_
  refine go_istore_n (lc' := [(0, .ref (x_q X 0)), (1, .int p1), (2, .int x3), (3, .int (0 : Int32))]) (pc' := 18) hC dX12_row_17 (Nat.le_of_ble_eq_true rfl) rfl rfl ?_
  refine go_iconst (pc' := 19) hC dX12_row_18 ki_0 rfl ?_
  refine go_istore (lc' := [(0, .ref (x_q X 0)), (1, .int p1), (2, .int x3), (3, .int (0 : Int32)), (4, .int (0 : Int32))]) (pc' := 21) hC dX12_row_19 (Nat.le_of_ble_eq_true rfl) rfl rfl ?_
  have l21_18 : ∀ (nn : Nat) (x4 : Int32) (x5 : Int32), it2 (f_X12_row_L21 S p1 o1 x3) nn x4 x5 = some o → Go X layM S 21 [(0, .ref (x_q X 0)), (1, .int p1), (2, .int x3), (3, .int x4), (4, .int x5)] [] g [(38, o1.1), (39, o1.2.1), (44, o1.2.2.1)] [] [(17, o1.2.2.2.1), (18, o1.2.2.2.2.1), (19, o1.2.2.2.2.2.1), (20, o1.2.2.2.2.2.2)] [] [] 0 0 := by
    intro nn
    induction nn with
    | zero =>
      intro x4 x5 hf
      exact none_no hf
    | succ nn ih =>
      intro x4 x5 hf
      have hf : f_X12_row_L21 S p1 o1 x3 (it2 (f_X12_row_L21 S p1 o1 x3) nn) x4 x5 = some o := hf
      generalize it2 (f_X12_row_L21 S p1 o1 x3) nn = r6 at ih hf
      unfold f_X12_row_L21 at hf
      refine go_iload (pc' := 23) hC dX12_row_21 rfl rfl ?_
      refine go_iconst (pc' := 24) hC dX12_row_23 ki_1 rfl ?_
      refine go_aload_n (pc' := 25) hC dX12_row_24 rfl rfl ?_
      refine go_geti (v := (S.1 21)) (pc' := 28) hC 0 21 layM_0 rfl rfl inlX12 (Nat.le_of_ble_eq_true rfl) mw_247 rfl dX12_row_25 rfl rfl ?_
      refine go_ishl (pc' := 29) hC dX12_row_28 rfl ?_
      refine go_icmp_ge (tgt := 67) (pc' := 32) hC dX12_row_29 (by decide) rfl (fun h17 => ?_) (fun h17 => ?_)
      · have hf := ite_t h17 hf
        refine go_iload_n (pc' := 68) hC dX12_row_67 rfl rfl ?_
        obtain rfl := Option.some.inj hf
        exact go_iret hC hQ dX12_row_68 rfl rfl rfl rfl (fun _ => rfl) rfl rfl
      · have hf := ite_f h17 hf
        refine go_iload_n (pc' := 33) hC dX12_row_32 rfl rfl ?_
        refine go_iload (pc' := 35) hC dX12_row_33 rfl rfl ?_
        obtain ⟨o7, ho7, hf⟩ := bd_e hf
        refine go_callS0 (pc' := 38) (As := [.int x5]) (st := [.int x4]) (st' := [.int o7, .int x4])    hC dX12_row_35 ⟨mw_890, mw_892, mw_5, yd_yX12_bits, yp_yX12_bits, Nat.le_of_ble_eq_true rfl, Nat.le_of_ble_eq_true rfl, (Nat.le_of_ble_eq_true rfl), (Nat.le_of_ble_eq_true rfl)⟩ mw_891 rfl rfl (Nat.le_of_ble_eq_true rfl) (c_X12_bits (x_l X) (x_D X) (x_q X) g (x_cy X) (x_z X) _ x5 o7 ho7) rfl rfl ?_
        refine go_iload_n (pc' := 39) hC dX12_row_38 rfl rfl ?_
        obtain ⟨k59_10, hk59_10, hf⟩ := lk_e2 hf
        have jk59_10 : ∀ (x8 : Int32) (x9 : Int32), k59_10 x8 x9 = some o → Go X layM S 59 [(0, .ref (x_q X 0)), (1, .int p1), (2, .int x3), (4, .int x5)] [.int x8, .int x9] g [(38, o1.1), (39, o1.2.1), (44, o1.2.2.1)] [] [(17, o1.2.2.2.1), (18, o1.2.2.2.2.1), (19, o1.2.2.2.2.2.1), (20, o1.2.2.2.2.2.2)] [] [] 0 0 := by
          intro x8 x9 hf
          have hf := hk59_10 x8 x9 hf
          clear hk59_10
          refine go_iadd (pc' := 60) hC dX12_row_59 rfl ?_
          refine go_namei (fun x11 hx => ?_)
          have hf := lz_r hx hf
          clear hx
          refine go_istore_n (lc' := [(0, .ref (x_q X 0)), (1, .int p1), (2, .int x3), (3, .int x11), (4, .int x5)]) (pc' := 61) hC dX12_row_60 (Nat.le_of_ble_eq_true rfl) rfl rfl ?_
          refine go_iinc (lc' := [(0, .ref (x_q X 0)), (1, .int p1), (2, .int x3), (3, .int x11), (4, .int (x5 + (1 : Int32)))]) (pc' := 64) hC dX12_row_61 rfl ki_1 (Nat.le_of_ble_eq_true rfl) rfl rfl ?_
          refine go_goto (tgt := 21) hC dX12_row_64 (by decide) ?_
          exact ih x11 (x5 + (1 : Int32)) hf
        clear hk59_10
        obtain ⟨k58_13, hk58_13, hf⟩ := lk_e1 hf
        have jk58_13 : ∀ (x12 : Int32), k58_13 x12 = some o → Go X layM S 58 [(0, .ref (x_q X 0)), (1, .int p1), (2, .int x3), (4, .int x5)] [.int x12] g [(38, o1.1), (39, o1.2.1), (44, o1.2.2.1)] [] [(17, o1.2.2.2.1), (18, o1.2.2.2.2.1), (19, o1.2.2.2.2.2.1), (20, o1.2.2.2.2.2.2)] [] [] 0 0 := by
          intro x12 hf
          have hf := hk58_13 x12 hf
          clear hk58_13
          refine go_iconst (pc' := 59) hC dX12_row_58 ki_0 rfl ?_
          exact jk59_10 (0 : Int32) x12 hf
        clear hk58_13
        refine go_icmp_ne (tgt := 58) (pc' := 42) hC dX12_row_39 (by decide) rfl (fun h16 => ?_) (fun h16 => ?_)
        · have hf := ite_f h16 hf
          refine go_sub [0, 1, 2, 4] rfl ?_
          exact jk58_13 x4 hf
        · have hf := ite_t h16 hf
          refine go_aload_n (pc' := 43) hC dX12_row_42 rfl rfl ?_
          refine go_getq (pc' := 46) hC 0 43 layM_0 rfl rfl inlX12 (Nat.le_of_ble_eq_true rfl) mw_201 rfl dX12_row_43 rfl ?_
          refine go_iload (pc' := 48) hC dX12_row_46 rfl rfl ?_
          refine go_iload_n (pc' := 49) hC dX12_row_48 rfl rfl ?_
          refine go_ior (pc' := 50) hC dX12_row_49 rfl ?_
          obtain ⟨h14, hf⟩ := gd_e hf
          refine go_zald (f := o1.2.2.2.2.2.2) (pc' := 51) hC 20 layM_20 rfl rfl dX12_row_50 (okx_in h14) rfl ?_
          refine go_if_eq (tgt := 58) (pc' := 54) hC dX12_row_51 (by decide) rfl (fun h15 => ?_) (fun h15 => ?_)
          · have hf := ite_t h15 hf
            refine go_sub [0, 1, 2, 4] rfl ?_
            exact jk58_13 x4 hf
          · have hf := ite_f h15 hf
            refine go_iconst (pc' := 55) hC dX12_row_54 ki_1 rfl ?_
            refine go_goto (tgt := 59) hC dX12_row_55 (by decide) ?_
            refine go_sub [0, 1, 2, 4] rfl ?_
            exact jk59_10 (1 : Int32) x4 hf
  exact l21_18 fuel (0 : Int32) (0 : Int32) hf
theorem dX12_mending_0 : decode cX12_mending 0 = .ok (.aload_n 0, 1) := by decide +kernel
theorem dX12_mending_1 : decode cX12_mending 1 = .ok (.getfield 303, 3) := by decide +kernel
theorem dX12_mending_4 : decode cX12_mending 4 = .ok (.bipush 9, 2) := by decide +kernel
theorem dX12_mending_6 : decode cX12_mending 6 = .ok (.if_icmp .eq 51, 3) := by decide +kernel
theorem dX12_mending_9 : decode cX12_mending 9 = .ok (.iload_n 1, 1) := by decide +kernel
theorem dX12_mending_10 : decode cX12_mending 10 = .ok (.i2l, 1) := by decide +kernel
theorem dX12_mending_11 : decode cX12_mending 11 = .ok (.lconst 0, 1) := by decide +kernel
theorem dX12_mending_12 : decode cX12_mending 12 = .ok (.aload_n 0, 1) := by decide +kernel
theorem dX12_mending_13 : decode cX12_mending 13 = .ok (.getfield 279, 3) := by decide +kernel
theorem dX12_mending_16 : decode cX12_mending 16 = .ok (.iconst 1, 1) := by decide +kernel
theorem dX12_mending_17 : decode cX12_mending 17 = .ok (.isub, 1) := by decide +kernel
theorem dX12_mending_18 : decode cX12_mending 18 = .ok (.i2l, 1) := by decide +kernel
theorem dX12_mending_19 : decode cX12_mending 19 = .ok (.invokestatic 218, 3) := by decide +kernel
theorem dX12_mending_22 : decode cX12_mending 22 = .ok (.ifCond .eq 35, 3) := by decide +kernel
theorem dX12_mending_25 : decode cX12_mending 25 = .ok (.iload_n 2, 1) := by decide +kernel
theorem dX12_mending_26 : decode cX12_mending 26 = .ok (.i2l, 1) := by decide +kernel
theorem dX12_mending_27 : decode cX12_mending 27 = .ok (.lconst 1, 1) := by decide +kernel
theorem dX12_mending_28 : decode cX12_mending 28 = .ok (.ldc2_w 414, 3) := by decide +kernel
theorem dX12_mending_31 : decode cX12_mending 31 = .ok (.invokestatic 218, 3) := by decide +kernel
theorem dX12_mending_34 : decode cX12_mending 34 = .ok (.ifCond .eq 23, 3) := by decide +kernel
theorem dX12_mending_37 : decode cX12_mending 37 = .ok (.iload_n 3, 1) := by decide +kernel
theorem dX12_mending_38 : decode cX12_mending 38 = .ok (.i2l, 1) := by decide +kernel
theorem dX12_mending_39 : decode cX12_mending 39 = .ok (.aload_n 0, 1) := by decide +kernel
theorem dX12_mending_40 : decode cX12_mending 40 = .ok (.getfield 38, 3) := by decide +kernel
theorem dX12_mending_43 : decode cX12_mending 43 = .ok (.iload_n 1, 1) := by decide +kernel
theorem dX12_mending_44 : decode cX12_mending 44 = .ok (.iaload, 1) := by decide +kernel
theorem dX12_mending_45 : decode cX12_mending 45 = .ok (.iconst 1, 1) := by decide +kernel
theorem dX12_mending_46 : decode cX12_mending 46 = .ok (.iadd, 1) := by decide +kernel
theorem dX12_mending_47 : decode cX12_mending 47 = .ok (.i2l, 1) := by decide +kernel
theorem dX12_mending_48 : decode cX12_mending 48 = .ok (.ldc2_w 367, 3) := by decide +kernel
theorem dX12_mending_51 : decode cX12_mending 51 = .ok (.invokestatic 218, 3) := by decide +kernel
theorem dX12_mending_54 : decode cX12_mending 54 = .ok (.ifCond .ne 5, 3) := by decide +kernel
theorem dX12_mending_57 : decode cX12_mending 57 = .ok (.iconst (-1), 1) := by decide +kernel
theorem dX12_mending_58 : decode cX12_mending 58 = .ok (.ireturn, 1) := by decide +kernel
theorem dX12_mending_59 : decode cX12_mending 59 = .ok (.aload_n 0, 1) := by decide +kernel
theorem dX12_mending_60 : decode cX12_mending 60 = .ok (.getfield 92, 3) := by decide +kernel
theorem dX12_mending_63 : decode cX12_mending 63 = .ok (.aload_n 0, 1) := by decide +kernel
theorem dX12_mending_64 : decode cX12_mending 64 = .ok (.getfield 303, 3) := by decide +kernel
theorem dX12_mending_67 : decode cX12_mending 67 = .ok (.iload_n 1, 1) := by decide +kernel
theorem dX12_mending_68 : decode cX12_mending 68 = .ok (.iastore, 1) := by decide +kernel
theorem dX12_mending_69 : decode cX12_mending 69 = .ok (.aload_n 0, 1) := by decide +kernel
theorem dX12_mending_70 : decode cX12_mending 70 = .ok (.getfield 95, 3) := by decide +kernel
theorem dX12_mending_73 : decode cX12_mending 73 = .ok (.aload_n 0, 1) := by decide +kernel
theorem dX12_mending_74 : decode cX12_mending 74 = .ok (.getfield 303, 3) := by decide +kernel
theorem dX12_mending_77 : decode cX12_mending 77 = .ok (.iload_n 2, 1) := by decide +kernel
theorem dX12_mending_78 : decode cX12_mending 78 = .ok (.iastore, 1) := by decide +kernel
theorem dX12_mending_79 : decode cX12_mending 79 = .ok (.aload_n 0, 1) := by decide +kernel
theorem dX12_mending_80 : decode cX12_mending 80 = .ok (.getfield 98, 3) := by decide +kernel
theorem dX12_mending_83 : decode cX12_mending 83 = .ok (.aload_n 0, 1) := by decide +kernel
theorem dX12_mending_84 : decode cX12_mending 84 = .ok (.getfield 303, 3) := by decide +kernel
theorem dX12_mending_87 : decode cX12_mending 87 = .ok (.iload_n 3, 1) := by decide +kernel
theorem dX12_mending_88 : decode cX12_mending 88 = .ok (.iastore, 1) := by decide +kernel
theorem dX12_mending_89 : decode cX12_mending 89 = .ok (.aload_n 0, 1) := by decide +kernel
theorem dX12_mending_90 : decode cX12_mending 90 = .ok (.dup, 1) := by decide +kernel
theorem dX12_mending_91 : decode cX12_mending 91 = .ok (.getfield 303, 3) := by decide +kernel
theorem dX12_mending_94 : decode cX12_mending 94 = .ok (.iconst 1, 1) := by decide +kernel
theorem dX12_mending_95 : decode cX12_mending 95 = .ok (.iadd, 1) := by decide +kernel
theorem dX12_mending_96 : decode cX12_mending 96 = .ok (.putfield 303, 3) := by decide +kernel
theorem dX12_mending_99 : decode cX12_mending 99 = .ok (.aload_n 0, 1) := by decide +kernel
theorem dX12_mending_100 : decode cX12_mending 100 = .ok (.getfield 303, 3) := by decide +kernel
theorem dX12_mending_103 : decode cX12_mending 103 = .ok (.iconst 1, 1) := by decide +kernel
theorem dX12_mending_104 : decode cX12_mending 104 = .ok (.isub, 1) := by decide +kernel
theorem dX12_mending_105 : decode cX12_mending 105 = .ok (.ireturn, 1) := by decide +kernel
abbrev o_X12_mending : Type := Int32 × Int32 × (Nat → Int32) × (Nat → Int32) × (Nat → Int32)
def f_X12_mending (S : wd_W) (p1 : Int32) (p2 : Int32) (p3 : Int32) : Option o_X12_mending :=
if (S.1 51) = (9 : Int32) then (
some ((-1 : Int32), (S.1 51), (S.2.2.1 27), (S.2.2.1 28), (S.2.2.1 29))) else (
bd (f_X12_in p1.toInt64 (0 : Int64) (((S.1 21) - (1 : Int32)).toInt64)) fun o1 =>
if o1 = 0 then (
some ((-1 : Int32), (S.1 51), (S.2.2.1 27), (S.2.2.1 28), (S.2.2.1 29))) else (
bd (f_X12_in p2.toInt64 (1 : Int64) (999 : Int64)) fun o2 =>
if o2 = 0 then (
some ((-1 : Int32), (S.1 51), (S.2.2.1 27), (S.2.2.1 28), (S.2.2.1 29))) else (
gd (okx p1 13) <|
bd (f_X12_in p3.toInt64 ((((S.2.2.1 10) p1.toNatClampNeg) + (1 : Int32)).toInt64) (16 : Int64)) fun o4 =>
if o4 = 0 then (
some ((-1 : Int32), (S.1 51), (S.2.2.1 27), (S.2.2.1 28), (S.2.2.1 29))) else (
gd (okx (S.1 51) 9) <|
lz (upd (S.2.2.1 27) (S.1 51).toNatClampNeg p1) fun a6 =>
gd (okx (S.1 51) 9) <|
lz (upd (S.2.2.1 28) (S.1 51).toNatClampNeg p2) fun a8 =>
gd (okx (S.1 51) 9) <|
lz (upd (S.2.2.1 29) (S.1 51).toNatClampNeg p3) fun a10 =>
lz ((S.1 51) + (1 : Int32)) fun x11 =>
some (x11 - (1 : Int32), x11, a6, a8, a10)))))
set_option maxRecDepth 100000 in
set_option maxHeartbeats 4000000 in
theorem c_X12_mending (l : Launch) (D : va_G) (q g : Nat → Nat) (cy : Nat → ClassId) (z : (Nat → Nat) × (Nat → Nat) × Nat) (S : wd_W) (p1 : Int32) (p2 : Int32) (p3 : Int32) (o : o_X12_mending) (hf : f_X12_mending S p1 p2 p3 = some o) : MX layM l yX12_mending cX12_mending 4 (some .int) ({ frames := 1, cells := 0, slots := 0, locals := 25 } : Room) D q g cy z [.ref (q 0), .int p1, .int p2, .int p3] S false (some (.int o.1)) (wd_o S [(51, o.2.1)] [] [(27, o.2.2.1), (28, o.2.2.2.1), (29, o.2.2.2.2)] [] []) 0 0 := by
  refine mx_of (own := RX12) (lc := [(0, .ref (q 0)), (1, .int p1), (2, .int p2), (3, .int p3)]) (by decide +kernel) rfl layM_ok (Nat.le_of_ble_eq_true rfl) rfl ?_
  intro X hXl hXq hXz hC hQ
  subst hXl; subst hXq; subst hXz
  unfold f_X12_mending at hf
  refine go_keys (L1 := [(51, (S.1 51))]) (L2 := []) (L3 := [(27, (S.2.2.1 27)), (28, (S.2.2.1 28)), (29, (S.2.2.1 29))]) (L4 := []) (L5 := []) [51] [] [27, 28, 29] [] [] rfl rfl rfl rfl rfl ?_
  refine go_aload_n (pc' := 1) hC dX12_mending_0 rfl rfl ?_
  refine go_geti (v := (S.1 51)) (pc' := 4) hC 0 51 layM_0 rfl rfl inlX12 (Nat.le_of_ble_eq_true rfl) mw_255 rfl dX12_mending_1 rfl rfl ?_
  refine go_bipush (pc' := 6) hC dX12_mending_4 kb_9 rfl ?_
  refine go_icmp_eq (tgt := 57) (pc' := 9) hC dX12_mending_6 (by decide) rfl (fun h15 => ?_) (fun h15 => ?_)
  · have hf := ite_t h15 hf
    refine go_iconst (pc' := 58) hC dX12_mending_57 ki_m1 rfl ?_
    obtain rfl := Option.some.inj hf
    exact go_iret hC hQ dX12_mending_58 rfl rfl rfl rfl (fun _ => rfl) rfl rfl
  · have hf := ite_f h15 hf
    refine go_iload_n (pc' := 10) hC dX12_mending_9 rfl rfl ?_
    refine go_i2l (pc' := 11) hC dX12_mending_10 rfl ?_
    refine go_lconst (pc' := 12) hC dX12_mending_11 kl_0 rfl ?_
    refine go_aload_n (pc' := 13) hC dX12_mending_12 rfl rfl ?_
    refine go_geti (v := (S.1 21)) (pc' := 16) hC 0 21 layM_0 rfl rfl inlX12 (Nat.le_of_ble_eq_true rfl) mw_247 rfl dX12_mending_13 rfl rfl ?_
    refine go_iconst (pc' := 17) hC dX12_mending_16 ki_1 rfl ?_
    refine go_isub (pc' := 18) hC dX12_mending_17 rfl ?_
    refine go_i2l (pc' := 19) hC dX12_mending_18 rfl ?_
    obtain ⟨o1, ho1, hf⟩ := bd_e hf
    refine go_callS0 (pc' := 22) (As := [.long p1.toInt64, .long (0 : Int64), .long (((S.1 21) - (1 : Int32)).toInt64)]) (st := []) (st' := [.int o1])    hC dX12_mending_19 ⟨mw_525, mw_527, mw_5, yd_yX12_in, yp_yX12_in, Nat.le_of_ble_eq_true rfl, Nat.le_of_ble_eq_true rfl, (Nat.le_of_ble_eq_true rfl), (Nat.le_of_ble_eq_true rfl)⟩ mw_526 rfl rfl (Nat.le_of_ble_eq_true rfl) (c_X12_in (x_l X) (x_D X) (x_q X) g (x_cy X) (x_z X) _ p1.toInt64 (0 : Int64) (((S.1 21) - (1 : Int32)).toInt64) o1 ho1) rfl rfl ?_
    refine go_if_eq (tgt := 57) (pc' := 25) hC dX12_mending_22 (by decide) rfl (fun h14 => ?_) (fun h14 => ?_)
    · have hf := ite_t h14 hf
      refine go_iconst (pc' := 58) hC dX12_mending_57 ki_m1 rfl ?_
      obtain rfl := Option.some.inj hf
      exact go_iret hC hQ dX12_mending_58 rfl rfl rfl rfl (fun _ => rfl) rfl rfl
    · have hf := ite_f h14 hf
      refine go_iload_n (pc' := 26) hC dX12_mending_25 rfl rfl ?_
      refine go_i2l (pc' := 27) hC dX12_mending_26 rfl ?_
      refine go_lconst (pc' := 28) hC dX12_mending_27 kl_1 rfl ?_
      refine go_ldc2 (pc' := 31) hC dX12_mending_28 mw_1092 rfl ?_
      obtain ⟨o2, ho2, hf⟩ := bd_e hf
      refine go_callS0 (pc' := 34) (As := [.long p2.toInt64, .long (1 : Int64), .long (999 : Int64)]) (st := []) (st' := [.int o2])    hC dX12_mending_31 ⟨mw_525, mw_527, mw_5, yd_yX12_in, yp_yX12_in, Nat.le_of_ble_eq_true rfl, Nat.le_of_ble_eq_true rfl, (Nat.le_of_ble_eq_true rfl), (Nat.le_of_ble_eq_true rfl)⟩ mw_526 rfl rfl (Nat.le_of_ble_eq_true rfl) (c_X12_in (x_l X) (x_D X) (x_q X) g (x_cy X) (x_z X) _ p2.toInt64 (1 : Int64) (999 : Int64) o2 ho2) rfl rfl ?_
      refine go_if_eq (tgt := 57) (pc' := 37) hC dX12_mending_34 (by decide) rfl (fun h13 => ?_) (fun h13 => ?_)
      · have hf := ite_t h13 hf
        refine go_iconst (pc' := 58) hC dX12_mending_57 ki_m1 rfl ?_
        obtain rfl := Option.some.inj hf
        exact go_iret hC hQ dX12_mending_58 rfl rfl rfl rfl (fun _ => rfl) rfl rfl
      · have hf := ite_f h13 hf
        refine go_iload_n (pc' := 38) hC dX12_mending_37 rfl rfl ?_
        refine go_i2l (pc' := 39) hC dX12_mending_38 rfl ?_
        refine go_aload_n (pc' := 40) hC dX12_mending_39 rfl rfl ?_
        refine go_getq (pc' := 43) hC 0 24 layM_0 rfl rfl inlX12 (Nat.le_of_ble_eq_true rfl) mw_189 rfl dX12_mending_40 rfl ?_
        refine go_iload_n (pc' := 44) hC dX12_mending_43 rfl rfl ?_
        obtain ⟨h3, hf⟩ := gd_e hf
        refine go_iald (f := (S.2.2.1 10)) (pc' := 45) hC 10 layM_10 rfl rfl dX12_mending_44 (okx_in h3) rfl ?_
        refine go_iconst (pc' := 46) hC dX12_mending_45 ki_1 rfl ?_
        refine go_iadd (pc' := 47) hC dX12_mending_46 rfl ?_
        refine go_i2l (pc' := 48) hC dX12_mending_47 rfl ?_
        refine go_ldc2 (pc' := 51) hC dX12_mending_48 mw_1038 rfl ?_
        obtain ⟨o4, ho4, hf⟩ := bd_e hf
        refine go_callS0 (pc' := 54) (As := [.long p3.toInt64, .long ((((S.2.2.1 10) p1.toNatClampNeg) + (1 : Int32)).toInt64), .long (16 : Int64)]) (st := []) (st' := [.int o4])    hC dX12_mending_51 ⟨mw_525, mw_527, mw_5, yd_yX12_in, yp_yX12_in, Nat.le_of_ble_eq_true rfl, Nat.le_of_ble_eq_true rfl, (Nat.le_of_ble_eq_true rfl), (Nat.le_of_ble_eq_true rfl)⟩ mw_526 rfl rfl (Nat.le_of_ble_eq_true rfl) (c_X12_in (x_l X) (x_D X) (x_q X) g (x_cy X) (x_z X) _ p3.toInt64 ((((S.2.2.1 10) p1.toNatClampNeg) + (1 : Int32)).toInt64) (16 : Int64) o4 ho4) rfl rfl ?_
        refine go_if_ne (tgt := 59) (pc' := 57) hC dX12_mending_54 (by decide) rfl (fun h12 => ?_) (fun h12 => ?_)
        · have hf := ite_f h12 hf
          refine go_aload_n (pc' := 60) hC dX12_mending_59 rfl rfl ?_
          refine go_getq (pc' := 63) hC 0 52 layM_0 rfl rfl inlX12 (Nat.le_of_ble_eq_true rfl) mw_208 rfl dX12_mending_60 rfl ?_
          refine go_aload_n (pc' := 64) hC dX12_mending_63 rfl rfl ?_
          refine go_geti (v := (S.1 51)) (pc' := 67) hC 0 51 layM_0 rfl rfl inlX12 (Nat.le_of_ble_eq_true rfl) mw_255 rfl dX12_mending_64 rfl rfl ?_
          refine go_iload_n (pc' := 68) hC dX12_mending_67 rfl rfl ?_
          obtain ⟨h5, hf⟩ := gd_e hf
          refine go_iast (f := (S.2.2.1 27)) (pc' := 69) hC 27 layM_27 rfl rfl dX12_mending_68 (okx_in h5) rfl rfl (fun a6 ha L3' hL => ?_)
          have hf := lz_r ha hf
          clear ha
          obtain rfl : L3' = [(27, a6), (28, (S.2.2.1 28)), (29, (S.2.2.1 29))] := hL.symm
          refine go_aload_n (pc' := 70) hC dX12_mending_69 rfl rfl ?_
          refine go_getq (pc' := 73) hC 0 53 layM_0 rfl rfl inlX12 (Nat.le_of_ble_eq_true rfl) mw_209 rfl dX12_mending_70 rfl ?_
          refine go_aload_n (pc' := 74) hC dX12_mending_73 rfl rfl ?_
          refine go_geti (v := (S.1 51)) (pc' := 77) hC 0 51 layM_0 rfl rfl inlX12 (Nat.le_of_ble_eq_true rfl) mw_255 rfl dX12_mending_74 rfl rfl ?_
          refine go_iload_n (pc' := 78) hC dX12_mending_77 rfl rfl ?_
          obtain ⟨h7, hf⟩ := gd_e hf
          refine go_iast (f := (S.2.2.1 28)) (pc' := 79) hC 28 layM_28 rfl rfl dX12_mending_78 (okx_in h7) rfl rfl (fun a8 ha L3' hL => ?_)
          have hf := lz_r ha hf
          clear ha
          obtain rfl : L3' = [(27, a6), (28, a8), (29, (S.2.2.1 29))] := hL.symm
          refine go_aload_n (pc' := 80) hC dX12_mending_79 rfl rfl ?_
          refine go_getq (pc' := 83) hC 0 54 layM_0 rfl rfl inlX12 (Nat.le_of_ble_eq_true rfl) mw_210 rfl dX12_mending_80 rfl ?_
          refine go_aload_n (pc' := 84) hC dX12_mending_83 rfl rfl ?_
          refine go_geti (v := (S.1 51)) (pc' := 87) hC 0 51 layM_0 rfl rfl inlX12 (Nat.le_of_ble_eq_true rfl) mw_255 rfl dX12_mending_84 rfl rfl ?_
          refine go_iload_n (pc' := 88) hC dX12_mending_87 rfl rfl ?_
          obtain ⟨h9, hf⟩ := gd_e hf
          refine go_iast (f := (S.2.2.1 29)) (pc' := 89) hC 29 layM_29 rfl rfl dX12_mending_88 (okx_in h9) rfl rfl (fun a10 ha L3' hL => ?_)
          have hf := lz_r ha hf
          clear ha
          obtain rfl : L3' = [(27, a6), (28, a8), (29, a10)] := hL.symm
          refine go_aload_n (pc' := 90) hC dX12_mending_89 rfl rfl ?_
          refine go_dup (pc' := 91) hC dX12_mending_90 rfl rfl ?_
          refine go_geti (v := (S.1 51)) (pc' := 94) hC 0 51 layM_0 rfl rfl inlX12 (Nat.le_of_ble_eq_true rfl) mw_255 rfl dX12_mending_91 rfl rfl ?_
          refine go_iconst (pc' := 95) hC dX12_mending_94 ki_1 rfl ?_
          refine go_iadd (pc' := 96) hC dX12_mending_95 rfl ?_
          refine go_namei (fun x11 hx => ?_)
          have hf := lz_r hx hf
          clear hx
          refine go_puti (L1' := [(51, x11)]) (pc' := 99) hC 0 51 layM_0 rfl rfl inlX12 tyX12_ok nmX12 (Nat.le_of_ble_eq_true rfl) mw_255 rfl rfl rfl rfl dX12_mending_96 rfl rfl rfl ?_
          refine go_aload_n (pc' := 100) hC dX12_mending_99 rfl rfl ?_
          refine go_geti (v := x11) (pc' := 103) hC 0 51 layM_0 rfl rfl inlX12 (Nat.le_of_ble_eq_true rfl) mw_255 rfl dX12_mending_100 rfl rfl ?_
          refine go_iconst (pc' := 104) hC dX12_mending_103 ki_1 rfl ?_
          refine go_isub (pc' := 105) hC dX12_mending_104 rfl ?_
          obtain rfl := Option.some.inj hf
          exact go_iret hC hQ dX12_mending_105 rfl rfl rfl rfl (fun _ => rfl) rfl rfl
        · have hf := ite_t h12 hf
          refine go_iconst (pc' := 58) hC dX12_mending_57 ki_m1 rfl ?_
          obtain rfl := Option.some.inj hf
          exact go_iret hC hQ dX12_mending_58 rfl rfl rfl rfl (fun _ => rfl) rfl rfl
theorem dX12_coinsOf_0 : decode cX12_coinsOf 0 = .ok (.iconst 0, 1) := by decide +kernel
theorem dX12_coinsOf_1 : decode cX12_coinsOf 1 = .ok (.istore_n 2, 1) := by decide +kernel
theorem dX12_coinsOf_2 : decode cX12_coinsOf 2 = .ok (.iconst 0, 1) := by decide +kernel
theorem dX12_coinsOf_3 : decode cX12_coinsOf 3 = .ok (.istore_n 3, 1) := by decide +kernel
theorem dX12_coinsOf_4 : decode cX12_coinsOf 4 = .ok (.iload_n 3, 1) := by decide +kernel
theorem dX12_coinsOf_5 : decode cX12_coinsOf 5 = .ok (.aload_n 0, 1) := by decide +kernel
theorem dX12_coinsOf_6 : decode cX12_coinsOf 6 = .ok (.getfield 303, 3) := by decide +kernel
theorem dX12_coinsOf_9 : decode cX12_coinsOf 9 = .ok (.if_icmp .ge 31, 3) := by decide +kernel
theorem dX12_coinsOf_12 : decode cX12_coinsOf 12 = .ok (.iload_n 2, 1) := by decide +kernel
theorem dX12_coinsOf_13 : decode cX12_coinsOf 13 = .ok (.iload_n 1, 1) := by decide +kernel
theorem dX12_coinsOf_14 : decode cX12_coinsOf 14 = .ok (.iload_n 3, 1) := by decide +kernel
theorem dX12_coinsOf_15 : decode cX12_coinsOf 15 = .ok (.ishr, 1) := by decide +kernel
theorem dX12_coinsOf_16 : decode cX12_coinsOf 16 = .ok (.iconst 1, 1) := by decide +kernel
theorem dX12_coinsOf_17 : decode cX12_coinsOf 17 = .ok (.iand, 1) := by decide +kernel
theorem dX12_coinsOf_18 : decode cX12_coinsOf 18 = .ok (.iconst 1, 1) := by decide +kernel
theorem dX12_coinsOf_19 : decode cX12_coinsOf 19 = .ok (.if_icmp .ne 12, 3) := by decide +kernel
theorem dX12_coinsOf_22 : decode cX12_coinsOf 22 = .ok (.aload_n 0, 1) := by decide +kernel
theorem dX12_coinsOf_23 : decode cX12_coinsOf 23 = .ok (.getfield 95, 3) := by decide +kernel
theorem dX12_coinsOf_26 : decode cX12_coinsOf 26 = .ok (.iload_n 3, 1) := by decide +kernel
theorem dX12_coinsOf_27 : decode cX12_coinsOf 27 = .ok (.iaload, 1) := by decide +kernel
theorem dX12_coinsOf_28 : decode cX12_coinsOf 28 = .ok (.goto 4, 3) := by decide +kernel
theorem dX12_coinsOf_31 : decode cX12_coinsOf 31 = .ok (.iconst 0, 1) := by decide +kernel
theorem dX12_coinsOf_32 : decode cX12_coinsOf 32 = .ok (.iadd, 1) := by decide +kernel
theorem dX12_coinsOf_33 : decode cX12_coinsOf 33 = .ok (.istore_n 2, 1) := by decide +kernel
theorem dX12_coinsOf_34 : decode cX12_coinsOf 34 = .ok (.iinc 3 1, 3) := by decide +kernel
theorem dX12_coinsOf_37 : decode cX12_coinsOf 37 = .ok (.goto (-33), 3) := by decide +kernel
theorem dX12_coinsOf_40 : decode cX12_coinsOf 40 = .ok (.iload_n 2, 1) := by decide +kernel
theorem dX12_coinsOf_41 : decode cX12_coinsOf 41 = .ok (.ireturn, 1) := by decide +kernel
abbrev o_X12_coinsOf : Type := Int32
def f_X12_coinsOf_L4 (S : wd_W) (p1 : Int32) (r3 : (Int32) → (Int32) → (Option o_X12_coinsOf)) (x1 : Int32) (x2 : Int32) : Option o_X12_coinsOf :=
if (S.1 51) ≤ x2 then (
some x1) else (
lk (fun x4 x5 =>
lz (x5 + x4) fun x7 =>
r3 x7 (x2 + (1 : Int32))) fun k32_6 =>
if ((p1 >>> (x2 &&& 31)) &&& (1 : Int32)) = (1 : Int32) then (
gd (okx x2 9) <|
k32_6 ((S.2.2.1 28) x2.toNatClampNeg) x1) else (
k32_6 (0 : Int32) x1))
def f_X12_coinsOf (S : wd_W) (p1 : Int32) : Option o_X12_coinsOf :=
it2 (f_X12_coinsOf_L4 S p1) fuel (0 : Int32) (0 : Int32)
set_option maxRecDepth 100000 in
set_option maxHeartbeats 4000000 in
theorem c_X12_coinsOf (l : Launch) (D : va_G) (q g : Nat → Nat) (cy : Nat → ClassId) (z : (Nat → Nat) × (Nat → Nat) × Nat) (S : wd_W) (p1 : Int32) (o : o_X12_coinsOf) (hf : f_X12_coinsOf S p1 = some o) : MX layM l yX12_coinsOf cX12_coinsOf 4 (some .int) ({ frames := 0, cells := 0, slots := 0, locals := 0 } : Room) D q g cy z [.ref (q 0), .int p1] S false (some (.int o)) (wd_o S [] [] [] [] []) 0 0 := by
  refine mx_of (own := RX12) (lc := [(0, .ref (q 0)), (1, .int p1)]) (by decide +kernel) rfl layM_ok (Nat.le_of_ble_eq_true rfl) rfl ?_
  intro X hXl hXq hXz hC hQ
  subst hXl; subst hXq; subst hXz
  unfold f_X12_coinsOf at hf
  refine go_iconst (pc' := 1) hC dX12_coinsOf_0 ki_0 rfl ?_
  refine go_istore_n (lc' := [(0, .ref (x_q X 0)), (1, .int p1), (2, .int (0 : Int32))]) (pc' := 2) hC dX12_coinsOf_1 (Nat.le_of_ble_eq_true rfl) rfl rfl ?_
  refine go_iconst (pc' := 3) hC dX12_coinsOf_2 ki_0 rfl ?_
  refine go_istore_n (lc' := [(0, .ref (x_q X 0)), (1, .int p1), (2, .int (0 : Int32)), (3, .int (0 : Int32))]) (pc' := 4) hC dX12_coinsOf_3 (Nat.le_of_ble_eq_true rfl) rfl rfl ?_
  have l4_11 : ∀ (nn : Nat) (x1 : Int32) (x2 : Int32), it2 (f_X12_coinsOf_L4 S p1) nn x1 x2 = some o → Go X layM S 4 [(0, .ref (x_q X 0)), (1, .int p1), (2, .int x1), (3, .int x2)] [] g [] [] [] [] [] 0 0 := by
    intro nn
    induction nn with
    | zero =>
      intro x1 x2 hf
      exact none_no hf
    | succ nn ih =>
      intro x1 x2 hf
      have hf : f_X12_coinsOf_L4 S p1 (it2 (f_X12_coinsOf_L4 S p1) nn) x1 x2 = some o := hf
      generalize it2 (f_X12_coinsOf_L4 S p1) nn = r3 at ih hf
      unfold f_X12_coinsOf_L4 at hf
      refine go_iload_n (pc' := 5) hC dX12_coinsOf_4 rfl rfl ?_
      refine go_aload_n (pc' := 6) hC dX12_coinsOf_5 rfl rfl ?_
      refine go_geti (v := (S.1 51)) (pc' := 9) hC 0 51 layM_0 rfl rfl inlX12 (Nat.le_of_ble_eq_true rfl) mw_255 rfl dX12_coinsOf_6 rfl rfl ?_
      refine go_icmp_ge (tgt := 40) (pc' := 12) hC dX12_coinsOf_9 (by decide) rfl (fun h10 => ?_) (fun h10 => ?_)
      · have hf := ite_t h10 hf
        refine go_iload_n (pc' := 41) hC dX12_coinsOf_40 rfl rfl ?_
        obtain rfl := Option.some.inj hf
        exact go_iret hC hQ dX12_coinsOf_41 rfl rfl rfl rfl (fun _ => rfl) rfl rfl
      · have hf := ite_f h10 hf
        refine go_iload_n (pc' := 13) hC dX12_coinsOf_12 rfl rfl ?_
        refine go_iload_n (pc' := 14) hC dX12_coinsOf_13 rfl rfl ?_
        refine go_iload_n (pc' := 15) hC dX12_coinsOf_14 rfl rfl ?_
        refine go_ishr (pc' := 16) hC dX12_coinsOf_15 rfl ?_
        refine go_iconst (pc' := 17) hC dX12_coinsOf_16 ki_1 rfl ?_
        refine go_iand (pc' := 18) hC dX12_coinsOf_17 rfl ?_
        refine go_iconst (pc' := 19) hC dX12_coinsOf_18 ki_1 rfl ?_
        obtain ⟨k32_6, hk32_6, hf⟩ := lk_e2 hf
        have jk32_6 : ∀ (x4 : Int32) (x5 : Int32), k32_6 x4 x5 = some o → Go X layM S 32 [(0, .ref (x_q X 0)), (1, .int p1), (3, .int x2)] [.int x4, .int x5] g [] [] [] [] [] 0 0 := by
          intro x4 x5 hf
          have hf := hk32_6 x4 x5 hf
          clear hk32_6
          refine go_iadd (pc' := 33) hC dX12_coinsOf_32 rfl ?_
          refine go_namei (fun x7 hx => ?_)
          have hf := lz_r hx hf
          clear hx
          refine go_istore_n (lc' := [(0, .ref (x_q X 0)), (1, .int p1), (2, .int x7), (3, .int x2)]) (pc' := 34) hC dX12_coinsOf_33 (Nat.le_of_ble_eq_true rfl) rfl rfl ?_
          refine go_iinc (lc' := [(0, .ref (x_q X 0)), (1, .int p1), (2, .int x7), (3, .int (x2 + (1 : Int32)))]) (pc' := 37) hC dX12_coinsOf_34 rfl ki_1 (Nat.le_of_ble_eq_true rfl) rfl rfl ?_
          refine go_goto (tgt := 4) hC dX12_coinsOf_37 (by decide) ?_
          exact ih x7 (x2 + (1 : Int32)) hf
        clear hk32_6
        refine go_icmp_ne (tgt := 31) (pc' := 22) hC dX12_coinsOf_19 (by decide) rfl (fun h9 => ?_) (fun h9 => ?_)
        · have hf := ite_f h9 hf
          refine go_iconst (pc' := 32) hC dX12_coinsOf_31 ki_0 rfl ?_
          refine go_sub [0, 1, 3] rfl ?_
          exact jk32_6 (0 : Int32) x1 hf
        · have hf := ite_t h9 hf
          refine go_aload_n (pc' := 23) hC dX12_coinsOf_22 rfl rfl ?_
          refine go_getq (pc' := 26) hC 0 53 layM_0 rfl rfl inlX12 (Nat.le_of_ble_eq_true rfl) mw_209 rfl dX12_coinsOf_23 rfl ?_
          refine go_iload_n (pc' := 27) hC dX12_coinsOf_26 rfl rfl ?_
          obtain ⟨h8, hf⟩ := gd_e hf
          refine go_iald (f := (S.2.2.1 28)) (pc' := 28) hC 28 layM_28 rfl rfl dX12_coinsOf_27 (okx_in h8) rfl ?_
          refine go_goto (tgt := 32) hC dX12_coinsOf_28 (by decide) ?_
          refine go_sub [0, 1, 3] rfl ?_
          exact jk32_6 ((S.2.2.1 28) x2.toNatClampNeg) x1 hf
  exact l4_11 fuel (0 : Int32) (0 : Int32) hf
theorem dX12_chanceWith_0 : decode cX12_chanceWith 0 = .ok (.aload_n 0, 1) := by decide +kernel
theorem dX12_chanceWith_1 : decode cX12_chanceWith 1 = .ok (.invokevirtual 375, 3) := by decide +kernel
theorem dX12_chanceWith_4 : decode cX12_chanceWith 4 = .ok (.iconst 0, 1) := by decide +kernel
theorem dX12_chanceWith_5 : decode cX12_chanceWith 5 = .ok (.istore_n 2, 1) := by decide +kernel
theorem dX12_chanceWith_6 : decode cX12_chanceWith 6 = .ok (.iload_n 2, 1) := by decide +kernel
theorem dX12_chanceWith_7 : decode cX12_chanceWith 7 = .ok (.aload_n 0, 1) := by decide +kernel
theorem dX12_chanceWith_8 : decode cX12_chanceWith 8 = .ok (.getfield 303, 3) := by decide +kernel
theorem dX12_chanceWith_11 : decode cX12_chanceWith 11 = .ok (.if_icmp .ge 77, 3) := by decide +kernel
theorem dX12_chanceWith_14 : decode cX12_chanceWith 14 = .ok (.iload_n 1, 1) := by decide +kernel
theorem dX12_chanceWith_15 : decode cX12_chanceWith 15 = .ok (.iload_n 2, 1) := by decide +kernel
theorem dX12_chanceWith_16 : decode cX12_chanceWith 16 = .ok (.ishr, 1) := by decide +kernel
theorem dX12_chanceWith_17 : decode cX12_chanceWith 17 = .ok (.iconst 1, 1) := by decide +kernel
theorem dX12_chanceWith_18 : decode cX12_chanceWith 18 = .ok (.iand, 1) := by decide +kernel
theorem dX12_chanceWith_19 : decode cX12_chanceWith 19 = .ok (.ifCond .eq 63, 3) := by decide +kernel
theorem dX12_chanceWith_22 : decode cX12_chanceWith 22 = .ok (.aload_n 0, 1) := by decide +kernel
theorem dX12_chanceWith_23 : decode cX12_chanceWith 23 = .ok (.getfield 98, 3) := by decide +kernel
theorem dX12_chanceWith_26 : decode cX12_chanceWith 26 = .ok (.iload_n 2, 1) := by decide +kernel
theorem dX12_chanceWith_27 : decode cX12_chanceWith 27 = .ok (.iaload, 1) := by decide +kernel
theorem dX12_chanceWith_28 : decode cX12_chanceWith 28 = .ok (.aload_n 0, 1) := by decide +kernel
theorem dX12_chanceWith_29 : decode cX12_chanceWith 29 = .ok (.getfield 77, 3) := by decide +kernel
theorem dX12_chanceWith_32 : decode cX12_chanceWith 32 = .ok (.aload_n 0, 1) := by decide +kernel
theorem dX12_chanceWith_33 : decode cX12_chanceWith 33 = .ok (.getfield 92, 3) := by decide +kernel
theorem dX12_chanceWith_36 : decode cX12_chanceWith 36 = .ok (.iload_n 2, 1) := by decide +kernel
theorem dX12_chanceWith_37 : decode cX12_chanceWith 37 = .ok (.iaload, 1) := by decide +kernel
theorem dX12_chanceWith_38 : decode cX12_chanceWith 38 = .ok (.iaload, 1) := by decide +kernel
theorem dX12_chanceWith_39 : decode cX12_chanceWith 39 = .ok (.if_icmp .gt 6, 3) := by decide +kernel
theorem dX12_chanceWith_42 : decode cX12_chanceWith 42 = .ok (.goto 40, 3) := by decide +kernel
theorem dX12_chanceWith_45 : decode cX12_chanceWith 45 = .ok (.aload_n 0, 1) := by decide +kernel
theorem dX12_chanceWith_46 : decode cX12_chanceWith 46 = .ok (.getfield 77, 3) := by decide +kernel
theorem dX12_chanceWith_49 : decode cX12_chanceWith 49 = .ok (.aload_n 0, 1) := by decide +kernel
theorem dX12_chanceWith_50 : decode cX12_chanceWith 50 = .ok (.getfield 92, 3) := by decide +kernel
theorem dX12_chanceWith_53 : decode cX12_chanceWith 53 = .ok (.iload_n 2, 1) := by decide +kernel
theorem dX12_chanceWith_54 : decode cX12_chanceWith 54 = .ok (.iaload, 1) := by decide +kernel
theorem dX12_chanceWith_55 : decode cX12_chanceWith 55 = .ok (.aload_n 0, 1) := by decide +kernel
theorem dX12_chanceWith_56 : decode cX12_chanceWith 56 = .ok (.getfield 98, 3) := by decide +kernel
theorem dX12_chanceWith_59 : decode cX12_chanceWith 59 = .ok (.iload_n 2, 1) := by decide +kernel
theorem dX12_chanceWith_60 : decode cX12_chanceWith 60 = .ok (.iaload, 1) := by decide +kernel
theorem dX12_chanceWith_61 : decode cX12_chanceWith 61 = .ok (.iastore, 1) := by decide +kernel
theorem dX12_chanceWith_62 : decode cX12_chanceWith 62 = .ok (.aload_n 0, 1) := by decide +kernel
theorem dX12_chanceWith_63 : decode cX12_chanceWith 63 = .ok (.getfield 80, 3) := by decide +kernel
theorem dX12_chanceWith_66 : decode cX12_chanceWith 66 = .ok (.aload_n 0, 1) := by decide +kernel
theorem dX12_chanceWith_67 : decode cX12_chanceWith 67 = .ok (.getfield 92, 3) := by decide +kernel
theorem dX12_chanceWith_70 : decode cX12_chanceWith 70 = .ok (.iload_n 2, 1) := by decide +kernel
theorem dX12_chanceWith_71 : decode cX12_chanceWith 71 = .ok (.iaload, 1) := by decide +kernel
theorem dX12_chanceWith_72 : decode cX12_chanceWith 72 = .ok (.bipush 16, 2) := by decide +kernel
theorem dX12_chanceWith_74 : decode cX12_chanceWith 74 = .ok (.aload_n 0, 1) := by decide +kernel
theorem dX12_chanceWith_75 : decode cX12_chanceWith 75 = .ok (.getfield 98, 3) := by decide +kernel
theorem dX12_chanceWith_78 : decode cX12_chanceWith 78 = .ok (.iload_n 2, 1) := by decide +kernel
theorem dX12_chanceWith_79 : decode cX12_chanceWith 79 = .ok (.iaload, 1) := by decide +kernel
theorem dX12_chanceWith_80 : decode cX12_chanceWith 80 = .ok (.isub, 1) := by decide +kernel
theorem dX12_chanceWith_81 : decode cX12_chanceWith 81 = .ok (.iastore, 1) := by decide +kernel
theorem dX12_chanceWith_82 : decode cX12_chanceWith 82 = .ok (.iinc 2 1, 3) := by decide +kernel
theorem dX12_chanceWith_85 : decode cX12_chanceWith 85 = .ok (.goto (-79), 3) := by decide +kernel
theorem dX12_chanceWith_88 : decode cX12_chanceWith 88 = .ok (.aload_n 0, 1) := by decide +kernel
theorem dX12_chanceWith_89 : decode cX12_chanceWith 89 = .ok (.invokevirtual 378, 3) := by decide +kernel
theorem dX12_chanceWith_92 : decode cX12_chanceWith 92 = .ok (.lreturn, 1) := by decide +kernel
abbrev o_X12_chanceWith : Type := Int64 × Int32 × Int32 × Int32 × (Nat → Int32) × (Nat → Int32) × (Nat → Int32) × (Nat → Int32) × (Nat → Int32) × (Nat → Int32) × (Nat → Int64)
def f_X12_chanceWith_L6 (S : wd_W) (p1 : Int32) (k88_4 : (Nat → Int32) → (Nat → Int32) → (Option o_X12_chanceWith)) (r9 : (Int32) → (Nat → Int32) → (Nat → Int32) → (Option o_X12_chanceWith)) (x6 : Int32) (a7 : Nat → Int32) (a8 : Nat → Int32) : Option o_X12_chanceWith :=
if (S.1 51) ≤ x6 then (
k88_4 a7 a8) else (
lk (fun a10 a11 =>
r9 (x6 + (1 : Int32)) a10 a11) fun k82_12 =>
if ((p1 >>> (x6 &&& 31)) &&& (1 : Int32)) = 0 then (
k82_12 a7 a8) else (
gd (okx x6 9) <|
gd (okx x6 9) <|
gd (okx ((S.2.2.1 27) x6.toNatClampNeg) 15) <|
if (a7 ((S.2.2.1 27) x6.toNatClampNeg).toNatClampNeg) < ((S.2.2.1 29) x6.toNatClampNeg) then (
gd (okx x6 9) <|
gd (okx x6 9) <|
lz ((S.2.2.1 29) x6.toNatClampNeg) fun x18 =>
gd (okx ((S.2.2.1 27) x6.toNatClampNeg) 15) <|
lz (upd a7 ((S.2.2.1 27) x6.toNatClampNeg).toNatClampNeg x18) fun a20 =>
gd (okx x6 9) <|
gd (okx x6 9) <|
lz ((16 : Int32) - ((S.2.2.1 29) x6.toNatClampNeg)) fun x23 =>
gd (okx ((S.2.2.1 27) x6.toNatClampNeg) 15) <|
lz (upd a8 ((S.2.2.1 27) x6.toNatClampNeg).toNatClampNeg x23) fun a25 =>
k82_12 a20 a25) else (
k82_12 a7 a8)))
def f_X12_chanceWith (S : wd_W) (p1 : Int32) : Option o_X12_chanceWith :=
bd (f_X12_plain (wd_o S [(38, (S.1 38)), (39, (S.1 39)), (44, (S.1 44))] [] [(17, (S.2.2.1 17)), (18, (S.2.2.1 18)), (19, (S.2.2.1 19)), (20, (S.2.2.1 20)), (22, (S.2.2.1 22)), (23, (S.2.2.1 23))] [(21, (S.2.2.2.1 21))] [])) fun o1 =>
lk (fun a2 a3 =>
bd (f_X12_together (wd_o S [(38, (S.1 38)), (39, (S.1 39)), (44, (S.1 44))] [] [(17, (S.2.2.1 17)), (18, (S.2.2.1 18)), (19, (S.2.2.1 19)), (20, (S.2.2.1 20)), (22, a2), (23, a3)] [(21, (S.2.2.2.1 21))] [])) fun o5 =>
some (o5.1, o5.2.1, o5.2.2.1, o5.2.2.2.1, o5.2.2.2.2.1, o5.2.2.2.2.2.1, o5.2.2.2.2.2.2.1, o5.2.2.2.2.2.2.2.1, a2, a3, o5.2.2.2.2.2.2.2.2)) fun k88_4 =>
it3 (f_X12_chanceWith_L6 S p1 k88_4) fuel (0 : Int32) o1.1 o1.2
set_option maxRecDepth 100000 in
set_option maxHeartbeats 4000000 in
theorem c_X12_chanceWith (l : Launch) (D : va_G) (q g : Nat → Nat) (cy : Nat → ClassId) (z : (Nat → Nat) × (Nat → Nat) × Nat) (S : wd_W) (p1 : Int32) (o : o_X12_chanceWith) (hf : f_X12_chanceWith S p1 = some o) : MX layM l yX12_chanceWith cX12_chanceWith 3 (some .long) ({ frames := 6, cells := 0, slots := 0, locals := 138 } : Room) D q g cy z [.ref (q 0), .int p1] S false (some (.long o.1)) (wd_o S [(38, o.2.1), (39, o.2.2.1), (44, o.2.2.2.1)] [] [(17, o.2.2.2.2.1), (18, o.2.2.2.2.2.1), (19, o.2.2.2.2.2.2.1), (20, o.2.2.2.2.2.2.2.1), (22, o.2.2.2.2.2.2.2.2.1), (23, o.2.2.2.2.2.2.2.2.2.1)] [(21, o.2.2.2.2.2.2.2.2.2.2)] []) 0 0 := by
  refine mx_of (own := RX12) (lc := [(0, .ref (q 0)), (1, .int p1)]) (by decide +kernel) rfl layM_ok (Nat.le_of_ble_eq_true rfl) rfl ?_
  intro X hXl hXq hXz hC hQ
  subst hXl; subst hXq; subst hXz
  unfold f_X12_chanceWith at hf
  refine go_keys (L1 := [(38, (S.1 38)), (39, (S.1 39)), (44, (S.1 44))]) (L2 := []) (L3 := [(17, (S.2.2.1 17)), (18, (S.2.2.1 18)), (19, (S.2.2.1 19)), (20, (S.2.2.1 20)), (22, (S.2.2.1 22)), (23, (S.2.2.1 23))]) (L4 := [(21, (S.2.2.2.1 21))]) (L5 := []) [38, 39, 44] [] [17, 18, 19, 20, 22, 23] [21] [] rfl rfl rfl rfl rfl ?_
  refine go_aload_n (pc' := 1) hC dX12_chanceWith_0 rfl rfl ?_
  obtain ⟨o1, ho1, hf⟩ := bd_e hf
  refine go_callV1 (pc' := 4) (As := []) (st := []) (st' := []) (L1' := [(38, (S.1 38)), (39, (S.1 39)), (44, (S.1 44))]) (L2' := []) (L3' := [(17, (S.2.2.1 17)), (18, (S.2.2.1 18)), (19, (S.2.2.1 19)), (20, (S.2.2.1 20)), (22, o1.1), (23, o1.2)]) (L4' := [(21, (S.2.2.2.1 21))]) (L5' := []) (cells' := 0) (slots' := 0)  (b := 0) hC dX12_chanceWith_1 ⟨mw_927, mw_930, mw_5, yd_yX12_plain, yp_yX12_plain, Nat.le_of_ble_eq_true rfl, Nat.le_of_ble_eq_true rfl, (Nat.le_of_ble_eq_true rfl), (Nat.le_of_ble_eq_true rfl)⟩ mw_928 mw_929 layM_0 rfl rfl rfl (Nat.le_of_ble_eq_true rfl) (c_X12_plain (x_l X) (x_D X) (x_q X) g (x_cy X) (x_z X) _  o1 ho1) rfl rfl rfl rfl rfl rfl rfl rfl rfl rfl rfl rfl rfl rfl ?_
  refine go_iconst (pc' := 5) hC dX12_chanceWith_4 ki_0 rfl ?_
  refine go_istore_n (lc' := [(0, .ref (x_q X 0)), (1, .int p1), (2, .int (0 : Int32))]) (pc' := 6) hC dX12_chanceWith_5 (Nat.le_of_ble_eq_true rfl) rfl rfl ?_
  obtain ⟨k88_4, hk88_4, hf⟩ := lk_e2 hf
  have jk88_4 : ∀ (a2 : Nat → Int32) (a3 : Nat → Int32), k88_4 a2 a3 = some o → Go X layM S 88 [(0, .ref (x_q X 0))] [] g [(38, (S.1 38)), (39, (S.1 39)), (44, (S.1 44))] [] [(17, (S.2.2.1 17)), (18, (S.2.2.1 18)), (19, (S.2.2.1 19)), (20, (S.2.2.1 20)), (22, a2), (23, a3)] [(21, (S.2.2.2.1 21))] [] 0 0 := by
    intro a2 a3 hf
    have hf := hk88_4 a2 a3 hf
    clear hk88_4
    refine go_aload_n (pc' := 89) hC dX12_chanceWith_88 rfl rfl ?_
    obtain ⟨o5, ho5, hf⟩ := bd_e hf
    refine go_callV1 (pc' := 92) (As := []) (st := []) (st' := [.long o5.1]) (L1' := [(38, o5.2.1), (39, o5.2.2.1), (44, o5.2.2.2.1)]) (L2' := []) (L3' := [(17, o5.2.2.2.2.1), (18, o5.2.2.2.2.2.1), (19, o5.2.2.2.2.2.2.1), (20, o5.2.2.2.2.2.2.2.1), (22, a2), (23, a3)]) (L4' := [(21, o5.2.2.2.2.2.2.2.2)]) (L5' := []) (cells' := 0) (slots' := 0)  (b := 0) hC dX12_chanceWith_89 ⟨mw_931, mw_934, mw_5, yd_yX12_together, yp_yX12_together, Nat.le_of_ble_eq_true rfl, Nat.le_of_ble_eq_true rfl, (Nat.le_of_ble_eq_true rfl), (Nat.le_of_ble_eq_true rfl)⟩ mw_932 mw_933 layM_0 rfl rfl rfl (Nat.le_of_ble_eq_true rfl) (c_X12_together (x_l X) (x_D X) (x_q X) g (x_cy X) (x_z X) _  o5 ho5) rfl rfl rfl rfl rfl rfl rfl rfl rfl rfl rfl rfl rfl rfl ?_
    obtain rfl := Option.some.inj hf
    exact go_lret hC hQ dX12_chanceWith_92 rfl rfl rfl (fun _ => rfl) rfl rfl
  clear hk88_4
  have l6_29 : ∀ (nn : Nat) (x6 : Int32) (a7 : Nat → Int32) (a8 : Nat → Int32), it3 (f_X12_chanceWith_L6 S p1 k88_4) nn x6 a7 a8 = some o → Go X layM S 6 [(0, .ref (x_q X 0)), (1, .int p1), (2, .int x6)] [] g [(38, (S.1 38)), (39, (S.1 39)), (44, (S.1 44))] [] [(17, (S.2.2.1 17)), (18, (S.2.2.1 18)), (19, (S.2.2.1 19)), (20, (S.2.2.1 20)), (22, a7), (23, a8)] [(21, (S.2.2.2.1 21))] [] 0 0 := by
    intro nn
    induction nn with
    | zero =>
      intro x6 a7 a8 hf
      exact none_no hf
    | succ nn ih =>
      intro x6 a7 a8 hf
      have hf : f_X12_chanceWith_L6 S p1 k88_4 (it3 (f_X12_chanceWith_L6 S p1 k88_4) nn) x6 a7 a8 = some o := hf
      generalize it3 (f_X12_chanceWith_L6 S p1 k88_4) nn = r9 at ih hf
      unfold f_X12_chanceWith_L6 at hf
      refine go_iload_n (pc' := 7) hC dX12_chanceWith_6 rfl rfl ?_
      refine go_aload_n (pc' := 8) hC dX12_chanceWith_7 rfl rfl ?_
      refine go_geti (v := (S.1 51)) (pc' := 11) hC 0 51 layM_0 rfl rfl inlX12 (Nat.le_of_ble_eq_true rfl) mw_255 rfl dX12_chanceWith_8 rfl rfl ?_
      refine go_icmp_ge (tgt := 88) (pc' := 14) hC dX12_chanceWith_11 (by decide) rfl (fun h28 => ?_) (fun h28 => ?_)
      · have hf := ite_t h28 hf
        refine go_sub [0] rfl ?_
        exact jk88_4 a7 a8 hf
      · have hf := ite_f h28 hf
        refine go_iload_n (pc' := 15) hC dX12_chanceWith_14 rfl rfl ?_
        refine go_iload_n (pc' := 16) hC dX12_chanceWith_15 rfl rfl ?_
        refine go_ishr (pc' := 17) hC dX12_chanceWith_16 rfl ?_
        refine go_iconst (pc' := 18) hC dX12_chanceWith_17 ki_1 rfl ?_
        refine go_iand (pc' := 19) hC dX12_chanceWith_18 rfl ?_
        obtain ⟨k82_12, hk82_12, hf⟩ := lk_e2 hf
        have jk82_12 : ∀ (a10 : Nat → Int32) (a11 : Nat → Int32), k82_12 a10 a11 = some o → Go X layM S 82 [(0, .ref (x_q X 0)), (1, .int p1), (2, .int x6)] [] g [(38, (S.1 38)), (39, (S.1 39)), (44, (S.1 44))] [] [(17, (S.2.2.1 17)), (18, (S.2.2.1 18)), (19, (S.2.2.1 19)), (20, (S.2.2.1 20)), (22, a10), (23, a11)] [(21, (S.2.2.2.1 21))] [] 0 0 := by
          intro a10 a11 hf
          have hf := hk82_12 a10 a11 hf
          clear hk82_12
          refine go_iinc (lc' := [(0, .ref (x_q X 0)), (1, .int p1), (2, .int (x6 + (1 : Int32)))]) (pc' := 85) hC dX12_chanceWith_82 rfl ki_1 (Nat.le_of_ble_eq_true rfl) rfl rfl ?_
          refine go_goto (tgt := 6) hC dX12_chanceWith_85 (by decide) ?_
          exact ih (x6 + (1 : Int32)) a10 a11 hf
        clear hk82_12
        refine go_if_eq (tgt := 82) (pc' := 22) hC dX12_chanceWith_19 (by decide) rfl (fun h27 => ?_) (fun h27 => ?_)
        · have hf := ite_t h27 hf
          exact jk82_12 a7 a8 hf
        · have hf := ite_f h27 hf
          refine go_aload_n (pc' := 23) hC dX12_chanceWith_22 rfl rfl ?_
          refine go_getq (pc' := 26) hC 0 54 layM_0 rfl rfl inlX12 (Nat.le_of_ble_eq_true rfl) mw_210 rfl dX12_chanceWith_23 rfl ?_
          refine go_iload_n (pc' := 27) hC dX12_chanceWith_26 rfl rfl ?_
          obtain ⟨h13, hf⟩ := gd_e hf
          refine go_iald (f := (S.2.2.1 29)) (pc' := 28) hC 29 layM_29 rfl rfl dX12_chanceWith_27 (okx_in h13) rfl ?_
          refine go_aload_n (pc' := 29) hC dX12_chanceWith_28 rfl rfl ?_
          refine go_getq (pc' := 32) hC 0 46 layM_0 rfl rfl inlX12 (Nat.le_of_ble_eq_true rfl) mw_203 rfl dX12_chanceWith_29 rfl ?_
          refine go_aload_n (pc' := 33) hC dX12_chanceWith_32 rfl rfl ?_
          refine go_getq (pc' := 36) hC 0 52 layM_0 rfl rfl inlX12 (Nat.le_of_ble_eq_true rfl) mw_208 rfl dX12_chanceWith_33 rfl ?_
          refine go_iload_n (pc' := 37) hC dX12_chanceWith_36 rfl rfl ?_
          obtain ⟨h14, hf⟩ := gd_e hf
          refine go_iald (f := (S.2.2.1 27)) (pc' := 38) hC 27 layM_27 rfl rfl dX12_chanceWith_37 (okx_in h14) rfl ?_
          obtain ⟨h15, hf⟩ := gd_e hf
          refine go_iald (f := a7) (pc' := 39) hC 22 layM_22 rfl rfl dX12_chanceWith_38 (okx_in h15) rfl ?_
          refine go_icmp_gt (tgt := 45) (pc' := 42) hC dX12_chanceWith_39 (by decide) rfl (fun h26 => ?_) (fun h26 => ?_)
          · have hf := ite_t h26 hf
            refine go_aload_n (pc' := 46) hC dX12_chanceWith_45 rfl rfl ?_
            refine go_getq (pc' := 49) hC 0 46 layM_0 rfl rfl inlX12 (Nat.le_of_ble_eq_true rfl) mw_203 rfl dX12_chanceWith_46 rfl ?_
            refine go_aload_n (pc' := 50) hC dX12_chanceWith_49 rfl rfl ?_
            refine go_getq (pc' := 53) hC 0 52 layM_0 rfl rfl inlX12 (Nat.le_of_ble_eq_true rfl) mw_208 rfl dX12_chanceWith_50 rfl ?_
            refine go_iload_n (pc' := 54) hC dX12_chanceWith_53 rfl rfl ?_
            obtain ⟨h16, hf⟩ := gd_e hf
            refine go_iald (f := (S.2.2.1 27)) (pc' := 55) hC 27 layM_27 rfl rfl dX12_chanceWith_54 (okx_in h16) rfl ?_
            refine go_aload_n (pc' := 56) hC dX12_chanceWith_55 rfl rfl ?_
            refine go_getq (pc' := 59) hC 0 54 layM_0 rfl rfl inlX12 (Nat.le_of_ble_eq_true rfl) mw_210 rfl dX12_chanceWith_56 rfl ?_
            refine go_iload_n (pc' := 60) hC dX12_chanceWith_59 rfl rfl ?_
            obtain ⟨h17, hf⟩ := gd_e hf
            refine go_iald (f := (S.2.2.1 29)) (pc' := 61) hC 29 layM_29 rfl rfl dX12_chanceWith_60 (okx_in h17) rfl ?_
            refine go_namei (fun x18 hx => ?_)
            have hf := lz_r hx hf
            clear hx
            obtain ⟨h19, hf⟩ := gd_e hf
            refine go_iast (f := a7) (pc' := 62) hC 22 layM_22 rfl rfl dX12_chanceWith_61 (okx_in h19) rfl rfl (fun a20 ha L3' hL => ?_)
            have hf := lz_r ha hf
            clear ha
            obtain rfl : L3' = [(17, (S.2.2.1 17)), (18, (S.2.2.1 18)), (19, (S.2.2.1 19)), (20, (S.2.2.1 20)), (22, a20), (23, a8)] := hL.symm
            refine go_aload_n (pc' := 63) hC dX12_chanceWith_62 rfl rfl ?_
            refine go_getq (pc' := 66) hC 0 47 layM_0 rfl rfl inlX12 (Nat.le_of_ble_eq_true rfl) mw_204 rfl dX12_chanceWith_63 rfl ?_
            refine go_aload_n (pc' := 67) hC dX12_chanceWith_66 rfl rfl ?_
            refine go_getq (pc' := 70) hC 0 52 layM_0 rfl rfl inlX12 (Nat.le_of_ble_eq_true rfl) mw_208 rfl dX12_chanceWith_67 rfl ?_
            refine go_iload_n (pc' := 71) hC dX12_chanceWith_70 rfl rfl ?_
            obtain ⟨h21, hf⟩ := gd_e hf
            refine go_iald (f := (S.2.2.1 27)) (pc' := 72) hC 27 layM_27 rfl rfl dX12_chanceWith_71 (okx_in h21) rfl ?_
            refine go_bipush (pc' := 74) hC dX12_chanceWith_72 kb_16 rfl ?_
            refine go_aload_n (pc' := 75) hC dX12_chanceWith_74 rfl rfl ?_
            refine go_getq (pc' := 78) hC 0 54 layM_0 rfl rfl inlX12 (Nat.le_of_ble_eq_true rfl) mw_210 rfl dX12_chanceWith_75 rfl ?_
            refine go_iload_n (pc' := 79) hC dX12_chanceWith_78 rfl rfl ?_
            obtain ⟨h22, hf⟩ := gd_e hf
            refine go_iald (f := (S.2.2.1 29)) (pc' := 80) hC 29 layM_29 rfl rfl dX12_chanceWith_79 (okx_in h22) rfl ?_
            refine go_isub (pc' := 81) hC dX12_chanceWith_80 rfl ?_
            refine go_namei (fun x23 hx => ?_)
            have hf := lz_r hx hf
            clear hx
            obtain ⟨h24, hf⟩ := gd_e hf
            refine go_iast (f := a8) (pc' := 82) hC 23 layM_23 rfl rfl dX12_chanceWith_81 (okx_in h24) rfl rfl (fun a25 ha L3' hL => ?_)
            have hf := lz_r ha hf
            clear ha
            obtain rfl : L3' = [(17, (S.2.2.1 17)), (18, (S.2.2.1 18)), (19, (S.2.2.1 19)), (20, (S.2.2.1 20)), (22, a20), (23, a25)] := hL.symm
            exact jk82_12 a20 a25 hf
          · have hf := ite_f h26 hf
            refine go_goto (tgt := 82) hC dX12_chanceWith_42 (by decide) ?_
            exact jk82_12 a7 a8 hf
  exact l6_29 fuel (0 : Int32) o1.1 o1.2 hf
theorem dX12_mend_0 : decode cX12_mend 0 = .ok (.iload_n 1, 1) := by decide +kernel
theorem dX12_mend_1 : decode cX12_mend 1 = .ok (.i2l, 1) := by decide +kernel
theorem dX12_mend_2 : decode cX12_mend 2 = .ok (.lconst 0, 1) := by decide +kernel
theorem dX12_mend_3 : decode cX12_mend 3 = .ok (.ldc2_w 416, 3) := by decide +kernel
theorem dX12_mend_6 : decode cX12_mend 6 = .ok (.invokestatic 218, 3) := by decide +kernel
theorem dX12_mend_9 : decode cX12_mend 9 = .ok (.ifCond .ne 7, 3) := by decide +kernel
theorem dX12_mend_12 : decode cX12_mend 12 = .ok (.ldc2_w 373, 3) := by decide +kernel
theorem dX12_mend_15 : decode cX12_mend 15 = .ok (.lreturn, 1) := by decide +kernel
theorem dX12_mend_16 : decode cX12_mend 16 = .ok (.ldc2_w 373, 3) := by decide +kernel
theorem dX12_mend_19 : decode cX12_mend 19 = .ok (.lstore_n 2, 1) := by decide +kernel
theorem dX12_mend_20 : decode cX12_mend 20 = .ok (.iconst 0, 1) := by decide +kernel
theorem dX12_mend_21 : decode cX12_mend 21 = .ok (.istore 4, 2) := by decide +kernel
theorem dX12_mend_23 : decode cX12_mend 23 = .ok (.iload 4, 2) := by decide +kernel
theorem dX12_mend_25 : decode cX12_mend 25 = .ok (.iconst 1, 1) := by decide +kernel
theorem dX12_mend_26 : decode cX12_mend 26 = .ok (.aload_n 0, 1) := by decide +kernel
theorem dX12_mend_27 : decode cX12_mend 27 = .ok (.getfield 303, 3) := by decide +kernel
theorem dX12_mend_30 : decode cX12_mend 30 = .ok (.ishl, 1) := by decide +kernel
theorem dX12_mend_31 : decode cX12_mend 31 = .ok (.if_icmp .ge 75, 3) := by decide +kernel
theorem dX12_mend_34 : decode cX12_mend 34 = .ok (.aload_n 0, 1) := by decide +kernel
theorem dX12_mend_35 : decode cX12_mend 35 = .ok (.iload 4, 2) := by decide +kernel
theorem dX12_mend_37 : decode cX12_mend 37 = .ok (.invokevirtual 418, 3) := by decide +kernel
theorem dX12_mend_40 : decode cX12_mend 40 = .ok (.istore 5, 2) := by decide +kernel
theorem dX12_mend_42 : decode cX12_mend 42 = .ok (.iload 5, 2) := by decide +kernel
theorem dX12_mend_44 : decode cX12_mend 44 = .ok (.iload_n 1, 1) := by decide +kernel
theorem dX12_mend_45 : decode cX12_mend 45 = .ok (.if_icmp .le 6, 3) := by decide +kernel
theorem dX12_mend_48 : decode cX12_mend 48 = .ok (.goto 52, 3) := by decide +kernel
theorem dX12_mend_51 : decode cX12_mend 51 = .ok (.aload_n 0, 1) := by decide +kernel
theorem dX12_mend_52 : decode cX12_mend 52 = .ok (.iload 4, 2) := by decide +kernel
theorem dX12_mend_54 : decode cX12_mend 54 = .ok (.invokevirtual 421, 3) := by decide +kernel
theorem dX12_mend_57 : decode cX12_mend 57 = .ok (.lstore 6, 2) := by decide +kernel
theorem dX12_mend_59 : decode cX12_mend 59 = .ok (.lload 6, 2) := by decide +kernel
theorem dX12_mend_61 : decode cX12_mend 61 = .ok (.lload_n 2, 1) := by decide +kernel
theorem dX12_mend_62 : decode cX12_mend 62 = .ok (.lcmp, 1) := by decide +kernel
theorem dX12_mend_63 : decode cX12_mend 63 = .ok (.ifCond .lt 37, 3) := by decide +kernel
theorem dX12_mend_66 : decode cX12_mend 66 = .ok (.lload 6, 2) := by decide +kernel
theorem dX12_mend_68 : decode cX12_mend 68 = .ok (.lload_n 2, 1) := by decide +kernel
theorem dX12_mend_69 : decode cX12_mend 69 = .ok (.lcmp, 1) := by decide +kernel
theorem dX12_mend_70 : decode cX12_mend 70 = .ok (.ifCond .ne 15, 3) := by decide +kernel
theorem dX12_mend_73 : decode cX12_mend 73 = .ok (.iload 5, 2) := by decide +kernel
theorem dX12_mend_75 : decode cX12_mend 75 = .ok (.aload_n 0, 1) := by decide +kernel
theorem dX12_mend_76 : decode cX12_mend 76 = .ok (.getfield 424, 3) := by decide +kernel
theorem dX12_mend_79 : decode cX12_mend 79 = .ok (.if_icmp .lt 6, 3) := by decide +kernel
theorem dX12_mend_82 : decode cX12_mend 82 = .ok (.goto 18, 3) := by decide +kernel
theorem dX12_mend_85 : decode cX12_mend 85 = .ok (.lload 6, 2) := by decide +kernel
theorem dX12_mend_87 : decode cX12_mend 87 = .ok (.lstore_n 2, 1) := by decide +kernel
theorem dX12_mend_88 : decode cX12_mend 88 = .ok (.aload_n 0, 1) := by decide +kernel
theorem dX12_mend_89 : decode cX12_mend 89 = .ok (.iload 4, 2) := by decide +kernel
theorem dX12_mend_91 : decode cX12_mend 91 = .ok (.putfield 427, 3) := by decide +kernel
theorem dX12_mend_94 : decode cX12_mend 94 = .ok (.aload_n 0, 1) := by decide +kernel
theorem dX12_mend_95 : decode cX12_mend 95 = .ok (.iload 5, 2) := by decide +kernel
theorem dX12_mend_97 : decode cX12_mend 97 = .ok (.putfield 424, 3) := by decide +kernel
theorem dX12_mend_100 : decode cX12_mend 100 = .ok (.iinc 4 1, 3) := by decide +kernel
theorem dX12_mend_103 : decode cX12_mend 103 = .ok (.goto (-80), 3) := by decide +kernel
theorem dX12_mend_106 : decode cX12_mend 106 = .ok (.aload_n 0, 1) := by decide +kernel
theorem dX12_mend_107 : decode cX12_mend 107 = .ok (.iconst 1, 1) := by decide +kernel
theorem dX12_mend_108 : decode cX12_mend 108 = .ok (.putfield 309, 3) := by decide +kernel
theorem dX12_mend_111 : decode cX12_mend 111 = .ok (.lload_n 2, 1) := by decide +kernel
theorem dX12_mend_112 : decode cX12_mend 112 = .ok (.lreturn, 1) := by decide +kernel
abbrev o_X12_mend : Type := Int64 × Int32 × Int32 × Int32 × Int32 × Int32 × Int32 × (Nat → Int32) × (Nat → Int32) × (Nat → Int32) × (Nat → Int32) × (Nat → Int32) × (Nat → Int32) × (Nat → Int64)
def f_X12_mend_L23 (S : wd_W) (p1 : Int32) (k106_15 : (Int64) → (Int32) → (Int32) → (Int32) → (Int32) → (Int32) → (Nat → Int32) → (Nat → Int32) → (Nat → Int32) → (Nat → Int32) → (Nat → Int32) → (Nat → Int32) → (Nat → Int64) → (Option o_X12_mend)) (r30 : (Int64) → (Int32) → (Int32) → (Int32) → (Int32) → (Int32) → (Int32) → (Nat → Int32) → (Nat → Int32) → (Nat → Int32) → (Nat → Int32) → (Nat → Int32) → (Nat → Int32) → (Nat → Int64) → (Option o_X12_mend)) (x16 : Int64) (x17 : Int32) (x18 : Int32) (x19 : Int32) (x20 : Int32) (x21 : Int32) (x22 : Int32) (a23 : Nat → Int32) (a24 : Nat → Int32) (a25 : Nat → Int32) (a26 : Nat → Int32) (a27 : Nat → Int32) (a28 : Nat → Int32) (a29 : Nat → Int64) : Option o_X12_mend :=
if ((1 : Int32) <<< ((S.1 51) &&& 31)) ≤ x17 then (
k106_15 x16 x18 x19 x20 x21 x22 a23 a24 a25 a26 a27 a28 a29) else (
bd (f_X12_coinsOf (wd_o S [(38, x18), (39, x19), (44, x20), (55, (S.1 55)), (56, x21), (57, x22)] [] [(17, a23), (18, a24), (19, a25), (20, a26), (22, a27), (23, a28)] [(21, a29)] []) x17) fun o31 =>
lk (fun x32 x33 x34 x35 x36 x37 a38 a39 a40 a41 a42 a43 a44 =>
r30 x32 (x17 + (1 : Int32)) x33 x34 x35 x36 x37 a38 a39 a40 a41 a42 a43 a44) fun k100_45 =>
if o31 ≤ p1 then (
bd (f_X12_chanceWith (wd_o S [(38, x18), (39, x19), (44, x20), (55, (S.1 55)), (56, x21), (57, x22)] [] [(17, a23), (18, a24), (19, a25), (20, a26), (22, a27), (23, a28)] [(21, a29)] []) x17) fun o46 =>
if o46.1 < x16 then (
k100_45 x16 o46.2.1 o46.2.2.1 o46.2.2.2.1 x21 x22 o46.2.2.2.2.1 o46.2.2.2.2.2.1 o46.2.2.2.2.2.2.1 o46.2.2.2.2.2.2.2.1 o46.2.2.2.2.2.2.2.2.1 o46.2.2.2.2.2.2.2.2.2.1 o46.2.2.2.2.2.2.2.2.2.2) else (
lk (k100_45 o46.1 o46.2.1 o46.2.2.1 o46.2.2.2.1 x17 o31 o46.2.2.2.2.1 o46.2.2.2.2.2.1 o46.2.2.2.2.2.2.1 o46.2.2.2.2.2.2.2.1 o46.2.2.2.2.2.2.2.2.1 o46.2.2.2.2.2.2.2.2.2.1 o46.2.2.2.2.2.2.2.2.2.2) fun k85_47 =>
if o46.1 = x16 then (
if o31 < x22 then (
k85_47) else (
k100_45 x16 o46.2.1 o46.2.2.1 o46.2.2.2.1 x21 x22 o46.2.2.2.2.1 o46.2.2.2.2.2.1 o46.2.2.2.2.2.2.1 o46.2.2.2.2.2.2.2.1 o46.2.2.2.2.2.2.2.2.1 o46.2.2.2.2.2.2.2.2.2.1 o46.2.2.2.2.2.2.2.2.2.2)) else (
k85_47))) else (
k100_45 x16 x18 x19 x20 x21 x22 a23 a24 a25 a26 a27 a28 a29))
def f_X12_mend (S : wd_W) (p1 : Int32) : Option o_X12_mend :=
bd (f_X12_in p1.toInt64 (0 : Int64) (99999 : Int64)) fun o1 =>
if o1 = 0 then (
some ((-1 : Int64), (S.1 38), (S.1 39), (S.1 44), (S.1 55), (S.1 56), (S.1 57), (S.2.2.1 17), (S.2.2.1 18), (S.2.2.1 19), (S.2.2.1 20), (S.2.2.1 22), (S.2.2.1 23), (S.2.2.2.1 21))) else (
lk (fun x2 x3 x4 x5 x6 x7 a8 a9 a10 a11 a12 a13 a14 =>
some (x2, x3, x4, x5, (1 : Int32), x6, x7, a8, a9, a10, a11, a12, a13, a14)) fun k106_15 =>
it14 (f_X12_mend_L23 S p1 k106_15) fuel (-1 : Int64) (0 : Int32) (S.1 38) (S.1 39) (S.1 44) (S.1 56) (S.1 57) (S.2.2.1 17) (S.2.2.1 18) (S.2.2.1 19) (S.2.2.1 20) (S.2.2.1 22) (S.2.2.1 23) (S.2.2.2.1 21))
set_option maxRecDepth 100000 in
set_option maxHeartbeats 4000000 in
theorem c_X12_mend (l : Launch) (D : va_G) (q g : Nat → Nat) (cy : Nat → ClassId) (z : (Nat → Nat) × (Nat → Nat) × Nat) (S : wd_W) (p1 : Int32) (o : o_X12_mend) (hf : f_X12_mend S p1 = some o) : MX layM l yX12_mend cX12_mend 8 (some .long) ({ frames := 7, cells := 0, slots := 0, locals := 160 } : Room) D q g cy z [.ref (q 0), .int p1] S false (some (.long o.1)) (wd_o S [(38, o.2.1), (39, o.2.2.1), (44, o.2.2.2.1), (55, o.2.2.2.2.1), (56, o.2.2.2.2.2.1), (57, o.2.2.2.2.2.2.1)] [] [(17, o.2.2.2.2.2.2.2.1), (18, o.2.2.2.2.2.2.2.2.1), (19, o.2.2.2.2.2.2.2.2.2.1), (20, o.2.2.2.2.2.2.2.2.2.2.1), (22, o.2.2.2.2.2.2.2.2.2.2.2.1), (23, o.2.2.2.2.2.2.2.2.2.2.2.2.1)] [(21, o.2.2.2.2.2.2.2.2.2.2.2.2.2)] []) 0 0 := by
  refine mx_of (own := RX12) (lc := [(0, .ref (q 0)), (1, .int p1)]) (by decide +kernel) rfl layM_ok (Nat.le_of_ble_eq_true rfl) rfl ?_
  intro X hXl hXq hXz hC hQ
  subst hXl; subst hXq; subst hXz
  unfold f_X12_mend at hf
  refine go_keys (L1 := [(38, (S.1 38)), (39, (S.1 39)), (44, (S.1 44)), (55, (S.1 55)), (56, (S.1 56)), (57, (S.1 57))]) (L2 := []) (L3 := [(17, (S.2.2.1 17)), (18, (S.2.2.1 18)), (19, (S.2.2.1 19)), (20, (S.2.2.1 20)), (22, (S.2.2.1 22)), (23, (S.2.2.1 23))]) (L4 := [(21, (S.2.2.2.1 21))]) (L5 := []) [38, 39, 44, 55, 56, 57] [] [17, 18, 19, 20, 22, 23] [21] [] rfl rfl rfl rfl rfl ?_
  refine go_iload_n (pc' := 1) hC dX12_mend_0 rfl rfl ?_
  refine go_i2l (pc' := 2) hC dX12_mend_1 rfl ?_
  refine go_lconst (pc' := 3) hC dX12_mend_2 kl_0 rfl ?_
  refine go_ldc2 (pc' := 6) hC dX12_mend_3 mw_1112 rfl ?_
  obtain ⟨o1, ho1, hf⟩ := bd_e hf
  refine go_callS0 (pc' := 9) (As := [.long p1.toInt64, .long (0 : Int64), .long (99999 : Int64)]) (st := []) (st' := [.int o1])    hC dX12_mend_6 ⟨mw_525, mw_527, mw_5, yd_yX12_in, yp_yX12_in, Nat.le_of_ble_eq_true rfl, Nat.le_of_ble_eq_true rfl, (Nat.le_of_ble_eq_true rfl), (Nat.le_of_ble_eq_true rfl)⟩ mw_526 rfl rfl (Nat.le_of_ble_eq_true rfl) (c_X12_in (x_l X) (x_D X) (x_q X) g (x_cy X) (x_z X) _ p1.toInt64 (0 : Int64) (99999 : Int64) o1 ho1) rfl rfl ?_
  refine go_if_ne (tgt := 16) (pc' := 12) hC dX12_mend_9 (by decide) rfl (fun h54 => ?_) (fun h54 => ?_)
  · have hf := ite_f h54 hf
    refine go_ldc2 (pc' := 19) hC dX12_mend_16 mw_922 rfl ?_
    refine go_lstore_n (lc' := [(0, .ref (x_q X 0)), (1, .int p1), (2, .long (-1 : Int64))]) (pc' := 20) hC dX12_mend_19 (Nat.le_of_ble_eq_true rfl) rfl rfl ?_
    refine go_iconst (pc' := 21) hC dX12_mend_20 ki_0 rfl ?_
    refine go_istore (lc' := [(0, .ref (x_q X 0)), (1, .int p1), (2, .long (-1 : Int64)), (4, .int (0 : Int32))]) (pc' := 23) hC dX12_mend_21 (Nat.le_of_ble_eq_true rfl) rfl rfl ?_
    obtain ⟨k106_15, hk106_15, hf⟩ := lk_e13 hf
    have jk106_15 : ∀ (x2 : Int64) (x3 : Int32) (x4 : Int32) (x5 : Int32) (x6 : Int32) (x7 : Int32) (a8 : Nat → Int32) (a9 : Nat → Int32) (a10 : Nat → Int32) (a11 : Nat → Int32) (a12 : Nat → Int32) (a13 : Nat → Int32) (a14 : Nat → Int64), k106_15 x2 x3 x4 x5 x6 x7 a8 a9 a10 a11 a12 a13 a14 = some o → Go X layM S 106 [(0, .ref (x_q X 0)), (2, .long x2)] [] g [(38, x3), (39, x4), (44, x5), (55, (S.1 55)), (56, x6), (57, x7)] [] [(17, a8), (18, a9), (19, a10), (20, a11), (22, a12), (23, a13)] [(21, a14)] [] 0 0 := by
      intro x2 x3 x4 x5 x6 x7 a8 a9 a10 a11 a12 a13 a14 hf
      have hf := hk106_15 x2 x3 x4 x5 x6 x7 a8 a9 a10 a11 a12 a13 a14 hf
      clear hk106_15
      refine go_aload_n (pc' := 107) hC dX12_mend_106 rfl rfl ?_
      refine go_iconst (pc' := 108) hC dX12_mend_107 ki_1 rfl ?_
      refine go_puti (L1' := [(38, x3), (39, x4), (44, x5), (55, (1 : Int32)), (56, x6), (57, x7)]) (pc' := 111) hC 0 55 layM_0 rfl rfl inlX12 tyX12_ok nmX12 (Nat.le_of_ble_eq_true rfl) mw_257 rfl rfl rfl rfl dX12_mend_108 rfl rfl rfl ?_
      refine go_lload_n (pc' := 112) hC dX12_mend_111 rfl rfl ?_
      obtain rfl := Option.some.inj hf
      exact go_lret hC hQ dX12_mend_112 rfl rfl rfl (fun _ => rfl) rfl rfl
    clear hk106_15
    have l23_53 : ∀ (nn : Nat) (x16 : Int64) (x17 : Int32) (x18 : Int32) (x19 : Int32) (x20 : Int32) (x21 : Int32) (x22 : Int32) (a23 : Nat → Int32) (a24 : Nat → Int32) (a25 : Nat → Int32) (a26 : Nat → Int32) (a27 : Nat → Int32) (a28 : Nat → Int32) (a29 : Nat → Int64), it14 (f_X12_mend_L23 S p1 k106_15) nn x16 x17 x18 x19 x20 x21 x22 a23 a24 a25 a26 a27 a28 a29 = some o → Go X layM S 23 [(0, .ref (x_q X 0)), (1, .int p1), (2, .long x16), (4, .int x17)] [] g [(38, x18), (39, x19), (44, x20), (55, (S.1 55)), (56, x21), (57, x22)] [] [(17, a23), (18, a24), (19, a25), (20, a26), (22, a27), (23, a28)] [(21, a29)] [] 0 0 := by
      intro nn
      induction nn with
      | zero =>
        intro x16 x17 x18 x19 x20 x21 x22 a23 a24 a25 a26 a27 a28 a29 hf
        exact none_no hf
      | succ nn ih =>
        intro x16 x17 x18 x19 x20 x21 x22 a23 a24 a25 a26 a27 a28 a29 hf
        have hf : f_X12_mend_L23 S p1 k106_15 (it14 (f_X12_mend_L23 S p1 k106_15) nn) x16 x17 x18 x19 x20 x21 x22 a23 a24 a25 a26 a27 a28 a29 = some o := hf
        generalize it14 (f_X12_mend_L23 S p1 k106_15) nn = r30 at ih hf
        unfold f_X12_mend_L23 at hf
        refine go_iload (pc' := 25) hC dX12_mend_23 rfl rfl ?_
        refine go_iconst (pc' := 26) hC dX12_mend_25 ki_1 rfl ?_
        refine go_aload_n (pc' := 27) hC dX12_mend_26 rfl rfl ?_
        refine go_geti (v := (S.1 51)) (pc' := 30) hC 0 51 layM_0 rfl rfl inlX12 (Nat.le_of_ble_eq_true rfl) mw_255 rfl dX12_mend_27 rfl rfl ?_
        refine go_ishl (pc' := 31) hC dX12_mend_30 rfl ?_
        refine go_icmp_ge (tgt := 106) (pc' := 34) hC dX12_mend_31 (by decide) rfl (fun h52 => ?_) (fun h52 => ?_)
        · have hf := ite_t h52 hf
          refine go_sub [0, 2] rfl ?_
          exact jk106_15 x16 x18 x19 x20 x21 x22 a23 a24 a25 a26 a27 a28 a29 hf
        · have hf := ite_f h52 hf
          refine go_aload_n (pc' := 35) hC dX12_mend_34 rfl rfl ?_
          refine go_iload (pc' := 37) hC dX12_mend_35 rfl rfl ?_
          obtain ⟨o31, ho31, hf⟩ := bd_e hf
          refine go_callV0 (pc' := 40) (As := [.int x17]) (st := []) (st' := [.int o31])    (b := 0) hC dX12_mend_37 ⟨mw_1115, mw_1118, mw_5, yd_yX12_coinsOf, yp_yX12_coinsOf, Nat.le_of_ble_eq_true rfl, Nat.le_of_ble_eq_true rfl, (Nat.le_of_ble_eq_true rfl), (Nat.le_of_ble_eq_true rfl)⟩ mw_1116 mw_1117 layM_0 rfl rfl rfl (Nat.le_of_ble_eq_true rfl) (c_X12_coinsOf (x_l X) (x_D X) (x_q X) g (x_cy X) (x_z X) _ x17 o31 ho31) rfl rfl ?_
          refine go_istore (lc' := [(0, .ref (x_q X 0)), (1, .int p1), (2, .long x16), (4, .int x17), (5, .int o31)]) (pc' := 42) hC dX12_mend_40 (Nat.le_of_ble_eq_true rfl) rfl rfl ?_
          refine go_iload (pc' := 44) hC dX12_mend_42 rfl rfl ?_
          refine go_iload_n (pc' := 45) hC dX12_mend_44 rfl rfl ?_
          obtain ⟨k100_45, hk100_45, hf⟩ := lk_e13 hf
          have jk100_45 : ∀ (x32 : Int64) (x33 : Int32) (x34 : Int32) (x35 : Int32) (x36 : Int32) (x37 : Int32) (a38 : Nat → Int32) (a39 : Nat → Int32) (a40 : Nat → Int32) (a41 : Nat → Int32) (a42 : Nat → Int32) (a43 : Nat → Int32) (a44 : Nat → Int64), k100_45 x32 x33 x34 x35 x36 x37 a38 a39 a40 a41 a42 a43 a44 = some o → Go X layM S 100 [(0, .ref (x_q X 0)), (1, .int p1), (2, .long x32), (4, .int x17)] [] g [(38, x33), (39, x34), (44, x35), (55, (S.1 55)), (56, x36), (57, x37)] [] [(17, a38), (18, a39), (19, a40), (20, a41), (22, a42), (23, a43)] [(21, a44)] [] 0 0 := by
            intro x32 x33 x34 x35 x36 x37 a38 a39 a40 a41 a42 a43 a44 hf
            have hf := hk100_45 x32 x33 x34 x35 x36 x37 a38 a39 a40 a41 a42 a43 a44 hf
            clear hk100_45
            refine go_iinc (lc' := [(0, .ref (x_q X 0)), (1, .int p1), (2, .long x32), (4, .int (x17 + (1 : Int32)))]) (pc' := 103) hC dX12_mend_100 rfl ki_1 (Nat.le_of_ble_eq_true rfl) rfl rfl ?_
            refine go_goto (tgt := 23) hC dX12_mend_103 (by decide) ?_
            exact ih x32 (x17 + (1 : Int32)) x33 x34 x35 x36 x37 a38 a39 a40 a41 a42 a43 a44 hf
          clear hk100_45
          refine go_icmp_le (tgt := 51) (pc' := 48) hC dX12_mend_45 (by decide) rfl (fun h51 => ?_) (fun h51 => ?_)
          · have hf := ite_t h51 hf
            refine go_aload_n (pc' := 52) hC dX12_mend_51 rfl rfl ?_
            refine go_iload (pc' := 54) hC dX12_mend_52 rfl rfl ?_
            obtain ⟨o46, ho46, hf⟩ := bd_e hf
            refine go_callV1 (pc' := 57) (As := [.int x17]) (st := []) (st' := [.long o46.1]) (L1' := [(38, o46.2.1), (39, o46.2.2.1), (44, o46.2.2.2.1), (55, (S.1 55)), (56, x21), (57, x22)]) (L2' := []) (L3' := [(17, o46.2.2.2.2.1), (18, o46.2.2.2.2.2.1), (19, o46.2.2.2.2.2.2.1), (20, o46.2.2.2.2.2.2.2.1), (22, o46.2.2.2.2.2.2.2.2.1), (23, o46.2.2.2.2.2.2.2.2.2.1)]) (L4' := [(21, o46.2.2.2.2.2.2.2.2.2.2)]) (L5' := []) (cells' := 0) (slots' := 0)  (b := 0) hC dX12_mend_54 ⟨mw_1119, mw_1122, mw_5, yd_yX12_chanceWith, yp_yX12_chanceWith, Nat.le_of_ble_eq_true rfl, Nat.le_of_ble_eq_true rfl, (Nat.le_of_ble_eq_true rfl), (Nat.le_of_ble_eq_true rfl)⟩ mw_1120 mw_1121 layM_0 rfl rfl rfl (Nat.le_of_ble_eq_true rfl) (c_X12_chanceWith (x_l X) (x_D X) (x_q X) g (x_cy X) (x_z X) _ x17 o46 ho46) rfl rfl rfl rfl rfl rfl rfl rfl rfl rfl rfl rfl rfl rfl ?_
            refine go_lstore (lc' := [(0, .ref (x_q X 0)), (1, .int p1), (2, .long x16), (4, .int x17), (5, .int o31), (6, .long o46.1)]) (pc' := 59) hC dX12_mend_57 (Nat.le_of_ble_eq_true rfl) rfl rfl ?_
            refine go_lload (pc' := 61) hC dX12_mend_59 rfl rfl ?_
            refine go_lload_n (pc' := 62) hC dX12_mend_61 rfl rfl ?_
            refine go_lcmp (pc' := 63) hC dX12_mend_62 rfl ?_
            refine go_if_lt (tgt := 100) (pc' := 66) hC dX12_mend_63 (by decide) rfl (fun h50 => ?_) (fun h50 => ?_)
            · have hf := ite_t (lg_lt.mp h50) hf
              refine go_sub [0, 1, 2, 4] rfl ?_
              exact jk100_45 x16 o46.2.1 o46.2.2.1 o46.2.2.2.1 x21 x22 o46.2.2.2.2.1 o46.2.2.2.2.2.1 o46.2.2.2.2.2.2.1 o46.2.2.2.2.2.2.2.1 o46.2.2.2.2.2.2.2.2.1 o46.2.2.2.2.2.2.2.2.2.1 o46.2.2.2.2.2.2.2.2.2.2 hf
            · have hf := ite_f (mt lg_lt.mpr h50) hf
              refine go_lload (pc' := 68) hC dX12_mend_66 rfl rfl ?_
              refine go_lload_n (pc' := 69) hC dX12_mend_68 rfl rfl ?_
              refine go_lcmp (pc' := 70) hC dX12_mend_69 rfl ?_
              obtain ⟨k85_47, hk85_47, hf⟩ := lk_e0 hf
              have jk85_47 : ∀ (_ : Unit), k85_47 = some o → Go X layM S 85 [(0, .ref (x_q X 0)), (1, .int p1), (4, .int x17), (5, .int o31), (6, .long o46.1)] [] g [(38, o46.2.1), (39, o46.2.2.1), (44, o46.2.2.2.1), (55, (S.1 55)), (56, x21), (57, x22)] [] [(17, o46.2.2.2.2.1), (18, o46.2.2.2.2.2.1), (19, o46.2.2.2.2.2.2.1), (20, o46.2.2.2.2.2.2.2.1), (22, o46.2.2.2.2.2.2.2.2.1), (23, o46.2.2.2.2.2.2.2.2.2.1)] [(21, o46.2.2.2.2.2.2.2.2.2.2)] [] 0 0 := by
                intro _ hf
                have hf := hk85_47 hf
                clear hk85_47
                refine go_lload (pc' := 87) hC dX12_mend_85 rfl rfl ?_
                refine go_lstore_n (lc' := [(0, .ref (x_q X 0)), (1, .int p1), (2, .long o46.1), (4, .int x17), (5, .int o31), (6, .long o46.1)]) (pc' := 88) hC dX12_mend_87 (Nat.le_of_ble_eq_true rfl) rfl rfl ?_
                refine go_aload_n (pc' := 89) hC dX12_mend_88 rfl rfl ?_
                refine go_iload (pc' := 91) hC dX12_mend_89 rfl rfl ?_
                refine go_puti (L1' := [(38, o46.2.1), (39, o46.2.2.1), (44, o46.2.2.2.1), (55, (S.1 55)), (56, x17), (57, x22)]) (pc' := 94) hC 0 56 layM_0 rfl rfl inlX12 tyX12_ok nmX12 (Nat.le_of_ble_eq_true rfl) mw_1114 rfl rfl rfl rfl dX12_mend_91 rfl rfl rfl ?_
                refine go_aload_n (pc' := 95) hC dX12_mend_94 rfl rfl ?_
                refine go_iload (pc' := 97) hC dX12_mend_95 rfl rfl ?_
                refine go_puti (L1' := [(38, o46.2.1), (39, o46.2.2.1), (44, o46.2.2.2.1), (55, (S.1 55)), (56, x17), (57, o31)]) (pc' := 100) hC 0 57 layM_0 rfl rfl inlX12 tyX12_ok nmX12 (Nat.le_of_ble_eq_true rfl) mw_1113 rfl rfl rfl rfl dX12_mend_97 rfl rfl rfl ?_
                refine go_sub [0, 1, 2, 4] rfl ?_
                exact jk100_45 o46.1 o46.2.1 o46.2.2.1 o46.2.2.2.1 x17 o31 o46.2.2.2.2.1 o46.2.2.2.2.2.1 o46.2.2.2.2.2.2.1 o46.2.2.2.2.2.2.2.1 o46.2.2.2.2.2.2.2.2.1 o46.2.2.2.2.2.2.2.2.2.1 o46.2.2.2.2.2.2.2.2.2.2 hf
              clear hk85_47
              refine go_if_ne (tgt := 85) (pc' := 73) hC dX12_mend_70 (by decide) rfl (fun h49 => ?_) (fun h49 => ?_)
              · have hf := ite_f (mt lg_eq.mpr h49) hf
                refine go_sub [0, 1, 4, 5, 6] rfl ?_
                exact jk85_47 () hf
              · have hf := ite_t (lg_eq.mp h49) hf
                refine go_iload (pc' := 75) hC dX12_mend_73 rfl rfl ?_
                refine go_aload_n (pc' := 76) hC dX12_mend_75 rfl rfl ?_
                refine go_geti (v := x22) (pc' := 79) hC 0 57 layM_0 rfl rfl inlX12 (Nat.le_of_ble_eq_true rfl) mw_1113 rfl dX12_mend_76 rfl rfl ?_
                refine go_icmp_lt (tgt := 85) (pc' := 82) hC dX12_mend_79 (by decide) rfl (fun h48 => ?_) (fun h48 => ?_)
                · have hf := ite_t h48 hf
                  refine go_sub [0, 1, 4, 5, 6] rfl ?_
                  exact jk85_47 () hf
                · have hf := ite_f h48 hf
                  refine go_goto (tgt := 100) hC dX12_mend_82 (by decide) ?_
                  refine go_sub [0, 1, 2, 4] rfl ?_
                  exact jk100_45 x16 o46.2.1 o46.2.2.1 o46.2.2.2.1 x21 x22 o46.2.2.2.2.1 o46.2.2.2.2.2.1 o46.2.2.2.2.2.2.1 o46.2.2.2.2.2.2.2.1 o46.2.2.2.2.2.2.2.2.1 o46.2.2.2.2.2.2.2.2.2.1 o46.2.2.2.2.2.2.2.2.2.2 hf
          · have hf := ite_f h51 hf
            refine go_goto (tgt := 100) hC dX12_mend_48 (by decide) ?_
            refine go_sub [0, 1, 2, 4] rfl ?_
            exact jk100_45 x16 x18 x19 x20 x21 x22 a23 a24 a25 a26 a27 a28 a29 hf
    exact l23_53 fuel (-1 : Int64) (0 : Int32) (S.1 38) (S.1 39) (S.1 44) (S.1 56) (S.1 57) (S.2.2.1 17) (S.2.2.1 18) (S.2.2.1 19) (S.2.2.1 20) (S.2.2.1 22) (S.2.2.1 23) (S.2.2.2.1 21) hf
  · have hf := ite_t h54 hf
    refine go_ldc2 (pc' := 15) hC dX12_mend_12 mw_922 rfl ?_
    obtain rfl := Option.some.inj hf
    exact go_lret hC hQ dX12_mend_15 rfl rfl rfl (fun _ => rfl) rfl rfl
theorem dX12_mended_0 : decode cX12_mended 0 = .ok (.aload_n 0, 1) := by decide +kernel
theorem dX12_mended_1 : decode cX12_mended 1 = .ok (.getfield 309, 3) := by decide +kernel
theorem dX12_mended_4 : decode cX12_mended 4 = .ok (.ifCond .ne 7, 3) := by decide +kernel
theorem dX12_mended_7 : decode cX12_mended 7 = .ok (.iconst (-1), 1) := by decide +kernel
theorem dX12_mended_8 : decode cX12_mended 8 = .ok (.goto 27, 3) := by decide +kernel
theorem dX12_mended_11 : decode cX12_mended 11 = .ok (.iload_n 1, 1) := by decide +kernel
theorem dX12_mended_12 : decode cX12_mended 12 = .ok (.ifCond .ne 10, 3) := by decide +kernel
theorem dX12_mended_15 : decode cX12_mended 15 = .ok (.aload_n 0, 1) := by decide +kernel
theorem dX12_mended_16 : decode cX12_mended 16 = .ok (.getfield 427, 3) := by decide +kernel
theorem dX12_mended_19 : decode cX12_mended 19 = .ok (.goto 16, 3) := by decide +kernel
theorem dX12_mended_22 : decode cX12_mended 22 = .ok (.iload_n 1, 1) := by decide +kernel
theorem dX12_mended_23 : decode cX12_mended 23 = .ok (.iconst 1, 1) := by decide +kernel
theorem dX12_mended_24 : decode cX12_mended 24 = .ok (.if_icmp .ne 10, 3) := by decide +kernel
theorem dX12_mended_27 : decode cX12_mended 27 = .ok (.aload_n 0, 1) := by decide +kernel
theorem dX12_mended_28 : decode cX12_mended 28 = .ok (.getfield 424, 3) := by decide +kernel
theorem dX12_mended_31 : decode cX12_mended 31 = .ok (.goto 4, 3) := by decide +kernel
theorem dX12_mended_34 : decode cX12_mended 34 = .ok (.iconst (-1), 1) := by decide +kernel
theorem dX12_mended_35 : decode cX12_mended 35 = .ok (.ireturn, 1) := by decide +kernel
abbrev o_X12_mended : Type := Int32
def f_X12_mended (S : wd_W) (p1 : Int32) : Option o_X12_mended :=
if (S.1 55) = 0 then (
some (-1 : Int32)) else (
if p1 = 0 then (
some (S.1 56)) else (
if p1 = (1 : Int32) then (
some (S.1 57)) else (
some (-1 : Int32))))
set_option maxRecDepth 100000 in
set_option maxHeartbeats 4000000 in
theorem c_X12_mended (l : Launch) (D : va_G) (q g : Nat → Nat) (cy : Nat → ClassId) (z : (Nat → Nat) × (Nat → Nat) × Nat) (S : wd_W) (p1 : Int32) (o : o_X12_mended) (hf : f_X12_mended S p1 = some o) : MX layM l yX12_mended cX12_mended 2 (some .int) ({ frames := 0, cells := 0, slots := 0, locals := 0 } : Room) D q g cy z [.ref (q 0), .int p1] S false (some (.int o)) (wd_o S [] [] [] [] []) 0 0 := by
  refine mx_of (own := RX12) (lc := [(0, .ref (q 0)), (1, .int p1)]) (by decide +kernel) rfl layM_ok (Nat.le_of_ble_eq_true rfl) rfl ?_
  intro X hXl hXq hXz hC hQ
  subst hXl; subst hXq; subst hXz
  unfold f_X12_mended at hf
  refine go_aload_n (pc' := 1) hC dX12_mended_0 rfl rfl ?_
  refine go_geti (v := (S.1 55)) (pc' := 4) hC 0 55 layM_0 rfl rfl inlX12 (Nat.le_of_ble_eq_true rfl) mw_257 rfl dX12_mended_1 rfl rfl ?_
  refine go_if_ne (tgt := 11) (pc' := 7) hC dX12_mended_4 (by decide) rfl (fun h3 => ?_) (fun h3 => ?_)
  · have hf := ite_f h3 hf
    refine go_iload_n (pc' := 12) hC dX12_mended_11 rfl rfl ?_
    refine go_if_ne (tgt := 22) (pc' := 15) hC dX12_mended_12 (by decide) rfl (fun h2 => ?_) (fun h2 => ?_)
    · have hf := ite_f h2 hf
      refine go_iload_n (pc' := 23) hC dX12_mended_22 rfl rfl ?_
      refine go_iconst (pc' := 24) hC dX12_mended_23 ki_1 rfl ?_
      refine go_icmp_ne (tgt := 34) (pc' := 27) hC dX12_mended_24 (by decide) rfl (fun h1 => ?_) (fun h1 => ?_)
      · have hf := ite_f h1 hf
        refine go_iconst (pc' := 35) hC dX12_mended_34 ki_m1 rfl ?_
        obtain rfl := Option.some.inj hf
        exact go_iret hC hQ dX12_mended_35 rfl rfl rfl rfl (fun _ => rfl) rfl rfl
      · have hf := ite_t h1 hf
        refine go_aload_n (pc' := 28) hC dX12_mended_27 rfl rfl ?_
        refine go_geti (v := (S.1 57)) (pc' := 31) hC 0 57 layM_0 rfl rfl inlX12 (Nat.le_of_ble_eq_true rfl) mw_1113 rfl dX12_mended_28 rfl rfl ?_
        refine go_goto (tgt := 35) hC dX12_mended_31 (by decide) ?_
        obtain rfl := Option.some.inj hf
        exact go_iret hC hQ dX12_mended_35 rfl rfl rfl rfl (fun _ => rfl) rfl rfl
    · have hf := ite_t h2 hf
      refine go_aload_n (pc' := 16) hC dX12_mended_15 rfl rfl ?_
      refine go_geti (v := (S.1 56)) (pc' := 19) hC 0 56 layM_0 rfl rfl inlX12 (Nat.le_of_ble_eq_true rfl) mw_1114 rfl dX12_mended_16 rfl rfl ?_
      refine go_goto (tgt := 35) hC dX12_mended_19 (by decide) ?_
      obtain rfl := Option.some.inj hf
      exact go_iret hC hQ dX12_mended_35 rfl rfl rfl rfl (fun _ => rfl) rfl rfl
  · have hf := ite_t h3 hf
    refine go_iconst (pc' := 8) hC dX12_mended_7 ki_m1 rfl ?_
    refine go_goto (tgt := 35) hC dX12_mended_8 (by decide) ?_
    obtain rfl := Option.some.inj hf
    exact go_iret hC hQ dX12_mended_35 rfl rfl rfl rfl (fun _ => rfl) rfl rfl
theorem dX12_tries_0 : decode cX12_tries 0 = .ok (.aload_n 0, 1) := by decide +kernel
theorem dX12_tries_1 : decode cX12_tries 1 = .ok (.getfield 32, 3) := by decide +kernel
theorem dX12_tries_4 : decode cX12_tries 4 = .ok (.aload_n 0, 1) := by decide +kernel
theorem dX12_tries_5 : decode cX12_tries 5 = .ok (.getfield 279, 3) := by decide +kernel
theorem dX12_tries_8 : decode cX12_tries 8 = .ok (.iload_n 1, 1) := by decide +kernel
theorem dX12_tries_9 : decode cX12_tries 9 = .ok (.iastore, 1) := by decide +kernel
theorem dX12_tries_10 : decode cX12_tries 10 = .ok (.aload_n 0, 1) := by decide +kernel
theorem dX12_tries_11 : decode cX12_tries 11 = .ok (.getfield 35, 3) := by decide +kernel
theorem dX12_tries_14 : decode cX12_tries 14 = .ok (.aload_n 0, 1) := by decide +kernel
theorem dX12_tries_15 : decode cX12_tries 15 = .ok (.getfield 279, 3) := by decide +kernel
theorem dX12_tries_18 : decode cX12_tries 18 = .ok (.iload_n 2, 1) := by decide +kernel
theorem dX12_tries_19 : decode cX12_tries 19 = .ok (.iastore, 1) := by decide +kernel
theorem dX12_tries_20 : decode cX12_tries 20 = .ok (.aload_n 0, 1) := by decide +kernel
theorem dX12_tries_21 : decode cX12_tries 21 = .ok (.getfield 41, 3) := by decide +kernel
theorem dX12_tries_24 : decode cX12_tries 24 = .ok (.aload_n 0, 1) := by decide +kernel
theorem dX12_tries_25 : decode cX12_tries 25 = .ok (.getfield 279, 3) := by decide +kernel
theorem dX12_tries_28 : decode cX12_tries 28 = .ok (.iconst 1, 1) := by decide +kernel
theorem dX12_tries_29 : decode cX12_tries 29 = .ok (.bastore, 1) := by decide +kernel
theorem dX12_tries_30 : decode cX12_tries 30 = .ok (.aload_n 0, 1) := by decide +kernel
theorem dX12_tries_31 : decode cX12_tries 31 = .ok (.getfield 45, 3) := by decide +kernel
theorem dX12_tries_34 : decode cX12_tries 34 = .ok (.aload_n 0, 1) := by decide +kernel
theorem dX12_tries_35 : decode cX12_tries 35 = .ok (.getfield 279, 3) := by decide +kernel
theorem dX12_tries_38 : decode cX12_tries 38 = .ok (.iconst 1, 1) := by decide +kernel
theorem dX12_tries_39 : decode cX12_tries 39 = .ok (.iastore, 1) := by decide +kernel
theorem dX12_tries_40 : decode cX12_tries 40 = .ok (.lconst 0, 1) := by decide +kernel
theorem dX12_tries_41 : decode cX12_tries 41 = .ok (.lstore 4, 2) := by decide +kernel
theorem dX12_tries_43 : decode cX12_tries 43 = .ok (.iconst 0, 1) := by decide +kernel
theorem dX12_tries_44 : decode cX12_tries 44 = .ok (.istore 6, 2) := by decide +kernel
theorem dX12_tries_46 : decode cX12_tries 46 = .ok (.iload 6, 2) := by decide +kernel
theorem dX12_tries_48 : decode cX12_tries 48 = .ok (.aload_n 0, 1) := by decide +kernel
theorem dX12_tries_49 : decode cX12_tries 49 = .ok (.invokevirtual 354, 3) := by decide +kernel
theorem dX12_tries_52 : decode cX12_tries 52 = .ok (.if_icmp .ge 63, 3) := by decide +kernel
theorem dX12_tries_55 : decode cX12_tries 55 = .ok (.aload_n 0, 1) := by decide +kernel
theorem dX12_tries_56 : decode cX12_tries 56 = .ok (.getfield 70, 3) := by decide +kernel
theorem dX12_tries_59 : decode cX12_tries 59 = .ok (.iload 6, 2) := by decide +kernel
theorem dX12_tries_61 : decode cX12_tries 61 = .ok (.baload, 1) := by decide +kernel
theorem dX12_tries_62 : decode cX12_tries 62 = .ok (.ifCond .eq 22, 3) := by decide +kernel
theorem dX12_tries_65 : decode cX12_tries 65 = .ok (.lload 4, 2) := by decide +kernel
theorem dX12_tries_67 : decode cX12_tries 67 = .ok (.ldc2_w 367, 3) := by decide +kernel
theorem dX12_tries_70 : decode cX12_tries 70 = .ok (.aload_n 0, 1) := by decide +kernel
theorem dX12_tries_71 : decode cX12_tries 71 = .ok (.getfield 73, 3) := by decide +kernel
theorem dX12_tries_74 : decode cX12_tries 74 = .ok (.iload 6, 2) := by decide +kernel
theorem dX12_tries_76 : decode cX12_tries 76 = .ok (.laload, 1) := by decide +kernel
theorem dX12_tries_77 : decode cX12_tries 77 = .ok (.lmul, 1) := by decide +kernel
theorem dX12_tries_78 : decode cX12_tries 78 = .ok (.ladd, 1) := by decide +kernel
theorem dX12_tries_79 : decode cX12_tries 79 = .ok (.lstore 4, 2) := by decide +kernel
theorem dX12_tries_81 : decode cX12_tries 81 = .ok (.goto 28, 3) := by decide +kernel
theorem dX12_tries_84 : decode cX12_tries 84 = .ok (.aload_n 0, 1) := by decide +kernel
theorem dX12_tries_85 : decode cX12_tries 85 = .ok (.iload 6, 2) := by decide +kernel
theorem dX12_tries_87 : decode cX12_tries 87 = .ok (.iconst 1, 1) := by decide +kernel
theorem dX12_tries_88 : decode cX12_tries 88 = .ok (.invokevirtual 357, 3) := by decide +kernel
theorem dX12_tries_91 : decode cX12_tries 91 = .ok (.ifCond .eq 18, 3) := by decide +kernel
theorem dX12_tries_94 : decode cX12_tries 94 = .ok (.lload 4, 2) := by decide +kernel
theorem dX12_tries_96 : decode cX12_tries 96 = .ok (.iload_n 3, 1) := by decide +kernel
theorem dX12_tries_97 : decode cX12_tries 97 = .ok (.i2l, 1) := by decide +kernel
theorem dX12_tries_98 : decode cX12_tries 98 = .ok (.aload_n 0, 1) := by decide +kernel
theorem dX12_tries_99 : decode cX12_tries 99 = .ok (.getfield 73, 3) := by decide +kernel
theorem dX12_tries_102 : decode cX12_tries 102 = .ok (.iload 6, 2) := by decide +kernel
theorem dX12_tries_104 : decode cX12_tries 104 = .ok (.laload, 1) := by decide +kernel
theorem dX12_tries_105 : decode cX12_tries 105 = .ok (.lmul, 1) := by decide +kernel
theorem dX12_tries_106 : decode cX12_tries 106 = .ok (.ladd, 1) := by decide +kernel
theorem dX12_tries_107 : decode cX12_tries 107 = .ok (.lstore 4, 2) := by decide +kernel
theorem dX12_tries_109 : decode cX12_tries 109 = .ok (.iinc 6 1, 3) := by decide +kernel
theorem dX12_tries_112 : decode cX12_tries 112 = .ok (.goto (-66), 3) := by decide +kernel
theorem dX12_tries_115 : decode cX12_tries 115 = .ok (.lload 4, 2) := by decide +kernel
theorem dX12_tries_117 : decode cX12_tries 117 = .ok (.aload_n 0, 1) := by decide +kernel
theorem dX12_tries_118 : decode cX12_tries 118 = .ok (.getfield 101, 3) := by decide +kernel
theorem dX12_tries_121 : decode cX12_tries 121 = .ok (.iconst 0, 1) := by decide +kernel
theorem dX12_tries_122 : decode cX12_tries 122 = .ok (.laload, 1) := by decide +kernel
theorem dX12_tries_123 : decode cX12_tries 123 = .ok (.lcmp, 1) := by decide +kernel
theorem dX12_tries_124 : decode cX12_tries 124 = .ok (.ifCond .gt 4, 3) := by decide +kernel
theorem dX12_tries_127 : decode cX12_tries 127 = .ok (.return_, 1) := by decide +kernel
theorem dX12_tries_128 : decode cX12_tries 128 = .ok (.aload_n 0, 1) := by decide +kernel
theorem dX12_tries_129 : decode cX12_tries 129 = .ok (.getfield 101, 3) := by decide +kernel
theorem dX12_tries_132 : decode cX12_tries 132 = .ok (.iconst 0, 1) := by decide +kernel
theorem dX12_tries_133 : decode cX12_tries 133 = .ok (.lload 4, 2) := by decide +kernel
theorem dX12_tries_135 : decode cX12_tries 135 = .ok (.lastore, 1) := by decide +kernel
theorem dX12_tries_136 : decode cX12_tries 136 = .ok (.aload_n 0, 1) := by decide +kernel
theorem dX12_tries_137 : decode cX12_tries 137 = .ok (.getfield 101, 3) := by decide +kernel
theorem dX12_tries_140 : decode cX12_tries 140 = .ok (.iconst 1, 1) := by decide +kernel
theorem dX12_tries_141 : decode cX12_tries 141 = .ok (.iload_n 1, 1) := by decide +kernel
theorem dX12_tries_142 : decode cX12_tries 142 = .ok (.i2l, 1) := by decide +kernel
theorem dX12_tries_143 : decode cX12_tries 143 = .ok (.lastore, 1) := by decide +kernel
theorem dX12_tries_144 : decode cX12_tries 144 = .ok (.aload_n 0, 1) := by decide +kernel
theorem dX12_tries_145 : decode cX12_tries 145 = .ok (.getfield 101, 3) := by decide +kernel
theorem dX12_tries_148 : decode cX12_tries 148 = .ok (.iconst 2, 1) := by decide +kernel
theorem dX12_tries_149 : decode cX12_tries 149 = .ok (.iload_n 2, 1) := by decide +kernel
theorem dX12_tries_150 : decode cX12_tries 150 = .ok (.i2l, 1) := by decide +kernel
theorem dX12_tries_151 : decode cX12_tries 151 = .ok (.lastore, 1) := by decide +kernel
theorem dX12_tries_152 : decode cX12_tries 152 = .ok (.return_, 1) := by decide +kernel
abbrev o_X12_tries : Type := Int32 × Int32 × (Nat → Int32) × (Nat → Int32) × (Nat → Int32) × (Nat → Int32) × (Nat → Int32) × (Nat → Int32) × (Nat → Int32) × (Nat → Int64)
def f_X12_tries_L46 (S : wd_W) (p3 : Int32) (a2 : Nat → Int32) (a4 : Nat → Int32) (a6 : Nat → Int32) (a8 : Nat → Int32) (k115_15 : (Int64) → (Int32) → (Int32) → (Nat → Int32) → (Nat → Int32) → (Nat → Int32) → (Option o_X12_tries)) (r33 : (Int64) → (Int32) → (Int32) → (Int32) → (Nat → Int32) → (Nat → Int32) → (Nat → Int32) → (Option o_X12_tries)) (x26 : Int64) (x27 : Int32) (x28 : Int32) (x29 : Int32) (a30 : Nat → Int32) (a31 : Nat → Int32) (a32 : Nat → Int32) : Option o_X12_tries :=
bd (f_X12_sets (wd_o S [(38, x28), (39, x29)] [] [(8, a2), (9, a4), (11, a6), (12, a8), (17, a30), (18, a31), (19, a32)] [(30, (S.2.2.2.1 30))] [])) fun o34 =>
if o34 ≤ x27 then (
k115_15 x26 x28 x29 a30 a31 a32) else (
gd (okx x27 32768) <|
lk (fun x36 x37 x38 a39 a40 a41 =>
r33 x36 (x27 + (1 : Int32)) x37 x38 a39 a40 a41) fun k109_42 =>
if ((S.2.2.1 20) x27.toNatClampNeg) = 0 then (
bd (f_X12_isThrough (wd_o S [(38, x28), (39, x29)] [] [(8, a2), (9, a4), (11, a6), (12, a8), (17, a30), (18, a31), (19, a32)] [(30, (S.2.2.2.1 30))] []) x27 (1 : Int32)) fun o43 =>
if o43.1 = 0 then (
k109_42 x26 o43.2.1 o43.2.2.1 o43.2.2.2.1 o43.2.2.2.2.1 o43.2.2.2.2.2) else (
gd (okx x27 32768) <|
lz (x26 + (p3.toInt64 * ((S.2.2.2.1 21) x27.toNatClampNeg))) fun x45 =>
k109_42 x45 o43.2.1 o43.2.2.1 o43.2.2.2.1 o43.2.2.2.2.1 o43.2.2.2.2.2)) else (
gd (okx x27 32768) <|
lz (x26 + ((16 : Int64) * ((S.2.2.2.1 21) x27.toNatClampNeg))) fun x48 =>
k109_42 x48 x28 x29 a30 a31 a32))
def f_X12_tries (S : wd_W) (p1 : Int32) (p2 : Int32) (p3 : Int32) : Option o_X12_tries :=
gd (okx (S.1 21) 13) <|
lz (upd (S.2.2.1 8) (S.1 21).toNatClampNeg p1) fun a2 =>
gd (okx (S.1 21) 13) <|
lz (upd (S.2.2.1 9) (S.1 21).toNatClampNeg p2) fun a4 =>
gd (okx (S.1 21) 13) <|
lz (upd (S.2.2.1 11) (S.1 21).toNatClampNeg (vp_nar .boolean (1 : Int32))) fun a6 =>
gd (okx (S.1 21) 13) <|
lz (upd (S.2.2.1 12) (S.1 21).toNatClampNeg (1 : Int32)) fun a8 =>
lk (fun x9 x10 x11 a12 a13 a14 =>
gd (okx (0 : Int32) 3) <|
if ((S.2.2.2.1 30) (0 : Int32).toNatClampNeg) < x9 then (
gd (okx (0 : Int32) 3) <|
lz (vp_updL (S.2.2.2.1 30) (0 : Int32).toNatClampNeg x9) fun a18 =>
lz (p1.toInt64) fun x19 =>
gd (okx (1 : Int32) 3) <|
lz (vp_updL a18 (1 : Int32).toNatClampNeg x19) fun a21 =>
lz (p2.toInt64) fun x22 =>
gd (okx (2 : Int32) 3) <|
lz (vp_updL a21 (2 : Int32).toNatClampNeg x22) fun a24 =>
some (x10, x11, a2, a4, a6, a8, a12, a13, a14, a24)) else (
some (x10, x11, a2, a4, a6, a8, a12, a13, a14, (S.2.2.2.1 30)))) fun k115_15 =>
it7 (f_X12_tries_L46 S p3 a2 a4 a6 a8 k115_15) fuel (0 : Int64) (0 : Int32) (S.1 38) (S.1 39) (S.2.2.1 17) (S.2.2.1 18) (S.2.2.1 19)
set_option maxRecDepth 100000 in
set_option maxHeartbeats 4000000 in
theorem c_X12_tries (l : Launch) (D : va_G) (q g : Nat → Nat) (cy : Nat → ClassId) (z : (Nat → Nat) × (Nat → Nat) × Nat) (S : wd_W) (p1 : Int32) (p2 : Int32) (p3 : Int32) (o : o_X12_tries) (hf : f_X12_tries S p1 p2 p3 = some o) : MX layM l yX12_tries cX12_tries 7 none ({ frames := 4, cells := 0, slots := 0, locals := 94 } : Room) D q g cy z [.ref (q 0), .int p1, .int p2, .int p3] S false (none) (wd_o S [(38, o.1), (39, o.2.1)] [] [(8, o.2.2.1), (9, o.2.2.2.1), (11, o.2.2.2.2.1), (12, o.2.2.2.2.2.1), (17, o.2.2.2.2.2.2.1), (18, o.2.2.2.2.2.2.2.1), (19, o.2.2.2.2.2.2.2.2.1)] [(30, o.2.2.2.2.2.2.2.2.2)] []) 0 0 := by
  refine mx_of (own := RX12) (lc := [(0, .ref (q 0)), (1, .int p1), (2, .int p2), (3, .int p3)]) (by decide +kernel) rfl layM_ok (Nat.le_of_ble_eq_true rfl) rfl ?_
  intro X hXl hXq hXz hC hQ
  subst hXl; subst hXq; subst hXz
  unfold f_X12_tries at hf
  refine go_keys (L1 := [(38, (S.1 38)), (39, (S.1 39))]) (L2 := []) (L3 := [(8, (S.2.2.1 8)), (9, (S.2.2.1 9)), (11, (S.2.2.1 11)), (12, (S.2.2.1 12)), (17, (S.2.2.1 17)), (18, (S.2.2.1 18)), (19, (S.2.2.1 19))]) (L4 := [(30, (S.2.2.2.1 30))]) (L5 := []) [38, 39] [] [8, 9, 11, 12, 17, 18, 19] [30] [] rfl rfl rfl rfl rfl ?_
  refine go_aload_n (pc' := 1) hC dX12_tries_0 rfl rfl ?_
  refine go_getq (pc' := 4) hC 0 22 layM_0 rfl rfl inlX12 (Nat.le_of_ble_eq_true rfl) mw_187 rfl dX12_tries_1 rfl ?_
  refine go_aload_n (pc' := 5) hC dX12_tries_4 rfl rfl ?_
  refine go_geti (v := (S.1 21)) (pc' := 8) hC 0 21 layM_0 rfl rfl inlX12 (Nat.le_of_ble_eq_true rfl) mw_247 rfl dX12_tries_5 rfl rfl ?_
  refine go_iload_n (pc' := 9) hC dX12_tries_8 rfl rfl ?_
  obtain ⟨h1, hf⟩ := gd_e hf
  refine go_iast (f := (S.2.2.1 8)) (pc' := 10) hC 8 layM_8 rfl rfl dX12_tries_9 (okx_in h1) rfl rfl (fun a2 ha L3' hL => ?_)
  have hf := lz_r ha hf
  clear ha
  obtain rfl : L3' = [(8, a2), (9, (S.2.2.1 9)), (11, (S.2.2.1 11)), (12, (S.2.2.1 12)), (17, (S.2.2.1 17)), (18, (S.2.2.1 18)), (19, (S.2.2.1 19))] := hL.symm
  refine go_aload_n (pc' := 11) hC dX12_tries_10 rfl rfl ?_
  refine go_getq (pc' := 14) hC 0 23 layM_0 rfl rfl inlX12 (Nat.le_of_ble_eq_true rfl) mw_188 rfl dX12_tries_11 rfl ?_
  refine go_aload_n (pc' := 15) hC dX12_tries_14 rfl rfl ?_
  refine go_geti (v := (S.1 21)) (pc' := 18) hC 0 21 layM_0 rfl rfl inlX12 (Nat.le_of_ble_eq_true rfl) mw_247 rfl dX12_tries_15 rfl rfl ?_
  refine go_iload_n (pc' := 19) hC dX12_tries_18 rfl rfl ?_
  obtain ⟨h3, hf⟩ := gd_e hf
  refine go_iast (f := (S.2.2.1 9)) (pc' := 20) hC 9 layM_9 rfl rfl dX12_tries_19 (okx_in h3) rfl rfl (fun a4 ha L3' hL => ?_)
  have hf := lz_r ha hf
  clear ha
  obtain rfl : L3' = [(8, a2), (9, a4), (11, (S.2.2.1 11)), (12, (S.2.2.1 12)), (17, (S.2.2.1 17)), (18, (S.2.2.1 18)), (19, (S.2.2.1 19))] := hL.symm
  refine go_aload_n (pc' := 21) hC dX12_tries_20 rfl rfl ?_
  refine go_getq (pc' := 24) hC 0 25 layM_0 rfl rfl inlX12 (Nat.le_of_ble_eq_true rfl) mw_191 rfl dX12_tries_21 rfl ?_
  refine go_aload_n (pc' := 25) hC dX12_tries_24 rfl rfl ?_
  refine go_geti (v := (S.1 21)) (pc' := 28) hC 0 21 layM_0 rfl rfl inlX12 (Nat.le_of_ble_eq_true rfl) mw_247 rfl dX12_tries_25 rfl rfl ?_
  refine go_iconst (pc' := 29) hC dX12_tries_28 ki_1 rfl ?_
  obtain ⟨h5, hf⟩ := gd_e hf
  refine go_zast (f := (S.2.2.1 11)) (pc' := 30) hC 11 layM_11 rfl rfl dX12_tries_29 (okx_in h5) rfl rfl (fun a6 ha L3' hL => ?_)
  have hf := lz_r ha hf
  clear ha
  obtain rfl : L3' = [(8, a2), (9, a4), (11, a6), (12, (S.2.2.1 12)), (17, (S.2.2.1 17)), (18, (S.2.2.1 18)), (19, (S.2.2.1 19))] := hL.symm
  refine go_aload_n (pc' := 31) hC dX12_tries_30 rfl rfl ?_
  refine go_getq (pc' := 34) hC 0 26 layM_0 rfl rfl inlX12 (Nat.le_of_ble_eq_true rfl) mw_192 rfl dX12_tries_31 rfl ?_
  refine go_aload_n (pc' := 35) hC dX12_tries_34 rfl rfl ?_
  refine go_geti (v := (S.1 21)) (pc' := 38) hC 0 21 layM_0 rfl rfl inlX12 (Nat.le_of_ble_eq_true rfl) mw_247 rfl dX12_tries_35 rfl rfl ?_
  refine go_iconst (pc' := 39) hC dX12_tries_38 ki_1 rfl ?_
  obtain ⟨h7, hf⟩ := gd_e hf
  refine go_iast (f := (S.2.2.1 12)) (pc' := 40) hC 12 layM_12 rfl rfl dX12_tries_39 (okx_in h7) rfl rfl (fun a8 ha L3' hL => ?_)
  have hf := lz_r ha hf
  clear ha
  obtain rfl : L3' = [(8, a2), (9, a4), (11, a6), (12, a8), (17, (S.2.2.1 17)), (18, (S.2.2.1 18)), (19, (S.2.2.1 19))] := hL.symm
  refine go_lconst (pc' := 41) hC dX12_tries_40 kl_0 rfl ?_
  refine go_lstore (lc' := [(0, .ref (x_q X 0)), (1, .int p1), (2, .int p2), (3, .int p3), (4, .long (0 : Int64))]) (pc' := 43) hC dX12_tries_41 (Nat.le_of_ble_eq_true rfl) rfl rfl ?_
  refine go_iconst (pc' := 44) hC dX12_tries_43 ki_0 rfl ?_
  refine go_istore (lc' := [(0, .ref (x_q X 0)), (1, .int p1), (2, .int p2), (3, .int p3), (4, .long (0 : Int64)), (6, .int (0 : Int32))]) (pc' := 46) hC dX12_tries_44 (Nat.le_of_ble_eq_true rfl) rfl rfl ?_
  obtain ⟨k115_15, hk115_15, hf⟩ := lk_e6 hf
  have jk115_15 : ∀ (x9 : Int64) (x10 : Int32) (x11 : Int32) (a12 : Nat → Int32) (a13 : Nat → Int32) (a14 : Nat → Int32), k115_15 x9 x10 x11 a12 a13 a14 = some o → Go X layM S 115 [(0, .ref (x_q X 0)), (1, .int p1), (2, .int p2), (4, .long x9)] [] g [(38, x10), (39, x11)] [] [(8, a2), (9, a4), (11, a6), (12, a8), (17, a12), (18, a13), (19, a14)] [(30, (S.2.2.2.1 30))] [] 0 0 := by
    intro x9 x10 x11 a12 a13 a14 hf
    have hf := hk115_15 x9 x10 x11 a12 a13 a14 hf
    clear hk115_15
    refine go_lload (pc' := 117) hC dX12_tries_115 rfl rfl ?_
    refine go_aload_n (pc' := 118) hC dX12_tries_117 rfl rfl ?_
    refine go_getq (pc' := 121) hC 0 58 layM_0 rfl rfl inlX12 (Nat.le_of_ble_eq_true rfl) mw_211 rfl dX12_tries_118 rfl ?_
    refine go_iconst (pc' := 122) hC dX12_tries_121 ki_0 rfl ?_
    obtain ⟨h16, hf⟩ := gd_e hf
    refine go_lald (f := (S.2.2.2.1 30)) (pc' := 123) hC 30 layM_30 rfl rfl dX12_tries_122 (okx_in h16) rfl ?_
    refine go_lcmp (pc' := 124) hC dX12_tries_123 rfl ?_
    refine go_if_gt (tgt := 128) (pc' := 127) hC dX12_tries_124 (by decide) rfl (fun h25 => ?_) (fun h25 => ?_)
    · have hf := ite_t (lg_gt.mp h25) hf
      refine go_aload_n (pc' := 129) hC dX12_tries_128 rfl rfl ?_
      refine go_getq (pc' := 132) hC 0 58 layM_0 rfl rfl inlX12 (Nat.le_of_ble_eq_true rfl) mw_211 rfl dX12_tries_129 rfl ?_
      refine go_iconst (pc' := 133) hC dX12_tries_132 ki_0 rfl ?_
      refine go_lload (pc' := 135) hC dX12_tries_133 rfl rfl ?_
      obtain ⟨h17, hf⟩ := gd_e hf
      refine go_last (f := (S.2.2.2.1 30)) (pc' := 136) hC 30 layM_30 rfl rfl dX12_tries_135 (okx_in h17) rfl rfl (fun a18 ha L4' hL => ?_)
      have hf := lz_r ha hf
      clear ha
      obtain rfl : L4' = [(30, a18)] := hL.symm
      refine go_aload_n (pc' := 137) hC dX12_tries_136 rfl rfl ?_
      refine go_getq (pc' := 140) hC 0 58 layM_0 rfl rfl inlX12 (Nat.le_of_ble_eq_true rfl) mw_211 rfl dX12_tries_137 rfl ?_
      refine go_iconst (pc' := 141) hC dX12_tries_140 ki_1 rfl ?_
      refine go_iload_n (pc' := 142) hC dX12_tries_141 rfl rfl ?_
      refine go_i2l (pc' := 143) hC dX12_tries_142 rfl ?_
      refine go_namel (fun x19 hx => ?_)
      have hf := lz_r hx hf
      clear hx
      obtain ⟨h20, hf⟩ := gd_e hf
      refine go_last (f := a18) (pc' := 144) hC 30 layM_30 rfl rfl dX12_tries_143 (okx_in h20) rfl rfl (fun a21 ha L4' hL => ?_)
      have hf := lz_r ha hf
      clear ha
      obtain rfl : L4' = [(30, a21)] := hL.symm
      refine go_aload_n (pc' := 145) hC dX12_tries_144 rfl rfl ?_
      refine go_getq (pc' := 148) hC 0 58 layM_0 rfl rfl inlX12 (Nat.le_of_ble_eq_true rfl) mw_211 rfl dX12_tries_145 rfl ?_
      refine go_iconst (pc' := 149) hC dX12_tries_148 ki_2 rfl ?_
      refine go_iload_n (pc' := 150) hC dX12_tries_149 rfl rfl ?_
      refine go_i2l (pc' := 151) hC dX12_tries_150 rfl ?_
      refine go_namel (fun x22 hx => ?_)
      have hf := lz_r hx hf
      clear hx
      obtain ⟨h23, hf⟩ := gd_e hf
      refine go_last (f := a21) (pc' := 152) hC 30 layM_30 rfl rfl dX12_tries_151 (okx_in h23) rfl rfl (fun a24 ha L4' hL => ?_)
      have hf := lz_r ha hf
      clear ha
      obtain rfl : L4' = [(30, a24)] := hL.symm
      obtain rfl := Option.some.inj hf
      exact go_vret hC hQ dX12_tries_152 rfl rfl rfl (fun _ => rfl) rfl rfl
    · have hf := ite_f (mt lg_gt.mpr h25) hf
      obtain rfl := Option.some.inj hf
      exact go_vret hC hQ dX12_tries_127 rfl rfl rfl (fun _ => rfl) rfl rfl
  clear hk115_15
  have l46_51 : ∀ (nn : Nat) (x26 : Int64) (x27 : Int32) (x28 : Int32) (x29 : Int32) (a30 : Nat → Int32) (a31 : Nat → Int32) (a32 : Nat → Int32), it7 (f_X12_tries_L46 S p3 a2 a4 a6 a8 k115_15) nn x26 x27 x28 x29 a30 a31 a32 = some o → Go X layM S 46 [(0, .ref (x_q X 0)), (1, .int p1), (2, .int p2), (3, .int p3), (4, .long x26), (6, .int x27)] [] g [(38, x28), (39, x29)] [] [(8, a2), (9, a4), (11, a6), (12, a8), (17, a30), (18, a31), (19, a32)] [(30, (S.2.2.2.1 30))] [] 0 0 := by
    intro nn
    induction nn with
    | zero =>
      intro x26 x27 x28 x29 a30 a31 a32 hf
      exact none_no hf
    | succ nn ih =>
      intro x26 x27 x28 x29 a30 a31 a32 hf
      have hf : f_X12_tries_L46 S p3 a2 a4 a6 a8 k115_15 (it7 (f_X12_tries_L46 S p3 a2 a4 a6 a8 k115_15) nn) x26 x27 x28 x29 a30 a31 a32 = some o := hf
      generalize it7 (f_X12_tries_L46 S p3 a2 a4 a6 a8 k115_15) nn = r33 at ih hf
      unfold f_X12_tries_L46 at hf
      refine go_iload (pc' := 48) hC dX12_tries_46 rfl rfl ?_
      refine go_aload_n (pc' := 49) hC dX12_tries_48 rfl rfl ?_
      obtain ⟨o34, ho34, hf⟩ := bd_e hf
      refine go_callV0 (pc' := 52) (As := []) (st := [.int x27]) (st' := [.int o34, .int x27])    (b := 0) hC dX12_tries_49 ⟨mw_856, mw_859, mw_5, yd_yX12_sets, yp_yX12_sets, Nat.le_of_ble_eq_true rfl, Nat.le_of_ble_eq_true rfl, (Nat.le_of_ble_eq_true rfl), (Nat.le_of_ble_eq_true rfl)⟩ mw_857 mw_858 layM_0 rfl rfl rfl (Nat.le_of_ble_eq_true rfl) (c_X12_sets (x_l X) (x_D X) (x_q X) g (x_cy X) (x_z X) _  o34 ho34) rfl rfl ?_
      refine go_icmp_ge (tgt := 115) (pc' := 55) hC dX12_tries_52 (by decide) rfl (fun h50 => ?_) (fun h50 => ?_)
      · have hf := ite_t h50 hf
        refine go_sub [0, 1, 2, 4] rfl ?_
        exact jk115_15 x26 x28 x29 a30 a31 a32 hf
      · have hf := ite_f h50 hf
        refine go_aload_n (pc' := 56) hC dX12_tries_55 rfl rfl ?_
        refine go_getq (pc' := 59) hC 0 43 layM_0 rfl rfl inlX12 (Nat.le_of_ble_eq_true rfl) mw_201 rfl dX12_tries_56 rfl ?_
        refine go_iload (pc' := 61) hC dX12_tries_59 rfl rfl ?_
        obtain ⟨h35, hf⟩ := gd_e hf
        refine go_zald (f := (S.2.2.1 20)) (pc' := 62) hC 20 layM_20 rfl rfl dX12_tries_61 (okx_in h35) rfl ?_
        obtain ⟨k109_42, hk109_42, hf⟩ := lk_e6 hf
        have jk109_42 : ∀ (x36 : Int64) (x37 : Int32) (x38 : Int32) (a39 : Nat → Int32) (a40 : Nat → Int32) (a41 : Nat → Int32), k109_42 x36 x37 x38 a39 a40 a41 = some o → Go X layM S 109 [(0, .ref (x_q X 0)), (1, .int p1), (2, .int p2), (3, .int p3), (4, .long x36), (6, .int x27)] [] g [(38, x37), (39, x38)] [] [(8, a2), (9, a4), (11, a6), (12, a8), (17, a39), (18, a40), (19, a41)] [(30, (S.2.2.2.1 30))] [] 0 0 := by
          intro x36 x37 x38 a39 a40 a41 hf
          have hf := hk109_42 x36 x37 x38 a39 a40 a41 hf
          clear hk109_42
          refine go_iinc (lc' := [(0, .ref (x_q X 0)), (1, .int p1), (2, .int p2), (3, .int p3), (4, .long x36), (6, .int (x27 + (1 : Int32)))]) (pc' := 112) hC dX12_tries_109 rfl ki_1 (Nat.le_of_ble_eq_true rfl) rfl rfl ?_
          refine go_goto (tgt := 46) hC dX12_tries_112 (by decide) ?_
          exact ih x36 (x27 + (1 : Int32)) x37 x38 a39 a40 a41 hf
        clear hk109_42
        refine go_if_eq (tgt := 84) (pc' := 65) hC dX12_tries_62 (by decide) rfl (fun h49 => ?_) (fun h49 => ?_)
        · have hf := ite_t h49 hf
          refine go_aload_n (pc' := 85) hC dX12_tries_84 rfl rfl ?_
          refine go_iload (pc' := 87) hC dX12_tries_85 rfl rfl ?_
          refine go_iconst (pc' := 88) hC dX12_tries_87 ki_1 rfl ?_
          obtain ⟨o43, ho43, hf⟩ := bd_e hf
          refine go_callV1 (pc' := 91) (As := [.int x27, .int (1 : Int32)]) (st := []) (st' := [.int o43.1]) (L1' := [(38, o43.2.1), (39, o43.2.2.1)]) (L2' := []) (L3' := [(8, a2), (9, a4), (11, a6), (12, a8), (17, o43.2.2.2.1), (18, o43.2.2.2.2.1), (19, o43.2.2.2.2.2)]) (L4' := [(30, (S.2.2.2.1 30))]) (L5' := []) (cells' := 0) (slots' := 0)  (b := 0) hC dX12_tries_88 ⟨mw_864, mw_867, mw_5, yd_yX12_isThrough, yp_yX12_isThrough, Nat.le_of_ble_eq_true rfl, Nat.le_of_ble_eq_true rfl, (Nat.le_of_ble_eq_true rfl), (Nat.le_of_ble_eq_true rfl)⟩ mw_865 mw_866 layM_0 rfl rfl rfl (Nat.le_of_ble_eq_true rfl) (c_X12_isThrough (x_l X) (x_D X) (x_q X) g (x_cy X) (x_z X) _ x27 (1 : Int32) o43 ho43) rfl rfl rfl rfl rfl rfl rfl rfl rfl rfl rfl rfl rfl rfl ?_
          refine go_if_eq (tgt := 109) (pc' := 94) hC dX12_tries_91 (by decide) rfl (fun h46 => ?_) (fun h46 => ?_)
          · have hf := ite_t h46 hf
            exact jk109_42 x26 o43.2.1 o43.2.2.1 o43.2.2.2.1 o43.2.2.2.2.1 o43.2.2.2.2.2 hf
          · have hf := ite_f h46 hf
            refine go_lload (pc' := 96) hC dX12_tries_94 rfl rfl ?_
            refine go_iload_n (pc' := 97) hC dX12_tries_96 rfl rfl ?_
            refine go_i2l (pc' := 98) hC dX12_tries_97 rfl ?_
            refine go_aload_n (pc' := 99) hC dX12_tries_98 rfl rfl ?_
            refine go_getq (pc' := 102) hC 0 45 layM_0 rfl rfl inlX12 (Nat.le_of_ble_eq_true rfl) mw_202 rfl dX12_tries_99 rfl ?_
            refine go_iload (pc' := 104) hC dX12_tries_102 rfl rfl ?_
            obtain ⟨h44, hf⟩ := gd_e hf
            refine go_lald (f := (S.2.2.2.1 21)) (pc' := 105) hC 21 layM_21 rfl rfl dX12_tries_104 (okx_in h44) rfl ?_
            refine go_lmul (pc' := 106) hC dX12_tries_105 rfl ?_
            refine go_ladd (pc' := 107) hC dX12_tries_106 rfl ?_
            refine go_namel (fun x45 hx => ?_)
            have hf := lz_r hx hf
            clear hx
            refine go_lstore (lc' := [(0, .ref (x_q X 0)), (1, .int p1), (2, .int p2), (3, .int p3), (4, .long x45), (6, .int x27)]) (pc' := 109) hC dX12_tries_107 (Nat.le_of_ble_eq_true rfl) rfl rfl ?_
            exact jk109_42 x45 o43.2.1 o43.2.2.1 o43.2.2.2.1 o43.2.2.2.2.1 o43.2.2.2.2.2 hf
        · have hf := ite_f h49 hf
          refine go_lload (pc' := 67) hC dX12_tries_65 rfl rfl ?_
          refine go_ldc2 (pc' := 70) hC dX12_tries_67 mw_1038 rfl ?_
          refine go_aload_n (pc' := 71) hC dX12_tries_70 rfl rfl ?_
          refine go_getq (pc' := 74) hC 0 45 layM_0 rfl rfl inlX12 (Nat.le_of_ble_eq_true rfl) mw_202 rfl dX12_tries_71 rfl ?_
          refine go_iload (pc' := 76) hC dX12_tries_74 rfl rfl ?_
          obtain ⟨h47, hf⟩ := gd_e hf
          refine go_lald (f := (S.2.2.2.1 21)) (pc' := 77) hC 21 layM_21 rfl rfl dX12_tries_76 (okx_in h47) rfl ?_
          refine go_lmul (pc' := 78) hC dX12_tries_77 rfl ?_
          refine go_ladd (pc' := 79) hC dX12_tries_78 rfl ?_
          refine go_namel (fun x48 hx => ?_)
          have hf := lz_r hx hf
          clear hx
          refine go_lstore (lc' := [(0, .ref (x_q X 0)), (1, .int p1), (2, .int p2), (3, .int p3), (4, .long x48), (6, .int x27)]) (pc' := 81) hC dX12_tries_79 (Nat.le_of_ble_eq_true rfl) rfl rfl ?_
          refine go_goto (tgt := 109) hC dX12_tries_81 (by decide) ?_
          exact jk109_42 x48 x28 x29 a30 a31 a32 hf
  exact l46_51 fuel (0 : Int64) (0 : Int32) (S.1 38) (S.1 39) (S.2.2.1 17) (S.2.2.1 18) (S.2.2.1 19) hf
theorem dX12_add_0 : decode cX12_add 0 = .ok (.iload_n 1, 1) := by decide +kernel
theorem dX12_add_1 : decode cX12_add 1 = .ok (.i2l, 1) := by decide +kernel
theorem dX12_add_2 : decode cX12_add 2 = .ok (.lconst 0, 1) := by decide +kernel
theorem dX12_add_3 : decode cX12_add 3 = .ok (.ldc2_w 367, 3) := by decide +kernel
theorem dX12_add_6 : decode cX12_add 6 = .ok (.invokestatic 218, 3) := by decide +kernel
theorem dX12_add_9 : decode cX12_add 9 = .ok (.ifCond .eq 33, 3) := by decide +kernel
theorem dX12_add_12 : decode cX12_add 12 = .ok (.iload_n 2, 1) := by decide +kernel
theorem dX12_add_13 : decode cX12_add 13 = .ok (.i2l, 1) := by decide +kernel
theorem dX12_add_14 : decode cX12_add 14 = .ok (.lconst 0, 1) := by decide +kernel
theorem dX12_add_15 : decode cX12_add 15 = .ok (.ldc2_w 430, 3) := by decide +kernel
theorem dX12_add_18 : decode cX12_add 18 = .ok (.invokestatic 218, 3) := by decide +kernel
theorem dX12_add_21 : decode cX12_add 21 = .ok (.ifCond .eq 21, 3) := by decide +kernel
theorem dX12_add_24 : decode cX12_add 24 = .ok (.aload_n 0, 1) := by decide +kernel
theorem dX12_add_25 : decode cX12_add 25 = .ok (.getfield 288, 3) := by decide +kernel
theorem dX12_add_28 : decode cX12_add 28 = .ok (.bipush 10, 2) := by decide +kernel
theorem dX12_add_30 : decode cX12_add 30 = .ok (.if_icmp .gt 12, 3) := by decide +kernel
theorem dX12_add_33 : decode cX12_add 33 = .ok (.aload_n 0, 1) := by decide +kernel
theorem dX12_add_34 : decode cX12_add 34 = .ok (.getfield 279, 3) := by decide +kernel
theorem dX12_add_37 : decode cX12_add 37 = .ok (.bipush 12, 2) := by decide +kernel
theorem dX12_add_39 : decode cX12_add 39 = .ok (.if_icmp .ne 7, 3) := by decide +kernel
theorem dX12_add_42 : decode cX12_add 42 = .ok (.ldc2_w 373, 3) := by decide +kernel
theorem dX12_add_45 : decode cX12_add 45 = .ok (.lreturn, 1) := by decide +kernel
theorem dX12_add_46 : decode cX12_add 46 = .ok (.aload_n 0, 1) := by decide +kernel
theorem dX12_add_47 : decode cX12_add 47 = .ok (.invokevirtual 361, 3) := by decide +kernel
theorem dX12_add_50 : decode cX12_add 50 = .ok (.aload_n 0, 1) := by decide +kernel
theorem dX12_add_51 : decode cX12_add 51 = .ok (.invokevirtual 375, 3) := by decide +kernel
theorem dX12_add_54 : decode cX12_add 54 = .ok (.aload_n 0, 1) := by decide +kernel
theorem dX12_add_55 : decode cX12_add 55 = .ok (.invokevirtual 364, 3) := by decide +kernel
theorem dX12_add_58 : decode cX12_add 58 = .ok (.aload_n 0, 1) := by decide +kernel
theorem dX12_add_59 : decode cX12_add 59 = .ok (.getfield 101, 3) := by decide +kernel
theorem dX12_add_62 : decode cX12_add 62 = .ok (.iconst 0, 1) := by decide +kernel
theorem dX12_add_63 : decode cX12_add 63 = .ok (.ldc2_w 373, 3) := by decide +kernel
theorem dX12_add_66 : decode cX12_add 66 = .ok (.lastore, 1) := by decide +kernel
theorem dX12_add_67 : decode cX12_add 67 = .ok (.iconst 0, 1) := by decide +kernel
theorem dX12_add_68 : decode cX12_add 68 = .ok (.istore_n 3, 1) := by decide +kernel
theorem dX12_add_69 : decode cX12_add 69 = .ok (.iload_n 3, 1) := by decide +kernel
theorem dX12_add_70 : decode cX12_add 70 = .ok (.aload_n 0, 1) := by decide +kernel
theorem dX12_add_71 : decode cX12_add 71 = .ok (.getfield 276, 3) := by decide +kernel
theorem dX12_add_74 : decode cX12_add 74 = .ok (.if_icmp .ge 37, 3) := by decide +kernel
theorem dX12_add_77 : decode cX12_add 77 = .ok (.iload_n 3, 1) := by decide +kernel
theorem dX12_add_78 : decode cX12_add 78 = .ok (.iconst 1, 1) := by decide +kernel
theorem dX12_add_79 : decode cX12_add 79 = .ok (.iadd, 1) := by decide +kernel
theorem dX12_add_80 : decode cX12_add 80 = .ok (.istore 4, 2) := by decide +kernel
theorem dX12_add_82 : decode cX12_add 82 = .ok (.iload 4, 2) := by decide +kernel
theorem dX12_add_84 : decode cX12_add 84 = .ok (.aload_n 0, 1) := by decide +kernel
theorem dX12_add_85 : decode cX12_add 85 = .ok (.getfield 276, 3) := by decide +kernel
theorem dX12_add_88 : decode cX12_add 88 = .ok (.if_icmp .ge 17, 3) := by decide +kernel
theorem dX12_add_91 : decode cX12_add 91 = .ok (.aload_n 0, 1) := by decide +kernel
theorem dX12_add_92 : decode cX12_add 92 = .ok (.iload_n 3, 1) := by decide +kernel
theorem dX12_add_93 : decode cX12_add 93 = .ok (.iload 4, 2) := by decide +kernel
theorem dX12_add_95 : decode cX12_add 95 = .ok (.iload_n 1, 1) := by decide +kernel
theorem dX12_add_96 : decode cX12_add 96 = .ok (.invokevirtual 432, 3) := by decide +kernel
theorem dX12_add_99 : decode cX12_add 99 = .ok (.iinc 4 1, 3) := by decide +kernel
theorem dX12_add_102 : decode cX12_add 102 = .ok (.goto (-20), 3) := by decide +kernel
theorem dX12_add_105 : decode cX12_add 105 = .ok (.iinc 3 1, 3) := by decide +kernel
theorem dX12_add_108 : decode cX12_add 108 = .ok (.goto (-39), 3) := by decide +kernel
theorem dX12_add_111 : decode cX12_add 111 = .ok (.aload_n 0, 1) := by decide +kernel
theorem dX12_add_112 : decode cX12_add 112 = .ok (.getfield 101, 3) := by decide +kernel
theorem dX12_add_115 : decode cX12_add 115 = .ok (.iload_n 2, 1) := by decide +kernel
theorem dX12_add_116 : decode cX12_add 116 = .ok (.laload, 1) := by decide +kernel
theorem dX12_add_117 : decode cX12_add 117 = .ok (.lreturn, 1) := by decide +kernel
abbrev o_X12_add : Type := Int64 × Int32 × Int32 × Int32 × (Nat → Int32) × (Nat → Int32) × (Nat → Int32) × (Nat → Int32) × (Nat → Int32) × (Nat → Int32) × (Nat → Int32) × (Nat → Int32) × (Nat → Int32) × (Nat → Int32) × (Nat → Int64) × (Nat → Int64)
def f_X12_add_L82 (S : wd_W) (p1 : Int32) (o3 : o_X12_lays) (o4 : o_X12_plain) (o5 : o_X12_weighs) (x20 : Int32) (k105_43 : (Int32) → (Int32) → (Nat → Int32) → (Nat → Int32) → (Nat → Int32) → (Nat → Int32) → (Nat → Int32) → (Nat → Int32) → (Nat → Int32) → (Nat → Int64) → (Option o_X12_add)) (r55 : (Int32) → (Int32) → (Int32) → (Nat → Int32) → (Nat → Int32) → (Nat → Int32) → (Nat → Int32) → (Nat → Int32) → (Nat → Int32) → (Nat → Int32) → (Nat → Int64) → (Option o_X12_add)) (x44 : Int32) (x45 : Int32) (x46 : Int32) (a47 : Nat → Int32) (a48 : Nat → Int32) (a49 : Nat → Int32) (a50 : Nat → Int32) (a51 : Nat → Int32) (a52 : Nat → Int32) (a53 : Nat → Int32) (a54 : Nat → Int64) : Option o_X12_add :=
if (S.1 20) ≤ x44 then (
k105_43 x45 x46 a47 a48 a49 a50 a51 a52 a53 a54) else (
bd (f_X12_tries (wd_o S [(38, x45), (39, x46), (44, o3.2.2.1)] [] [(8, a47), (9, a48), (11, a49), (12, a50), (17, a51), (18, a52), (19, a53), (20, o3.2.2.2.2.2.2), (22, o4.1), (23, o4.2)] [(21, o5), (30, a54)] []) x20 x44 p1) fun o56 =>
r55 (x44 + (1 : Int32)) o56.1 o56.2.1 o56.2.2.1 o56.2.2.2.1 o56.2.2.2.2.1 o56.2.2.2.2.2.1 o56.2.2.2.2.2.2.1 o56.2.2.2.2.2.2.2.1 o56.2.2.2.2.2.2.2.2.1 o56.2.2.2.2.2.2.2.2.2)
def f_X12_add_L69 (S : wd_W) (p1 : Int32) (o3 : o_X12_lays) (o4 : o_X12_plain) (o5 : o_X12_weighs) (k111_18 : (Int32) → (Int32) → (Nat → Int32) → (Nat → Int32) → (Nat → Int32) → (Nat → Int32) → (Nat → Int32) → (Nat → Int32) → (Nat → Int32) → (Nat → Int64) → (Option o_X12_add)) (r31 : (Int32) → (Int32) → (Int32) → (Nat → Int32) → (Nat → Int32) → (Nat → Int32) → (Nat → Int32) → (Nat → Int32) → (Nat → Int32) → (Nat → Int32) → (Nat → Int64) → (Option o_X12_add)) (x20 : Int32) (x21 : Int32) (x22 : Int32) (a23 : Nat → Int32) (a24 : Nat → Int32) (a25 : Nat → Int32) (a26 : Nat → Int32) (a27 : Nat → Int32) (a28 : Nat → Int32) (a29 : Nat → Int32) (a30 : Nat → Int64) : Option o_X12_add :=
if (S.1 20) ≤ x20 then (
k111_18 x21 x22 a23 a24 a25 a26 a27 a28 a29 a30) else (
lz (x20 + (1 : Int32)) fun x32 =>
lk (fun x33 x34 a35 a36 a37 a38 a39 a40 a41 a42 =>
r31 (x20 + (1 : Int32)) x33 x34 a35 a36 a37 a38 a39 a40 a41 a42) fun k105_43 =>
it11 (f_X12_add_L82 S p1 o3 o4 o5 x20 k105_43) fuel x32 x21 x22 a23 a24 a25 a26 a27 a28 a29 a30)
def f_X12_add (S : wd_W) (p1 : Int32) (p2 : Int32) : Option o_X12_add :=
bd (f_X12_in p1.toInt64 (0 : Int64) (16 : Int64)) fun o1 =>
if o1 = 0 then (
some ((-1 : Int64), (S.1 38), (S.1 39), (S.1 44), (S.2.2.1 8), (S.2.2.1 9), (S.2.2.1 11), (S.2.2.1 12), (S.2.2.1 17), (S.2.2.1 18), (S.2.2.1 19), (S.2.2.1 20), (S.2.2.1 22), (S.2.2.1 23), (S.2.2.2.1 21), (S.2.2.2.1 30))) else (
bd (f_X12_in p2.toInt64 (0 : Int64) (2 : Int64)) fun o2 =>
if o2 = 0 then (
some ((-1 : Int64), (S.1 38), (S.1 39), (S.1 44), (S.2.2.1 8), (S.2.2.1 9), (S.2.2.1 11), (S.2.2.1 12), (S.2.2.1 17), (S.2.2.1 18), (S.2.2.1 19), (S.2.2.1 20), (S.2.2.1 22), (S.2.2.1 23), (S.2.2.2.1 21), (S.2.2.2.1 30))) else (
if (10 : Int32) < (S.1 32) then (
some ((-1 : Int64), (S.1 38), (S.1 39), (S.1 44), (S.2.2.1 8), (S.2.2.1 9), (S.2.2.1 11), (S.2.2.1 12), (S.2.2.1 17), (S.2.2.1 18), (S.2.2.1 19), (S.2.2.1 20), (S.2.2.1 22), (S.2.2.1 23), (S.2.2.2.1 21), (S.2.2.2.1 30))) else (
if (S.1 21) = (12 : Int32) then (
some ((-1 : Int64), (S.1 38), (S.1 39), (S.1 44), (S.2.2.1 8), (S.2.2.1 9), (S.2.2.1 11), (S.2.2.1 12), (S.2.2.1 17), (S.2.2.1 18), (S.2.2.1 19), (S.2.2.1 20), (S.2.2.1 22), (S.2.2.1 23), (S.2.2.2.1 21), (S.2.2.2.1 30))) else (
bd (f_X12_lays (wd_o S [(38, (S.1 38)), (39, (S.1 39)), (44, (S.1 44))] [] [(8, (S.2.2.1 8)), (9, (S.2.2.1 9)), (11, (S.2.2.1 11)), (12, (S.2.2.1 12)), (17, (S.2.2.1 17)), (18, (S.2.2.1 18)), (19, (S.2.2.1 19)), (20, (S.2.2.1 20)), (22, (S.2.2.1 22)), (23, (S.2.2.1 23))] [(21, (S.2.2.2.1 21)), (30, (S.2.2.2.1 30))] [])) fun o3 =>
bd (f_X12_plain (wd_o S [(38, o3.1), (39, o3.2.1), (44, o3.2.2.1)] [] [(8, (S.2.2.1 8)), (9, (S.2.2.1 9)), (11, (S.2.2.1 11)), (12, (S.2.2.1 12)), (17, o3.2.2.2.1), (18, o3.2.2.2.2.1), (19, o3.2.2.2.2.2.1), (20, o3.2.2.2.2.2.2), (22, (S.2.2.1 22)), (23, (S.2.2.1 23))] [(21, (S.2.2.2.1 21)), (30, (S.2.2.2.1 30))] [])) fun o4 =>
bd (f_X12_weighs (wd_o S [(38, o3.1), (39, o3.2.1), (44, o3.2.2.1)] [] [(8, (S.2.2.1 8)), (9, (S.2.2.1 9)), (11, (S.2.2.1 11)), (12, (S.2.2.1 12)), (17, o3.2.2.2.1), (18, o3.2.2.2.2.1), (19, o3.2.2.2.2.2.1), (20, o3.2.2.2.2.2.2), (22, o4.1), (23, o4.2)] [(21, (S.2.2.2.1 21)), (30, (S.2.2.2.1 30))] [])) fun o5 =>
gd (okx (0 : Int32) 3) <|
lz (vp_updL (S.2.2.2.1 30) (0 : Int32).toNatClampNeg (-1 : Int64)) fun a7 =>
lk (fun x8 x9 a10 a11 a12 a13 a14 a15 a16 a17 =>
gd (okx p2 3) <|
some (a17 p2.toNatClampNeg, x8, x9, o3.2.2.1, a10, a11, a12, a13, a14, a15, a16, o3.2.2.2.2.2.2, o4.1, o4.2, o5, a17)) fun k111_18 =>
it11 (f_X12_add_L69 S p1 o3 o4 o5 k111_18) fuel (0 : Int32) o3.1 o3.2.1 (S.2.2.1 8) (S.2.2.1 9) (S.2.2.1 11) (S.2.2.1 12) o3.2.2.2.1 o3.2.2.2.2.1 o3.2.2.2.2.2.1 a7))))
set_option maxRecDepth 100000 in
set_option maxHeartbeats 4000000 in
theorem c_X12_add (l : Launch) (D : va_G) (q g : Nat → Nat) (cy : Nat → ClassId) (z : (Nat → Nat) × (Nat → Nat) × Nat) (S : wd_W) (p1 : Int32) (p2 : Int32) (o : o_X12_add) (hf : f_X12_add S p1 p2 = some o) : MX layM l yX12_add cX12_add 5 (some .long) ({ frames := 5, cells := 0, slots := 0, locals := 120 } : Room) D q g cy z [.ref (q 0), .int p1, .int p2] S false (some (.long o.1)) (wd_o S [(38, o.2.1), (39, o.2.2.1), (44, o.2.2.2.1)] [] [(8, o.2.2.2.2.1), (9, o.2.2.2.2.2.1), (11, o.2.2.2.2.2.2.1), (12, o.2.2.2.2.2.2.2.1), (17, o.2.2.2.2.2.2.2.2.1), (18, o.2.2.2.2.2.2.2.2.2.1), (19, o.2.2.2.2.2.2.2.2.2.2.1), (20, o.2.2.2.2.2.2.2.2.2.2.2.1), (22, o.2.2.2.2.2.2.2.2.2.2.2.2.1), (23, o.2.2.2.2.2.2.2.2.2.2.2.2.2.1)] [(21, o.2.2.2.2.2.2.2.2.2.2.2.2.2.2.1), (30, o.2.2.2.2.2.2.2.2.2.2.2.2.2.2.2)] []) 0 0 := by
  refine mx_of (own := RX12) (lc := [(0, .ref (q 0)), (1, .int p1), (2, .int p2)]) (by decide +kernel) rfl layM_ok (Nat.le_of_ble_eq_true rfl) rfl ?_
  intro X hXl hXq hXz hC hQ
  subst hXl; subst hXq; subst hXz
  unfold f_X12_add at hf
  refine go_keys (L1 := [(38, (S.1 38)), (39, (S.1 39)), (44, (S.1 44))]) (L2 := []) (L3 := [(8, (S.2.2.1 8)), (9, (S.2.2.1 9)), (11, (S.2.2.1 11)), (12, (S.2.2.1 12)), (17, (S.2.2.1 17)), (18, (S.2.2.1 18)), (19, (S.2.2.1 19)), (20, (S.2.2.1 20)), (22, (S.2.2.1 22)), (23, (S.2.2.1 23))]) (L4 := [(21, (S.2.2.2.1 21)), (30, (S.2.2.2.1 30))]) (L5 := []) [38, 39, 44] [] [8, 9, 11, 12, 17, 18, 19, 20, 22, 23] [21, 30] [] rfl rfl rfl rfl rfl ?_
  refine go_iload_n (pc' := 1) hC dX12_add_0 rfl rfl ?_
  refine go_i2l (pc' := 2) hC dX12_add_1 rfl ?_
  refine go_lconst (pc' := 3) hC dX12_add_2 kl_0 rfl ?_
  refine go_ldc2 (pc' := 6) hC dX12_add_3 mw_1038 rfl ?_
  obtain ⟨o1, ho1, hf⟩ := bd_e hf
  refine go_callS0 (pc' := 9) (As := [.long p1.toInt64, .long (0 : Int64), .long (16 : Int64)]) (st := []) (st' := [.int o1])    hC dX12_add_6 ⟨mw_525, mw_527, mw_5, yd_yX12_in, yp_yX12_in, Nat.le_of_ble_eq_true rfl, Nat.le_of_ble_eq_true rfl, (Nat.le_of_ble_eq_true rfl), (Nat.le_of_ble_eq_true rfl)⟩ mw_526 rfl rfl (Nat.le_of_ble_eq_true rfl) (c_X12_in (x_l X) (x_D X) (x_q X) g (x_cy X) (x_z X) _ p1.toInt64 (0 : Int64) (16 : Int64) o1 ho1) rfl rfl ?_
  refine go_if_eq (tgt := 42) (pc' := 12) hC dX12_add_9 (by decide) rfl (fun h64 => ?_) (fun h64 => ?_)
  · have hf := ite_t h64 hf
    refine go_ldc2 (pc' := 45) hC dX12_add_42 mw_922 rfl ?_
    obtain rfl := Option.some.inj hf
    exact go_lret hC hQ dX12_add_45 rfl rfl rfl (fun _ => rfl) rfl rfl
  · have hf := ite_f h64 hf
    refine go_iload_n (pc' := 13) hC dX12_add_12 rfl rfl ?_
    refine go_i2l (pc' := 14) hC dX12_add_13 rfl ?_
    refine go_lconst (pc' := 15) hC dX12_add_14 kl_0 rfl ?_
    refine go_ldc2 (pc' := 18) hC dX12_add_15 mw_1174 rfl ?_
    obtain ⟨o2, ho2, hf⟩ := bd_e hf
    refine go_callS0 (pc' := 21) (As := [.long p2.toInt64, .long (0 : Int64), .long (2 : Int64)]) (st := []) (st' := [.int o2])    hC dX12_add_18 ⟨mw_525, mw_527, mw_5, yd_yX12_in, yp_yX12_in, Nat.le_of_ble_eq_true rfl, Nat.le_of_ble_eq_true rfl, (Nat.le_of_ble_eq_true rfl), (Nat.le_of_ble_eq_true rfl)⟩ mw_526 rfl rfl (Nat.le_of_ble_eq_true rfl) (c_X12_in (x_l X) (x_D X) (x_q X) g (x_cy X) (x_z X) _ p2.toInt64 (0 : Int64) (2 : Int64) o2 ho2) rfl rfl ?_
    refine go_if_eq (tgt := 42) (pc' := 24) hC dX12_add_21 (by decide) rfl (fun h63 => ?_) (fun h63 => ?_)
    · have hf := ite_t h63 hf
      refine go_ldc2 (pc' := 45) hC dX12_add_42 mw_922 rfl ?_
      obtain rfl := Option.some.inj hf
      exact go_lret hC hQ dX12_add_45 rfl rfl rfl (fun _ => rfl) rfl rfl
    · have hf := ite_f h63 hf
      refine go_aload_n (pc' := 25) hC dX12_add_24 rfl rfl ?_
      refine go_geti (v := (S.1 32)) (pc' := 28) hC 0 32 layM_0 rfl rfl inlX12 (Nat.le_of_ble_eq_true rfl) mw_250 rfl dX12_add_25 rfl rfl ?_
      refine go_bipush (pc' := 30) hC dX12_add_28 kb_10 rfl ?_
      refine go_icmp_gt (tgt := 42) (pc' := 33) hC dX12_add_30 (by decide) rfl (fun h62 => ?_) (fun h62 => ?_)
      · have hf := ite_t h62 hf
        refine go_ldc2 (pc' := 45) hC dX12_add_42 mw_922 rfl ?_
        obtain rfl := Option.some.inj hf
        exact go_lret hC hQ dX12_add_45 rfl rfl rfl (fun _ => rfl) rfl rfl
      · have hf := ite_f h62 hf
        refine go_aload_n (pc' := 34) hC dX12_add_33 rfl rfl ?_
        refine go_geti (v := (S.1 21)) (pc' := 37) hC 0 21 layM_0 rfl rfl inlX12 (Nat.le_of_ble_eq_true rfl) mw_247 rfl dX12_add_34 rfl rfl ?_
        refine go_bipush (pc' := 39) hC dX12_add_37 kb_12 rfl ?_
        refine go_icmp_ne (tgt := 46) (pc' := 42) hC dX12_add_39 (by decide) rfl (fun h61 => ?_) (fun h61 => ?_)
        · have hf := ite_f h61 hf
          refine go_aload_n (pc' := 47) hC dX12_add_46 rfl rfl ?_
          obtain ⟨o3, ho3, hf⟩ := bd_e hf
          refine go_callV1 (pc' := 50) (As := []) (st := []) (st' := []) (L1' := [(38, o3.1), (39, o3.2.1), (44, o3.2.2.1)]) (L2' := []) (L3' := [(8, (S.2.2.1 8)), (9, (S.2.2.1 9)), (11, (S.2.2.1 11)), (12, (S.2.2.1 12)), (17, o3.2.2.2.1), (18, o3.2.2.2.2.1), (19, o3.2.2.2.2.2.1), (20, o3.2.2.2.2.2.2), (22, (S.2.2.1 22)), (23, (S.2.2.1 23))]) (L4' := [(21, (S.2.2.2.1 21)), (30, (S.2.2.2.1 30))]) (L5' := []) (cells' := 0) (slots' := 0)  (b := 0) hC dX12_add_47 ⟨mw_860, mw_863, mw_5, yd_yX12_lays, yp_yX12_lays, Nat.le_of_ble_eq_true rfl, Nat.le_of_ble_eq_true rfl, (Nat.le_of_ble_eq_true rfl), (Nat.le_of_ble_eq_true rfl)⟩ mw_861 mw_862 layM_0 rfl rfl rfl (Nat.le_of_ble_eq_true rfl) (c_X12_lays (x_l X) (x_D X) (x_q X) g (x_cy X) (x_z X) _  o3 ho3) rfl rfl rfl rfl rfl rfl rfl rfl rfl rfl rfl rfl rfl rfl ?_
          refine go_aload_n (pc' := 51) hC dX12_add_50 rfl rfl ?_
          obtain ⟨o4, ho4, hf⟩ := bd_e hf
          refine go_callV1 (pc' := 54) (As := []) (st := []) (st' := []) (L1' := [(38, o3.1), (39, o3.2.1), (44, o3.2.2.1)]) (L2' := []) (L3' := [(8, (S.2.2.1 8)), (9, (S.2.2.1 9)), (11, (S.2.2.1 11)), (12, (S.2.2.1 12)), (17, o3.2.2.2.1), (18, o3.2.2.2.2.1), (19, o3.2.2.2.2.2.1), (20, o3.2.2.2.2.2.2), (22, o4.1), (23, o4.2)]) (L4' := [(21, (S.2.2.2.1 21)), (30, (S.2.2.2.1 30))]) (L5' := []) (cells' := 0) (slots' := 0)  (b := 0) hC dX12_add_51 ⟨mw_927, mw_930, mw_5, yd_yX12_plain, yp_yX12_plain, Nat.le_of_ble_eq_true rfl, Nat.le_of_ble_eq_true rfl, (Nat.le_of_ble_eq_true rfl), (Nat.le_of_ble_eq_true rfl)⟩ mw_928 mw_929 layM_0 rfl rfl rfl (Nat.le_of_ble_eq_true rfl) (c_X12_plain (x_l X) (x_D X) (x_q X) g (x_cy X) (x_z X) _  o4 ho4) rfl rfl rfl rfl rfl rfl rfl rfl rfl rfl rfl rfl rfl rfl ?_
          refine go_aload_n (pc' := 55) hC dX12_add_54 rfl rfl ?_
          obtain ⟨o5, ho5, hf⟩ := bd_e hf
          refine go_callV1 (pc' := 58) (As := []) (st := []) (st' := []) (L1' := [(38, o3.1), (39, o3.2.1), (44, o3.2.2.1)]) (L2' := []) (L3' := [(8, (S.2.2.1 8)), (9, (S.2.2.1 9)), (11, (S.2.2.1 11)), (12, (S.2.2.1 12)), (17, o3.2.2.2.1), (18, o3.2.2.2.2.1), (19, o3.2.2.2.2.2.1), (20, o3.2.2.2.2.2.2), (22, o4.1), (23, o4.2)]) (L4' := [(21, o5), (30, (S.2.2.2.1 30))]) (L5' := []) (cells' := 0) (slots' := 0)  (b := 0) hC dX12_add_55 ⟨mw_935, mw_938, mw_5, yd_yX12_weighs, yp_yX12_weighs, Nat.le_of_ble_eq_true rfl, Nat.le_of_ble_eq_true rfl, (Nat.le_of_ble_eq_true rfl), (Nat.le_of_ble_eq_true rfl)⟩ mw_936 mw_937 layM_0 rfl rfl rfl (Nat.le_of_ble_eq_true rfl) (c_X12_weighs (x_l X) (x_D X) (x_q X) g (x_cy X) (x_z X) _  o5 ho5) rfl rfl rfl rfl rfl rfl rfl rfl rfl rfl rfl rfl rfl rfl ?_
          refine go_aload_n (pc' := 59) hC dX12_add_58 rfl rfl ?_
          refine go_getq (pc' := 62) hC 0 58 layM_0 rfl rfl inlX12 (Nat.le_of_ble_eq_true rfl) mw_211 rfl dX12_add_59 rfl ?_
          refine go_iconst (pc' := 63) hC dX12_add_62 ki_0 rfl ?_
          refine go_ldc2 (pc' := 66) hC dX12_add_63 mw_922 rfl ?_
          obtain ⟨h6, hf⟩ := gd_e hf
          refine go_last (f := (S.2.2.2.1 30)) (pc' := 67) hC 30 layM_30 rfl rfl dX12_add_66 (okx_in h6) rfl rfl (fun a7 ha L4' hL => ?_)
          have hf := lz_r ha hf
          clear ha
          obtain rfl : L4' = [(21, o5), (30, a7)] := hL.symm
          refine go_iconst (pc' := 68) hC dX12_add_67 ki_0 rfl ?_
          refine go_istore_n (lc' := [(0, .ref (x_q X 0)), (1, .int p1), (2, .int p2), (3, .int (0 : Int32))]) (pc' := 69) hC dX12_add_68 (Nat.le_of_ble_eq_true rfl) rfl rfl ?_
          obtain ⟨k111_18, hk111_18, hf⟩ := lk_e10 hf
          have jk111_18 : ∀ (x8 : Int32) (x9 : Int32) (a10 : Nat → Int32) (a11 : Nat → Int32) (a12 : Nat → Int32) (a13 : Nat → Int32) (a14 : Nat → Int32) (a15 : Nat → Int32) (a16 : Nat → Int32) (a17 : Nat → Int64), k111_18 x8 x9 a10 a11 a12 a13 a14 a15 a16 a17 = some o → Go X layM S 111 [(0, .ref (x_q X 0)), (2, .int p2)] [] g [(38, x8), (39, x9), (44, o3.2.2.1)] [] [(8, a10), (9, a11), (11, a12), (12, a13), (17, a14), (18, a15), (19, a16), (20, o3.2.2.2.2.2.2), (22, o4.1), (23, o4.2)] [(21, o5), (30, a17)] [] 0 0 := by
            intro x8 x9 a10 a11 a12 a13 a14 a15 a16 a17 hf
            have hf := hk111_18 x8 x9 a10 a11 a12 a13 a14 a15 a16 a17 hf
            clear hk111_18
            refine go_aload_n (pc' := 112) hC dX12_add_111 rfl rfl ?_
            refine go_getq (pc' := 115) hC 0 58 layM_0 rfl rfl inlX12 (Nat.le_of_ble_eq_true rfl) mw_211 rfl dX12_add_112 rfl ?_
            refine go_iload_n (pc' := 116) hC dX12_add_115 rfl rfl ?_
            obtain ⟨h19, hf⟩ := gd_e hf
            refine go_lald (f := a17) (pc' := 117) hC 30 layM_30 rfl rfl dX12_add_116 (okx_in h19) rfl ?_
            obtain rfl := Option.some.inj hf
            exact go_lret hC hQ dX12_add_117 rfl rfl rfl (fun _ => rfl) rfl rfl
          clear hk111_18
          have l69_60 : ∀ (nn : Nat) (x20 : Int32) (x21 : Int32) (x22 : Int32) (a23 : Nat → Int32) (a24 : Nat → Int32) (a25 : Nat → Int32) (a26 : Nat → Int32) (a27 : Nat → Int32) (a28 : Nat → Int32) (a29 : Nat → Int32) (a30 : Nat → Int64), it11 (f_X12_add_L69 S p1 o3 o4 o5 k111_18) nn x20 x21 x22 a23 a24 a25 a26 a27 a28 a29 a30 = some o → Go X layM S 69 [(0, .ref (x_q X 0)), (1, .int p1), (2, .int p2), (3, .int x20)] [] g [(38, x21), (39, x22), (44, o3.2.2.1)] [] [(8, a23), (9, a24), (11, a25), (12, a26), (17, a27), (18, a28), (19, a29), (20, o3.2.2.2.2.2.2), (22, o4.1), (23, o4.2)] [(21, o5), (30, a30)] [] 0 0 := by
            intro nn
            induction nn with
            | zero =>
              intro x20 x21 x22 a23 a24 a25 a26 a27 a28 a29 a30 hf
              exact none_no hf
            | succ nn ih =>
              intro x20 x21 x22 a23 a24 a25 a26 a27 a28 a29 a30 hf
              have hf : f_X12_add_L69 S p1 o3 o4 o5 k111_18 (it11 (f_X12_add_L69 S p1 o3 o4 o5 k111_18) nn) x20 x21 x22 a23 a24 a25 a26 a27 a28 a29 a30 = some o := hf
              generalize it11 (f_X12_add_L69 S p1 o3 o4 o5 k111_18) nn = r31 at ih hf
              unfold f_X12_add_L69 at hf
              refine go_iload_n (pc' := 70) hC dX12_add_69 rfl rfl ?_
              refine go_aload_n (pc' := 71) hC dX12_add_70 rfl rfl ?_
              refine go_geti (v := (S.1 20)) (pc' := 74) hC 0 20 layM_0 rfl rfl inlX12 (Nat.le_of_ble_eq_true rfl) mw_246 rfl dX12_add_71 rfl rfl ?_
              refine go_icmp_ge (tgt := 111) (pc' := 77) hC dX12_add_74 (by decide) rfl (fun h59 => ?_) (fun h59 => ?_)
              · have hf := ite_t h59 hf
                refine go_sub [0, 2] rfl ?_
                exact jk111_18 x21 x22 a23 a24 a25 a26 a27 a28 a29 a30 hf
              · have hf := ite_f h59 hf
                refine go_iload_n (pc' := 78) hC dX12_add_77 rfl rfl ?_
                refine go_iconst (pc' := 79) hC dX12_add_78 ki_1 rfl ?_
                refine go_iadd (pc' := 80) hC dX12_add_79 rfl ?_
                refine go_namei (fun x32 hx => ?_)
                have hf := lz_r hx hf
                clear hx
                refine go_istore (lc' := [(0, .ref (x_q X 0)), (1, .int p1), (2, .int p2), (3, .int x20), (4, .int x32)]) (pc' := 82) hC dX12_add_80 (Nat.le_of_ble_eq_true rfl) rfl rfl ?_
                obtain ⟨k105_43, hk105_43, hf⟩ := lk_e10 hf
                have jk105_43 : ∀ (x33 : Int32) (x34 : Int32) (a35 : Nat → Int32) (a36 : Nat → Int32) (a37 : Nat → Int32) (a38 : Nat → Int32) (a39 : Nat → Int32) (a40 : Nat → Int32) (a41 : Nat → Int32) (a42 : Nat → Int64), k105_43 x33 x34 a35 a36 a37 a38 a39 a40 a41 a42 = some o → Go X layM S 105 [(0, .ref (x_q X 0)), (1, .int p1), (2, .int p2), (3, .int x20)] [] g [(38, x33), (39, x34), (44, o3.2.2.1)] [] [(8, a35), (9, a36), (11, a37), (12, a38), (17, a39), (18, a40), (19, a41), (20, o3.2.2.2.2.2.2), (22, o4.1), (23, o4.2)] [(21, o5), (30, a42)] [] 0 0 := by
                  intro x33 x34 a35 a36 a37 a38 a39 a40 a41 a42 hf
                  have hf := hk105_43 x33 x34 a35 a36 a37 a38 a39 a40 a41 a42 hf
                  clear hk105_43
                  refine go_iinc (lc' := [(0, .ref (x_q X 0)), (1, .int p1), (2, .int p2), (3, .int (x20 + (1 : Int32)))]) (pc' := 108) hC dX12_add_105 rfl ki_1 (Nat.le_of_ble_eq_true rfl) rfl rfl ?_
                  refine go_goto (tgt := 69) hC dX12_add_108 (by decide) ?_
                  exact ih (x20 + (1 : Int32)) x33 x34 a35 a36 a37 a38 a39 a40 a41 a42 hf
                clear hk105_43
                have l82_58 : ∀ (nn : Nat) (x44 : Int32) (x45 : Int32) (x46 : Int32) (a47 : Nat → Int32) (a48 : Nat → Int32) (a49 : Nat → Int32) (a50 : Nat → Int32) (a51 : Nat → Int32) (a52 : Nat → Int32) (a53 : Nat → Int32) (a54 : Nat → Int64), it11 (f_X12_add_L82 S p1 o3 o4 o5 x20 k105_43) nn x44 x45 x46 a47 a48 a49 a50 a51 a52 a53 a54 = some o → Go X layM S 82 [(0, .ref (x_q X 0)), (1, .int p1), (2, .int p2), (3, .int x20), (4, .int x44)] [] g [(38, x45), (39, x46), (44, o3.2.2.1)] [] [(8, a47), (9, a48), (11, a49), (12, a50), (17, a51), (18, a52), (19, a53), (20, o3.2.2.2.2.2.2), (22, o4.1), (23, o4.2)] [(21, o5), (30, a54)] [] 0 0 := by
                  intro nn
                  induction nn with
                  | zero =>
                    intro x44 x45 x46 a47 a48 a49 a50 a51 a52 a53 a54 hf
                    exact none_no hf
                  | succ nn ih =>
                    intro x44 x45 x46 a47 a48 a49 a50 a51 a52 a53 a54 hf
                    have hf : f_X12_add_L82 S p1 o3 o4 o5 x20 k105_43 (it11 (f_X12_add_L82 S p1 o3 o4 o5 x20 k105_43) nn) x44 x45 x46 a47 a48 a49 a50 a51 a52 a53 a54 = some o := hf
                    generalize it11 (f_X12_add_L82 S p1 o3 o4 o5 x20 k105_43) nn = r55 at ih hf
                    unfold f_X12_add_L82 at hf
                    refine go_iload (pc' := 84) hC dX12_add_82 rfl rfl ?_
                    refine go_aload_n (pc' := 85) hC dX12_add_84 rfl rfl ?_
                    refine go_geti (v := (S.1 20)) (pc' := 88) hC 0 20 layM_0 rfl rfl inlX12 (Nat.le_of_ble_eq_true rfl) mw_246 rfl dX12_add_85 rfl rfl ?_
                    refine go_icmp_ge (tgt := 105) (pc' := 91) hC dX12_add_88 (by decide) rfl (fun h57 => ?_) (fun h57 => ?_)
                    · have hf := ite_t h57 hf
                      refine go_sub [0, 1, 2, 3] rfl ?_
                      exact jk105_43 x45 x46 a47 a48 a49 a50 a51 a52 a53 a54 hf
                    · have hf := ite_f h57 hf
                      refine go_aload_n (pc' := 92) hC dX12_add_91 rfl rfl ?_
                      refine go_iload_n (pc' := 93) hC dX12_add_92 rfl rfl ?_
                      refine go_iload (pc' := 95) hC dX12_add_93 rfl rfl ?_
                      refine go_iload_n (pc' := 96) hC dX12_add_95 rfl rfl ?_
                      obtain ⟨o56, ho56, hf⟩ := bd_e hf
                      refine go_callV1 (pc' := 99) (As := [.int x20, .int x44, .int p1]) (st := []) (st' := []) (L1' := [(38, o56.1), (39, o56.2.1), (44, o3.2.2.1)]) (L2' := []) (L3' := [(8, o56.2.2.1), (9, o56.2.2.2.1), (11, o56.2.2.2.2.1), (12, o56.2.2.2.2.2.1), (17, o56.2.2.2.2.2.2.1), (18, o56.2.2.2.2.2.2.2.1), (19, o56.2.2.2.2.2.2.2.2.1), (20, o3.2.2.2.2.2.2), (22, o4.1), (23, o4.2)]) (L4' := [(21, o5), (30, o56.2.2.2.2.2.2.2.2.2)]) (L5' := []) (cells' := 0) (slots' := 0)  (b := 0) hC dX12_add_96 ⟨mw_1175, mw_1178, mw_5, yd_yX12_tries, yp_yX12_tries, Nat.le_of_ble_eq_true rfl, Nat.le_of_ble_eq_true rfl, (Nat.le_of_ble_eq_true rfl), (Nat.le_of_ble_eq_true rfl)⟩ mw_1176 mw_1177 layM_0 rfl rfl rfl (Nat.le_of_ble_eq_true rfl) (c_X12_tries (x_l X) (x_D X) (x_q X) g (x_cy X) (x_z X) _ x20 x44 p1 o56 ho56) rfl rfl rfl rfl rfl rfl rfl rfl rfl rfl rfl rfl rfl rfl ?_
                      refine go_iinc (lc' := [(0, .ref (x_q X 0)), (1, .int p1), (2, .int p2), (3, .int x20), (4, .int (x44 + (1 : Int32)))]) (pc' := 102) hC dX12_add_99 rfl ki_1 (Nat.le_of_ble_eq_true rfl) rfl rfl ?_
                      refine go_goto (tgt := 82) hC dX12_add_102 (by decide) ?_
                      exact ih (x44 + (1 : Int32)) o56.1 o56.2.1 o56.2.2.1 o56.2.2.2.1 o56.2.2.2.2.1 o56.2.2.2.2.2.1 o56.2.2.2.2.2.2.1 o56.2.2.2.2.2.2.2.1 o56.2.2.2.2.2.2.2.2.1 o56.2.2.2.2.2.2.2.2.2 hf
                exact l82_58 fuel x32 x21 x22 a23 a24 a25 a26 a27 a28 a29 a30 hf
          exact l69_60 fuel (0 : Int32) o3.1 o3.2.1 (S.2.2.1 8) (S.2.2.1 9) (S.2.2.1 11) (S.2.2.1 12) o3.2.2.2.1 o3.2.2.2.2.1 o3.2.2.2.2.2.1 a7 hf
        · have hf := ite_t h61 hf
          refine go_ldc2 (pc' := 45) hC dX12_add_42 mw_922 rfl ?_
          obtain rfl := Option.some.inj hf
          exact go_lret hC hQ dX12_add_45 rfl rfl rfl (fun _ => rfl) rfl rfl
