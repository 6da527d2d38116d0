theorem dX11_sure_0 : decode cX11_sure 0 = .ok (.aload_n 0, 1) := by decide +kernel
theorem dX11_sure_1 : decode cX11_sure 1 = .ok (.iload_n 1, 1) := by decide +kernel
theorem dX11_sure_2 : decode cX11_sure 2 = .ok (.invokevirtual 188, 3) := by decide +kernel
theorem dX11_sure_5 : decode cX11_sure 5 = .ok (.ifCond .eq 15, 3) := by decide +kernel
theorem dX11_sure_8 : decode cX11_sure 8 = .ok (.aload_n 0, 1) := by decide +kernel
theorem dX11_sure_9 : decode cX11_sure 9 = .ok (.invokevirtual 171, 3) := by decide +kernel
theorem dX11_sure_12 : decode cX11_sure 12 = .ok (.iload_n 1, 1) := by decide +kernel
theorem dX11_sure_13 : decode cX11_sure 13 = .ok (.iload_n 2, 1) := by decide +kernel
theorem dX11_sure_14 : decode cX11_sure 14 = .ok (.invokevirtual 191, 3) := by decide +kernel
theorem dX11_sure_17 : decode cX11_sure 17 = .ok (.goto 6, 3) := by decide +kernel
theorem dX11_sure_20 : decode cX11_sure 20 = .ok (.ldc2_w 186, 3) := by decide +kernel
theorem dX11_sure_23 : decode cX11_sure 23 = .ok (.lreturn, 1) := by decide +kernel
abbrev o_X11_sure : Type := Int64 × wd_W × Nat × Nat
def f_X11_sure (S : wd_W) (p1 : Int32) (p2 : Int32) : Option o_X11_sure :=
bd (f_X11_isThing (wd_o S [] [] [] [] []) p1) fun o1 =>
if o1 = 0 then (
some ((-1 : Int64), S, 0, 0)) else (
bd (f_X11_knownSets (wd_o S [] [] [] [] [])) fun o2 =>
gd (okr (0 + o2.2.1) (0 + o2.2.2) 0 0 40 500000) <|
bd (f_X8_given_q106 (wd_o o2.1 [] [] [] [] []) p1 p2) fun o3 =>
some (o3, o2.1, 0 + o2.2.1, 0 + o2.2.2))
set_option maxRecDepth 100000 in
set_option maxHeartbeats 4000000 in
theorem c_X11_sure (l : Launch) (D : va_G) (q g : Nat → Nat) (cy : Nat → ClassId) (z : (Nat → Nat) × (Nat → Nat) × Nat) (S : wd_W) (p1 : Int32) (p2 : Int32) (o : o_X11_sure) (hf : f_X11_sure S p1 p2 = some o) : MX layX l yX11_sure cX11_sure 3 (some .long) ({ frames := 6, cells := 40, slots := 500000, locals := 147 } : Room) D q g cy z [.ref (q 0), .int p1, .int p2] S true (some (.long o.1)) o.2.1 o.2.2.1 o.2.2.2 := by
  refine mx_of (own := RX11) (lc := [(0, .ref (q 0)), (1, .int p1), (2, .int p2)]) (by decide +kernel) rfl layX_ok (Nat.le_of_ble_eq_true rfl) rfl ?_
  intro X hXl hXq hXz hC hQ
  subst hXl; subst hXq; subst hXz
  unfold f_X11_sure at hf
  refine go_aload_n (pc' := 1) hC dX11_sure_0 rfl rfl ?_
  refine go_iload_n (pc' := 2) hC dX11_sure_1 rfl rfl ?_
  obtain ⟨o1, ho1, hf⟩ := bd_e hf
  refine go_callV0 (pc' := 5) (As := [.int p1]) (st := []) (st' := [.int o1])    (b := 0) hC dX11_sure_2 ⟨mw_943, mw_946, mw_2, yd_yX11_isThing, yp_yX11_isThing, Nat.le_of_ble_eq_true rfl, Nat.le_of_ble_eq_true rfl, (Nat.le_of_ble_eq_true rfl), (Nat.le_of_ble_eq_true rfl)⟩ mw_944 mw_945 layX_0 rfl rfl rfl (Nat.le_of_ble_eq_true rfl) (c_X11_isThing (x_l X) (x_D X) (x_q X) g (x_cy X) (x_z X) _ p1 o1 ho1) rfl rfl ?_
  refine go_if_eq (tgt := 20) (pc' := 8) hC dX11_sure_5 (by decide) rfl (fun h5 => ?_) (fun h5 => ?_)
  · have hf := ite_t h5 hf
    refine go_ldc2 (pc' := 23) hC dX11_sure_20 mw_909 rfl ?_
    obtain rfl := Option.some.inj hf
    exact go_lret hC hQ dX11_sure_23 rfl rfl rfl (fun h => nomatch h) rfl rfl
  · have hf := ite_f h5 hf
    refine go_aload_n (pc' := 9) hC dX11_sure_8 rfl rfl ?_
    obtain ⟨o2, ho2, hf⟩ := bd_e hf
    refine go_callVw (pc' := 12) (As := []) (st := []) (st' := [.ref (x_q X 106)])  (cells' := 0 + o2.2.1) (slots' := 0 + o2.2.2)  (b := 0) hC dX11_sure_9 ⟨mw_593, mw_596, mw_2, yd_yX11_knownSets, yp_yX11_knownSets, Nat.le_of_ble_eq_true rfl, Nat.le_of_ble_eq_true rfl, (Nat.le_of_ble_eq_true rfl), (Nat.le_of_ble_eq_true rfl)⟩ mw_594 mw_595 layX_0 rfl rfl rfl (Nat.le_of_ble_eq_true rfl) (c_X11_knownSets (x_l X) (x_D X) (x_q X) g (x_cy X) (x_z X) _  o2 ho2) rfl rfl rfl rfl (fun g _ => ?_)
    refine go_iload_n (pc' := 13) hC dX11_sure_12 rfl rfl ?_
    refine go_iload_n (pc' := 14) hC dX11_sure_13 rfl rfl ?_
    obtain ⟨h4, hf⟩ := gd_e hf
    obtain ⟨o3, ho3, hf⟩ := bd_e hf
    refine go_callV0 (pc' := 17) (As := [.int p1, .int p2]) (st := []) (st' := [.long o3])   (rc := { frames := 2, cells := 0, slots := 0, locals := 42 }) (b := 106) hC dX11_sure_14 ⟨mw_947, mw_950, mw_31, yd_yX8_given, yp_yX8_given, Nat.le_of_ble_eq_true rfl, Nat.le_of_ble_eq_true rfl, (okr_c h4), (okr_s h4)⟩ mw_948 mw_949 layX_106 rfl rfl rfl (Nat.le_of_ble_eq_true rfl) (c_X8_given_q106 (x_l X) (x_D X) (x_q X) g (x_cy X) (x_z X) _ p1 p2 o3 ho3) rfl rfl ?_
    refine go_goto (tgt := 23) hC dX11_sure_17 (by decide) ?_
    obtain rfl := Option.some.inj hf
    exact go_lret hC hQ dX11_sure_23 rfl rfl rfl (fun h => nomatch h) rfl rfl
theorem dX2_chanceOf_0 : decode cX2_chanceOf 0 = .ok (.iload_n 1, 1) := by decide +kernel
theorem dX2_chanceOf_1 : decode cX2_chanceOf 1 = .ok (.aload_n 0, 1) := by decide +kernel
theorem dX2_chanceOf_2 : decode cX2_chanceOf 2 = .ok (.getfield 49, 3) := by decide +kernel
theorem dX2_chanceOf_5 : decode cX2_chanceOf 5 = .ok (.if_icmp .ge 10, 3) := by decide +kernel
theorem dX2_chanceOf_8 : decode cX2_chanceOf 8 = .ok (.aload_n 0, 1) := by decide +kernel
theorem dX2_chanceOf_9 : decode cX2_chanceOf 9 = .ok (.getfield 22, 3) := by decide +kernel
theorem dX2_chanceOf_12 : decode cX2_chanceOf 12 = .ok (.iload_n 1, 1) := by decide +kernel
theorem dX2_chanceOf_13 : decode cX2_chanceOf 13 = .ok (.iaload, 1) := by decide +kernel
theorem dX2_chanceOf_14 : decode cX2_chanceOf 14 = .ok (.ireturn, 1) := by decide +kernel
theorem dX2_chanceOf_15 : decode cX2_chanceOf 15 = .ok (.iload_n 1, 1) := by decide +kernel
theorem dX2_chanceOf_16 : decode cX2_chanceOf 16 = .ok (.aload_n 0, 1) := by decide +kernel
theorem dX2_chanceOf_17 : decode cX2_chanceOf 17 = .ok (.getfield 49, 3) := by decide +kernel
theorem dX2_chanceOf_20 : decode cX2_chanceOf 20 = .ok (.aload_n 0, 1) := by decide +kernel
theorem dX2_chanceOf_21 : decode cX2_chanceOf 21 = .ok (.getfield 52, 3) := by decide +kernel
theorem dX2_chanceOf_24 : decode cX2_chanceOf 24 = .ok (.iadd, 1) := by decide +kernel
theorem dX2_chanceOf_25 : decode cX2_chanceOf 25 = .ok (.if_icmp .ge 15, 3) := by decide +kernel
theorem dX2_chanceOf_28 : decode cX2_chanceOf 28 = .ok (.aload_n 0, 1) := by decide +kernel
theorem dX2_chanceOf_29 : decode cX2_chanceOf 29 = .ok (.getfield 34, 3) := by decide +kernel
theorem dX2_chanceOf_32 : decode cX2_chanceOf 32 = .ok (.iload_n 1, 1) := by decide +kernel
theorem dX2_chanceOf_33 : decode cX2_chanceOf 33 = .ok (.aload_n 0, 1) := by decide +kernel
theorem dX2_chanceOf_34 : decode cX2_chanceOf 34 = .ok (.getfield 49, 3) := by decide +kernel
theorem dX2_chanceOf_37 : decode cX2_chanceOf 37 = .ok (.isub, 1) := by decide +kernel
theorem dX2_chanceOf_38 : decode cX2_chanceOf 38 = .ok (.iaload, 1) := by decide +kernel
theorem dX2_chanceOf_39 : decode cX2_chanceOf 39 = .ok (.ireturn, 1) := by decide +kernel
theorem dX2_chanceOf_40 : decode cX2_chanceOf 40 = .ok (.aload_n 0, 1) := by decide +kernel
theorem dX2_chanceOf_41 : decode cX2_chanceOf 41 = .ok (.getfield 37, 3) := by decide +kernel
theorem dX2_chanceOf_44 : decode cX2_chanceOf 44 = .ok (.iload_n 1, 1) := by decide +kernel
theorem dX2_chanceOf_45 : decode cX2_chanceOf 45 = .ok (.aload_n 0, 1) := by decide +kernel
theorem dX2_chanceOf_46 : decode cX2_chanceOf 46 = .ok (.getfield 49, 3) := by decide +kernel
theorem dX2_chanceOf_49 : decode cX2_chanceOf 49 = .ok (.isub, 1) := by decide +kernel
theorem dX2_chanceOf_50 : decode cX2_chanceOf 50 = .ok (.aload_n 0, 1) := by decide +kernel
theorem dX2_chanceOf_51 : decode cX2_chanceOf 51 = .ok (.getfield 52, 3) := by decide +kernel
theorem dX2_chanceOf_54 : decode cX2_chanceOf 54 = .ok (.isub, 1) := by decide +kernel
theorem dX2_chanceOf_55 : decode cX2_chanceOf 55 = .ok (.iaload, 1) := by decide +kernel
theorem dX2_chanceOf_56 : decode cX2_chanceOf 56 = .ok (.ireturn, 1) := by decide +kernel
abbrev o_X2_chanceOf_q16 : Type := Int32
def f_X2_chanceOf_q16 (S : wd_W) (p1 : Int32) : Option o_X2_chanceOf_q16 :=
if (S.1 1601) ≤ p1 then (
if ((S.1 1601) + (S.1 1607)) ≤ p1 then (
gd (okx ((p1 - (S.1 1601)) - (S.1 1607)) 3) <|
some ((S.2.2.1 24) ((p1 - (S.1 1601)) - (S.1 1607)).toNatClampNeg)) else (
gd (okx (p1 - (S.1 1601)) 10) <|
some ((S.2.2.1 23) (p1 - (S.1 1601)).toNatClampNeg))) else (
gd (okx p1 13) <|
some ((S.2.2.1 19) p1.toNatClampNeg))
set_option maxRecDepth 100000 in
set_option maxHeartbeats 4000000 in
theorem c_X2_chanceOf_q16 (l : Launch) (D : va_G) (q g : Nat → Nat) (cy : Nat → ClassId) (z : (Nat → Nat) × (Nat → Nat) × Nat) (S : wd_W) (p1 : Int32) (o : o_X2_chanceOf_q16) (hf : f_X2_chanceOf_q16 S p1 = some o) : MX layX l yX2_chanceOf cX2_chanceOf 2 (some .int) ({ frames := 0, cells := 0, slots := 0, locals := 0 } : Room) D q g cy z [.ref (q 16), .int p1] S false (some (.int o)) (wd_o S [] [] [] [] []) 0 0 := by
  refine mx_of (own := RX2) (lc := [(0, .ref (q 16)), (1, .int p1)]) (by decide +kernel) rfl layX_ok (Nat.le_of_ble_eq_true rfl) rfl ?_
  intro X hXl hXq hXz hC hQ
  subst hXl; subst hXq; subst hXz
  unfold f_X2_chanceOf_q16 at hf
  refine go_iload_n (pc' := 1) hC dX2_chanceOf_0 rfl rfl ?_
  refine go_aload_n (pc' := 2) hC dX2_chanceOf_1 rfl rfl ?_
  refine go_geti (v := (S.1 1601)) (pc' := 5) hC 16 1 layX_16 rfl rfl inlX2 (Nat.le_of_ble_eq_true rfl) mw_309 rfl dX2_chanceOf_2 rfl rfl ?_
  refine go_icmp_ge (tgt := 15) (pc' := 8) hC dX2_chanceOf_5 (by decide) rfl (fun h5 => ?_) (fun h5 => ?_)
  · have hf := ite_t h5 hf
    refine go_iload_n (pc' := 16) hC dX2_chanceOf_15 rfl rfl ?_
    refine go_aload_n (pc' := 17) hC dX2_chanceOf_16 rfl rfl ?_
    refine go_geti (v := (S.1 1601)) (pc' := 20) hC 16 1 layX_16 rfl rfl inlX2 (Nat.le_of_ble_eq_true rfl) mw_309 rfl dX2_chanceOf_17 rfl rfl ?_
    refine go_aload_n (pc' := 21) hC dX2_chanceOf_20 rfl rfl ?_
    refine go_geti (v := (S.1 1607)) (pc' := 24) hC 16 7 layX_16 rfl rfl inlX2 (Nat.le_of_ble_eq_true rfl) mw_310 rfl dX2_chanceOf_21 rfl rfl ?_
    refine go_iadd (pc' := 25) hC dX2_chanceOf_24 rfl ?_
    refine go_icmp_ge (tgt := 40) (pc' := 28) hC dX2_chanceOf_25 (by decide) rfl (fun h3 => ?_) (fun h3 => ?_)
    · have hf := ite_t h3 hf
      refine go_aload_n (pc' := 41) hC dX2_chanceOf_40 rfl rfl ?_
      refine go_getq (pc' := 44) hC 16 11 layX_16 rfl rfl inlX2 (Nat.le_of_ble_eq_true rfl) mw_67 rfl dX2_chanceOf_41 rfl ?_
      refine go_iload_n (pc' := 45) hC dX2_chanceOf_44 rfl rfl ?_
      refine go_aload_n (pc' := 46) hC dX2_chanceOf_45 rfl rfl ?_
      refine go_geti (v := (S.1 1601)) (pc' := 49) hC 16 1 layX_16 rfl rfl inlX2 (Nat.le_of_ble_eq_true rfl) mw_309 rfl dX2_chanceOf_46 rfl rfl ?_
      refine go_isub (pc' := 50) hC dX2_chanceOf_49 rfl ?_
      refine go_aload_n (pc' := 51) hC dX2_chanceOf_50 rfl rfl ?_
      refine go_geti (v := (S.1 1607)) (pc' := 54) hC 16 7 layX_16 rfl rfl inlX2 (Nat.le_of_ble_eq_true rfl) mw_310 rfl dX2_chanceOf_51 rfl rfl ?_
      refine go_isub (pc' := 55) hC dX2_chanceOf_54 rfl ?_
      obtain ⟨h1, hf⟩ := gd_e hf
      refine go_iald (f := (S.2.2.1 24)) (pc' := 56) hC 24 layX_24 rfl rfl dX2_chanceOf_55 (okx_in h1) rfl ?_
      obtain rfl := Option.some.inj hf
      exact go_iret hC hQ dX2_chanceOf_56 rfl rfl rfl rfl (fun _ => rfl) rfl rfl
    · have hf := ite_f h3 hf
      refine go_aload_n (pc' := 29) hC dX2_chanceOf_28 rfl rfl ?_
      refine go_getq (pc' := 32) hC 16 9 layX_16 rfl rfl inlX2 (Nat.le_of_ble_eq_true rfl) mw_66 rfl dX2_chanceOf_29 rfl ?_
      refine go_iload_n (pc' := 33) hC dX2_chanceOf_32 rfl rfl ?_
      refine go_aload_n (pc' := 34) hC dX2_chanceOf_33 rfl rfl ?_
      refine go_geti (v := (S.1 1601)) (pc' := 37) hC 16 1 layX_16 rfl rfl inlX2 (Nat.le_of_ble_eq_true rfl) mw_309 rfl dX2_chanceOf_34 rfl rfl ?_
      refine go_isub (pc' := 38) hC dX2_chanceOf_37 rfl ?_
      obtain ⟨h2, hf⟩ := gd_e hf
      refine go_iald (f := (S.2.2.1 23)) (pc' := 39) hC 23 layX_23 rfl rfl dX2_chanceOf_38 (okx_in h2) rfl ?_
      obtain rfl := Option.some.inj hf
      exact go_iret hC hQ dX2_chanceOf_39 rfl rfl rfl rfl (fun _ => rfl) rfl rfl
  · have hf := ite_f h5 hf
    refine go_aload_n (pc' := 9) hC dX2_chanceOf_8 rfl rfl ?_
    refine go_getq (pc' := 12) hC 16 4 layX_16 rfl rfl inlX2 (Nat.le_of_ble_eq_true rfl) mw_62 rfl dX2_chanceOf_9 rfl ?_
    refine go_iload_n (pc' := 13) hC dX2_chanceOf_12 rfl rfl ?_
    obtain ⟨h4, hf⟩ := gd_e hf
    refine go_iald (f := (S.2.2.1 19)) (pc' := 14) hC 19 layX_19 rfl rfl dX2_chanceOf_13 (okx_in h4) rfl ?_
    obtain rfl := Option.some.inj hf
    exact go_iret hC hQ dX2_chanceOf_14 rfl rfl rfl rfl (fun _ => rfl) rfl rfl
theorem dX8_decidesIn_0 : decode cX8_decidesIn 0 = .ok (.iconst 1, 1) := by decide +kernel
theorem dX8_decidesIn_1 : decode cX8_decidesIn 1 = .ok (.iload_n 1, 1) := by decide +kernel
theorem dX8_decidesIn_2 : decode cX8_decidesIn 2 = .ok (.ishl, 1) := by decide +kernel
theorem dX8_decidesIn_3 : decode cX8_decidesIn 3 = .ok (.istore_n 2, 1) := by decide +kernel
theorem dX8_decidesIn_4 : decode cX8_decidesIn 4 = .ok (.iconst 0, 1) := by decide +kernel
theorem dX8_decidesIn_5 : decode cX8_decidesIn 5 = .ok (.istore_n 3, 1) := by decide +kernel
theorem dX8_decidesIn_6 : decode cX8_decidesIn 6 = .ok (.iconst 0, 1) := by decide +kernel
theorem dX8_decidesIn_7 : decode cX8_decidesIn 7 = .ok (.istore 4, 2) := by decide +kernel
theorem dX8_decidesIn_9 : decode cX8_decidesIn 9 = .ok (.iload 4, 2) := by decide +kernel
theorem dX8_decidesIn_11 : decode cX8_decidesIn 11 = .ok (.aload_n 0, 1) := by decide +kernel
theorem dX8_decidesIn_12 : decode cX8_decidesIn 12 = .ok (.getfield 64, 3) := by decide +kernel
theorem dX8_decidesIn_15 : decode cX8_decidesIn 15 = .ok (.if_icmp .ge 39, 3) := by decide +kernel
theorem dX8_decidesIn_18 : decode cX8_decidesIn 18 = .ok (.iload 4, 2) := by decide +kernel
theorem dX8_decidesIn_20 : decode cX8_decidesIn 20 = .ok (.iload_n 2, 1) := by decide +kernel
theorem dX8_decidesIn_21 : decode cX8_decidesIn 21 = .ok (.iand, 1) := by decide +kernel
theorem dX8_decidesIn_22 : decode cX8_decidesIn 22 = .ok (.ifCond .ne 26, 3) := by decide +kernel
theorem dX8_decidesIn_25 : decode cX8_decidesIn 25 = .ok (.aload_n 0, 1) := by decide +kernel
theorem dX8_decidesIn_26 : decode cX8_decidesIn 26 = .ok (.iload 4, 2) := by decide +kernel
theorem dX8_decidesIn_28 : decode cX8_decidesIn 28 = .ok (.iload_n 2, 1) := by decide +kernel
theorem dX8_decidesIn_29 : decode cX8_decidesIn 29 = .ok (.ior, 1) := by decide +kernel
theorem dX8_decidesIn_30 : decode cX8_decidesIn 30 = .ok (.invokevirtual 103, 3) := by decide +kernel
theorem dX8_decidesIn_33 : decode cX8_decidesIn 33 = .ok (.ifCond .eq 15, 3) := by decide +kernel
theorem dX8_decidesIn_36 : decode cX8_decidesIn 36 = .ok (.aload_n 0, 1) := by decide +kernel
theorem dX8_decidesIn_37 : decode cX8_decidesIn 37 = .ok (.iload 4, 2) := by decide +kernel
theorem dX8_decidesIn_39 : decode cX8_decidesIn 39 = .ok (.invokevirtual 103, 3) := by decide +kernel
theorem dX8_decidesIn_42 : decode cX8_decidesIn 42 = .ok (.ifCond .ne 6, 3) := by decide +kernel
theorem dX8_decidesIn_45 : decode cX8_decidesIn 45 = .ok (.iinc 3 1, 3) := by decide +kernel
theorem dX8_decidesIn_48 : decode cX8_decidesIn 48 = .ok (.iinc 4 1, 3) := by decide +kernel
theorem dX8_decidesIn_51 : decode cX8_decidesIn 51 = .ok (.goto (-42), 3) := by decide +kernel
theorem dX8_decidesIn_54 : decode cX8_decidesIn 54 = .ok (.iload_n 3, 1) := by decide +kernel
theorem dX8_decidesIn_55 : decode cX8_decidesIn 55 = .ok (.ireturn, 1) := by decide +kernel
abbrev o_X8_decidesIn_q106 : Type := Int32
def f_X8_decidesIn_q106_L9 (S : wd_W) (x1 : Int32) (r4 : (Int32) → (Int32) → (Option o_X8_decidesIn_q106)) (x2 : Int32) (x3 : Int32) : Option o_X8_decidesIn_q106 :=
if (S.1 10602) ≤ x3 then (
some x2) else (
lk (fun x5 =>
r4 x5 (x3 + (1 : Int32))) fun k48_6 =>
if (x3 &&& x1) = 0 then (
bd (f_X8_isThrough_q106 (wd_o S [] [] [] [] []) (x3 ||| x1)) fun o7 =>
if o7 = 0 then (
k48_6 x2) else (
bd (f_X8_isThrough_q106 (wd_o S [] [] [] [] []) x3) fun o8 =>
if o8 = 0 then (
k48_6 (x2 + (1 : Int32))) else (
k48_6 x2))) else (
k48_6 x2))
def f_X8_decidesIn_q106 (S : wd_W) (p1 : Int32) : Option o_X8_decidesIn_q106 :=
lz ((1 : Int32) <<< (p1 &&& 31)) fun x1 =>
it2 (f_X8_decidesIn_q106_L9 S x1) fuel (0 : Int32) (0 : Int32)
set_option maxRecDepth 100000 in
set_option maxHeartbeats 4000000 in
theorem c_X8_decidesIn_q106 (l : Launch) (D : va_G) (q g : Nat → Nat) (cy : Nat → ClassId) (z : (Nat → Nat) × (Nat → Nat) × Nat) (S : wd_W) (p1 : Int32) (o : o_X8_decidesIn_q106) (hf : f_X8_decidesIn_q106 S p1 = some o) : MX layX l yX8_decidesIn cX8_decidesIn 5 (some .int) ({ frames := 2, cells := 0, slots := 0, locals := 42 } : Room) D q g cy z [.ref (q 106), .int p1] S false (some (.int o)) (wd_o S [] [] [] [] []) 0 0 := by
  refine mx_of (own := RX8) (lc := [(0, .ref (q 106)), (1, .int p1)]) (by decide +kernel) rfl layX_ok (Nat.le_of_ble_eq_true rfl) rfl ?_
  intro X hXl hXq hXz hC hQ
  subst hXl; subst hXq; subst hXz
  unfold f_X8_decidesIn_q106 at hf
  refine go_iconst (pc' := 1) hC dX8_decidesIn_0 ki_1 rfl ?_
  refine go_iload_n (pc' := 2) hC dX8_decidesIn_1 rfl rfl ?_
  refine go_ishl (pc' := 3) hC dX8_decidesIn_2 rfl ?_
  refine go_namei (fun x1 hx => ?_)
  have hf := lz_r hx hf
  clear hx
  refine go_istore_n (lc' := [(0, .ref (x_q X 106)), (1, .int p1), (2, .int x1)]) (pc' := 4) hC dX8_decidesIn_3 (Nat.le_of_ble_eq_true rfl) rfl rfl ?_
  refine go_iconst (pc' := 5) hC dX8_decidesIn_4 ki_0 rfl ?_
  refine go_istore_n (lc' := [(0, .ref (x_q X 106)), (1, .int p1), (2, .int x1), (3, .int (0 : Int32))]) (pc' := 6) hC dX8_decidesIn_5 (Nat.le_of_ble_eq_true rfl) rfl rfl ?_
  refine go_iconst (pc' := 7) hC dX8_decidesIn_6 ki_0 rfl ?_
  refine go_istore (lc' := [(0, .ref (x_q X 106)), (1, .int p1), (2, .int x1), (3, .int (0 : Int32)), (4, .int (0 : Int32))]) (pc' := 9) hC dX8_decidesIn_7 (Nat.le_of_ble_eq_true rfl) rfl rfl ?_
  have l9_13 : ∀ (nn : Nat) (x2 : Int32) (x3 : Int32), it2 (f_X8_decidesIn_q106_L9 S x1) nn x2 x3 = some o → Go X layX S 9 [(0, .ref (x_q X 106)), (2, .int x1), (3, .int x2), (4, .int x3)] [] g [] [] [] [] [] 0 0 := by
    intro nn
    induction nn with
    | zero =>
      intro x2 x3 hf
      exact none_no hf
    | succ nn ih =>
      intro x2 x3 hf
      have hf : f_X8_decidesIn_q106_L9 S x1 (it2 (f_X8_decidesIn_q106_L9 S x1) nn) x2 x3 = some o := hf
      generalize it2 (f_X8_decidesIn_q106_L9 S x1) nn = r4 at ih hf
      unfold f_X8_decidesIn_q106_L9 at hf
      refine go_iload (pc' := 11) hC dX8_decidesIn_9 rfl rfl ?_
      refine go_aload_n (pc' := 12) hC dX8_decidesIn_11 rfl rfl ?_
      refine go_geti (v := (S.1 10602)) (pc' := 15) hC 106 2 layX_106 rfl rfl inlX8 (Nat.le_of_ble_eq_true rfl) mw_610 rfl dX8_decidesIn_12 rfl rfl ?_
      refine go_icmp_ge (tgt := 54) (pc' := 18) hC dX8_decidesIn_15 (by decide) rfl (fun h12 => ?_) (fun h12 => ?_)
      · have hf := ite_t h12 hf
        refine go_iload_n (pc' := 55) hC dX8_decidesIn_54 rfl rfl ?_
        obtain rfl := Option.some.inj hf
        exact go_iret hC hQ dX8_decidesIn_55 rfl rfl rfl rfl (fun _ => rfl) rfl rfl
      · have hf := ite_f h12 hf
        refine go_iload (pc' := 20) hC dX8_decidesIn_18 rfl rfl ?_
        refine go_iload_n (pc' := 21) hC dX8_decidesIn_20 rfl rfl ?_
        refine go_iand (pc' := 22) hC dX8_decidesIn_21 rfl ?_
        obtain ⟨k48_6, hk48_6, hf⟩ := lk_e1 hf
        have jk48_6 : ∀ (x5 : Int32), k48_6 x5 = some o → Go X layX S 48 [(0, .ref (x_q X 106)), (2, .int x1), (3, .int x5), (4, .int x3)] [] g [] [] [] [] [] 0 0 := by
          intro x5 hf
          have hf := hk48_6 x5 hf
          clear hk48_6
          refine go_iinc (lc' := [(0, .ref (x_q X 106)), (2, .int x1), (3, .int x5), (4, .int (x3 + (1 : Int32)))]) (pc' := 51) hC dX8_decidesIn_48 rfl ki_1 (Nat.le_of_ble_eq_true rfl) rfl rfl ?_
          refine go_goto (tgt := 9) hC dX8_decidesIn_51 (by decide) ?_
          exact ih x5 (x3 + (1 : Int32)) hf
        clear hk48_6
        refine go_if_ne (tgt := 48) (pc' := 25) hC dX8_decidesIn_22 (by decide) rfl (fun h11 => ?_) (fun h11 => ?_)
        · have hf := ite_f h11 hf
          exact jk48_6 x2 hf
        · have hf := ite_t h11 hf
          refine go_aload_n (pc' := 26) hC dX8_decidesIn_25 rfl rfl ?_
          refine go_iload (pc' := 28) hC dX8_decidesIn_26 rfl rfl ?_
          refine go_iload_n (pc' := 29) hC dX8_decidesIn_28 rfl rfl ?_
          refine go_ior (pc' := 30) hC dX8_decidesIn_29 rfl ?_
          obtain ⟨o7, ho7, hf⟩ := bd_e hf
          refine go_callV0 (pc' := 33) (As := [.int (x3 ||| x1)]) (st := []) (st' := [.int o7])    (b := 106) hC dX8_decidesIn_30 ⟨mw_914, mw_734, mw_31, yd_yX8_isThrough, yp_yX8_isThrough, Nat.le_of_ble_eq_true rfl, Nat.le_of_ble_eq_true rfl, (Nat.le_of_ble_eq_true rfl), (Nat.le_of_ble_eq_true rfl)⟩ mw_732 mw_733 layX_106 rfl rfl rfl (Nat.le_of_ble_eq_true rfl) (c_X8_isThrough_q106 (x_l X) (x_D X) (x_q X) g (x_cy X) (x_z X) _ (x3 ||| x1) o7 ho7) rfl rfl ?_
          refine go_if_eq (tgt := 48) (pc' := 36) hC dX8_decidesIn_33 (by decide) rfl (fun h10 => ?_) (fun h10 => ?_)
          · have hf := ite_t h10 hf
            exact jk48_6 x2 hf
          · have hf := ite_f h10 hf
            refine go_aload_n (pc' := 37) hC dX8_decidesIn_36 rfl rfl ?_
            refine go_iload (pc' := 39) hC dX8_decidesIn_37 rfl rfl ?_
            obtain ⟨o8, ho8, hf⟩ := bd_e hf
            refine go_callV0 (pc' := 42) (As := [.int x3]) (st := []) (st' := [.int o8])    (b := 106) hC dX8_decidesIn_39 ⟨mw_914, mw_734, mw_31, yd_yX8_isThrough, yp_yX8_isThrough, Nat.le_of_ble_eq_true rfl, Nat.le_of_ble_eq_true rfl, (Nat.le_of_ble_eq_true rfl), (Nat.le_of_ble_eq_true rfl)⟩ mw_732 mw_733 layX_106 rfl rfl rfl (Nat.le_of_ble_eq_true rfl) (c_X8_isThrough_q106 (x_l X) (x_D X) (x_q X) g (x_cy X) (x_z X) _ x3 o8 ho8) rfl rfl ?_
            refine go_if_ne (tgt := 48) (pc' := 45) hC dX8_decidesIn_42 (by decide) rfl (fun h9 => ?_) (fun h9 => ?_)
            · have hf := ite_f h9 hf
              exact jk48_6 x2 hf
            · have hf := ite_t h9 hf
              refine go_iinc (lc' := [(0, .ref (x_q X 106)), (2, .int x1), (3, .int (x2 + (1 : Int32))), (4, .int x3)]) (pc' := 48) hC dX8_decidesIn_45 rfl ki_1 (Nat.le_of_ble_eq_true rfl) rfl rfl ?_
              exact jk48_6 (x2 + (1 : Int32)) hf
  refine go_sub [0, 2, 3, 4] rfl ?_
  exact l9_13 fuel (0 : Int32) (0 : Int32) hf
theorem dX8_weightOf_0 : decode cX8_weightOf 0 = .ok (.aload_n 0, 1) := by decide +kernel
theorem dX8_weightOf_1 : decode cX8_weightOf 1 = .ok (.iload_n 1, 1) := by decide +kernel
theorem dX8_weightOf_2 : decode cX8_weightOf 2 = .ok (.iconst 1, 1) := by decide +kernel
theorem dX8_weightOf_3 : decode cX8_weightOf 3 = .ok (.invokevirtual 106, 3) := by decide +kernel
theorem dX8_weightOf_6 : decode cX8_weightOf 6 = .ok (.aload_n 0, 1) := by decide +kernel
theorem dX8_weightOf_7 : decode cX8_weightOf 7 = .ok (.iload_n 1, 1) := by decide +kernel
theorem dX8_weightOf_8 : decode cX8_weightOf 8 = .ok (.iconst 0, 1) := by decide +kernel
theorem dX8_weightOf_9 : decode cX8_weightOf 9 = .ok (.invokevirtual 106, 3) := by decide +kernel
theorem dX8_weightOf_12 : decode cX8_weightOf 12 = .ok (.lsub, 1) := by decide +kernel
theorem dX8_weightOf_13 : decode cX8_weightOf 13 = .ok (.lreturn, 1) := by decide +kernel
abbrev o_X8_weightOf_q106 : Type := Int64
def f_X8_weightOf_q106 (S : wd_W) (p1 : Int32) : Option o_X8_weightOf_q106 :=
bd (f_X8_given_q106 (wd_o S [] [] [] [] []) p1 (1 : Int32)) fun o1 =>
bd (f_X8_given_q106 (wd_o S [] [] [] [] []) p1 (0 : Int32)) fun o2 =>
some (o1 - o2)
set_option maxRecDepth 100000 in
set_option maxHeartbeats 4000000 in
theorem c_X8_weightOf_q106 (l : Launch) (D : va_G) (q g : Nat → Nat) (cy : Nat → ClassId) (z : (Nat → Nat) × (Nat → Nat) × Nat) (S : wd_W) (p1 : Int32) (o : o_X8_weightOf_q106) (hf : f_X8_weightOf_q106 S p1 = some o) : MX layX l yX8_weightOf cX8_weightOf 2 (some .long) ({ frames := 3, cells := 0, slots := 0, locals := 68 } : Room) D q g cy z [.ref (q 106), .int p1] S false (some (.long o)) (wd_o S [] [] [] [] []) 0 0 := by
  refine mx_of (own := RX8) (lc := [(0, .ref (q 106)), (1, .int p1)]) (by decide +kernel) rfl layX_ok (Nat.le_of_ble_eq_true rfl) rfl ?_
  intro X hXl hXq hXz hC hQ
  subst hXl; subst hXq; subst hXz
  unfold f_X8_weightOf_q106 at hf
  refine go_aload_n (pc' := 1) hC dX8_weightOf_0 rfl rfl ?_
  refine go_iload_n (pc' := 2) hC dX8_weightOf_1 rfl rfl ?_
  refine go_iconst (pc' := 3) hC dX8_weightOf_2 ki_1 rfl ?_
  obtain ⟨o1, ho1, hf⟩ := bd_e hf
  refine go_callV0 (pc' := 6) (As := [.int p1, .int (1 : Int32)]) (st := []) (st' := [.long o1])    (b := 106) hC dX8_weightOf_3 ⟨mw_972, mw_950, mw_31, yd_yX8_given, yp_yX8_given, Nat.le_of_ble_eq_true rfl, Nat.le_of_ble_eq_true rfl, (Nat.le_of_ble_eq_true rfl), (Nat.le_of_ble_eq_true rfl)⟩ mw_948 mw_949 layX_106 rfl rfl rfl (Nat.le_of_ble_eq_true rfl) (c_X8_given_q106 (x_l X) (x_D X) (x_q X) g (x_cy X) (x_z X) _ p1 (1 : Int32) o1 ho1) rfl rfl ?_
  refine go_aload_n (pc' := 7) hC dX8_weightOf_6 rfl rfl ?_
  refine go_iload_n (pc' := 8) hC dX8_weightOf_7 rfl rfl ?_
  refine go_iconst (pc' := 9) hC dX8_weightOf_8 ki_0 rfl ?_
  obtain ⟨o2, ho2, hf⟩ := bd_e hf
  refine go_callV0 (pc' := 12) (As := [.int p1, .int (0 : Int32)]) (st := [.long o1]) (st' := [.long o2, .long o1])    (b := 106) hC dX8_weightOf_9 ⟨mw_972, mw_950, mw_31, yd_yX8_given, yp_yX8_given, Nat.le_of_ble_eq_true rfl, Nat.le_of_ble_eq_true rfl, (Nat.le_of_ble_eq_true rfl), (Nat.le_of_ble_eq_true rfl)⟩ mw_948 mw_949 layX_106 rfl rfl rfl (Nat.le_of_ble_eq_true rfl) (c_X8_given_q106 (x_l X) (x_D X) (x_q X) g (x_cy X) (x_z X) _ p1 (0 : Int32) o2 ho2) rfl rfl ?_
  refine go_lsub (pc' := 13) hC dX8_weightOf_12 rfl ?_
  obtain rfl := Option.some.inj hf
  exact go_lret hC hQ dX8_weightOf_13 rfl rfl rfl (fun _ => rfl) rfl rfl
theorem dX11_matters_0 : decode cX11_matters 0 = .ok (.aload_n 0, 1) := by decide +kernel
theorem dX11_matters_1 : decode cX11_matters 1 = .ok (.iload_n 1, 1) := by decide +kernel
theorem dX11_matters_2 : decode cX11_matters 2 = .ok (.invokevirtual 188, 3) := by decide +kernel
theorem dX11_matters_5 : decode cX11_matters 5 = .ok (.ifCond .ne 7, 3) := by decide +kernel
theorem dX11_matters_8 : decode cX11_matters 8 = .ok (.ldc2_w 186, 3) := by decide +kernel
theorem dX11_matters_11 : decode cX11_matters 11 = .ok (.lreturn, 1) := by decide +kernel
theorem dX11_matters_12 : decode cX11_matters 12 = .ok (.iload_n 2, 1) := by decide +kernel
theorem dX11_matters_13 : decode cX11_matters 13 = .ok (.tableswitch 56 0 2 #[27, 36, 46], 27) := by decide +kernel
theorem dX11_matters_40 : decode cX11_matters 40 = .ok (.aload_n 0, 1) := by decide +kernel
theorem dX11_matters_41 : decode cX11_matters 41 = .ok (.invokevirtual 171, 3) := by decide +kernel
theorem dX11_matters_44 : decode cX11_matters 44 = .ok (.iload_n 1, 1) := by decide +kernel
theorem dX11_matters_45 : decode cX11_matters 45 = .ok (.invokevirtual 195, 3) := by decide +kernel
theorem dX11_matters_48 : decode cX11_matters 48 = .ok (.lreturn, 1) := by decide +kernel
theorem dX11_matters_49 : decode cX11_matters 49 = .ok (.aload_n 0, 1) := by decide +kernel
theorem dX11_matters_50 : decode cX11_matters 50 = .ok (.invokevirtual 171, 3) := by decide +kernel
theorem dX11_matters_53 : decode cX11_matters 53 = .ok (.iload_n 1, 1) := by decide +kernel
theorem dX11_matters_54 : decode cX11_matters 54 = .ok (.invokevirtual 198, 3) := by decide +kernel
theorem dX11_matters_57 : decode cX11_matters 57 = .ok (.i2l, 1) := by decide +kernel
theorem dX11_matters_58 : decode cX11_matters 58 = .ok (.lreturn, 1) := by decide +kernel
theorem dX11_matters_59 : decode cX11_matters 59 = .ok (.aload_n 0, 1) := by decide +kernel
theorem dX11_matters_60 : decode cX11_matters 60 = .ok (.getfield 25, 3) := by decide +kernel
theorem dX11_matters_63 : decode cX11_matters 63 = .ok (.iload_n 1, 1) := by decide +kernel
theorem dX11_matters_64 : decode cX11_matters 64 = .ok (.invokevirtual 201, 3) := by decide +kernel
theorem dX11_matters_67 : decode cX11_matters 67 = .ok (.i2l, 1) := by decide +kernel
theorem dX11_matters_68 : decode cX11_matters 68 = .ok (.lreturn, 1) := by decide +kernel
theorem dX11_matters_69 : decode cX11_matters 69 = .ok (.ldc2_w 186, 3) := by decide +kernel
theorem dX11_matters_72 : decode cX11_matters 72 = .ok (.lreturn, 1) := by decide +kernel
abbrev o_X11_matters : Type := Int64 × wd_W × Nat × Nat
def f_X11_matters (S : wd_W) (p1 : Int32) (p2 : Int32) : Option o_X11_matters :=
bd (f_X11_isThing (wd_o S [] [] [] [] []) p1) fun o1 =>
if o1 = 0 then (
some ((-1 : Int64), S, 0, 0)) else (
if p2 = (0 : Int32) then (
bd (f_X11_knownSets (wd_o S [] [] [] [] [])) fun o2 =>
gd (okr (0 + o2.2.1) (0 + o2.2.2) 0 0 40 500000) <|
bd (f_X8_weightOf_q106 (wd_o o2.1 [] [] [] [] []) p1) fun o3 =>
some (o3, o2.1, 0 + o2.2.1, 0 + o2.2.2)) else (
if p2 = (1 : Int32) then (
bd (f_X11_knownSets (wd_o S [] [] [] [] [])) fun o6 =>
gd (okr (0 + o6.2.1) (0 + o6.2.2) 0 0 40 500000) <|
bd (f_X8_decidesIn_q106 (wd_o o6.1 [] [] [] [] []) p1) fun o7 =>
some (o7.toInt64, o6.1, 0 + o6.2.1, 0 + o6.2.2)) else (
if p2 = (2 : Int32) then (
bd (f_X2_chanceOf_q16 (wd_o S [] [] [] [] []) p1) fun o10 =>
some (o10.toInt64, S, 0, 0)) else (
some ((-1 : Int64), S, 0, 0)))))
set_option maxRecDepth 100000 in
set_option maxHeartbeats 4000000 in
theorem c_X11_matters (l : Launch) (D : va_G) (q g : Nat → Nat) (cy : Nat → ClassId) (z : (Nat → Nat) × (Nat → Nat) × Nat) (S : wd_W) (p1 : Int32) (p2 : Int32) (o : o_X11_matters) (hf : f_X11_matters S p1 p2 = some o) : MX layX l yX11_matters cX11_matters 3 (some .long) ({ frames := 6, cells := 40, slots := 500000, locals := 147 } : Room) D q g cy z [.ref (q 0), .int p1, .int p2] S true (some (.long o.1)) o.2.1 o.2.2.1 o.2.2.2 := by
  refine mx_of (own := RX11) (lc := [(0, .ref (q 0)), (1, .int p1), (2, .int p2)]) (by decide +kernel) rfl layX_ok (Nat.le_of_ble_eq_true rfl) rfl ?_
  intro X hXl hXq hXz hC hQ
  subst hXl; subst hXq; subst hXz
  unfold f_X11_matters at hf
  refine go_aload_n (pc' := 1) hC dX11_matters_0 rfl rfl ?_
  refine go_iload_n (pc' := 2) hC dX11_matters_1 rfl rfl ?_
  obtain ⟨o1, ho1, hf⟩ := bd_e hf
  refine go_callV0 (pc' := 5) (As := [.int p1]) (st := []) (st' := [.int o1])    (b := 0) hC dX11_matters_2 ⟨mw_943, mw_946, mw_2, yd_yX11_isThing, yp_yX11_isThing, Nat.le_of_ble_eq_true rfl, Nat.le_of_ble_eq_true rfl, (Nat.le_of_ble_eq_true rfl), (Nat.le_of_ble_eq_true rfl)⟩ mw_944 mw_945 layX_0 rfl rfl rfl (Nat.le_of_ble_eq_true rfl) (c_X11_isThing (x_l X) (x_D X) (x_q X) g (x_cy X) (x_z X) _ p1 o1 ho1) rfl rfl ?_
  refine go_if_ne (tgt := 12) (pc' := 8) hC dX11_matters_5 (by decide) rfl (fun h12 => ?_) (fun h12 => ?_)
  · have hf := ite_f h12 hf
    refine go_iload_n (pc' := 13) hC dX11_matters_12 rfl rfl ?_
    by_cases h5 : p2 = (0 : Int32)
    · have hf := ite_t h5 hf
      refine go_tabIn' (v := (0 : Int32)) (tgt := 40) hC dX11_matters_13 h5 kt_0 (by decide) (by decide) rfl (by decide) ?_
      refine go_aload_n (pc' := 41) hC dX11_matters_40 rfl rfl ?_
      obtain ⟨o2, ho2, hf⟩ := bd_e hf
      refine go_callVw (pc' := 44) (As := []) (st := []) (st' := [.ref (x_q X 106)])  (cells' := 0 + o2.2.1) (slots' := 0 + o2.2.2)  (b := 0) hC dX11_matters_41 ⟨mw_593, mw_596, mw_2, yd_yX11_knownSets, yp_yX11_knownSets, Nat.le_of_ble_eq_true rfl, Nat.le_of_ble_eq_true rfl, (Nat.le_of_ble_eq_true rfl), (Nat.le_of_ble_eq_true rfl)⟩ mw_594 mw_595 layX_0 rfl rfl rfl (Nat.le_of_ble_eq_true rfl) (c_X11_knownSets (x_l X) (x_D X) (x_q X) g (x_cy X) (x_z X) _  o2 ho2) rfl rfl rfl rfl (fun g _ => ?_)
      refine go_iload_n (pc' := 45) hC dX11_matters_44 rfl rfl ?_
      obtain ⟨h4, hf⟩ := gd_e hf
      obtain ⟨o3, ho3, hf⟩ := bd_e hf
      refine go_callV0 (pc' := 48) (As := [.int p1]) (st := []) (st' := [.long o3])   (rc := { frames := 3, cells := 0, slots := 0, locals := 68 }) (b := 106) hC dX11_matters_45 ⟨mw_968, mw_971, mw_31, yd_yX8_weightOf, yp_yX8_weightOf, Nat.le_of_ble_eq_true rfl, Nat.le_of_ble_eq_true rfl, (okr_c h4), (okr_s h4)⟩ mw_969 mw_970 layX_106 rfl rfl rfl (Nat.le_of_ble_eq_true rfl) (c_X8_weightOf_q106 (x_l X) (x_D X) (x_q X) g (x_cy X) (x_z X) _ p1 o3 ho3) rfl rfl ?_
      obtain rfl := Option.some.inj hf
      exact go_lret hC hQ dX11_matters_48 rfl rfl rfl (fun h => nomatch h) rfl rfl
    · have hf := ite_f h5 hf
      by_cases h9 : p2 = (1 : Int32)
      · have hf := ite_t h9 hf
        refine go_tabIn' (v := (1 : Int32)) (tgt := 49) hC dX11_matters_13 h9 kt_1 (by decide) (by decide) rfl (by decide) ?_
        refine go_aload_n (pc' := 50) hC dX11_matters_49 rfl rfl ?_
        obtain ⟨o6, ho6, hf⟩ := bd_e hf
        refine go_callVw (pc' := 53) (As := []) (st := []) (st' := [.ref (x_q X 106)])  (cells' := 0 + o6.2.1) (slots' := 0 + o6.2.2)  (b := 0) hC dX11_matters_50 ⟨mw_593, mw_596, mw_2, yd_yX11_knownSets, yp_yX11_knownSets, Nat.le_of_ble_eq_true rfl, Nat.le_of_ble_eq_true rfl, (Nat.le_of_ble_eq_true rfl), (Nat.le_of_ble_eq_true rfl)⟩ mw_594 mw_595 layX_0 rfl rfl rfl (Nat.le_of_ble_eq_true rfl) (c_X11_knownSets (x_l X) (x_D X) (x_q X) g (x_cy X) (x_z X) _  o6 ho6) rfl rfl rfl rfl (fun g _ => ?_)
        refine go_iload_n (pc' := 54) hC dX11_matters_53 rfl rfl ?_
        obtain ⟨h8, hf⟩ := gd_e hf
        obtain ⟨o7, ho7, hf⟩ := bd_e hf
        refine go_callV0 (pc' := 57) (As := [.int p1]) (st := []) (st' := [.int o7])   (rc := { frames := 2, cells := 0, slots := 0, locals := 42 }) (b := 106) hC dX11_matters_54 ⟨mw_973, mw_976, mw_31, yd_yX8_decidesIn, yp_yX8_decidesIn, Nat.le_of_ble_eq_true rfl, Nat.le_of_ble_eq_true rfl, (okr_c h8), (okr_s h8)⟩ mw_974 mw_975 layX_106 rfl rfl rfl (Nat.le_of_ble_eq_true rfl) (c_X8_decidesIn_q106 (x_l X) (x_D X) (x_q X) g (x_cy X) (x_z X) _ p1 o7 ho7) rfl rfl ?_
        refine go_i2l (pc' := 58) hC dX11_matters_57 rfl ?_
        obtain rfl := Option.some.inj hf
        exact go_lret hC hQ dX11_matters_58 rfl rfl rfl (fun h => nomatch h) rfl rfl
      · have hf := ite_f h9 hf
        by_cases h11 : p2 = (2 : Int32)
        · have hf := ite_t h11 hf
          refine go_tabIn' (v := (2 : Int32)) (tgt := 59) hC dX11_matters_13 h11 kt_2 (by decide) (by decide) rfl (by decide) ?_
          refine go_aload_n (pc' := 60) hC dX11_matters_59 rfl rfl ?_
          refine go_getq (pc' := 63) hC 0 2 layX_0 rfl rfl inlX11 (Nat.le_of_ble_eq_true rfl) mw_20 rfl dX11_matters_60 rfl ?_
          refine go_iload_n (pc' := 64) hC dX11_matters_63 rfl rfl ?_
          obtain ⟨o10, ho10, hf⟩ := bd_e hf
          refine go_callV0 (pc' := 67) (As := [.int p1]) (st := []) (st' := [.int o10])    (b := 16) hC dX11_matters_64 ⟨mw_977, mw_980, mw_14, yd_yX2_chanceOf, yp_yX2_chanceOf, Nat.le_of_ble_eq_true rfl, Nat.le_of_ble_eq_true rfl, (Nat.le_of_ble_eq_true rfl), (Nat.le_of_ble_eq_true rfl)⟩ mw_978 mw_979 layX_16 rfl rfl rfl (Nat.le_of_ble_eq_true rfl) (c_X2_chanceOf_q16 (x_l X) (x_D X) (x_q X) g (x_cy X) (x_z X) _ p1 o10 ho10) rfl rfl ?_
          refine go_i2l (pc' := 68) hC dX11_matters_67 rfl ?_
          obtain rfl := Option.some.inj hf
          exact go_lret hC hQ dX11_matters_68 rfl rfl rfl (fun h => nomatch h) rfl rfl
        · have hf := ite_f h11 hf
          refine go_tabOut (tgt := 69) hC dX11_matters_13 ?_ (by decide) ?_
          · have e0 := lv_neT h5 kt_0; have e1 := lv_neT h9 kt_1; have e2 := lv_neT h11 kt_2; omega
          · refine go_ldc2 (pc' := 72) hC dX11_matters_69 mw_909 rfl ?_
            obtain rfl := Option.some.inj hf
            exact go_lret hC hQ dX11_matters_72 rfl rfl rfl (fun h => nomatch h) rfl rfl
  · have hf := ite_t h12 hf
    refine go_ldc2 (pc' := 11) hC dX11_matters_8 mw_909 rfl ?_
    obtain rfl := Option.some.inj hf
    exact go_lret hC hQ dX11_matters_11 rfl rfl rfl (fun h => nomatch h) rfl rfl
theorem dX11_most_0 : decode cX11_most 0 = .ok (.iconst (-1), 1) := by decide +kernel
theorem dX11_most_1 : decode cX11_most 1 = .ok (.istore_n 1, 1) := by decide +kernel
theorem dX11_most_2 : decode cX11_most 2 = .ok (.lconst 0, 1) := by decide +kernel
theorem dX11_most_3 : decode cX11_most 3 = .ok (.lstore_n 2, 1) := by decide +kernel
theorem dX11_most_4 : decode cX11_most 4 = .ok (.iconst 0, 1) := by decide +kernel
theorem dX11_most_5 : decode cX11_most 5 = .ok (.istore 4, 2) := by decide +kernel
theorem dX11_most_7 : decode cX11_most 7 = .ok (.iload 4, 2) := by decide +kernel
theorem dX11_most_9 : decode cX11_most 9 = .ok (.aload_n 0, 1) := by decide +kernel
theorem dX11_most_10 : decode cX11_most 10 = .ok (.getfield 25, 3) := by decide +kernel
theorem dX11_most_13 : decode cX11_most 13 = .ok (.invokevirtual 129, 3) := by decide +kernel
theorem dX11_most_16 : decode cX11_most 16 = .ok (.if_icmp .ge 38, 3) := by decide +kernel
theorem dX11_most_19 : decode cX11_most 19 = .ok (.aload_n 0, 1) := by decide +kernel
theorem dX11_most_20 : decode cX11_most 20 = .ok (.invokevirtual 171, 3) := by decide +kernel
theorem dX11_most_23 : decode cX11_most 23 = .ok (.iload 4, 2) := by decide +kernel
theorem dX11_most_25 : decode cX11_most 25 = .ok (.invokevirtual 195, 3) := by decide +kernel
theorem dX11_most_28 : decode cX11_most 28 = .ok (.lstore 5, 2) := by decide +kernel
theorem dX11_most_30 : decode cX11_most 30 = .ok (.iload_n 1, 1) := by decide +kernel
theorem dX11_most_31 : decode cX11_most 31 = .ok (.iconst (-1), 1) := by decide +kernel
theorem dX11_most_32 : decode cX11_most 32 = .ok (.if_icmp .eq 10, 3) := by decide +kernel
theorem dX11_most_35 : decode cX11_most 35 = .ok (.lload 5, 2) := by decide +kernel
theorem dX11_most_37 : decode cX11_most 37 = .ok (.lload_n 2, 1) := by decide +kernel
theorem dX11_most_38 : decode cX11_most 38 = .ok (.lcmp, 1) := by decide +kernel
theorem dX11_most_39 : decode cX11_most 39 = .ok (.ifCond .le 9, 3) := by decide +kernel
theorem dX11_most_42 : decode cX11_most 42 = .ok (.iload 4, 2) := by decide +kernel
theorem dX11_most_44 : decode cX11_most 44 = .ok (.istore_n 1, 1) := by decide +kernel
theorem dX11_most_45 : decode cX11_most 45 = .ok (.lload 5, 2) := by decide +kernel
theorem dX11_most_47 : decode cX11_most 47 = .ok (.lstore_n 2, 1) := by decide +kernel
theorem dX11_most_48 : decode cX11_most 48 = .ok (.iinc 4 1, 3) := by decide +kernel
theorem dX11_most_51 : decode cX11_most 51 = .ok (.goto (-44), 3) := by decide +kernel
theorem dX11_most_54 : decode cX11_most 54 = .ok (.iload_n 1, 1) := by decide +kernel
theorem dX11_most_55 : decode cX11_most 55 = .ok (.ireturn, 1) := by decide +kernel
abbrev o_X11_most : Type := Int32 × wd_W × Nat × Nat
def f_X11_most_L7 (r7 : (Int32) → (Int64) → (Int32) → (wd_W) → (Nat) → (Nat) → (Option o_X11_most)) (x1 : Int32) (x2 : Int64) (x3 : Int32) (S4 : wd_W) (n5 : Nat) (n6 : Nat) : Option o_X11_most :=
gd (okr n5 n6 0 0 40 500000) <|
bd (f_X2_things_q16 (wd_o S4 [] [] [] [] [])) fun o8 =>
if o8 ≤ x3 then (
some (x1, S4, n5, n6)) else (
gd (okr n5 n6 12 140000 40 500000) <|
bd (f_X11_knownSets (wd_o S4 [] [] [] [] [])) fun o10 =>
gd (okr (n5 + o10.2.1) (n6 + o10.2.2) 0 0 40 500000) <|
bd (f_X8_weightOf_q106 (wd_o o10.1 [] [] [] [] []) x3) fun o12 =>
lk (fun x14 x15 =>
r7 x14 x15 (x3 + (1 : Int32)) o10.1 (n5 + o10.2.1) (n6 + o10.2.2)) fun k48_16 =>
lk (k48_16 x3 o12) fun k42_17 =>
if x1 = (-1 : Int32) then (
k42_17) else (
if o12 ≤ x2 then (
k48_16 x1 x2) else (
k42_17)))
def f_X11_most (S : wd_W) : Option o_X11_most :=
it6 (f_X11_most_L7) fuel (-1 : Int32) (0 : Int64) (0 : Int32) S 0 0
set_option maxRecDepth 100000 in
set_option maxHeartbeats 4000000 in
theorem c_X11_most (l : Launch) (D : va_G) (q g : Nat → Nat) (cy : Nat → ClassId) (z : (Nat → Nat) × (Nat → Nat) × Nat) (S : wd_W) (o : o_X11_most) (hf : f_X11_most S = some o) : MX layX l yX11_most cX11_most 7 (some .int) ({ frames := 6, cells := 40, slots := 500000, locals := 147 } : Room) D q g cy z [.ref (q 0)] S true (some (.int o.1)) o.2.1 o.2.2.1 o.2.2.2 := by
  refine mx_of (own := RX11) (lc := [(0, .ref (q 0))]) (by decide +kernel) rfl layX_ok (Nat.le_of_ble_eq_true rfl) rfl ?_
  intro X hXl hXq hXz hC hQ
  subst hXl; subst hXq; subst hXz
  unfold f_X11_most at hf
  refine go_iconst (pc' := 1) hC dX11_most_0 ki_m1 rfl ?_
  refine go_istore_n (lc' := [(0, .ref (x_q X 0)), (1, .int (-1 : Int32))]) (pc' := 2) hC dX11_most_1 (Nat.le_of_ble_eq_true rfl) rfl rfl ?_
  refine go_lconst (pc' := 3) hC dX11_most_2 kl_0 rfl ?_
  refine go_lstore_n (lc' := [(0, .ref (x_q X 0)), (1, .int (-1 : Int32)), (2, .long (0 : Int64))]) (pc' := 4) hC dX11_most_3 (Nat.le_of_ble_eq_true rfl) rfl rfl ?_
  refine go_iconst (pc' := 5) hC dX11_most_4 ki_0 rfl ?_
  refine go_istore (lc' := [(0, .ref (x_q X 0)), (1, .int (-1 : Int32)), (2, .long (0 : Int64)), (4, .int (0 : Int32))]) (pc' := 7) hC dX11_most_5 (Nat.le_of_ble_eq_true rfl) rfl rfl ?_
  have l7_21 : ∀ (nn : Nat) (x1 : Int32) (x2 : Int64) (x3 : Int32) (S4 : wd_W) (n5 : Nat) (n6 : Nat) (g : Nat → Nat), it6 (f_X11_most_L7) nn x1 x2 x3 S4 n5 n6 = some o → Go X layX S4 7 [(0, .ref (x_q X 0)), (1, .int x1), (2, .long x2), (4, .int x3)] [] g [] [] [] [] [] n5 n6 := by
    intro nn
    induction nn with
    | zero =>
      intro x1 x2 x3 S4 n5 n6 g hf
      exact none_no hf
    | succ nn ih =>
      intro x1 x2 x3 S4 n5 n6 g hf
      have hf : f_X11_most_L7 (it6 (f_X11_most_L7) nn) x1 x2 x3 S4 n5 n6 = some o := hf
      generalize it6 (f_X11_most_L7) nn = r7 at ih hf
      unfold f_X11_most_L7 at hf
      refine go_iload (pc' := 9) hC dX11_most_7 rfl rfl ?_
      refine go_aload_n (pc' := 10) hC dX11_most_9 rfl rfl ?_
      refine go_getq (pc' := 13) hC 0 2 layX_0 rfl rfl inlX11 (Nat.le_of_ble_eq_true rfl) mw_20 rfl dX11_most_10 rfl ?_
      obtain ⟨h9, hf⟩ := gd_e hf
      obtain ⟨o8, ho8, hf⟩ := bd_e hf
      refine go_callV0 (pc' := 16) (As := []) (st := [.int x3]) (st' := [.int o8, .int x3])   (rc := { frames := 0, cells := 0, slots := 0, locals := 0 }) (b := 16) hC dX11_most_13 ⟨mw_484, mw_418, mw_14, yd_yX2_things, yp_yX2_things, Nat.le_of_ble_eq_true rfl, Nat.le_of_ble_eq_true rfl, (okr_c h9), (okr_s h9)⟩ mw_416 mw_417 layX_16 rfl rfl rfl (Nat.le_of_ble_eq_true rfl) (c_X2_things_q16 (x_l X) (x_D X) (x_q X) g (x_cy X) (x_z X) _  o8 ho8) rfl rfl ?_
      refine go_icmp_ge (tgt := 54) (pc' := 19) hC dX11_most_16 (by decide) rfl (fun h20 => ?_) (fun h20 => ?_)
      · have hf := ite_t h20 hf
        refine go_iload_n (pc' := 55) hC dX11_most_54 rfl rfl ?_
        obtain rfl := Option.some.inj hf
        exact go_iret hC hQ dX11_most_55 rfl rfl rfl rfl (fun h => nomatch h) rfl rfl
      · have hf := ite_f h20 hf
        refine go_aload_n (pc' := 20) hC dX11_most_19 rfl rfl ?_
        obtain ⟨h11, hf⟩ := gd_e hf
        obtain ⟨o10, ho10, hf⟩ := bd_e hf
        refine go_callVw (pc' := 23) (As := []) (st := []) (st' := [.ref (x_q X 106)])  (cells' := n5 + o10.2.1) (slots' := n6 + o10.2.2) (rc := { frames := 5, cells := 12, slots := 140000, locals := 127 }) (b := 0) hC dX11_most_20 ⟨mw_593, mw_596, mw_2, yd_yX11_knownSets, yp_yX11_knownSets, Nat.le_of_ble_eq_true rfl, Nat.le_of_ble_eq_true rfl, (okr_c h11), (okr_s h11)⟩ mw_594 mw_595 layX_0 rfl rfl rfl (Nat.le_of_ble_eq_true rfl) (c_X11_knownSets (x_l X) (x_D X) (x_q X) g (x_cy X) (x_z X) _  o10 ho10) rfl rfl rfl rfl (fun g _ => ?_)
        refine go_iload (pc' := 25) hC dX11_most_23 rfl rfl ?_
        obtain ⟨h13, hf⟩ := gd_e hf
        obtain ⟨o12, ho12, hf⟩ := bd_e hf
        refine go_callV0 (pc' := 28) (As := [.int x3]) (st := []) (st' := [.long o12])   (rc := { frames := 3, cells := 0, slots := 0, locals := 68 }) (b := 106) hC dX11_most_25 ⟨mw_968, mw_971, mw_31, yd_yX8_weightOf, yp_yX8_weightOf, Nat.le_of_ble_eq_true rfl, Nat.le_of_ble_eq_true rfl, (okr_c h13), (okr_s h13)⟩ mw_969 mw_970 layX_106 rfl rfl rfl (Nat.le_of_ble_eq_true rfl) (c_X8_weightOf_q106 (x_l X) (x_D X) (x_q X) g (x_cy X) (x_z X) _ x3 o12 ho12) rfl rfl ?_
        refine go_lstore (lc' := [(0, .ref (x_q X 0)), (1, .int x1), (2, .long x2), (4, .int x3), (5, .long o12)]) (pc' := 30) hC dX11_most_28 (Nat.le_of_ble_eq_true rfl) rfl rfl ?_
        refine go_iload_n (pc' := 31) hC dX11_most_30 rfl rfl ?_
        refine go_iconst (pc' := 32) hC dX11_most_31 ki_m1 rfl ?_
        obtain ⟨k48_16, hk48_16, hf⟩ := lk_e2 hf
        have jk48_16 : ∀ (x14 : Int32) (x15 : Int64) (g : Nat → Nat), k48_16 x14 x15 = some o → Go X layX o10.1 48 [(0, .ref (x_q X 0)), (1, .int x14), (2, .long x15), (4, .int x3)] [] g [] [] [] [] [] (n5 + o10.2.1) (n6 + o10.2.2) := by
          intro x14 x15 g hf
          have hf := hk48_16 x14 x15 hf
          clear hk48_16
          refine go_iinc (lc' := [(0, .ref (x_q X 0)), (1, .int x14), (2, .long x15), (4, .int (x3 + (1 : Int32)))]) (pc' := 51) hC dX11_most_48 rfl ki_1 (Nat.le_of_ble_eq_true rfl) rfl rfl ?_
          refine go_goto (tgt := 7) hC dX11_most_51 (by decide) ?_
          exact ih x14 x15 (x3 + (1 : Int32)) o10.1 (n5 + o10.2.1) (n6 + o10.2.2) g hf
        clear hk48_16
        obtain ⟨k42_17, hk42_17, hf⟩ := lk_e0 hf
        have jk42_17 : ∀ (_ : Unit) (g : Nat → Nat), k42_17 = some o → Go X layX o10.1 42 [(0, .ref (x_q X 0)), (4, .int x3), (5, .long o12)] [] g [] [] [] [] [] (n5 + o10.2.1) (n6 + o10.2.2) := by
          intro _ g hf
          have hf := hk42_17 hf
          clear hk42_17
          refine go_iload (pc' := 44) hC dX11_most_42 rfl rfl ?_
          refine go_istore_n (lc' := [(0, .ref (x_q X 0)), (1, .int x3), (4, .int x3), (5, .long o12)]) (pc' := 45) hC dX11_most_44 (Nat.le_of_ble_eq_true rfl) rfl rfl ?_
          refine go_lload (pc' := 47) hC dX11_most_45 rfl rfl ?_
          refine go_lstore_n (lc' := [(0, .ref (x_q X 0)), (1, .int x3), (2, .long o12), (4, .int x3), (5, .long o12)]) (pc' := 48) hC dX11_most_47 (Nat.le_of_ble_eq_true rfl) rfl rfl ?_
          refine go_sub [0, 1, 2, 4] rfl ?_
          exact jk48_16 x3 o12 g hf
        clear hk42_17
        refine go_icmp_eq (tgt := 42) (pc' := 35) hC dX11_most_32 (by decide) rfl (fun h19 => ?_) (fun h19 => ?_)
        · have hf := ite_t h19 hf
          refine go_sub [0, 4, 5] rfl ?_
          exact jk42_17 () g hf
        · have hf := ite_f h19 hf
          refine go_lload (pc' := 37) hC dX11_most_35 rfl rfl ?_
          refine go_lload_n (pc' := 38) hC dX11_most_37 rfl rfl ?_
          refine go_lcmp (pc' := 39) hC dX11_most_38 rfl ?_
          refine go_if_le (tgt := 48) (pc' := 42) hC dX11_most_39 (by decide) rfl (fun h18 => ?_) (fun h18 => ?_)
          · have hf := ite_t (lg_le.mp h18) hf
            refine go_sub [0, 1, 2, 4] rfl ?_
            exact jk48_16 x1 x2 g hf
          · have hf := ite_f (mt lg_le.mpr h18) hf
            refine go_sub [0, 4, 5] rfl ?_
            exact jk42_17 () g hf
  exact l7_21 fuel (-1 : Int32) (0 : Int64) (0 : Int32) S 0 0 g hf
theorem dX11_useless_0 : decode cX11_useless 0 = .ok (.iconst 0, 1) := by decide +kernel
theorem dX11_useless_1 : decode cX11_useless 1 = .ok (.istore_n 1, 1) := by decide +kernel
theorem dX11_useless_2 : decode cX11_useless 2 = .ok (.iconst 0, 1) := by decide +kernel
theorem dX11_useless_3 : decode cX11_useless 3 = .ok (.istore_n 2, 1) := by decide +kernel
theorem dX11_useless_4 : decode cX11_useless 4 = .ok (.iload_n 2, 1) := by decide +kernel
theorem dX11_useless_5 : decode cX11_useless 5 = .ok (.aload_n 0, 1) := by decide +kernel
theorem dX11_useless_6 : decode cX11_useless 6 = .ok (.getfield 25, 3) := by decide +kernel
theorem dX11_useless_9 : decode cX11_useless 9 = .ok (.invokevirtual 129, 3) := by decide +kernel
theorem dX11_useless_12 : decode cX11_useless 12 = .ok (.if_icmp .ge 26, 3) := by decide +kernel
theorem dX11_useless_15 : decode cX11_useless 15 = .ok (.aload_n 0, 1) := by decide +kernel
theorem dX11_useless_16 : decode cX11_useless 16 = .ok (.invokevirtual 171, 3) := by decide +kernel
theorem dX11_useless_19 : decode cX11_useless 19 = .ok (.iload_n 2, 1) := by decide +kernel
theorem dX11_useless_20 : decode cX11_useless 20 = .ok (.invokevirtual 198, 3) := by decide +kernel
theorem dX11_useless_23 : decode cX11_useless 23 = .ok (.ifCond .ne 9, 3) := by decide +kernel
theorem dX11_useless_26 : decode cX11_useless 26 = .ok (.iload_n 1, 1) := by decide +kernel
theorem dX11_useless_27 : decode cX11_useless 27 = .ok (.iconst 1, 1) := by decide +kernel
theorem dX11_useless_28 : decode cX11_useless 28 = .ok (.iload_n 2, 1) := by decide +kernel
theorem dX11_useless_29 : decode cX11_useless 29 = .ok (.ishl, 1) := by decide +kernel
theorem dX11_useless_30 : decode cX11_useless 30 = .ok (.ior, 1) := by decide +kernel
theorem dX11_useless_31 : decode cX11_useless 31 = .ok (.istore_n 1, 1) := by decide +kernel
theorem dX11_useless_32 : decode cX11_useless 32 = .ok (.iinc 2 1, 3) := by decide +kernel
theorem dX11_useless_35 : decode cX11_useless 35 = .ok (.goto (-31), 3) := by decide +kernel
theorem dX11_useless_38 : decode cX11_useless 38 = .ok (.iload_n 1, 1) := by decide +kernel
theorem dX11_useless_39 : decode cX11_useless 39 = .ok (.ireturn, 1) := by decide +kernel
abbrev o_X11_useless : Type := Int32 × wd_W × Nat × Nat
def f_X11_useless_L4 (r6 : (Int32) → (Int32) → (wd_W) → (Nat) → (Nat) → (Option o_X11_useless)) (x1 : Int32) (x2 : Int32) (S3 : wd_W) (n4 : Nat) (n5 : Nat) : Option o_X11_useless :=
gd (okr n4 n5 0 0 40 500000) <|
bd (f_X2_things_q16 (wd_o S3 [] [] [] [] [])) fun o7 =>
if o7 ≤ x2 then (
some (x1, S3, n4, n5)) else (
gd (okr n4 n5 12 140000 40 500000) <|
bd (f_X11_knownSets (wd_o S3 [] [] [] [] [])) fun o9 =>
gd (okr (n4 + o9.2.1) (n5 + o9.2.2) 0 0 40 500000) <|
bd (f_X8_decidesIn_q106 (wd_o o9.1 [] [] [] [] []) x2) fun o11 =>
lk (fun x13 =>
r6 x13 (x2 + (1 : Int32)) o9.1 (n4 + o9.2.1) (n5 + o9.2.2)) fun k32_14 =>
if o11 = 0 then (
lz (x1 ||| ((1 : Int32) <<< (x2 &&& 31))) fun x15 =>
k32_14 x15) else (
k32_14 x1))
def f_X11_useless (S : wd_W) : Option o_X11_useless :=
it5 (f_X11_useless_L4) fuel (0 : Int32) (0 : Int32) S 0 0
set_option maxRecDepth 100000 in
set_option maxHeartbeats 4000000 in
theorem c_X11_useless (l : Launch) (D : va_G) (q g : Nat → Nat) (cy : Nat → ClassId) (z : (Nat → Nat) × (Nat → Nat) × Nat) (S : wd_W) (o : o_X11_useless) (hf : f_X11_useless S = some o) : MX layX l yX11_useless cX11_useless 3 (some .int) ({ frames := 6, cells := 40, slots := 500000, locals := 147 } : Room) D q g cy z [.ref (q 0)] S true (some (.int o.1)) o.2.1 o.2.2.1 o.2.2.2 := by
  refine mx_of (own := RX11) (lc := [(0, .ref (q 0))]) (by decide +kernel) rfl layX_ok (Nat.le_of_ble_eq_true rfl) rfl ?_
  intro X hXl hXq hXz hC hQ
  subst hXl; subst hXq; subst hXz
  unfold f_X11_useless at hf
  refine go_iconst (pc' := 1) hC dX11_useless_0 ki_0 rfl ?_
  refine go_istore_n (lc' := [(0, .ref (x_q X 0)), (1, .int (0 : Int32))]) (pc' := 2) hC dX11_useless_1 (Nat.le_of_ble_eq_true rfl) rfl rfl ?_
  refine go_iconst (pc' := 3) hC dX11_useless_2 ki_0 rfl ?_
  refine go_istore_n (lc' := [(0, .ref (x_q X 0)), (1, .int (0 : Int32)), (2, .int (0 : Int32))]) (pc' := 4) hC dX11_useless_3 (Nat.le_of_ble_eq_true rfl) rfl rfl ?_
  have l4_18 : ∀ (nn : Nat) (x1 : Int32) (x2 : Int32) (S3 : wd_W) (n4 : Nat) (n5 : Nat) (g : Nat → Nat), it5 (f_X11_useless_L4) nn x1 x2 S3 n4 n5 = some o → Go X layX S3 4 [(0, .ref (x_q X 0)), (1, .int x1), (2, .int x2)] [] g [] [] [] [] [] n4 n5 := by
    intro nn
    induction nn with
    | zero =>
      intro x1 x2 S3 n4 n5 g hf
      exact none_no hf
    | succ nn ih =>
      intro x1 x2 S3 n4 n5 g hf
      have hf : f_X11_useless_L4 (it5 (f_X11_useless_L4) nn) x1 x2 S3 n4 n5 = some o := hf
      generalize it5 (f_X11_useless_L4) nn = r6 at ih hf
      unfold f_X11_useless_L4 at hf
      refine go_iload_n (pc' := 5) hC dX11_useless_4 rfl rfl ?_
      refine go_aload_n (pc' := 6) hC dX11_useless_5 rfl rfl ?_
      refine go_getq (pc' := 9) hC 0 2 layX_0 rfl rfl inlX11 (Nat.le_of_ble_eq_true rfl) mw_20 rfl dX11_useless_6 rfl ?_
      obtain ⟨h8, hf⟩ := gd_e hf
      obtain ⟨o7, ho7, hf⟩ := bd_e hf
      refine go_callV0 (pc' := 12) (As := []) (st := [.int x2]) (st' := [.int o7, .int x2])   (rc := { frames := 0, cells := 0, slots := 0, locals := 0 }) (b := 16) hC dX11_useless_9 ⟨mw_484, mw_418, mw_14, yd_yX2_things, yp_yX2_things, Nat.le_of_ble_eq_true rfl, Nat.le_of_ble_eq_true rfl, (okr_c h8), (okr_s h8)⟩ mw_416 mw_417 layX_16 rfl rfl rfl (Nat.le_of_ble_eq_true rfl) (c_X2_things_q16 (x_l X) (x_D X) (x_q X) g (x_cy X) (x_z X) _  o7 ho7) rfl rfl ?_
      refine go_icmp_ge (tgt := 38) (pc' := 15) hC dX11_useless_12 (by decide) rfl (fun h17 => ?_) (fun h17 => ?_)
      · have hf := ite_t h17 hf
        refine go_iload_n (pc' := 39) hC dX11_useless_38 rfl rfl ?_
        obtain rfl := Option.some.inj hf
        exact go_iret hC hQ dX11_useless_39 rfl rfl rfl rfl (fun h => nomatch h) rfl rfl
      · have hf := ite_f h17 hf
        refine go_aload_n (pc' := 16) hC dX11_useless_15 rfl rfl ?_
        obtain ⟨h10, hf⟩ := gd_e hf
        obtain ⟨o9, ho9, hf⟩ := bd_e hf
        refine go_callVw (pc' := 19) (As := []) (st := []) (st' := [.ref (x_q X 106)])  (cells' := n4 + o9.2.1) (slots' := n5 + o9.2.2) (rc := { frames := 5, cells := 12, slots := 140000, locals := 127 }) (b := 0) hC dX11_useless_16 ⟨mw_593, mw_596, mw_2, yd_yX11_knownSets, yp_yX11_knownSets, Nat.le_of_ble_eq_true rfl, Nat.le_of_ble_eq_true rfl, (okr_c h10), (okr_s h10)⟩ mw_594 mw_595 layX_0 rfl rfl rfl (Nat.le_of_ble_eq_true rfl) (c_X11_knownSets (x_l X) (x_D X) (x_q X) g (x_cy X) (x_z X) _  o9 ho9) rfl rfl rfl rfl (fun g _ => ?_)
        refine go_iload_n (pc' := 20) hC dX11_useless_19 rfl rfl ?_
        obtain ⟨h12, hf⟩ := gd_e hf
        obtain ⟨o11, ho11, hf⟩ := bd_e hf
        refine go_callV0 (pc' := 23) (As := [.int x2]) (st := []) (st' := [.int o11])   (rc := { frames := 2, cells := 0, slots := 0, locals := 42 }) (b := 106) hC dX11_useless_20 ⟨mw_973, mw_976, mw_31, yd_yX8_decidesIn, yp_yX8_decidesIn, Nat.le_of_ble_eq_true rfl, Nat.le_of_ble_eq_true rfl, (okr_c h12), (okr_s h12)⟩ mw_974 mw_975 layX_106 rfl rfl rfl (Nat.le_of_ble_eq_true rfl) (c_X8_decidesIn_q106 (x_l X) (x_D X) (x_q X) g (x_cy X) (x_z X) _ x2 o11 ho11) rfl rfl ?_
        obtain ⟨k32_14, hk32_14, hf⟩ := lk_e1 hf
        have jk32_14 : ∀ (x13 : Int32) (g : Nat → Nat), k32_14 x13 = some o → Go X layX o9.1 32 [(0, .ref (x_q X 0)), (1, .int x13), (2, .int x2)] [] g [] [] [] [] [] (n4 + o9.2.1) (n5 + o9.2.2) := by
          intro x13 g hf
          have hf := hk32_14 x13 hf
          clear hk32_14
          refine go_iinc (lc' := [(0, .ref (x_q X 0)), (1, .int x13), (2, .int (x2 + (1 : Int32)))]) (pc' := 35) hC dX11_useless_32 rfl ki_1 (Nat.le_of_ble_eq_true rfl) rfl rfl ?_
          refine go_goto (tgt := 4) hC dX11_useless_35 (by decide) ?_
          exact ih x13 (x2 + (1 : Int32)) o9.1 (n4 + o9.2.1) (n5 + o9.2.2) g hf
        clear hk32_14
        refine go_if_ne (tgt := 32) (pc' := 26) hC dX11_useless_23 (by decide) rfl (fun h16 => ?_) (fun h16 => ?_)
        · have hf := ite_f h16 hf
          exact jk32_14 x1 g hf
        · have hf := ite_t h16 hf
          refine go_iload_n (pc' := 27) hC dX11_useless_26 rfl rfl ?_
          refine go_iconst (pc' := 28) hC dX11_useless_27 ki_1 rfl ?_
          refine go_iload_n (pc' := 29) hC dX11_useless_28 rfl rfl ?_
          refine go_ishl (pc' := 30) hC dX11_useless_29 rfl ?_
          refine go_ior (pc' := 31) hC dX11_useless_30 rfl ?_
          refine go_namei (fun x15 hx => ?_)
          have hf := lz_r hx hf
          clear hx
          refine go_istore_n (lc' := [(0, .ref (x_q X 0)), (1, .int x15), (2, .int x2)]) (pc' := 32) hC dX11_useless_31 (Nat.le_of_ble_eq_true rfl) rfl rfl ?_
          exact jk32_14 x15 g hf
  exact l4_18 fuel (0 : Int32) (0 : Int32) S 0 0 g hf
theorem dX11_knownLeast_0 : decode cX11_knownLeast 0 = .ok (.aload_n 0, 1) := by decide +kernel
theorem dX11_knownLeast_1 : decode cX11_knownLeast 1 = .ok (.iload_n 1, 1) := by decide +kernel
theorem dX11_knownLeast_2 : decode cX11_knownLeast 2 = .ok (.ifCond .eq 7, 3) := by decide +kernel
theorem dX11_knownLeast_5 : decode cX11_knownLeast 5 = .ok (.iconst 4, 1) := by decide +kernel
theorem dX11_knownLeast_6 : decode cX11_knownLeast 6 = .ok (.goto 4, 3) := by decide +kernel
theorem dX11_knownLeast_9 : decode cX11_knownLeast 9 = .ok (.iconst 2, 1) := by decide +kernel
theorem dX11_knownLeast_10 : decode cX11_knownLeast 10 = .ok (.invokevirtual 233, 3) := by decide +kernel
theorem dX11_knownLeast_13 : decode cX11_knownLeast 13 = .ok (.iload_n 1, 1) := by decide +kernel
theorem dX11_knownLeast_14 : decode cX11_knownLeast 14 = .ok (.ifCond .eq 10, 3) := by decide +kernel
theorem dX11_knownLeast_17 : decode cX11_knownLeast 17 = .ok (.aload_n 0, 1) := by decide +kernel
theorem dX11_knownLeast_18 : decode cX11_knownLeast 18 = .ok (.getfield 66, 3) := by decide +kernel
theorem dX11_knownLeast_21 : decode cX11_knownLeast 21 = .ok (.goto 7, 3) := by decide +kernel
theorem dX11_knownLeast_24 : decode cX11_knownLeast 24 = .ok (.aload_n 0, 1) := by decide +kernel
theorem dX11_knownLeast_25 : decode cX11_knownLeast 25 = .ok (.getfield 62, 3) := by decide +kernel
theorem dX11_knownLeast_28 : decode cX11_knownLeast 28 = .ok (.areturn, 1) := by decide +kernel
abbrev o_X11_knownLeast_c1 : Type := wd_W × Nat × Nat
def f_X11_knownLeast_c1 (S : wd_W) : Option o_X11_knownLeast_c1 :=
bd (f_X11_know (wd_o S [] [] [] [] []) (4 : Int32)) fun o1 =>
some (o1.1, 0 + o1.2.1, 0 + o1.2.2)
set_option maxRecDepth 100000 in
set_option maxHeartbeats 4000000 in
theorem c_X11_knownLeast_c1 (l : Launch) (D : va_G) (q g : Nat → Nat) (cy : Nat → ClassId) (z : (Nat → Nat) × (Nat → Nat) × Nat) (S : wd_W) (o : o_X11_knownLeast_c1) (hf : f_X11_knownLeast_c1 S = some o) : MX layX l yX11_knownLeast cX11_knownLeast 2 (some (.object "LetterThrough$Least")) ({ frames := 5, cells := 12, slots := 140000, locals := 127 } : Room) D q g cy z [.ref (q 0), .int (1 : Int32)] S true (some (.ref (q 127))) o.1 o.2.1 o.2.2 := by
  refine mx_of (own := RX11) (lc := [(0, .ref (q 0)), (1, .int (1 : Int32))]) (by decide +kernel) rfl layX_ok (Nat.le_of_ble_eq_true rfl) rfl ?_
  intro X hXl hXq hXz hC hQ
  subst hXl; subst hXq; subst hXz
  unfold f_X11_knownLeast_c1 at hf
  refine go_aload_n (pc' := 1) hC dX11_knownLeast_0 rfl rfl ?_
  refine go_iload_n (pc' := 2) hC dX11_knownLeast_1 rfl rfl ?_
  refine go_if_eq (tgt := 9) (pc' := 5) hC dX11_knownLeast_2 (by decide) rfl (fun hh => absurd hh (by decide)) (fun _ => ?_)
  refine go_iconst (pc' := 6) hC dX11_knownLeast_5 ki_4 rfl ?_
  refine go_goto (tgt := 10) hC dX11_knownLeast_6 (by decide) ?_
  obtain ⟨o1, ho1, hf⟩ := bd_e hf
  refine go_callVw (pc' := 13) (As := [.int (4 : Int32)]) (st := []) (st' := [])  (cells' := 0 + o1.2.1) (slots' := 0 + o1.2.2)  (b := 0) hC dX11_knownLeast_10 ⟨mw_597, mw_600, mw_2, yd_yX11_know, yp_yX11_know, Nat.le_of_ble_eq_true rfl, Nat.le_of_ble_eq_true rfl, (Nat.le_of_ble_eq_true rfl), (Nat.le_of_ble_eq_true rfl)⟩ mw_598 mw_599 layX_0 rfl rfl rfl (Nat.le_of_ble_eq_true rfl) (c_X11_know (x_l X) (x_D X) (x_q X) g (x_cy X) (x_z X) _ (4 : Int32) o1 ho1) rfl rfl rfl rfl (fun g _ => ?_)
  refine go_iload_n (pc' := 14) hC dX11_knownLeast_13 rfl rfl ?_
  refine go_if_eq (tgt := 24) (pc' := 17) hC dX11_knownLeast_14 (by decide) rfl (fun hh => absurd hh (by decide)) (fun _ => ?_)
  refine go_aload_n (pc' := 18) hC dX11_knownLeast_17 rfl rfl ?_
  refine go_getq (pc' := 21) hC 0 12 layX_0 rfl rfl inlX11 (Nat.le_of_ble_eq_true rfl) mw_37 rfl dX11_knownLeast_18 rfl ?_
  refine go_goto (tgt := 28) hC dX11_knownLeast_21 (by decide) ?_
  obtain rfl := Option.some.inj hf
  exact go_aret hC hQ dX11_knownLeast_28 rfl rfl rfl (fun h => nomatch h) rfl rfl
abbrev o_X11_knownLeast_c0 : Type := wd_W × Nat × Nat
def f_X11_knownLeast_c0 (S : wd_W) : Option o_X11_knownLeast_c0 :=
bd (f_X11_know (wd_o S [] [] [] [] []) (2 : Int32)) fun o1 =>
some (o1.1, 0 + o1.2.1, 0 + o1.2.2)
set_option maxRecDepth 100000 in
set_option maxHeartbeats 4000000 in
theorem c_X11_knownLeast_c0 (l : Launch) (D : va_G) (q g : Nat → Nat) (cy : Nat → ClassId) (z : (Nat → Nat) × (Nat → Nat) × Nat) (S : wd_W) (o : o_X11_knownLeast_c0) (hf : f_X11_knownLeast_c0 S = some o) : MX layX l yX11_knownLeast cX11_knownLeast 2 (some (.object "LetterThrough$Least")) ({ frames := 5, cells := 12, slots := 140000, locals := 127 } : Room) D q g cy z [.ref (q 0), .int (0 : Int32)] S true (some (.ref (q 123))) o.1 o.2.1 o.2.2 := by
  refine mx_of (own := RX11) (lc := [(0, .ref (q 0)), (1, .int (0 : Int32))]) (by decide +kernel) rfl layX_ok (Nat.le_of_ble_eq_true rfl) rfl ?_
  intro X hXl hXq hXz hC hQ
  subst hXl; subst hXq; subst hXz
  unfold f_X11_knownLeast_c0 at hf
  refine go_aload_n (pc' := 1) hC dX11_knownLeast_0 rfl rfl ?_
  refine go_iload_n (pc' := 2) hC dX11_knownLeast_1 rfl rfl ?_
  refine go_if_eq (tgt := 9) (pc' := 5) hC dX11_knownLeast_2 (by decide) rfl (fun _ => ?_) (fun hh => absurd hh (by decide))
  refine go_iconst (pc' := 10) hC dX11_knownLeast_9 ki_2 rfl ?_
  obtain ⟨o1, ho1, hf⟩ := bd_e hf
  refine go_callVw (pc' := 13) (As := [.int (2 : Int32)]) (st := []) (st' := [])  (cells' := 0 + o1.2.1) (slots' := 0 + o1.2.2)  (b := 0) hC dX11_knownLeast_10 ⟨mw_597, mw_600, mw_2, yd_yX11_know, yp_yX11_know, Nat.le_of_ble_eq_true rfl, Nat.le_of_ble_eq_true rfl, (Nat.le_of_ble_eq_true rfl), (Nat.le_of_ble_eq_true rfl)⟩ mw_598 mw_599 layX_0 rfl rfl rfl (Nat.le_of_ble_eq_true rfl) (c_X11_know (x_l X) (x_D X) (x_q X) g (x_cy X) (x_z X) _ (2 : Int32) o1 ho1) rfl rfl rfl rfl (fun g _ => ?_)
  refine go_iload_n (pc' := 14) hC dX11_knownLeast_13 rfl rfl ?_
  refine go_if_eq (tgt := 24) (pc' := 17) hC dX11_knownLeast_14 (by decide) rfl (fun _ => ?_) (fun hh => absurd hh (by decide))
  refine go_aload_n (pc' := 25) hC dX11_knownLeast_24 rfl rfl ?_
  refine go_getq (pc' := 28) hC 0 11 layX_0 rfl rfl inlX11 (Nat.le_of_ble_eq_true rfl) mw_36 rfl dX11_knownLeast_25 rfl ?_
  obtain rfl := Option.some.inj hf
  exact go_aret hC hQ dX11_knownLeast_28 rfl rfl rfl (fun h => nomatch h) rfl rfl
theorem dX11_ways_0 : decode cX11_ways 0 = .ok (.aload_n 0, 1) := by decide +kernel
theorem dX11_ways_1 : decode cX11_ways 1 = .ok (.iload_n 1, 1) := by decide +kernel
theorem dX11_ways_2 : decode cX11_ways 2 = .ok (.invokevirtual 204, 3) := by decide +kernel
theorem dX11_ways_5 : decode cX11_ways 5 = .ok (.getfield 208, 3) := by decide +kernel
theorem dX11_ways_8 : decode cX11_ways 8 = .ok (.ireturn, 1) := by decide +kernel
abbrev o_X11_ways : Type := Int32 × wd_W × Nat × Nat
def f_X11_ways (S : wd_W) (p1 : Int32) : Option o_X11_ways :=
if p1 = (0 : Int32) then (
bd (f_X11_knownLeast_c0 (wd_o S [] [] [] [] [])) fun o1 =>
some ((o1.1.1 12300), o1.1, 0 + o1.2.1, 0 + o1.2.2)) else (
if p1 = (1 : Int32) then (
bd (f_X11_knownLeast_c1 (wd_o S [] [] [] [] [])) fun o3 =>
some ((o3.1.1 12700), o3.1, 0 + o3.2.1, 0 + o3.2.2)) else (
none))
set_option maxRecDepth 100000 in
set_option maxHeartbeats 4000000 in
theorem c_X11_ways (l : Launch) (D : va_G) (q g : Nat → Nat) (cy : Nat → ClassId) (z : (Nat → Nat) × (Nat → Nat) × Nat) (S : wd_W) (p1 : Int32) (o : o_X11_ways) (hf : f_X11_ways S p1 = some o) : MX layX l yX11_ways cX11_ways 2 (some .int) ({ frames := 6, cells := 40, slots := 500000, locals := 148 } : Room) D q g cy z [.ref (q 0), .int p1] S true (some (.int o.1)) o.2.1 o.2.2.1 o.2.2.2 := by
  refine mx_of (own := RX11) (lc := [(0, .ref (q 0)), (1, .int p1)]) (by decide +kernel) rfl layX_ok (Nat.le_of_ble_eq_true rfl) rfl ?_
  intro X hXl hXq hXz hC hQ
  subst hXl; subst hXq; subst hXz
  unfold f_X11_ways at hf
  refine go_aload_n (pc' := 1) hC dX11_ways_0 rfl rfl ?_
  refine go_iload_n (pc' := 2) hC dX11_ways_1 rfl rfl ?_
  by_cases h2 : p1 = (0 : Int32)
  · subst h2
    have hf := ite_t rfl hf
    obtain ⟨o1, ho1, hf⟩ := bd_e hf
    refine go_callVw (pc' := 5) (As := [.int (0 : Int32)]) (st := []) (st' := [.ref (x_q X 123)])  (cells' := 0 + o1.2.1) (slots' := 0 + o1.2.2)  (b := 0) hC dX11_ways_2 ⟨mw_1014, mw_1017, mw_2, yd_yX11_knownLeast, yp_yX11_knownLeast, Nat.le_of_ble_eq_true rfl, Nat.le_of_ble_eq_true rfl, (Nat.le_of_ble_eq_true rfl), (Nat.le_of_ble_eq_true rfl)⟩ mw_1015 mw_1016 layX_0 rfl rfl rfl (Nat.le_of_ble_eq_true rfl) (c_X11_knownLeast_c0 (x_l X) (x_D X) (x_q X) g (x_cy X) (x_z X) _  o1 ho1) rfl rfl rfl rfl (fun g _ => ?_)
    refine go_geti (v := (o1.1.1 12300)) (pc' := 8) hC 123 0 layX_123 rfl rfl inlX3 (Nat.le_of_ble_eq_true rfl) mw_1013 rfl dX11_ways_5 rfl rfl ?_
    obtain rfl := Option.some.inj hf
    exact go_iret hC hQ dX11_ways_8 rfl rfl rfl rfl (fun h => nomatch h) rfl rfl
  · have hf := ite_f h2 hf
    by_cases h4 : p1 = (1 : Int32)
    · subst h4
      have hf := ite_t rfl hf
      obtain ⟨o3, ho3, hf⟩ := bd_e hf
      refine go_callVw (pc' := 5) (As := [.int (1 : Int32)]) (st := []) (st' := [.ref (x_q X 127)])  (cells' := 0 + o3.2.1) (slots' := 0 + o3.2.2)  (b := 0) hC dX11_ways_2 ⟨mw_1014, mw_1017, mw_2, yd_yX11_knownLeast, yp_yX11_knownLeast, Nat.le_of_ble_eq_true rfl, Nat.le_of_ble_eq_true rfl, (Nat.le_of_ble_eq_true rfl), (Nat.le_of_ble_eq_true rfl)⟩ mw_1015 mw_1016 layX_0 rfl rfl rfl (Nat.le_of_ble_eq_true rfl) (c_X11_knownLeast_c1 (x_l X) (x_D X) (x_q X) g (x_cy X) (x_z X) _  o3 ho3) rfl rfl rfl rfl (fun g _ => ?_)
      refine go_geti (v := (o3.1.1 12700)) (pc' := 8) hC 127 0 layX_127 rfl rfl inlX3 (Nat.le_of_ble_eq_true rfl) mw_1013 rfl dX11_ways_5 rfl rfl ?_
      obtain rfl := Option.some.inj hf
      exact go_iret hC hQ dX11_ways_8 rfl rfl rfl rfl (fun h => nomatch h) rfl rfl
    · have hf := ite_f h4 hf
      exact none_no hf
theorem dX11_way_0 : decode cX11_way 0 = .ok (.aload_n 0, 1) := by decide +kernel
theorem dX11_way_1 : decode cX11_way 1 = .ok (.iload_n 1, 1) := by decide +kernel
theorem dX11_way_2 : decode cX11_way 2 = .ok (.invokevirtual 204, 3) := by decide +kernel
theorem dX11_way_5 : decode cX11_way 5 = .ok (.astore_n 3, 1) := by decide +kernel
theorem dX11_way_6 : decode cX11_way 6 = .ok (.iload_n 2, 1) := by decide +kernel
theorem dX11_way_7 : decode cX11_way 7 = .ok (.ifCond .lt 11, 3) := by decide +kernel
theorem dX11_way_10 : decode cX11_way 10 = .ok (.iload_n 2, 1) := by decide +kernel
theorem dX11_way_11 : decode cX11_way 11 = .ok (.aload_n 3, 1) := by decide +kernel
theorem dX11_way_12 : decode cX11_way 12 = .ok (.getfield 211, 3) := by decide +kernel
theorem dX11_way_15 : decode cX11_way 15 = .ok (.if_icmp .lt 7, 3) := by decide +kernel
theorem dX11_way_18 : decode cX11_way 18 = .ok (.iconst (-1), 1) := by decide +kernel
theorem dX11_way_19 : decode cX11_way 19 = .ok (.goto 9, 3) := by decide +kernel
theorem dX11_way_22 : decode cX11_way 22 = .ok (.aload_n 3, 1) := by decide +kernel
theorem dX11_way_23 : decode cX11_way 23 = .ok (.getfield 213, 3) := by decide +kernel
theorem dX11_way_26 : decode cX11_way 26 = .ok (.iload_n 2, 1) := by decide +kernel
theorem dX11_way_27 : decode cX11_way 27 = .ok (.iaload, 1) := by decide +kernel
theorem dX11_way_28 : decode cX11_way 28 = .ok (.ireturn, 1) := by decide +kernel
abbrev o_X11_way : Type := Int32 × wd_W × Nat × Nat
def f_X11_way (S : wd_W) (p1 : Int32) (p2 : Int32) : Option o_X11_way :=
if p1 = (0 : Int32) then (
bd (f_X11_knownLeast_c0 (wd_o S [] [] [] [] [])) fun o1 =>
if p2 < 0 then (
some ((-1 : Int32), o1.1, 0 + o1.2.1, 0 + o1.2.2)) else (
if p2 < (o1.1.1 12301) then (
gd (okx p2 60) <|
some ((o1.1.2.2.1 124) p2.toNatClampNeg, o1.1, 0 + o1.2.1, 0 + o1.2.2)) else (
some ((-1 : Int32), o1.1, 0 + o1.2.1, 0 + o1.2.2)))) else (
if p1 = (1 : Int32) then (
bd (f_X11_knownLeast_c1 (wd_o S [] [] [] [] [])) fun o6 =>
if p2 < 0 then (
some ((-1 : Int32), o6.1, 0 + o6.2.1, 0 + o6.2.2)) else (
if p2 < (o6.1.1 12701) then (
gd (okx p2 60) <|
some ((o6.1.2.2.1 128) p2.toNatClampNeg, o6.1, 0 + o6.2.1, 0 + o6.2.2)) else (
some ((-1 : Int32), o6.1, 0 + o6.2.1, 0 + o6.2.2)))) else (
none))
set_option maxRecDepth 100000 in
set_option maxHeartbeats 4000000 in
theorem c_X11_way (l : Launch) (D : va_G) (q g : Nat → Nat) (cy : Nat → ClassId) (z : (Nat → Nat) × (Nat → Nat) × Nat) (S : wd_W) (p1 : Int32) (p2 : Int32) (o : o_X11_way) (hf : f_X11_way S p1 p2 = some o) : MX layX l yX11_way cX11_way 4 (some .int) ({ frames := 6, cells := 40, slots := 500000, locals := 148 } : Room) D q g cy z [.ref (q 0), .int p1, .int p2] S true (some (.int o.1)) o.2.1 o.2.2.1 o.2.2.2 := by
  refine mx_of (own := RX11) (lc := [(0, .ref (q 0)), (1, .int p1), (2, .int p2)]) (by decide +kernel) rfl layX_ok (Nat.le_of_ble_eq_true rfl) rfl ?_
  intro X hXl hXq hXz hC hQ
  subst hXl; subst hXq; subst hXz
  unfold f_X11_way at hf
  refine go_aload_n (pc' := 1) hC dX11_way_0 rfl rfl ?_
  refine go_iload_n (pc' := 2) hC dX11_way_1 rfl rfl ?_
  by_cases h5 : p1 = (0 : Int32)
  · subst h5
    have hf := ite_t rfl hf
    obtain ⟨o1, ho1, hf⟩ := bd_e hf
    refine go_callVw (pc' := 5) (As := [.int (0 : Int32)]) (st := []) (st' := [.ref (x_q X 123)])  (cells' := 0 + o1.2.1) (slots' := 0 + o1.2.2)  (b := 0) hC dX11_way_2 ⟨mw_1014, mw_1017, mw_2, yd_yX11_knownLeast, yp_yX11_knownLeast, Nat.le_of_ble_eq_true rfl, Nat.le_of_ble_eq_true rfl, (Nat.le_of_ble_eq_true rfl), (Nat.le_of_ble_eq_true rfl)⟩ mw_1015 mw_1016 layX_0 rfl rfl rfl (Nat.le_of_ble_eq_true rfl) (c_X11_knownLeast_c0 (x_l X) (x_D X) (x_q X) g (x_cy X) (x_z X) _  o1 ho1) rfl rfl rfl rfl (fun g _ => ?_)
    refine go_astore_n (lc' := [(0, .ref (x_q X 0)), (1, .int (0 : Int32)), (2, .int p2), (3, .ref (x_q X 123))]) (pc' := 6) hC dX11_way_5 (Nat.le_of_ble_eq_true rfl) rfl rfl ?_
    refine go_iload_n (pc' := 7) hC dX11_way_6 rfl rfl ?_
    refine go_if_lt (tgt := 18) (pc' := 10) hC dX11_way_7 (by decide) rfl (fun h4 => ?_) (fun h4 => ?_)
    · have hf := ite_t h4 hf
      refine go_iconst (pc' := 19) hC dX11_way_18 ki_m1 rfl ?_
      refine go_goto (tgt := 28) hC dX11_way_19 (by decide) ?_
      obtain rfl := Option.some.inj hf
      exact go_iret hC hQ dX11_way_28 rfl rfl rfl rfl (fun h => nomatch h) rfl rfl
    · have hf := ite_f h4 hf
      refine go_iload_n (pc' := 11) hC dX11_way_10 rfl rfl ?_
      refine go_aload_n (pc' := 12) hC dX11_way_11 rfl rfl ?_
      refine go_geti (v := (o1.1.1 12301)) (pc' := 15) hC 123 1 layX_123 rfl rfl inlX3 (Nat.le_of_ble_eq_true rfl) mw_1043 rfl dX11_way_12 rfl rfl ?_
      refine go_icmp_lt (tgt := 22) (pc' := 18) hC dX11_way_15 (by decide) rfl (fun h3 => ?_) (fun h3 => ?_)
      · have hf := ite_t h3 hf
        refine go_aload_n (pc' := 23) hC dX11_way_22 rfl rfl ?_
        refine go_getq (pc' := 26) hC 123 2 layX_123 rfl rfl inlX3 (Nat.le_of_ble_eq_true rfl) mw_1044 rfl dX11_way_23 rfl ?_
        refine go_iload_n (pc' := 27) hC dX11_way_26 rfl rfl ?_
        obtain ⟨h2, hf⟩ := gd_e hf
        refine go_iald (f := (o1.1.2.2.1 124)) (pc' := 28) hC 124 layX_124 rfl rfl dX11_way_27 (okx_in h2) rfl ?_
        obtain rfl := Option.some.inj hf
        exact go_iret hC hQ dX11_way_28 rfl rfl rfl rfl (fun h => nomatch h) rfl rfl
      · have hf := ite_f h3 hf
        refine go_iconst (pc' := 19) hC dX11_way_18 ki_m1 rfl ?_
        refine go_goto (tgt := 28) hC dX11_way_19 (by decide) ?_
        obtain rfl := Option.some.inj hf
        exact go_iret hC hQ dX11_way_28 rfl rfl rfl rfl (fun h => nomatch h) rfl rfl
  · have hf := ite_f h5 hf
    by_cases h10 : p1 = (1 : Int32)
    · subst h10
      have hf := ite_t rfl hf
      obtain ⟨o6, ho6, hf⟩ := bd_e hf
      refine go_callVw (pc' := 5) (As := [.int (1 : Int32)]) (st := []) (st' := [.ref (x_q X 127)])  (cells' := 0 + o6.2.1) (slots' := 0 + o6.2.2)  (b := 0) hC dX11_way_2 ⟨mw_1014, mw_1017, mw_2, yd_yX11_knownLeast, yp_yX11_knownLeast, Nat.le_of_ble_eq_true rfl, Nat.le_of_ble_eq_true rfl, (Nat.le_of_ble_eq_true rfl), (Nat.le_of_ble_eq_true rfl)⟩ mw_1015 mw_1016 layX_0 rfl rfl rfl (Nat.le_of_ble_eq_true rfl) (c_X11_knownLeast_c1 (x_l X) (x_D X) (x_q X) g (x_cy X) (x_z X) _  o6 ho6) rfl rfl rfl rfl (fun g _ => ?_)
      refine go_astore_n (lc' := [(0, .ref (x_q X 0)), (1, .int (1 : Int32)), (2, .int p2), (3, .ref (x_q X 127))]) (pc' := 6) hC dX11_way_5 (Nat.le_of_ble_eq_true rfl) rfl rfl ?_
      refine go_iload_n (pc' := 7) hC dX11_way_6 rfl rfl ?_
      refine go_if_lt (tgt := 18) (pc' := 10) hC dX11_way_7 (by decide) rfl (fun h9 => ?_) (fun h9 => ?_)
      · have hf := ite_t h9 hf
        refine go_iconst (pc' := 19) hC dX11_way_18 ki_m1 rfl ?_
        refine go_goto (tgt := 28) hC dX11_way_19 (by decide) ?_
        obtain rfl := Option.some.inj hf
        exact go_iret hC hQ dX11_way_28 rfl rfl rfl rfl (fun h => nomatch h) rfl rfl
      · have hf := ite_f h9 hf
        refine go_iload_n (pc' := 11) hC dX11_way_10 rfl rfl ?_
        refine go_aload_n (pc' := 12) hC dX11_way_11 rfl rfl ?_
        refine go_geti (v := (o6.1.1 12701)) (pc' := 15) hC 127 1 layX_127 rfl rfl inlX3 (Nat.le_of_ble_eq_true rfl) mw_1043 rfl dX11_way_12 rfl rfl ?_
        refine go_icmp_lt (tgt := 22) (pc' := 18) hC dX11_way_15 (by decide) rfl (fun h8 => ?_) (fun h8 => ?_)
        · have hf := ite_t h8 hf
          refine go_aload_n (pc' := 23) hC dX11_way_22 rfl rfl ?_
          refine go_getq (pc' := 26) hC 127 2 layX_127 rfl rfl inlX3 (Nat.le_of_ble_eq_true rfl) mw_1044 rfl dX11_way_23 rfl ?_
          refine go_iload_n (pc' := 27) hC dX11_way_26 rfl rfl ?_
          obtain ⟨h7, hf⟩ := gd_e hf
          refine go_iald (f := (o6.1.2.2.1 128)) (pc' := 28) hC 128 layX_128 rfl rfl dX11_way_27 (okx_in h7) rfl ?_
          obtain rfl := Option.some.inj hf
          exact go_iret hC hQ dX11_way_28 rfl rfl rfl rfl (fun h => nomatch h) rfl rfl
        · have hf := ite_f h8 hf
          refine go_iconst (pc' := 19) hC dX11_way_18 ki_m1 rfl ?_
          refine go_goto (tgt := 28) hC dX11_way_19 (by decide) ?_
          obtain rfl := Option.some.inj hf
          exact go_iret hC hQ dX11_way_28 rfl rfl rfl rfl (fun h => nomatch h) rfl rfl
    · have hf := ite_f h10 hf
      exact none_no hf
theorem dX3_someOfFirst_0 : decode cX3_someOfFirst 0 = .ok (.lconst 0, 1) := by decide +kernel
theorem dX3_someOfFirst_1 : decode cX3_someOfFirst 1 = .ok (.lstore_n 2, 1) := by decide +kernel
theorem dX3_someOfFirst_2 : decode cX3_someOfFirst 2 = .ok (.iconst 0, 1) := by decide +kernel
theorem dX3_someOfFirst_3 : decode cX3_someOfFirst 3 = .ok (.istore 4, 2) := by decide +kernel
theorem dX3_someOfFirst_5 : decode cX3_someOfFirst 5 = .ok (.iload 4, 2) := by decide +kernel
theorem dX3_someOfFirst_7 : decode cX3_someOfFirst 7 = .ok (.iload_n 1, 1) := by decide +kernel
theorem dX3_someOfFirst_8 : decode cX3_someOfFirst 8 = .ok (.if_icmp .ge 28, 3) := by decide +kernel
theorem dX3_someOfFirst_11 : decode cX3_someOfFirst 11 = .ok (.iload 4, 2) := by decide +kernel
theorem dX3_someOfFirst_13 : decode cX3_someOfFirst 13 = .ok (.aload_n 0, 1) := by decide +kernel
theorem dX3_someOfFirst_14 : decode cX3_someOfFirst 14 = .ok (.getfield 41, 3) := by decide +kernel
theorem dX3_someOfFirst_17 : decode cX3_someOfFirst 17 = .ok (.if_icmp .ge 19, 3) := by decide +kernel
theorem dX3_someOfFirst_20 : decode cX3_someOfFirst 20 = .ok (.lload_n 2, 1) := by decide +kernel
theorem dX3_someOfFirst_21 : decode cX3_someOfFirst 21 = .ok (.aload_n 0, 1) := by decide +kernel
theorem dX3_someOfFirst_22 : decode cX3_someOfFirst 22 = .ok (.getfield 19, 3) := by decide +kernel
theorem dX3_someOfFirst_25 : decode cX3_someOfFirst 25 = .ok (.iload 4, 2) := by decide +kernel
theorem dX3_someOfFirst_27 : decode cX3_someOfFirst 27 = .ok (.laload, 1) := by decide +kernel
theorem dX3_someOfFirst_28 : decode cX3_someOfFirst 28 = .ok (.ladd, 1) := by decide +kernel
theorem dX3_someOfFirst_29 : decode cX3_someOfFirst 29 = .ok (.lstore_n 2, 1) := by decide +kernel
theorem dX3_someOfFirst_30 : decode cX3_someOfFirst 30 = .ok (.iinc 4 1, 3) := by decide +kernel
theorem dX3_someOfFirst_33 : decode cX3_someOfFirst 33 = .ok (.goto (-28), 3) := by decide +kernel
theorem dX3_someOfFirst_36 : decode cX3_someOfFirst 36 = .ok (.lload_n 2, 1) := by decide +kernel
theorem dX3_someOfFirst_37 : decode cX3_someOfFirst 37 = .ok (.lreturn, 1) := by decide +kernel
abbrev o_X3_someOfFirst_q123 : Type := Int64
def f_X3_someOfFirst_q123_L5 (S : wd_W) (p1 : Int32) (r3 : (Int64) → (Int32) → (Option o_X3_someOfFirst_q123)) (x1 : Int64) (x2 : Int32) : Option o_X3_someOfFirst_q123 :=
if p1 ≤ x2 then (
some x1) else (
if (S.1 12301) ≤ x2 then (
some x1) else (
gd (okx x2 60) <|
lz (x1 + ((S.2.2.2.1 126) x2.toNatClampNeg)) fun x5 =>
r3 x5 (x2 + (1 : Int32))))
def f_X3_someOfFirst_q123 (S : wd_W) (p1 : Int32) : Option o_X3_someOfFirst_q123 :=
it2 (f_X3_someOfFirst_q123_L5 S p1) fuel (0 : Int64) (0 : Int32)
set_option maxRecDepth 100000 in
set_option maxHeartbeats 4000000 in
theorem c_X3_someOfFirst_q123 (l : Launch) (D : va_G) (q g : Nat → Nat) (cy : Nat → ClassId) (z : (Nat → Nat) × (Nat → Nat) × Nat) (S : wd_W) (p1 : Int32) (o : o_X3_someOfFirst_q123) (hf : f_X3_someOfFirst_q123 S p1 = some o) : MX layX l yX3_someOfFirst cX3_someOfFirst 5 (some .long) ({ frames := 0, cells := 0, slots := 0, locals := 0 } : Room) D q g cy z [.ref (q 123), .int p1] S false (some (.long o)) (wd_o S [] [] [] [] []) 0 0 := by
  refine mx_of (own := RX3) (lc := [(0, .ref (q 123)), (1, .int p1)]) (by decide +kernel) rfl layX_ok (Nat.le_of_ble_eq_true rfl) rfl ?_
  intro X hXl hXq hXz hC hQ
  subst hXl; subst hXq; subst hXz
  unfold f_X3_someOfFirst_q123 at hf
  refine go_lconst (pc' := 1) hC dX3_someOfFirst_0 kl_0 rfl ?_
  refine go_lstore_n (lc' := [(0, .ref (x_q X 123)), (1, .int p1), (2, .long (0 : Int64))]) (pc' := 2) hC dX3_someOfFirst_1 (Nat.le_of_ble_eq_true rfl) rfl rfl ?_
  refine go_iconst (pc' := 3) hC dX3_someOfFirst_2 ki_0 rfl ?_
  refine go_istore (lc' := [(0, .ref (x_q X 123)), (1, .int p1), (2, .long (0 : Int64)), (4, .int (0 : Int32))]) (pc' := 5) hC dX3_someOfFirst_3 (Nat.le_of_ble_eq_true rfl) rfl rfl ?_
  have l5_8 : ∀ (nn : Nat) (x1 : Int64) (x2 : Int32), it2 (f_X3_someOfFirst_q123_L5 S p1) nn x1 x2 = some o → Go X layX S 5 [(0, .ref (x_q X 123)), (1, .int p1), (2, .long x1), (4, .int x2)] [] g [] [] [] [] [] 0 0 := by
    intro nn
    induction nn with
    | zero =>
      intro x1 x2 hf
      exact none_no hf
    | succ nn ih =>
      intro x1 x2 hf
      have hf : f_X3_someOfFirst_q123_L5 S p1 (it2 (f_X3_someOfFirst_q123_L5 S p1) nn) x1 x2 = some o := hf
      generalize it2 (f_X3_someOfFirst_q123_L5 S p1) nn = r3 at ih hf
      unfold f_X3_someOfFirst_q123_L5 at hf
      refine go_iload (pc' := 7) hC dX3_someOfFirst_5 rfl rfl ?_
      refine go_iload_n (pc' := 8) hC dX3_someOfFirst_7 rfl rfl ?_
      refine go_icmp_ge (tgt := 36) (pc' := 11) hC dX3_someOfFirst_8 (by decide) rfl (fun h7 => ?_) (fun h7 => ?_)
      · have hf := ite_t h7 hf
        refine go_lload_n (pc' := 37) hC dX3_someOfFirst_36 rfl rfl ?_
        obtain rfl := Option.some.inj hf
        exact go_lret hC hQ dX3_someOfFirst_37 rfl rfl rfl (fun _ => rfl) rfl rfl
      · have hf := ite_f h7 hf
        refine go_iload (pc' := 13) hC dX3_someOfFirst_11 rfl rfl ?_
        refine go_aload_n (pc' := 14) hC dX3_someOfFirst_13 rfl rfl ?_
        refine go_geti (v := (S.1 12301)) (pc' := 17) hC 123 1 layX_123 rfl rfl inlX3 (Nat.le_of_ble_eq_true rfl) mw_720 rfl dX3_someOfFirst_14 rfl rfl ?_
        refine go_icmp_ge (tgt := 36) (pc' := 20) hC dX3_someOfFirst_17 (by decide) rfl (fun h6 => ?_) (fun h6 => ?_)
        · have hf := ite_t h6 hf
          refine go_lload_n (pc' := 37) hC dX3_someOfFirst_36 rfl rfl ?_
          obtain rfl := Option.some.inj hf
          exact go_lret hC hQ dX3_someOfFirst_37 rfl rfl rfl (fun _ => rfl) rfl rfl
        · have hf := ite_f h6 hf
          refine go_lload_n (pc' := 21) hC dX3_someOfFirst_20 rfl rfl ?_
          refine go_aload_n (pc' := 22) hC dX3_someOfFirst_21 rfl rfl ?_
          refine go_getq (pc' := 25) hC 123 5 layX_123 rfl rfl inlX3 (Nat.le_of_ble_eq_true rfl) mw_130 rfl dX3_someOfFirst_22 rfl ?_
          refine go_iload (pc' := 27) hC dX3_someOfFirst_25 rfl rfl ?_
          obtain ⟨h4, hf⟩ := gd_e hf
          refine go_lald (f := (S.2.2.2.1 126)) (pc' := 28) hC 126 layX_126 rfl rfl dX3_someOfFirst_27 (okx_in h4) rfl ?_
          refine go_ladd (pc' := 29) hC dX3_someOfFirst_28 rfl ?_
          refine go_namel (fun x5 hx => ?_)
          have hf := lz_r hx hf
          clear hx
          refine go_lstore_n (lc' := [(0, .ref (x_q X 123)), (1, .int p1), (2, .long x5), (4, .int x2)]) (pc' := 30) hC dX3_someOfFirst_29 (Nat.le_of_ble_eq_true rfl) rfl rfl ?_
          refine go_iinc (lc' := [(0, .ref (x_q X 123)), (1, .int p1), (2, .long x5), (4, .int (x2 + (1 : Int32)))]) (pc' := 33) hC dX3_someOfFirst_30 rfl ki_1 (Nat.le_of_ble_eq_true rfl) rfl rfl ?_
          refine go_goto (tgt := 5) hC dX3_someOfFirst_33 (by decide) ?_
          exact ih x5 (x2 + (1 : Int32)) hf
  exact l5_8 fuel (0 : Int64) (0 : Int32) hf
abbrev o_X3_someOfFirst_q127 : Type := Int64
def f_X3_someOfFirst_q127_L5 (S : wd_W) (p1 : Int32) (r3 : (Int64) → (Int32) → (Option o_X3_someOfFirst_q127)) (x1 : Int64) (x2 : Int32) : Option o_X3_someOfFirst_q127 :=
if p1 ≤ x2 then (
some x1) else (
if (S.1 12701) ≤ x2 then (
some x1) else (
gd (okx x2 60) <|
lz (x1 + ((S.2.2.2.1 130) x2.toNatClampNeg)) fun x5 =>
r3 x5 (x2 + (1 : Int32))))
def f_X3_someOfFirst_q127 (S : wd_W) (p1 : Int32) : Option o_X3_someOfFirst_q127 :=
it2 (f_X3_someOfFirst_q127_L5 S p1) fuel (0 : Int64) (0 : Int32)
set_option maxRecDepth 100000 in
set_option maxHeartbeats 4000000 in
theorem c_X3_someOfFirst_q127 (l : Launch) (D : va_G) (q g : Nat → Nat) (cy : Nat → ClassId) (z : (Nat → Nat) × (Nat → Nat) × Nat) (S : wd_W) (p1 : Int32) (o : o_X3_someOfFirst_q127) (hf : f_X3_someOfFirst_q127 S p1 = some o) : MX layX l yX3_someOfFirst cX3_someOfFirst 5 (some .long) ({ frames := 0, cells := 0, slots := 0, locals := 0 } : Room) D q g cy z [.ref (q 127), .int p1] S false (some (.long o)) (wd_o S [] [] [] [] []) 0 0 := by
  refine mx_of (own := RX3) (lc := [(0, .ref (q 127)), (1, .int p1)]) (by decide +kernel) rfl layX_ok (Nat.le_of_ble_eq_true rfl) rfl ?_
  intro X hXl hXq hXz hC hQ
  subst hXl; subst hXq; subst hXz
  unfold f_X3_someOfFirst_q127 at hf
  refine go_lconst (pc' := 1) hC dX3_someOfFirst_0 kl_0 rfl ?_
  refine go_lstore_n (lc' := [(0, .ref (x_q X 127)), (1, .int p1), (2, .long (0 : Int64))]) (pc' := 2) hC dX3_someOfFirst_1 (Nat.le_of_ble_eq_true rfl) rfl rfl ?_
  refine go_iconst (pc' := 3) hC dX3_someOfFirst_2 ki_0 rfl ?_
  refine go_istore (lc' := [(0, .ref (x_q X 127)), (1, .int p1), (2, .long (0 : Int64)), (4, .int (0 : Int32))]) (pc' := 5) hC dX3_someOfFirst_3 (Nat.le_of_ble_eq_true rfl) rfl rfl ?_
  have l5_8 : ∀ (nn : Nat) (x1 : Int64) (x2 : Int32), it2 (f_X3_someOfFirst_q127_L5 S p1) nn x1 x2 = some o → Go X layX S 5 [(0, .ref (x_q X 127)), (1, .int p1), (2, .long x1), (4, .int x2)] [] g [] [] [] [] [] 0 0 := by
    intro nn
    induction nn with
    | zero =>
      intro x1 x2 hf
      exact none_no hf
    | succ nn ih =>
      intro x1 x2 hf
      have hf : f_X3_someOfFirst_q127_L5 S p1 (it2 (f_X3_someOfFirst_q127_L5 S p1) nn) x1 x2 = some o := hf
      generalize it2 (f_X3_someOfFirst_q127_L5 S p1) nn = r3 at ih hf
      unfold f_X3_someOfFirst_q127_L5 at hf
      refine go_iload (pc' := 7) hC dX3_someOfFirst_5 rfl rfl ?_
      refine go_iload_n (pc' := 8) hC dX3_someOfFirst_7 rfl rfl ?_
      refine go_icmp_ge (tgt := 36) (pc' := 11) hC dX3_someOfFirst_8 (by decide) rfl (fun h7 => ?_) (fun h7 => ?_)
      · have hf := ite_t h7 hf
        refine go_lload_n (pc' := 37) hC dX3_someOfFirst_36 rfl rfl ?_
        obtain rfl := Option.some.inj hf
        exact go_lret hC hQ dX3_someOfFirst_37 rfl rfl rfl (fun _ => rfl) rfl rfl
      · have hf := ite_f h7 hf
        refine go_iload (pc' := 13) hC dX3_someOfFirst_11 rfl rfl ?_
        refine go_aload_n (pc' := 14) hC dX3_someOfFirst_13 rfl rfl ?_
        refine go_geti (v := (S.1 12701)) (pc' := 17) hC 127 1 layX_127 rfl rfl inlX3 (Nat.le_of_ble_eq_true rfl) mw_720 rfl dX3_someOfFirst_14 rfl rfl ?_
        refine go_icmp_ge (tgt := 36) (pc' := 20) hC dX3_someOfFirst_17 (by decide) rfl (fun h6 => ?_) (fun h6 => ?_)
        · have hf := ite_t h6 hf
          refine go_lload_n (pc' := 37) hC dX3_someOfFirst_36 rfl rfl ?_
          obtain rfl := Option.some.inj hf
          exact go_lret hC hQ dX3_someOfFirst_37 rfl rfl rfl (fun _ => rfl) rfl rfl
        · have hf := ite_f h6 hf
          refine go_lload_n (pc' := 21) hC dX3_someOfFirst_20 rfl rfl ?_
          refine go_aload_n (pc' := 22) hC dX3_someOfFirst_21 rfl rfl ?_
          refine go_getq (pc' := 25) hC 127 5 layX_127 rfl rfl inlX3 (Nat.le_of_ble_eq_true rfl) mw_130 rfl dX3_someOfFirst_22 rfl ?_
          refine go_iload (pc' := 27) hC dX3_someOfFirst_25 rfl rfl ?_
          obtain ⟨h4, hf⟩ := gd_e hf
          refine go_lald (f := (S.2.2.2.1 130)) (pc' := 28) hC 130 layX_130 rfl rfl dX3_someOfFirst_27 (okx_in h4) rfl ?_
          refine go_ladd (pc' := 29) hC dX3_someOfFirst_28 rfl ?_
          refine go_namel (fun x5 hx => ?_)
          have hf := lz_r hx hf
          clear hx
          refine go_lstore_n (lc' := [(0, .ref (x_q X 127)), (1, .int p1), (2, .long x5), (4, .int x2)]) (pc' := 30) hC dX3_someOfFirst_29 (Nat.le_of_ble_eq_true rfl) rfl rfl ?_
          refine go_iinc (lc' := [(0, .ref (x_q X 127)), (1, .int p1), (2, .long x5), (4, .int (x2 + (1 : Int32)))]) (pc' := 33) hC dX3_someOfFirst_30 rfl ki_1 (Nat.le_of_ble_eq_true rfl) rfl rfl ?_
          refine go_goto (tgt := 5) hC dX3_someOfFirst_33 (by decide) ?_
          exact ih x5 (x2 + (1 : Int32)) hf
  exact l5_8 fuel (0 : Int64) (0 : Int32) hf
theorem dX11_ends_0 : decode cX11_ends 0 = .ok (.iload_n 1, 1) := by decide +kernel
theorem dX11_ends_1 : decode cX11_ends 1 = .ok (.ifCond .lt 18, 3) := by decide +kernel
theorem dX11_ends_4 : decode cX11_ends 4 = .ok (.iload_n 1, 1) := by decide +kernel
theorem dX11_ends_5 : decode cX11_ends 5 = .ok (.bipush 60, 2) := by decide +kernel
theorem dX11_ends_7 : decode cX11_ends 7 = .ok (.if_icmp .gt 12, 3) := by decide +kernel
theorem dX11_ends_10 : decode cX11_ends 10 = .ok (.iload_n 2, 1) := by decide +kernel
theorem dX11_ends_11 : decode cX11_ends 11 = .ok (.ifCond .lt 8, 3) := by decide +kernel
theorem dX11_ends_14 : decode cX11_ends 14 = .ok (.iload_n 2, 1) := by decide +kernel
theorem dX11_ends_15 : decode cX11_ends 15 = .ok (.iconst 1, 1) := by decide +kernel
theorem dX11_ends_16 : decode cX11_ends 16 = .ok (.if_icmp .le 7, 3) := by decide +kernel
theorem dX11_ends_19 : decode cX11_ends 19 = .ok (.ldc2_w 186, 3) := by decide +kernel
theorem dX11_ends_22 : decode cX11_ends 22 = .ok (.lreturn, 1) := by decide +kernel
theorem dX11_ends_23 : decode cX11_ends 23 = .ok (.iload_n 2, 1) := by decide +kernel
theorem dX11_ends_24 : decode cX11_ends 24 = .ok (.ifCond .ne 13, 3) := by decide +kernel
theorem dX11_ends_27 : decode cX11_ends 27 = .ok (.aload_n 0, 1) := by decide +kernel
theorem dX11_ends_28 : decode cX11_ends 28 = .ok (.iconst 0, 1) := by decide +kernel
theorem dX11_ends_29 : decode cX11_ends 29 = .ok (.invokevirtual 204, 3) := by decide +kernel
theorem dX11_ends_32 : decode cX11_ends 32 = .ok (.iload_n 1, 1) := by decide +kernel
theorem dX11_ends_33 : decode cX11_ends 33 = .ok (.invokevirtual 216, 3) := by decide +kernel
theorem dX11_ends_36 : decode cX11_ends 36 = .ok (.lreturn, 1) := by decide +kernel
theorem dX11_ends_37 : decode cX11_ends 37 = .ok (.aload_n 0, 1) := by decide +kernel
theorem dX11_ends_38 : decode cX11_ends 38 = .ok (.getfield 25, 3) := by decide +kernel
theorem dX11_ends_41 : decode cX11_ends 41 = .ok (.invokevirtual 129, 3) := by decide +kernel
theorem dX11_ends_44 : decode cX11_ends 44 = .ok (.invokestatic 182, 3) := by decide +kernel
theorem dX11_ends_47 : decode cX11_ends 47 = .ok (.aload_n 0, 1) := by decide +kernel
theorem dX11_ends_48 : decode cX11_ends 48 = .ok (.iconst 1, 1) := by decide +kernel
theorem dX11_ends_49 : decode cX11_ends 49 = .ok (.invokevirtual 204, 3) := by decide +kernel
theorem dX11_ends_52 : decode cX11_ends 52 = .ok (.iload_n 1, 1) := by decide +kernel
theorem dX11_ends_53 : decode cX11_ends 53 = .ok (.invokevirtual 216, 3) := by decide +kernel
theorem dX11_ends_56 : decode cX11_ends 56 = .ok (.lsub, 1) := by decide +kernel
theorem dX11_ends_57 : decode cX11_ends 57 = .ok (.lreturn, 1) := by decide +kernel
abbrev o_X11_ends : Type := Int64 × wd_W × Nat × Nat
def f_X11_ends (S : wd_W) (p1 : Int32) (p2 : Int32) : Option o_X11_ends :=
if p1 < 0 then (
some ((-1 : Int64), S, 0, 0)) else (
if (60 : Int32) < p1 then (
some ((-1 : Int64), S, 0, 0)) else (
if p2 < 0 then (
some ((-1 : Int64), S, 0, 0)) else (
if p2 ≤ (1 : Int32) then (
if p2 = 0 then (
bd (f_X11_knownLeast_c0 (wd_o S [] [] [] [] [])) fun o6 =>
gd (okr (0 + o6.2.1) (0 + o6.2.2) 0 0 40 500000) <|
bd (f_X3_someOfFirst_q123 (wd_o o6.1 [] [] [] [] []) p1) fun o7 =>
some (o7, o6.1, 0 + o6.2.1, 0 + o6.2.2)) else (
bd (f_X2_things_q16 (wd_o S [] [] [] [] [])) fun o1 =>
bd (f_X8_power o1) fun o2 =>
bd (f_X11_knownLeast_c1 (wd_o S [] [] [] [] [])) fun o3 =>
gd (okr (0 + o3.2.1) (0 + o3.2.2) 0 0 40 500000) <|
bd (f_X3_someOfFirst_q127 (wd_o o3.1 [] [] [] [] []) p1) fun o4 =>
some (o2 - o4, o3.1, 0 + o3.2.1, 0 + o3.2.2))) else (
some ((-1 : Int64), S, 0, 0)))))
set_option maxRecDepth 100000 in
set_option maxHeartbeats 4000000 in
theorem c_X11_ends (l : Launch) (D : va_G) (q g : Nat → Nat) (cy : Nat → ClassId) (z : (Nat → Nat) × (Nat → Nat) × Nat) (S : wd_W) (p1 : Int32) (p2 : Int32) (o : o_X11_ends) (hf : f_X11_ends S p1 p2 = some o) : MX layX l yX11_ends cX11_ends 3 (some .long) ({ frames := 6, cells := 40, slots := 500000, locals := 148 } : Room) D q g cy z [.ref (q 0), .int p1, .int p2] S true (some (.long o.1)) o.2.1 o.2.2.1 o.2.2.2 := by
  refine mx_of (own := RX11) (lc := [(0, .ref (q 0)), (1, .int p1), (2, .int p2)]) (by decide +kernel) rfl layX_ok (Nat.le_of_ble_eq_true rfl) rfl ?_
  intro X hXl hXq hXz hC hQ
  subst hXl; subst hXq; subst hXz
  unfold f_X11_ends at hf
  refine go_iload_n (pc' := 1) hC dX11_ends_0 rfl rfl ?_
  refine go_if_lt (tgt := 19) (pc' := 4) hC dX11_ends_1 (by decide) rfl (fun h13 => ?_) (fun h13 => ?_)
  · have hf := ite_t h13 hf
    refine go_ldc2 (pc' := 22) hC dX11_ends_19 mw_909 rfl ?_
    obtain rfl := Option.some.inj hf
    exact go_lret hC hQ dX11_ends_22 rfl rfl rfl (fun h => nomatch h) rfl rfl
  · have hf := ite_f h13 hf
    refine go_iload_n (pc' := 5) hC dX11_ends_4 rfl rfl ?_
    refine go_bipush (pc' := 7) hC dX11_ends_5 kb_60 rfl ?_
    refine go_icmp_gt (tgt := 19) (pc' := 10) hC dX11_ends_7 (by decide) rfl (fun h12 => ?_) (fun h12 => ?_)
    · have hf := ite_t h12 hf
      refine go_ldc2 (pc' := 22) hC dX11_ends_19 mw_909 rfl ?_
      obtain rfl := Option.some.inj hf
      exact go_lret hC hQ dX11_ends_22 rfl rfl rfl (fun h => nomatch h) rfl rfl
    · have hf := ite_f h12 hf
      refine go_iload_n (pc' := 11) hC dX11_ends_10 rfl rfl ?_
      refine go_if_lt (tgt := 19) (pc' := 14) hC dX11_ends_11 (by decide) rfl (fun h11 => ?_) (fun h11 => ?_)
      · have hf := ite_t h11 hf
        refine go_ldc2 (pc' := 22) hC dX11_ends_19 mw_909 rfl ?_
        obtain rfl := Option.some.inj hf
        exact go_lret hC hQ dX11_ends_22 rfl rfl rfl (fun h => nomatch h) rfl rfl
      · have hf := ite_f h11 hf
        refine go_iload_n (pc' := 15) hC dX11_ends_14 rfl rfl ?_
        refine go_iconst (pc' := 16) hC dX11_ends_15 ki_1 rfl ?_
        refine go_icmp_le (tgt := 23) (pc' := 19) hC dX11_ends_16 (by decide) rfl (fun h10 => ?_) (fun h10 => ?_)
        · have hf := ite_t h10 hf
          refine go_iload_n (pc' := 24) hC dX11_ends_23 rfl rfl ?_
          refine go_if_ne (tgt := 37) (pc' := 27) hC dX11_ends_24 (by decide) rfl (fun h9 => ?_) (fun h9 => ?_)
          · have hf := ite_f h9 hf
            refine go_aload_n (pc' := 38) hC dX11_ends_37 rfl rfl ?_
            refine go_getq (pc' := 41) hC 0 2 layX_0 rfl rfl inlX11 (Nat.le_of_ble_eq_true rfl) mw_20 rfl dX11_ends_38 rfl ?_
            obtain ⟨o1, ho1, hf⟩ := bd_e hf
            refine go_callV0 (pc' := 44) (As := []) (st := []) (st' := [.int o1])    (b := 16) hC dX11_ends_41 ⟨mw_484, mw_418, mw_14, yd_yX2_things, yp_yX2_things, Nat.le_of_ble_eq_true rfl, Nat.le_of_ble_eq_true rfl, (Nat.le_of_ble_eq_true rfl), (Nat.le_of_ble_eq_true rfl)⟩ mw_416 mw_417 layX_16 rfl rfl rfl (Nat.le_of_ble_eq_true rfl) (c_X2_things_q16 (x_l X) (x_D X) (x_q X) g (x_cy X) (x_z X) _  o1 ho1) rfl rfl ?_
            obtain ⟨o2, ho2, hf⟩ := bd_e hf
            refine go_callS0 (pc' := 47) (As := [.int o1]) (st := []) (st' := [.long o2])    hC dX11_ends_44 ⟨mw_915, mw_917, mw_31, yd_yX8_power, yp_yX8_power, Nat.le_of_ble_eq_true rfl, Nat.le_of_ble_eq_true rfl, (Nat.le_of_ble_eq_true rfl), (Nat.le_of_ble_eq_true rfl)⟩ mw_916 rfl rfl (Nat.le_of_ble_eq_true rfl) (c_X8_power (x_l X) (x_D X) (x_q X) g (x_cy X) (x_z X) _ o1 o2 ho2) rfl rfl ?_
            refine go_aload_n (pc' := 48) hC dX11_ends_47 rfl rfl ?_
            refine go_iconst (pc' := 49) hC dX11_ends_48 ki_1 rfl ?_
            obtain ⟨o3, ho3, hf⟩ := bd_e hf
            refine go_callVw (pc' := 52) (As := [.int (1 : Int32)]) (st := [.long o2]) (st' := [.ref (x_q X 127), .long o2])  (cells' := 0 + o3.2.1) (slots' := 0 + o3.2.2)  (b := 0) hC dX11_ends_49 ⟨mw_1014, mw_1017, mw_2, yd_yX11_knownLeast, yp_yX11_knownLeast, Nat.le_of_ble_eq_true rfl, Nat.le_of_ble_eq_true rfl, (Nat.le_of_ble_eq_true rfl), (Nat.le_of_ble_eq_true rfl)⟩ mw_1015 mw_1016 layX_0 rfl rfl rfl (Nat.le_of_ble_eq_true rfl) (c_X11_knownLeast_c1 (x_l X) (x_D X) (x_q X) g (x_cy X) (x_z X) _  o3 ho3) rfl rfl rfl rfl (fun g _ => ?_)
            refine go_iload_n (pc' := 53) hC dX11_ends_52 rfl rfl ?_
            obtain ⟨h5, hf⟩ := gd_e hf
            obtain ⟨o4, ho4, hf⟩ := bd_e hf
            refine go_callV0 (pc' := 56) (As := [.int p1]) (st := [.long o2]) (st' := [.long o4, .long o2])   (rc := { frames := 0, cells := 0, slots := 0, locals := 0 }) (b := 127) hC dX11_ends_53 ⟨mw_1053, mw_1056, mw_35, yd_yX3_someOfFirst, yp_yX3_someOfFirst, Nat.le_of_ble_eq_true rfl, Nat.le_of_ble_eq_true rfl, (okr_c h5), (okr_s h5)⟩ mw_1054 mw_1055 layX_127 rfl rfl rfl (Nat.le_of_ble_eq_true rfl) (c_X3_someOfFirst_q127 (x_l X) (x_D X) (x_q X) g (x_cy X) (x_z X) _ p1 o4 ho4) rfl rfl ?_
            refine go_lsub (pc' := 57) hC dX11_ends_56 rfl ?_
            obtain rfl := Option.some.inj hf
            exact go_lret hC hQ dX11_ends_57 rfl rfl rfl (fun h => nomatch h) rfl rfl
          · have hf := ite_t h9 hf
            refine go_aload_n (pc' := 28) hC dX11_ends_27 rfl rfl ?_
            refine go_iconst (pc' := 29) hC dX11_ends_28 ki_0 rfl ?_
            obtain ⟨o6, ho6, hf⟩ := bd_e hf
            refine go_callVw (pc' := 32) (As := [.int (0 : Int32)]) (st := []) (st' := [.ref (x_q X 123)])  (cells' := 0 + o6.2.1) (slots' := 0 + o6.2.2)  (b := 0) hC dX11_ends_29 ⟨mw_1014, mw_1017, mw_2, yd_yX11_knownLeast, yp_yX11_knownLeast, Nat.le_of_ble_eq_true rfl, Nat.le_of_ble_eq_true rfl, (Nat.le_of_ble_eq_true rfl), (Nat.le_of_ble_eq_true rfl)⟩ mw_1015 mw_1016 layX_0 rfl rfl rfl (Nat.le_of_ble_eq_true rfl) (c_X11_knownLeast_c0 (x_l X) (x_D X) (x_q X) g (x_cy X) (x_z X) _  o6 ho6) rfl rfl rfl rfl (fun g _ => ?_)
            refine go_iload_n (pc' := 33) hC dX11_ends_32 rfl rfl ?_
            obtain ⟨h8, hf⟩ := gd_e hf
            obtain ⟨o7, ho7, hf⟩ := bd_e hf
            refine go_callV0 (pc' := 36) (As := [.int p1]) (st := []) (st' := [.long o7])   (rc := { frames := 0, cells := 0, slots := 0, locals := 0 }) (b := 123) hC dX11_ends_33 ⟨mw_1053, mw_1056, mw_35, yd_yX3_someOfFirst, yp_yX3_someOfFirst, Nat.le_of_ble_eq_true rfl, Nat.le_of_ble_eq_true rfl, (okr_c h8), (okr_s h8)⟩ mw_1054 mw_1055 layX_123 rfl rfl rfl (Nat.le_of_ble_eq_true rfl) (c_X3_someOfFirst_q123 (x_l X) (x_D X) (x_q X) g (x_cy X) (x_z X) _ p1 o7 ho7) rfl rfl ?_
            obtain rfl := Option.some.inj hf
            exact go_lret hC hQ dX11_ends_36 rfl rfl rfl (fun h => nomatch h) rfl rfl
        · have hf := ite_f h10 hf
          refine go_ldc2 (pc' := 22) hC dX11_ends_19 mw_909 rfl ?_
          obtain rfl := Option.some.inj hf
          exact go_lret hC hQ dX11_ends_22 rfl rfl rfl (fun h => nomatch h) rfl rfl
theorem dX8_lineSetsOf_0 : decode cX8_lineSetsOf 0 = .ok (.aload_n 0, 1) := by decide +kernel
theorem dX8_lineSetsOf_1 : decode cX8_lineSetsOf 1 = .ok (.getfield 64, 3) := by decide +kernel
theorem dX8_lineSetsOf_4 : decode cX8_lineSetsOf 4 = .ok (.iconst 1, 1) := by decide +kernel
theorem dX8_lineSetsOf_5 : decode cX8_lineSetsOf 5 = .ok (.isub, 1) := by decide +kernel
theorem dX8_lineSetsOf_6 : decode cX8_lineSetsOf 6 = .ok (.aload_n 0, 1) := by decide +kernel
theorem dX8_lineSetsOf_7 : decode cX8_lineSetsOf 7 = .ok (.getfield 70, 3) := by decide +kernel
theorem dX8_lineSetsOf_10 : decode cX8_lineSetsOf 10 = .ok (.iconst (-1), 1) := by decide +kernel
theorem dX8_lineSetsOf_11 : decode cX8_lineSetsOf 11 = .ok (.ixor, 1) := by decide +kernel
theorem dX8_lineSetsOf_12 : decode cX8_lineSetsOf 12 = .ok (.iand, 1) := by decide +kernel
theorem dX8_lineSetsOf_13 : decode cX8_lineSetsOf 13 = .ok (.istore_n 2, 1) := by decide +kernel
theorem dX8_lineSetsOf_14 : decode cX8_lineSetsOf 14 = .ok (.iconst 0, 1) := by decide +kernel
theorem dX8_lineSetsOf_15 : decode cX8_lineSetsOf 15 = .ok (.istore_n 3, 1) := by decide +kernel
theorem dX8_lineSetsOf_16 : decode cX8_lineSetsOf 16 = .ok (.iconst 0, 1) := by decide +kernel
theorem dX8_lineSetsOf_17 : decode cX8_lineSetsOf 17 = .ok (.istore 4, 2) := by decide +kernel
theorem dX8_lineSetsOf_19 : decode cX8_lineSetsOf 19 = .ok (.iload 4, 2) := by decide +kernel
theorem dX8_lineSetsOf_21 : decode cX8_lineSetsOf 21 = .ok (.aload_n 0, 1) := by decide +kernel
theorem dX8_lineSetsOf_22 : decode cX8_lineSetsOf 22 = .ok (.getfield 70, 3) := by decide +kernel
theorem dX8_lineSetsOf_25 : decode cX8_lineSetsOf 25 = .ok (.if_icmp .gt 32, 3) := by decide +kernel
theorem dX8_lineSetsOf_28 : decode cX8_lineSetsOf 28 = .ok (.iload 4, 2) := by decide +kernel
theorem dX8_lineSetsOf_30 : decode cX8_lineSetsOf 30 = .ok (.invokestatic 110, 3) := by decide +kernel
theorem dX8_lineSetsOf_33 : decode cX8_lineSetsOf 33 = .ok (.iload_n 1, 1) := by decide +kernel
theorem dX8_lineSetsOf_34 : decode cX8_lineSetsOf 34 = .ok (.if_icmp .ne 17, 3) := by decide +kernel
theorem dX8_lineSetsOf_37 : decode cX8_lineSetsOf 37 = .ok (.aload_n 0, 1) := by decide +kernel
theorem dX8_lineSetsOf_38 : decode cX8_lineSetsOf 38 = .ok (.iload 4, 2) := by decide +kernel
theorem dX8_lineSetsOf_40 : decode cX8_lineSetsOf 40 = .ok (.iload_n 2, 1) := by decide +kernel
theorem dX8_lineSetsOf_41 : decode cX8_lineSetsOf 41 = .ok (.ior, 1) := by decide +kernel
theorem dX8_lineSetsOf_42 : decode cX8_lineSetsOf 42 = .ok (.invokevirtual 103, 3) := by decide +kernel
theorem dX8_lineSetsOf_45 : decode cX8_lineSetsOf 45 = .ok (.ifCond .eq 6, 3) := by decide +kernel
theorem dX8_lineSetsOf_48 : decode cX8_lineSetsOf 48 = .ok (.iinc 3 1, 3) := by decide +kernel
theorem dX8_lineSetsOf_51 : decode cX8_lineSetsOf 51 = .ok (.iinc 4 1, 3) := by decide +kernel
theorem dX8_lineSetsOf_54 : decode cX8_lineSetsOf 54 = .ok (.goto (-35), 3) := by decide +kernel
theorem dX8_lineSetsOf_57 : decode cX8_lineSetsOf 57 = .ok (.iload_n 3, 1) := by decide +kernel
theorem dX8_lineSetsOf_58 : decode cX8_lineSetsOf 58 = .ok (.ireturn, 1) := by decide +kernel
abbrev o_X8_lineSetsOf_q106 : Type := Int32
def f_X8_lineSetsOf_q106_L19 (S : wd_W) (p1 : Int32) (x1 : Int32) (r4 : (Int32) → (Int32) → (Option o_X8_lineSetsOf_q106)) (x2 : Int32) (x3 : Int32) : Option o_X8_lineSetsOf_q106 :=
if (S.1 10603) < x3 then (
some x2) else (
bd (f_J6_bitCount_0f7a4 x3) fun o5 =>
lk (fun x6 =>
r4 x6 (x3 + (1 : Int32))) fun k51_7 =>
if o5 = p1 then (
bd (f_X8_isThrough_q106 (wd_o S [] [] [] [] []) (x3 ||| x1)) fun o8 =>
if o8 = 0 then (
k51_7 x2) else (
k51_7 (x2 + (1 : Int32)))) else (
k51_7 x2))
def f_X8_lineSetsOf_q106 (S : wd_W) (p1 : Int32) : Option o_X8_lineSetsOf_q106 :=
lz (((S.1 10602) - (1 : Int32)) &&& ((S.1 10603) ^^^ (-1 : Int32))) fun x1 =>
it2 (f_X8_lineSetsOf_q106_L19 S p1 x1) fuel (0 : Int32) (0 : Int32)
set_option maxRecDepth 100000 in
set_option maxHeartbeats 4000000 in
theorem c_X8_lineSetsOf_q106 (l : Launch) (D : va_G) (q g : Nat → Nat) (cy : Nat → ClassId) (z : (Nat → Nat) × (Nat → Nat) × Nat) (S : wd_W) (p1 : Int32) (o : o_X8_lineSetsOf_q106) (hf : f_X8_lineSetsOf_q106 S p1 = some o) : MX layX l yX8_lineSetsOf cX8_lineSetsOf 5 (some .int) ({ frames := 2, cells := 0, slots := 0, locals := 42 } : Room) D q g cy z [.ref (q 106), .int p1] S false (some (.int o)) (wd_o S [] [] [] [] []) 0 0 := by
  refine mx_of (own := RX8) (lc := [(0, .ref (q 106)), (1, .int p1)]) (by decide +kernel) rfl layX_ok (Nat.le_of_ble_eq_true rfl) rfl ?_
  intro X hXl hXq hXz hC hQ
  subst hXl; subst hXq; subst hXz
  unfold f_X8_lineSetsOf_q106 at hf
  refine go_aload_n (pc' := 1) hC dX8_lineSetsOf_0 rfl rfl ?_
  refine go_geti (v := (S.1 10602)) (pc' := 4) hC 106 2 layX_106 rfl rfl inlX8 (Nat.le_of_ble_eq_true rfl) mw_610 rfl dX8_lineSetsOf_1 rfl rfl ?_
  refine go_iconst (pc' := 5) hC dX8_lineSetsOf_4 ki_1 rfl ?_
  refine go_isub (pc' := 6) hC dX8_lineSetsOf_5 rfl ?_
  refine go_aload_n (pc' := 7) hC dX8_lineSetsOf_6 rfl rfl ?_
  refine go_geti (v := (S.1 10603)) (pc' := 10) hC 106 3 layX_106 rfl rfl inlX8 (Nat.le_of_ble_eq_true rfl) mw_612 rfl dX8_lineSetsOf_7 rfl rfl ?_
  refine go_iconst (pc' := 11) hC dX8_lineSetsOf_10 ki_m1 rfl ?_
  refine go_ixor (pc' := 12) hC dX8_lineSetsOf_11 rfl ?_
  refine go_iand (pc' := 13) hC dX8_lineSetsOf_12 rfl ?_
  refine go_namei (fun x1 hx => ?_)
  have hf := lz_r hx hf
  clear hx
  refine go_istore_n (lc' := [(0, .ref (x_q X 106)), (1, .int p1), (2, .int x1)]) (pc' := 14) hC dX8_lineSetsOf_13 (Nat.le_of_ble_eq_true rfl) rfl rfl ?_
  refine go_iconst (pc' := 15) hC dX8_lineSetsOf_14 ki_0 rfl ?_
  refine go_istore_n (lc' := [(0, .ref (x_q X 106)), (1, .int p1), (2, .int x1), (3, .int (0 : Int32))]) (pc' := 16) hC dX8_lineSetsOf_15 (Nat.le_of_ble_eq_true rfl) rfl rfl ?_
  refine go_iconst (pc' := 17) hC dX8_lineSetsOf_16 ki_0 rfl ?_
  refine go_istore (lc' := [(0, .ref (x_q X 106)), (1, .int p1), (2, .int x1), (3, .int (0 : Int32)), (4, .int (0 : Int32))]) (pc' := 19) hC dX8_lineSetsOf_17 (Nat.le_of_ble_eq_true rfl) rfl rfl ?_
  have l19_12 : ∀ (nn : Nat) (x2 : Int32) (x3 : Int32), it2 (f_X8_lineSetsOf_q106_L19 S p1 x1) nn x2 x3 = some o → Go X layX S 19 [(0, .ref (x_q X 106)), (1, .int p1), (2, .int x1), (3, .int x2), (4, .int x3)] [] g [] [] [] [] [] 0 0 := by
    intro nn
    induction nn with
    | zero =>
      intro x2 x3 hf
      exact none_no hf
    | succ nn ih =>
      intro x2 x3 hf
      have hf : f_X8_lineSetsOf_q106_L19 S p1 x1 (it2 (f_X8_lineSetsOf_q106_L19 S p1 x1) nn) x2 x3 = some o := hf
      generalize it2 (f_X8_lineSetsOf_q106_L19 S p1 x1) nn = r4 at ih hf
      unfold f_X8_lineSetsOf_q106_L19 at hf
      refine go_iload (pc' := 21) hC dX8_lineSetsOf_19 rfl rfl ?_
      refine go_aload_n (pc' := 22) hC dX8_lineSetsOf_21 rfl rfl ?_
      refine go_geti (v := (S.1 10603)) (pc' := 25) hC 106 3 layX_106 rfl rfl inlX8 (Nat.le_of_ble_eq_true rfl) mw_612 rfl dX8_lineSetsOf_22 rfl rfl ?_
      refine go_icmp_gt (tgt := 57) (pc' := 28) hC dX8_lineSetsOf_25 (by decide) rfl (fun h11 => ?_) (fun h11 => ?_)
      · have hf := ite_t h11 hf
        refine go_iload_n (pc' := 58) hC dX8_lineSetsOf_57 rfl rfl ?_
        obtain rfl := Option.some.inj hf
        exact go_iret hC hQ dX8_lineSetsOf_58 rfl rfl rfl rfl (fun _ => rfl) rfl rfl
      · have hf := ite_f h11 hf
        refine go_iload (pc' := 30) hC dX8_lineSetsOf_28 rfl rfl ?_
        obtain ⟨o5, ho5, hf⟩ := bd_e hf
        refine go_callS0 (pc' := 33) (As := [.int x3]) (st := []) (st' := [.int o5])    hC dX8_lineSetsOf_30 ⟨mw_1074, mw_677, mw_676, yd_yJ6_bitCount_0f7a4, yp_yJ6_bitCount_0f7a4, Nat.le_of_ble_eq_true rfl, Nat.le_of_ble_eq_true rfl, (Nat.le_of_ble_eq_true rfl), (Nat.le_of_ble_eq_true rfl)⟩ mw_675 rfl rfl (Nat.le_of_ble_eq_true rfl) (c_J6_bitCount_0f7a4 (x_l X) (x_D X) (x_q X) g (x_cy X) (x_z X) _ x3 o5 ho5) rfl rfl ?_
        refine go_iload_n (pc' := 34) hC dX8_lineSetsOf_33 rfl rfl ?_
        obtain ⟨k51_7, hk51_7, hf⟩ := lk_e1 hf
        have jk51_7 : ∀ (x6 : Int32), k51_7 x6 = some o → Go X layX S 51 [(0, .ref (x_q X 106)), (1, .int p1), (2, .int x1), (3, .int x6), (4, .int x3)] [] g [] [] [] [] [] 0 0 := by
          intro x6 hf
          have hf := hk51_7 x6 hf
          clear hk51_7
          refine go_iinc (lc' := [(0, .ref (x_q X 106)), (1, .int p1), (2, .int x1), (3, .int x6), (4, .int (x3 + (1 : Int32)))]) (pc' := 54) hC dX8_lineSetsOf_51 rfl ki_1 (Nat.le_of_ble_eq_true rfl) rfl rfl ?_
          refine go_goto (tgt := 19) hC dX8_lineSetsOf_54 (by decide) ?_
          exact ih x6 (x3 + (1 : Int32)) hf
        clear hk51_7
        refine go_icmp_ne (tgt := 51) (pc' := 37) hC dX8_lineSetsOf_34 (by decide) rfl (fun h10 => ?_) (fun h10 => ?_)
        · have hf := ite_f h10 hf
          exact jk51_7 x2 hf
        · have hf := ite_t h10 hf
          refine go_aload_n (pc' := 38) hC dX8_lineSetsOf_37 rfl rfl ?_
          refine go_iload (pc' := 40) hC dX8_lineSetsOf_38 rfl rfl ?_
          refine go_iload_n (pc' := 41) hC dX8_lineSetsOf_40 rfl rfl ?_
          refine go_ior (pc' := 42) hC dX8_lineSetsOf_41 rfl ?_
          obtain ⟨o8, ho8, hf⟩ := bd_e hf
          refine go_callV0 (pc' := 45) (As := [.int (x3 ||| x1)]) (st := []) (st' := [.int o8])    (b := 106) hC dX8_lineSetsOf_42 ⟨mw_914, mw_734, mw_31, yd_yX8_isThrough, yp_yX8_isThrough, Nat.le_of_ble_eq_true rfl, Nat.le_of_ble_eq_true rfl, (Nat.le_of_ble_eq_true rfl), (Nat.le_of_ble_eq_true rfl)⟩ mw_732 mw_733 layX_106 rfl rfl rfl (Nat.le_of_ble_eq_true rfl) (c_X8_isThrough_q106 (x_l X) (x_D X) (x_q X) g (x_cy X) (x_z X) _ (x3 ||| x1) o8 ho8) rfl rfl ?_
          refine go_if_eq (tgt := 51) (pc' := 48) hC dX8_lineSetsOf_45 (by decide) rfl (fun h9 => ?_) (fun h9 => ?_)
          · have hf := ite_t h9 hf
            exact jk51_7 x2 hf
          · have hf := ite_f h9 hf
            refine go_iinc (lc' := [(0, .ref (x_q X 106)), (1, .int p1), (2, .int x1), (3, .int (x2 + (1 : Int32))), (4, .int x3)]) (pc' := 51) hC dX8_lineSetsOf_48 rfl ki_1 (Nat.le_of_ble_eq_true rfl) rfl rfl ?_
            exact jk51_7 (x2 + (1 : Int32)) hf
  exact l19_12 fuel (0 : Int32) (0 : Int32) hf
theorem dX11_row_0 : decode cX11_row 0 = .ok (.iload_n 1, 1) := by decide +kernel
theorem dX11_row_1 : decode cX11_row 1 = .ok (.ifCond .lt 14, 3) := by decide +kernel
theorem dX11_row_4 : decode cX11_row 4 = .ok (.iload_n 1, 1) := by decide +kernel
theorem dX11_row_5 : decode cX11_row 5 = .ok (.aload_n 0, 1) := by decide +kernel
theorem dX11_row_6 : decode cX11_row 6 = .ok (.getfield 25, 3) := by decide +kernel
theorem dX11_row_9 : decode cX11_row 9 = .ok (.getfield 132, 3) := by decide +kernel
theorem dX11_row_12 : decode cX11_row 12 = .ok (.if_icmp .le 5, 3) := by decide +kernel
theorem dX11_row_15 : decode cX11_row 15 = .ok (.iconst 0, 1) := by decide +kernel
theorem dX11_row_16 : decode cX11_row 16 = .ok (.ireturn, 1) := by decide +kernel
theorem dX11_row_17 : decode cX11_row 17 = .ok (.aload_n 0, 1) := by decide +kernel
theorem dX11_row_18 : decode cX11_row 18 = .ok (.invokevirtual 171, 3) := by decide +kernel
theorem dX11_row_21 : decode cX11_row 21 = .ok (.iload_n 1, 1) := by decide +kernel
theorem dX11_row_22 : decode cX11_row 22 = .ok (.invokevirtual 219, 3) := by decide +kernel
theorem dX11_row_25 : decode cX11_row 25 = .ok (.ireturn, 1) := by decide +kernel
abbrev o_X11_row : Type := Int32 × wd_W × Nat × Nat
def f_X11_row (S : wd_W) (p1 : Int32) : Option o_X11_row :=
if p1 < 0 then (
some ((0 : Int32), S, 0, 0)) else (
if p1 ≤ (S.1 1601) then (
bd (f_X11_knownSets (wd_o S [] [] [] [] [])) fun o1 =>
gd (okr (0 + o1.2.1) (0 + o1.2.2) 0 0 40 500000) <|
bd (f_X8_lineSetsOf_q106 (wd_o o1.1 [] [] [] [] []) p1) fun o2 =>
some (o2, o1.1, 0 + o1.2.1, 0 + o1.2.2)) else (
some ((0 : Int32), S, 0, 0)))
set_option maxRecDepth 100000 in
set_option maxHeartbeats 4000000 in
theorem c_X11_row (l : Launch) (D : va_G) (q g : Nat → Nat) (cy : Nat → ClassId) (z : (Nat → Nat) × (Nat → Nat) × Nat) (S : wd_W) (p1 : Int32) (o : o_X11_row) (hf : f_X11_row S p1 = some o) : MX layX l yX11_row cX11_row 2 (some .int) ({ frames := 6, cells := 40, slots := 500000, locals := 147 } : Room) D q g cy z [.ref (q 0), .int p1] S true (some (.int o.1)) o.2.1 o.2.2.1 o.2.2.2 := by
  refine mx_of (own := RX11) (lc := [(0, .ref (q 0)), (1, .int p1)]) (by decide +kernel) rfl layX_ok (Nat.le_of_ble_eq_true rfl) rfl ?_
  intro X hXl hXq hXz hC hQ
  subst hXl; subst hXq; subst hXz
  unfold f_X11_row at hf
  refine go_iload_n (pc' := 1) hC dX11_row_0 rfl rfl ?_
  refine go_if_lt (tgt := 15) (pc' := 4) hC dX11_row_1 (by decide) rfl (fun h5 => ?_) (fun h5 => ?_)
  · have hf := ite_t h5 hf
    refine go_iconst (pc' := 16) hC dX11_row_15 ki_0 rfl ?_
    obtain rfl := Option.some.inj hf
    exact go_iret hC hQ dX11_row_16 rfl rfl rfl rfl (fun h => nomatch h) rfl rfl
  · have hf := ite_f h5 hf
    refine go_iload_n (pc' := 5) hC dX11_row_4 rfl rfl ?_
    refine go_aload_n (pc' := 6) hC dX11_row_5 rfl rfl ?_
    refine go_getq (pc' := 9) hC 0 2 layX_0 rfl rfl inlX11 (Nat.le_of_ble_eq_true rfl) mw_20 rfl dX11_row_6 rfl ?_
    refine go_geti (v := (S.1 1601)) (pc' := 12) hC 16 1 layX_16 rfl rfl inlX2 (Nat.le_of_ble_eq_true rfl) mw_562 rfl dX11_row_9 rfl rfl ?_
    refine go_icmp_le (tgt := 17) (pc' := 15) hC dX11_row_12 (by decide) rfl (fun h4 => ?_) (fun h4 => ?_)
    · have hf := ite_t h4 hf
      refine go_aload_n (pc' := 18) hC dX11_row_17 rfl rfl ?_
      obtain ⟨o1, ho1, hf⟩ := bd_e hf
      refine go_callVw (pc' := 21) (As := []) (st := []) (st' := [.ref (x_q X 106)])  (cells' := 0 + o1.2.1) (slots' := 0 + o1.2.2)  (b := 0) hC dX11_row_18 ⟨mw_593, mw_596, mw_2, yd_yX11_knownSets, yp_yX11_knownSets, Nat.le_of_ble_eq_true rfl, Nat.le_of_ble_eq_true rfl, (Nat.le_of_ble_eq_true rfl), (Nat.le_of_ble_eq_true rfl)⟩ mw_594 mw_595 layX_0 rfl rfl rfl (Nat.le_of_ble_eq_true rfl) (c_X11_knownSets (x_l X) (x_D X) (x_q X) g (x_cy X) (x_z X) _  o1 ho1) rfl rfl rfl rfl (fun g _ => ?_)
      refine go_iload_n (pc' := 22) hC dX11_row_21 rfl rfl ?_
      obtain ⟨h3, hf⟩ := gd_e hf
      obtain ⟨o2, ho2, hf⟩ := bd_e hf
      refine go_callV0 (pc' := 25) (As := [.int p1]) (st := []) (st' := [.int o2])   (rc := { frames := 2, cells := 0, slots := 0, locals := 42 }) (b := 106) hC dX11_row_22 ⟨mw_1070, mw_1073, mw_31, yd_yX8_lineSetsOf, yp_yX8_lineSetsOf, Nat.le_of_ble_eq_true rfl, Nat.le_of_ble_eq_true rfl, (okr_c h3), (okr_s h3)⟩ mw_1071 mw_1072 layX_106 rfl rfl rfl (Nat.le_of_ble_eq_true rfl) (c_X8_lineSetsOf_q106 (x_l X) (x_D X) (x_q X) g (x_cy X) (x_z X) _ p1 o2 ho2) rfl rfl ?_
      obtain rfl := Option.some.inj hf
      exact go_iret hC hQ dX11_row_25 rfl rfl rfl rfl (fun h => nomatch h) rfl rfl
    · have hf := ite_f h4 hf
      refine go_iconst (pc' := 16) hC dX11_row_15 ki_0 rfl ?_
      obtain rfl := Option.some.inj hf
      exact go_iret hC hQ dX11_row_16 rfl rfl rfl rfl (fun h => nomatch h) rfl rfl
theorem dX6_addMending_0 : decode cX6_addMending 0 = .ok (.aload_n 0, 1) := by decide +kernel
theorem dX6_addMending_1 : decode cX6_addMending 1 = .ok (.getfield 30, 3) := by decide +kernel
theorem dX6_addMending_4 : decode cX6_addMending 4 = .ok (.aload_n 0, 1) := by decide +kernel
theorem dX6_addMending_5 : decode cX6_addMending 5 = .ok (.getfield 9, 3) := by decide +kernel
theorem dX6_addMending_8 : decode cX6_addMending 8 = .ok (.arraylength, 1) := by decide +kernel
theorem dX6_addMending_9 : decode cX6_addMending 9 = .ok (.if_icmp .lt 5, 3) := by decide +kernel
theorem dX6_addMending_12 : decode cX6_addMending 12 = .ok (.iconst (-1), 1) := by decide +kernel
theorem dX6_addMending_13 : decode cX6_addMending 13 = .ok (.ireturn, 1) := by decide +kernel
theorem dX6_addMending_14 : decode cX6_addMending 14 = .ok (.aload_n 0, 1) := by decide +kernel
theorem dX6_addMending_15 : decode cX6_addMending 15 = .ok (.getfield 9, 3) := by decide +kernel
theorem dX6_addMending_18 : decode cX6_addMending 18 = .ok (.aload_n 0, 1) := by decide +kernel
theorem dX6_addMending_19 : decode cX6_addMending 19 = .ok (.getfield 30, 3) := by decide +kernel
theorem dX6_addMending_22 : decode cX6_addMending 22 = .ok (.iload_n 1, 1) := by decide +kernel
theorem dX6_addMending_23 : decode cX6_addMending 23 = .ok (.iastore, 1) := by decide +kernel
theorem dX6_addMending_24 : decode cX6_addMending 24 = .ok (.aload_n 0, 1) := by decide +kernel
theorem dX6_addMending_25 : decode cX6_addMending 25 = .ok (.getfield 15, 3) := by decide +kernel
theorem dX6_addMending_28 : decode cX6_addMending 28 = .ok (.aload_n 0, 1) := by decide +kernel
theorem dX6_addMending_29 : decode cX6_addMending 29 = .ok (.getfield 30, 3) := by decide +kernel
theorem dX6_addMending_32 : decode cX6_addMending 32 = .ok (.iload_n 2, 1) := by decide +kernel
theorem dX6_addMending_33 : decode cX6_addMending 33 = .ok (.iastore, 1) := by decide +kernel
theorem dX6_addMending_34 : decode cX6_addMending 34 = .ok (.aload_n 0, 1) := by decide +kernel
theorem dX6_addMending_35 : decode cX6_addMending 35 = .ok (.getfield 18, 3) := by decide +kernel
theorem dX6_addMending_38 : decode cX6_addMending 38 = .ok (.aload_n 0, 1) := by decide +kernel
theorem dX6_addMending_39 : decode cX6_addMending 39 = .ok (.getfield 30, 3) := by decide +kernel
theorem dX6_addMending_42 : decode cX6_addMending 42 = .ok (.iload_n 3, 1) := by decide +kernel
theorem dX6_addMending_43 : decode cX6_addMending 43 = .ok (.iastore, 1) := by decide +kernel
theorem dX6_addMending_44 : decode cX6_addMending 44 = .ok (.aload_n 0, 1) := by decide +kernel
theorem dX6_addMending_45 : decode cX6_addMending 45 = .ok (.dup, 1) := by decide +kernel
theorem dX6_addMending_46 : decode cX6_addMending 46 = .ok (.getfield 30, 3) := by decide +kernel
theorem dX6_addMending_49 : decode cX6_addMending 49 = .ok (.iconst 1, 1) := by decide +kernel
theorem dX6_addMending_50 : decode cX6_addMending 50 = .ok (.iadd, 1) := by decide +kernel
theorem dX6_addMending_51 : decode cX6_addMending 51 = .ok (.putfield 30, 3) := by decide +kernel
theorem dX6_addMending_54 : decode cX6_addMending 54 = .ok (.aload_n 0, 1) := by decide +kernel
theorem dX6_addMending_55 : decode cX6_addMending 55 = .ok (.getfield 30, 3) := by decide +kernel
theorem dX6_addMending_58 : decode cX6_addMending 58 = .ok (.iconst 1, 1) := by decide +kernel
theorem dX6_addMending_59 : decode cX6_addMending 59 = .ok (.isub, 1) := by decide +kernel
theorem dX6_addMending_60 : decode cX6_addMending 60 = .ok (.ireturn, 1) := by decide +kernel
abbrev o_X6_addMending_q27 : Type := Int32 × Int32 × (Nat → Int32) × (Nat → Int32) × (Nat → Int32)
def f_X6_addMending_q27 (S : wd_W) (p1 : Int32) (p2 : Int32) (p3 : Int32) : Option o_X6_addMending_q27 :=
if (S.1 2700) < (9 : Int32) then (
gd (okx (S.1 2700) 9) <|
lz (upd (S.2.2.1 28) (S.1 2700).toNatClampNeg p1) fun a2 =>
gd (okx (S.1 2700) 9) <|
lz (upd (S.2.2.1 29) (S.1 2700).toNatClampNeg p2) fun a4 =>
gd (okx (S.1 2700) 9) <|
lz (upd (S.2.2.1 30) (S.1 2700).toNatClampNeg p3) fun a6 =>
lz ((S.1 2700) + (1 : Int32)) fun x7 =>
some (x7 - (1 : Int32), x7, a2, a4, a6)) else (
some ((-1 : Int32), (S.1 2700), (S.2.2.1 28), (S.2.2.1 29), (S.2.2.1 30)))
set_option maxRecDepth 100000 in
set_option maxHeartbeats 4000000 in
theorem c_X6_addMending_q27 (l : Launch) (D : va_G) (q g : Nat → Nat) (cy : Nat → ClassId) (z : (Nat → Nat) × (Nat → Nat) × Nat) (S : wd_W) (p1 : Int32) (p2 : Int32) (p3 : Int32) (o : o_X6_addMending_q27) (hf : f_X6_addMending_q27 S p1 p2 p3 = some o) : MX layX l yX6_addMending cX6_addMending 4 (some .int) ({ frames := 0, cells := 0, slots := 0, locals := 0 } : Room) D q g cy z [.ref (q 27), .int p1, .int p2, .int p3] S false (some (.int o.1)) (wd_o S [(2700, o.2.1)] [] [(28, o.2.2.1), (29, o.2.2.2.1), (30, o.2.2.2.2)] [] []) 0 0 := by
  refine mx_of (own := RX6) (lc := [(0, .ref (q 27)), (1, .int p1), (2, .int p2), (3, .int p3)]) (by decide +kernel) rfl layX_ok (Nat.le_of_ble_eq_true rfl) rfl ?_
  intro X hXl hXq hXz hC hQ
  subst hXl; subst hXq; subst hXz
  unfold f_X6_addMending_q27 at hf
  refine go_keys (L1 := [(2700, (S.1 2700))]) (L2 := []) (L3 := [(28, (S.2.2.1 28)), (29, (S.2.2.1 29)), (30, (S.2.2.1 30))]) (L4 := []) (L5 := []) [2700] [] [28, 29, 30] [] [] rfl rfl rfl rfl rfl ?_
  refine go_aload_n (pc' := 1) hC dX6_addMending_0 rfl rfl ?_
  refine go_geti (v := (S.1 2700)) (pc' := 4) hC 27 0 layX_27 rfl rfl inlX6 (Nat.le_of_ble_eq_true rfl) mw_477 rfl dX6_addMending_1 rfl rfl ?_
  refine go_aload_n (pc' := 5) hC dX6_addMending_4 rfl rfl ?_
  refine go_getq (pc' := 8) hC 27 1 layX_27 rfl rfl inlX6 (Nat.le_of_ble_eq_true rfl) mw_81 rfl dX6_addMending_5 rfl ?_
  refine go_alen (v := (9 : Int32)) (pc' := 9) hC 28 layX_28 rfl (Nat.le_of_ble_eq_true rfl) kn_9 dX6_addMending_8 rfl ?_
  refine go_icmp_lt (tgt := 14) (pc' := 12) hC dX6_addMending_9 (by decide) rfl (fun h8 => ?_) (fun h8 => ?_)
  · have hf := ite_t h8 hf
    refine go_aload_n (pc' := 15) hC dX6_addMending_14 rfl rfl ?_
    refine go_getq (pc' := 18) hC 27 1 layX_27 rfl rfl inlX6 (Nat.le_of_ble_eq_true rfl) mw_81 rfl dX6_addMending_15 rfl ?_
    refine go_aload_n (pc' := 19) hC dX6_addMending_18 rfl rfl ?_
    refine go_geti (v := (S.1 2700)) (pc' := 22) hC 27 0 layX_27 rfl rfl inlX6 (Nat.le_of_ble_eq_true rfl) mw_477 rfl dX6_addMending_19 rfl rfl ?_
    refine go_iload_n (pc' := 23) hC dX6_addMending_22 rfl rfl ?_
    obtain ⟨h1, hf⟩ := gd_e hf
    refine go_iast (f := (S.2.2.1 28)) (pc' := 24) hC 28 layX_28 rfl rfl dX6_addMending_23 (okx_in h1) rfl rfl (fun a2 ha L3' hL => ?_)
    have hf := lz_r ha hf
    clear ha
    obtain rfl : L3' = [(28, a2), (29, (S.2.2.1 29)), (30, (S.2.2.1 30))] := hL.symm
    refine go_aload_n (pc' := 25) hC dX6_addMending_24 rfl rfl ?_
    refine go_getq (pc' := 28) hC 27 2 layX_27 rfl rfl inlX6 (Nat.le_of_ble_eq_true rfl) mw_82 rfl dX6_addMending_25 rfl ?_
    refine go_aload_n (pc' := 29) hC dX6_addMending_28 rfl rfl ?_
    refine go_geti (v := (S.1 2700)) (pc' := 32) hC 27 0 layX_27 rfl rfl inlX6 (Nat.le_of_ble_eq_true rfl) mw_477 rfl dX6_addMending_29 rfl rfl ?_
    refine go_iload_n (pc' := 33) hC dX6_addMending_32 rfl rfl ?_
    obtain ⟨h3, hf⟩ := gd_e hf
    refine go_iast (f := (S.2.2.1 29)) (pc' := 34) hC 29 layX_29 rfl rfl dX6_addMending_33 (okx_in h3) rfl rfl (fun a4 ha L3' hL => ?_)
    have hf := lz_r ha hf
    clear ha
    obtain rfl : L3' = [(28, a2), (29, a4), (30, (S.2.2.1 30))] := hL.symm
    refine go_aload_n (pc' := 35) hC dX6_addMending_34 rfl rfl ?_
    refine go_getq (pc' := 38) hC 27 3 layX_27 rfl rfl inlX6 (Nat.le_of_ble_eq_true rfl) mw_83 rfl dX6_addMending_35 rfl ?_
    refine go_aload_n (pc' := 39) hC dX6_addMending_38 rfl rfl ?_
    refine go_geti (v := (S.1 2700)) (pc' := 42) hC 27 0 layX_27 rfl rfl inlX6 (Nat.le_of_ble_eq_true rfl) mw_477 rfl dX6_addMending_39 rfl rfl ?_
    refine go_iload_n (pc' := 43) hC dX6_addMending_42 rfl rfl ?_
    obtain ⟨h5, hf⟩ := gd_e hf
    refine go_iast (f := (S.2.2.1 30)) (pc' := 44) hC 30 layX_30 rfl rfl dX6_addMending_43 (okx_in h5) rfl rfl (fun a6 ha L3' hL => ?_)
    have hf := lz_r ha hf
    clear ha
    obtain rfl : L3' = [(28, a2), (29, a4), (30, a6)] := hL.symm
    refine go_aload_n (pc' := 45) hC dX6_addMending_44 rfl rfl ?_
    refine go_dup (pc' := 46) hC dX6_addMending_45 rfl rfl ?_
    refine go_geti (v := (S.1 2700)) (pc' := 49) hC 27 0 layX_27 rfl rfl inlX6 (Nat.le_of_ble_eq_true rfl) mw_477 rfl dX6_addMending_46 rfl rfl ?_
    refine go_iconst (pc' := 50) hC dX6_addMending_49 ki_1 rfl ?_
    refine go_iadd (pc' := 51) hC dX6_addMending_50 rfl ?_
    refine go_namei (fun x7 hx => ?_)
    have hf := lz_r hx hf
    clear hx
    refine go_puti (L1' := [(2700, x7)]) (pc' := 54) hC 27 0 layX_27 rfl rfl inlX6 tyX6_ok nmX6 (Nat.le_of_ble_eq_true rfl) mw_477 rfl rfl rfl rfl dX6_addMending_51 rfl rfl rfl ?_
    refine go_aload_n (pc' := 55) hC dX6_addMending_54 rfl rfl ?_
    refine go_geti (v := x7) (pc' := 58) hC 27 0 layX_27 rfl rfl inlX6 (Nat.le_of_ble_eq_true rfl) mw_477 rfl dX6_addMending_55 rfl rfl ?_
    refine go_iconst (pc' := 59) hC dX6_addMending_58 ki_1 rfl ?_
    refine go_isub (pc' := 60) hC dX6_addMending_59 rfl ?_
    obtain rfl := Option.some.inj hf
    exact go_iret hC hQ dX6_addMending_60 rfl rfl rfl rfl (fun _ => rfl) rfl rfl
  · have hf := ite_f h8 hf
    refine go_iconst (pc' := 13) hC dX6_addMending_12 ki_m1 rfl ?_
    obtain rfl := Option.some.inj hf
    exact go_iret hC hQ dX6_addMending_13 rfl rfl rfl rfl (fun _ => rfl) rfl rfl
theorem dX11_mending_0 : decode cX11_mending 0 = .ok (.iload_n 1, 1) := by decide +kernel
theorem dX11_mending_1 : decode cX11_mending 1 = .ok (.ifCond .lt 26, 3) := by decide +kernel
theorem dX11_mending_4 : decode cX11_mending 4 = .ok (.iload_n 1, 1) := by decide +kernel
theorem dX11_mending_5 : decode cX11_mending 5 = .ok (.aload_n 0, 1) := by decide +kernel
theorem dX11_mending_6 : decode cX11_mending 6 = .ok (.getfield 25, 3) := by decide +kernel
theorem dX11_mending_9 : decode cX11_mending 9 = .ok (.getfield 132, 3) := by decide +kernel
theorem dX11_mending_12 : decode cX11_mending 12 = .ok (.if_icmp .ge 15, 3) := by decide +kernel
theorem dX11_mending_15 : decode cX11_mending 15 = .ok (.iload_n 2, 1) := by decide +kernel
theorem dX11_mending_16 : decode cX11_mending 16 = .ok (.iconst 1, 1) := by decide +kernel
theorem dX11_mending_17 : decode cX11_mending 17 = .ok (.if_icmp .lt 10, 3) := by decide +kernel
theorem dX11_mending_20 : decode cX11_mending 20 = .ok (.iload_n 2, 1) := by decide +kernel
theorem dX11_mending_21 : decode cX11_mending 21 = .ok (.sipush 999, 3) := by decide +kernel
theorem dX11_mending_24 : decode cX11_mending 24 = .ok (.if_icmp .le 5, 3) := by decide +kernel
theorem dX11_mending_27 : decode cX11_mending 27 = .ok (.iconst (-1), 1) := by decide +kernel
theorem dX11_mending_28 : decode cX11_mending 28 = .ok (.ireturn, 1) := by decide +kernel
theorem dX11_mending_29 : decode cX11_mending 29 = .ok (.iload_n 3, 1) := by decide +kernel
theorem dX11_mending_30 : decode cX11_mending 30 = .ok (.aload_n 0, 1) := by decide +kernel
theorem dX11_mending_31 : decode cX11_mending 31 = .ok (.getfield 25, 3) := by decide +kernel
theorem dX11_mending_34 : decode cX11_mending 34 = .ok (.getfield 142, 3) := by decide +kernel
theorem dX11_mending_37 : decode cX11_mending 37 = .ok (.iload_n 1, 1) := by decide +kernel
theorem dX11_mending_38 : decode cX11_mending 38 = .ok (.iaload, 1) := by decide +kernel
theorem dX11_mending_39 : decode cX11_mending 39 = .ok (.if_icmp .le 21, 3) := by decide +kernel
theorem dX11_mending_42 : decode cX11_mending 42 = .ok (.iload_n 3, 1) := by decide +kernel
theorem dX11_mending_43 : decode cX11_mending 43 = .ok (.bipush 16, 2) := by decide +kernel
theorem dX11_mending_45 : decode cX11_mending 45 = .ok (.if_icmp .gt 15, 3) := by decide +kernel
theorem dX11_mending_48 : decode cX11_mending 48 = .ok (.aload_n 0, 1) := by decide +kernel
theorem dX11_mending_49 : decode cX11_mending 49 = .ok (.getfield 31, 3) := by decide +kernel
theorem dX11_mending_52 : decode cX11_mending 52 = .ok (.getfield 222, 3) := by decide +kernel
theorem dX11_mending_55 : decode cX11_mending 55 = .ok (.bipush 9, 2) := by decide +kernel
theorem dX11_mending_57 : decode cX11_mending 57 = .ok (.if_icmp .lt 5, 3) := by decide +kernel
theorem dX11_mending_60 : decode cX11_mending 60 = .ok (.iconst (-1), 1) := by decide +kernel
theorem dX11_mending_61 : decode cX11_mending 61 = .ok (.ireturn, 1) := by decide +kernel
theorem dX11_mending_62 : decode cX11_mending 62 = .ok (.aload_n 0, 1) := by decide +kernel
theorem dX11_mending_63 : decode cX11_mending 63 = .ok (.dup, 1) := by decide +kernel
theorem dX11_mending_64 : decode cX11_mending 64 = .ok (.getfield 225, 3) := by decide +kernel
theorem dX11_mending_67 : decode cX11_mending 67 = .ok (.bipush (-17), 2) := by decide +kernel
theorem dX11_mending_69 : decode cX11_mending 69 = .ok (.iand, 1) := by decide +kernel
theorem dX11_mending_70 : decode cX11_mending 70 = .ok (.putfield 225, 3) := by decide +kernel
theorem dX11_mending_73 : decode cX11_mending 73 = .ok (.aload_n 0, 1) := by decide +kernel
theorem dX11_mending_74 : decode cX11_mending 74 = .ok (.getfield 31, 3) := by decide +kernel
theorem dX11_mending_77 : decode cX11_mending 77 = .ok (.iload_n 1, 1) := by decide +kernel
theorem dX11_mending_78 : decode cX11_mending 78 = .ok (.iload_n 2, 1) := by decide +kernel
theorem dX11_mending_79 : decode cX11_mending 79 = .ok (.iload_n 3, 1) := by decide +kernel
theorem dX11_mending_80 : decode cX11_mending 80 = .ok (.invokevirtual 228, 3) := by decide +kernel
theorem dX11_mending_83 : decode cX11_mending 83 = .ok (.ireturn, 1) := by decide +kernel
abbrev o_X11_mending : Type := Int32 × Int32 × Int32 × (Nat → Int32) × (Nat → Int32) × (Nat → Int32)
def f_X11_mending (S : wd_W) (p1 : Int32) (p2 : Int32) (p3 : Int32) : Option o_X11_mending :=
if p1 < 0 then (
some ((-1 : Int32), (S.1 7), (S.1 2700), (S.2.2.1 28), (S.2.2.1 29), (S.2.2.1 30))) else (
if (S.1 1601) ≤ p1 then (
some ((-1 : Int32), (S.1 7), (S.1 2700), (S.2.2.1 28), (S.2.2.1 29), (S.2.2.1 30))) else (
if p2 < (1 : Int32) then (
some ((-1 : Int32), (S.1 7), (S.1 2700), (S.2.2.1 28), (S.2.2.1 29), (S.2.2.1 30))) else (
if p2 ≤ (999 : Int32) then (
gd (okx p1 13) <|
if p3 ≤ ((S.2.2.1 19) p1.toNatClampNeg) then (
some ((-1 : Int32), (S.1 7), (S.1 2700), (S.2.2.1 28), (S.2.2.1 29), (S.2.2.1 30))) else (
if (16 : Int32) < p3 then (
some ((-1 : Int32), (S.1 7), (S.1 2700), (S.2.2.1 28), (S.2.2.1 29), (S.2.2.1 30))) else (
if (S.1 2700) < (9 : Int32) then (
lz ((S.1 7) &&& (-17 : Int32)) fun x2 =>
bd (f_X6_addMending_q27 (wd_o S [(7, x2), (2700, (S.1 2700))] [] [(28, (S.2.2.1 28)), (29, (S.2.2.1 29)), (30, (S.2.2.1 30))] [] []) p1 p2 p3) fun o3 =>
some (o3.1, x2, o3.2.1, o3.2.2.1, o3.2.2.2.1, o3.2.2.2.2)) else (
some ((-1 : Int32), (S.1 7), (S.1 2700), (S.2.2.1 28), (S.2.2.1 29), (S.2.2.1 30)))))) else (
some ((-1 : Int32), (S.1 7), (S.1 2700), (S.2.2.1 28), (S.2.2.1 29), (S.2.2.1 30))))))
set_option maxRecDepth 100000 in
set_option maxHeartbeats 4000000 in
theorem c_X11_mending (l : Launch) (D : va_G) (q g : Nat → Nat) (cy : Nat → ClassId) (z : (Nat → Nat) × (Nat → Nat) × Nat) (S : wd_W) (p1 : Int32) (p2 : Int32) (p3 : Int32) (o : o_X11_mending) (hf : f_X11_mending S p1 p2 p3 = some o) : MX layX l yX11_mending cX11_mending 4 (some .int) ({ frames := 1, cells := 0, slots := 0, locals := 23 } : Room) D q g cy z [.ref (q 0), .int p1, .int p2, .int p3] S false (some (.int o.1)) (wd_o S [(7, o.2.1), (2700, o.2.2.1)] [] [(28, o.2.2.2.1), (29, o.2.2.2.2.1), (30, o.2.2.2.2.2)] [] []) 0 0 := by
  refine mx_of (own := RX11) (lc := [(0, .ref (q 0)), (1, .int p1), (2, .int p2), (3, .int p3)]) (by decide +kernel) rfl layX_ok (Nat.le_of_ble_eq_true rfl) rfl ?_
  intro X hXl hXq hXz hC hQ
  subst hXl; subst hXq; subst hXz
  unfold f_X11_mending at hf
  refine go_keys (L1 := [(7, (S.1 7)), (2700, (S.1 2700))]) (L2 := []) (L3 := [(28, (S.2.2.1 28)), (29, (S.2.2.1 29)), (30, (S.2.2.1 30))]) (L4 := []) (L5 := []) [7, 2700] [] [28, 29, 30] [] [] rfl rfl rfl rfl rfl ?_
  refine go_iload_n (pc' := 1) hC dX11_mending_0 rfl rfl ?_
  refine go_if_lt (tgt := 27) (pc' := 4) hC dX11_mending_1 (by decide) rfl (fun h10 => ?_) (fun h10 => ?_)
  · have hf := ite_t h10 hf
    refine go_iconst (pc' := 28) hC dX11_mending_27 ki_m1 rfl ?_
    obtain rfl := Option.some.inj hf
    exact go_iret hC hQ dX11_mending_28 rfl rfl rfl rfl (fun _ => rfl) rfl rfl
  · have hf := ite_f h10 hf
    refine go_iload_n (pc' := 5) hC dX11_mending_4 rfl rfl ?_
    refine go_aload_n (pc' := 6) hC dX11_mending_5 rfl rfl ?_
    refine go_getq (pc' := 9) hC 0 2 layX_0 rfl rfl inlX11 (Nat.le_of_ble_eq_true rfl) mw_20 rfl dX11_mending_6 rfl ?_
    refine go_geti (v := (S.1 1601)) (pc' := 12) hC 16 1 layX_16 rfl rfl inlX2 (Nat.le_of_ble_eq_true rfl) mw_562 rfl dX11_mending_9 rfl rfl ?_
    refine go_icmp_ge (tgt := 27) (pc' := 15) hC dX11_mending_12 (by decide) rfl (fun h9 => ?_) (fun h9 => ?_)
    · have hf := ite_t h9 hf
      refine go_iconst (pc' := 28) hC dX11_mending_27 ki_m1 rfl ?_
      obtain rfl := Option.some.inj hf
      exact go_iret hC hQ dX11_mending_28 rfl rfl rfl rfl (fun _ => rfl) rfl rfl
    · have hf := ite_f h9 hf
      refine go_iload_n (pc' := 16) hC dX11_mending_15 rfl rfl ?_
      refine go_iconst (pc' := 17) hC dX11_mending_16 ki_1 rfl ?_
      refine go_icmp_lt (tgt := 27) (pc' := 20) hC dX11_mending_17 (by decide) rfl (fun h8 => ?_) (fun h8 => ?_)
      · have hf := ite_t h8 hf
        refine go_iconst (pc' := 28) hC dX11_mending_27 ki_m1 rfl ?_
        obtain rfl := Option.some.inj hf
        exact go_iret hC hQ dX11_mending_28 rfl rfl rfl rfl (fun _ => rfl) rfl rfl
      · have hf := ite_f h8 hf
        refine go_iload_n (pc' := 21) hC dX11_mending_20 rfl rfl ?_
        refine go_sipush (pc' := 24) hC dX11_mending_21 ks_999 rfl ?_
        refine go_icmp_le (tgt := 29) (pc' := 27) hC dX11_mending_24 (by decide) rfl (fun h7 => ?_) (fun h7 => ?_)
        · have hf := ite_t h7 hf
          refine go_iload_n (pc' := 30) hC dX11_mending_29 rfl rfl ?_
          refine go_aload_n (pc' := 31) hC dX11_mending_30 rfl rfl ?_
          refine go_getq (pc' := 34) hC 0 2 layX_0 rfl rfl inlX11 (Nat.le_of_ble_eq_true rfl) mw_20 rfl dX11_mending_31 rfl ?_
          refine go_getq (pc' := 37) hC 16 4 layX_16 rfl rfl inlX2 (Nat.le_of_ble_eq_true rfl) mw_565 rfl dX11_mending_34 rfl ?_
          refine go_iload_n (pc' := 38) hC dX11_mending_37 rfl rfl ?_
          obtain ⟨h1, hf⟩ := gd_e hf
          refine go_iald (f := (S.2.2.1 19)) (pc' := 39) hC 19 layX_19 rfl rfl dX11_mending_38 (okx_in h1) rfl ?_
          refine go_icmp_le (tgt := 60) (pc' := 42) hC dX11_mending_39 (by decide) rfl (fun h6 => ?_) (fun h6 => ?_)
          · have hf := ite_t h6 hf
            refine go_iconst (pc' := 61) hC dX11_mending_60 ki_m1 rfl ?_
            obtain rfl := Option.some.inj hf
            exact go_iret hC hQ dX11_mending_61 rfl rfl rfl rfl (fun _ => rfl) rfl rfl
          · have hf := ite_f h6 hf
            refine go_iload_n (pc' := 43) hC dX11_mending_42 rfl rfl ?_
            refine go_bipush (pc' := 45) hC dX11_mending_43 kb_16 rfl ?_
            refine go_icmp_gt (tgt := 60) (pc' := 48) hC dX11_mending_45 (by decide) rfl (fun h5 => ?_) (fun h5 => ?_)
            · have hf := ite_t h5 hf
              refine go_iconst (pc' := 61) hC dX11_mending_60 ki_m1 rfl ?_
              obtain rfl := Option.some.inj hf
              exact go_iret hC hQ dX11_mending_61 rfl rfl rfl rfl (fun _ => rfl) rfl rfl
            · have hf := ite_f h5 hf
              refine go_aload_n (pc' := 49) hC dX11_mending_48 rfl rfl ?_
              refine go_getq (pc' := 52) hC 0 3 layX_0 rfl rfl inlX11 (Nat.le_of_ble_eq_true rfl) mw_24 rfl dX11_mending_49 rfl ?_
              refine go_geti (v := (S.1 2700)) (pc' := 55) hC 27 0 layX_27 rfl rfl inlX6 (Nat.le_of_ble_eq_true rfl) mw_1083 rfl dX11_mending_52 rfl rfl ?_
              refine go_bipush (pc' := 57) hC dX11_mending_55 kb_9 rfl ?_
              refine go_icmp_lt (tgt := 62) (pc' := 60) hC dX11_mending_57 (by decide) rfl (fun h4 => ?_) (fun h4 => ?_)
              · have hf := ite_t h4 hf
                refine go_aload_n (pc' := 63) hC dX11_mending_62 rfl rfl ?_
                refine go_dup (pc' := 64) hC dX11_mending_63 rfl rfl ?_
                refine go_geti (v := (S.1 7)) (pc' := 67) hC 0 7 layX_0 rfl rfl inlX11 (Nat.le_of_ble_eq_true rfl) mw_483 rfl dX11_mending_64 rfl rfl ?_
                refine go_bipush (pc' := 69) hC dX11_mending_67 kb_m17 rfl ?_
                refine go_iand (pc' := 70) hC dX11_mending_69 rfl ?_
                refine go_namei (fun x2 hx => ?_)
                have hf := lz_r hx hf
                clear hx
                refine go_puti (L1' := [(7, x2), (2700, (S.1 2700))]) (pc' := 73) hC 0 7 layX_0 rfl rfl inlX11 tyX11_ok nmX11 (Nat.le_of_ble_eq_true rfl) mw_483 rfl rfl rfl rfl dX11_mending_70 rfl rfl rfl ?_
                refine go_aload_n (pc' := 74) hC dX11_mending_73 rfl rfl ?_
                refine go_getq (pc' := 77) hC 0 3 layX_0 rfl rfl inlX11 (Nat.le_of_ble_eq_true rfl) mw_24 rfl dX11_mending_74 rfl ?_
                refine go_iload_n (pc' := 78) hC dX11_mending_77 rfl rfl ?_
                refine go_iload_n (pc' := 79) hC dX11_mending_78 rfl rfl ?_
                refine go_iload_n (pc' := 80) hC dX11_mending_79 rfl rfl ?_
                obtain ⟨o3, ho3, hf⟩ := bd_e hf
                refine go_callV1 (pc' := 83) (As := [.int p1, .int p2, .int p3]) (st := []) (st' := [.int o3.1]) (L1' := [(7, x2), (2700, o3.2.1)]) (L2' := []) (L3' := [(28, o3.2.2.1), (29, o3.2.2.2.1), (30, o3.2.2.2.2)]) (L4' := []) (L5' := []) (cells' := 0) (slots' := 0)  (b := 27) hC dX11_mending_80 ⟨mw_1084, mw_1087, mw_23, yd_yX6_addMending, yp_yX6_addMending, Nat.le_of_ble_eq_true rfl, Nat.le_of_ble_eq_true rfl, (Nat.le_of_ble_eq_true rfl), (Nat.le_of_ble_eq_true rfl)⟩ mw_1085 mw_1086 layX_27 rfl rfl rfl (Nat.le_of_ble_eq_true rfl) (c_X6_addMending_q27 (x_l X) (x_D X) (x_q X) g (x_cy X) (x_z X) _ p1 p2 p3 o3 ho3) rfl rfl rfl rfl rfl rfl rfl rfl rfl rfl rfl rfl rfl rfl ?_
                obtain rfl := Option.some.inj hf
                exact go_iret hC hQ dX11_mending_83 rfl rfl rfl rfl (fun _ => rfl) rfl rfl
              · have hf := ite_f h4 hf
                refine go_iconst (pc' := 61) hC dX11_mending_60 ki_m1 rfl ?_
                obtain rfl := Option.some.inj hf
                exact go_iret hC hQ dX11_mending_61 rfl rfl rfl rfl (fun _ => rfl) rfl rfl
        · have hf := ite_f h7 hf
          refine go_iconst (pc' := 28) hC dX11_mending_27 ki_m1 rfl ?_
          obtain rfl := Option.some.inj hf
          exact go_iret hC hQ dX11_mending_28 rfl rfl rfl rfl (fun _ => rfl) rfl rfl
theorem dX6_coinsOf_0 : decode cX6_coinsOf 0 = .ok (.iconst 0, 1) := by decide +kernel
theorem dX6_coinsOf_1 : decode cX6_coinsOf 1 = .ok (.istore_n 2, 1) := by decide +kernel
theorem dX6_coinsOf_2 : decode cX6_coinsOf 2 = .ok (.iconst 0, 1) := by decide +kernel
theorem dX6_coinsOf_3 : decode cX6_coinsOf 3 = .ok (.istore_n 3, 1) := by decide +kernel
theorem dX6_coinsOf_4 : decode cX6_coinsOf 4 = .ok (.iload_n 3, 1) := by decide +kernel
theorem dX6_coinsOf_5 : decode cX6_coinsOf 5 = .ok (.aload_n 0, 1) := by decide +kernel
theorem dX6_coinsOf_6 : decode cX6_coinsOf 6 = .ok (.getfield 30, 3) := by decide +kernel
theorem dX6_coinsOf_9 : decode cX6_coinsOf 9 = .ok (.if_icmp .ge 24, 3) := by decide +kernel
theorem dX6_coinsOf_12 : decode cX6_coinsOf 12 = .ok (.iload_n 2, 1) := by decide +kernel
theorem dX6_coinsOf_13 : decode cX6_coinsOf 13 = .ok (.iload_n 1, 1) := by decide +kernel
theorem dX6_coinsOf_14 : decode cX6_coinsOf 14 = .ok (.iload_n 3, 1) := by decide +kernel
theorem dX6_coinsOf_15 : decode cX6_coinsOf 15 = .ok (.ishr, 1) := by decide +kernel
theorem dX6_coinsOf_16 : decode cX6_coinsOf 16 = .ok (.iconst 1, 1) := by decide +kernel
theorem dX6_coinsOf_17 : decode cX6_coinsOf 17 = .ok (.iand, 1) := by decide +kernel
theorem dX6_coinsOf_18 : decode cX6_coinsOf 18 = .ok (.aload_n 0, 1) := by decide +kernel
theorem dX6_coinsOf_19 : decode cX6_coinsOf 19 = .ok (.getfield 15, 3) := by decide +kernel
theorem dX6_coinsOf_22 : decode cX6_coinsOf 22 = .ok (.iload_n 3, 1) := by decide +kernel
theorem dX6_coinsOf_23 : decode cX6_coinsOf 23 = .ok (.iaload, 1) := by decide +kernel
theorem dX6_coinsOf_24 : decode cX6_coinsOf 24 = .ok (.imul, 1) := by decide +kernel
theorem dX6_coinsOf_25 : decode cX6_coinsOf 25 = .ok (.iadd, 1) := by decide +kernel
theorem dX6_coinsOf_26 : decode cX6_coinsOf 26 = .ok (.istore_n 2, 1) := by decide +kernel
theorem dX6_coinsOf_27 : decode cX6_coinsOf 27 = .ok (.iinc 3 1, 3) := by decide +kernel
theorem dX6_coinsOf_30 : decode cX6_coinsOf 30 = .ok (.goto (-26), 3) := by decide +kernel
theorem dX6_coinsOf_33 : decode cX6_coinsOf 33 = .ok (.iload_n 2, 1) := by decide +kernel
theorem dX6_coinsOf_34 : decode cX6_coinsOf 34 = .ok (.ireturn, 1) := by decide +kernel
abbrev o_X6_coinsOf_q27 : Type := Int32
def f_X6_coinsOf_q27_L4 (S : wd_W) (p1 : Int32) (r3 : (Int32) → (Int32) → (Option o_X6_coinsOf_q27)) (x1 : Int32) (x2 : Int32) : Option o_X6_coinsOf_q27 :=
if (S.1 2700) ≤ x2 then (
some x1) else (
gd (okx x2 9) <|
lz (x1 + (((p1 >>> (x2 &&& 31)) &&& (1 : Int32)) * ((S.2.2.1 29) x2.toNatClampNeg))) fun x5 =>
r3 x5 (x2 + (1 : Int32)))
def f_X6_coinsOf_q27 (S : wd_W) (p1 : Int32) : Option o_X6_coinsOf_q27 :=
it2 (f_X6_coinsOf_q27_L4 S p1) fuel (0 : Int32) (0 : Int32)
set_option maxRecDepth 100000 in
set_option maxHeartbeats 4000000 in
theorem c_X6_coinsOf_q27 (l : Launch) (D : va_G) (q g : Nat → Nat) (cy : Nat → ClassId) (z : (Nat → Nat) × (Nat → Nat) × Nat) (S : wd_W) (p1 : Int32) (o : o_X6_coinsOf_q27) (hf : f_X6_coinsOf_q27 S p1 = some o) : MX layX l yX6_coinsOf cX6_coinsOf 4 (some .int) ({ frames := 0, cells := 0, slots := 0, locals := 0 } : Room) D q g cy z [.ref (q 27), .int p1] S false (some (.int o)) (wd_o S [] [] [] [] []) 0 0 := by
  refine mx_of (own := RX6) (lc := [(0, .ref (q 27)), (1, .int p1)]) (by decide +kernel) rfl layX_ok (Nat.le_of_ble_eq_true rfl) rfl ?_
  intro X hXl hXq hXz hC hQ
  subst hXl; subst hXq; subst hXz
  unfold f_X6_coinsOf_q27 at hf
  refine go_iconst (pc' := 1) hC dX6_coinsOf_0 ki_0 rfl ?_
  refine go_istore_n (lc' := [(0, .ref (x_q X 27)), (1, .int p1), (2, .int (0 : Int32))]) (pc' := 2) hC dX6_coinsOf_1 (Nat.le_of_ble_eq_true rfl) rfl rfl ?_
  refine go_iconst (pc' := 3) hC dX6_coinsOf_2 ki_0 rfl ?_
  refine go_istore_n (lc' := [(0, .ref (x_q X 27)), (1, .int p1), (2, .int (0 : Int32)), (3, .int (0 : Int32))]) (pc' := 4) hC dX6_coinsOf_3 (Nat.le_of_ble_eq_true rfl) rfl rfl ?_
  have l4_7 : ∀ (nn : Nat) (x1 : Int32) (x2 : Int32), it2 (f_X6_coinsOf_q27_L4 S p1) nn x1 x2 = some o → Go X layX S 4 [(0, .ref (x_q X 27)), (1, .int p1), (2, .int x1), (3, .int x2)] [] g [] [] [] [] [] 0 0 := by
    intro nn
    induction nn with
    | zero =>
      intro x1 x2 hf
      exact none_no hf
    | succ nn ih =>
      intro x1 x2 hf
      have hf : f_X6_coinsOf_q27_L4 S p1 (it2 (f_X6_coinsOf_q27_L4 S p1) nn) x1 x2 = some o := hf
      generalize it2 (f_X6_coinsOf_q27_L4 S p1) nn = r3 at ih hf
      unfold f_X6_coinsOf_q27_L4 at hf
      refine go_iload_n (pc' := 5) hC dX6_coinsOf_4 rfl rfl ?_
      refine go_aload_n (pc' := 6) hC dX6_coinsOf_5 rfl rfl ?_
      refine go_geti (v := (S.1 2700)) (pc' := 9) hC 27 0 layX_27 rfl rfl inlX6 (Nat.le_of_ble_eq_true rfl) mw_477 rfl dX6_coinsOf_6 rfl rfl ?_
      refine go_icmp_ge (tgt := 33) (pc' := 12) hC dX6_coinsOf_9 (by decide) rfl (fun h6 => ?_) (fun h6 => ?_)
      · have hf := ite_t h6 hf
        refine go_iload_n (pc' := 34) hC dX6_coinsOf_33 rfl rfl ?_
        obtain rfl := Option.some.inj hf
        exact go_iret hC hQ dX6_coinsOf_34 rfl rfl rfl rfl (fun _ => rfl) rfl rfl
      · have hf := ite_f h6 hf
        refine go_iload_n (pc' := 13) hC dX6_coinsOf_12 rfl rfl ?_
        refine go_iload_n (pc' := 14) hC dX6_coinsOf_13 rfl rfl ?_
        refine go_iload_n (pc' := 15) hC dX6_coinsOf_14 rfl rfl ?_
        refine go_ishr (pc' := 16) hC dX6_coinsOf_15 rfl ?_
        refine go_iconst (pc' := 17) hC dX6_coinsOf_16 ki_1 rfl ?_
        refine go_iand (pc' := 18) hC dX6_coinsOf_17 rfl ?_
        refine go_aload_n (pc' := 19) hC dX6_coinsOf_18 rfl rfl ?_
        refine go_getq (pc' := 22) hC 27 2 layX_27 rfl rfl inlX6 (Nat.le_of_ble_eq_true rfl) mw_82 rfl dX6_coinsOf_19 rfl ?_
        refine go_iload_n (pc' := 23) hC dX6_coinsOf_22 rfl rfl ?_
        obtain ⟨h4, hf⟩ := gd_e hf
        refine go_iald (f := (S.2.2.1 29)) (pc' := 24) hC 29 layX_29 rfl rfl dX6_coinsOf_23 (okx_in h4) rfl ?_
        refine go_imul (pc' := 25) hC dX6_coinsOf_24 rfl ?_
        refine go_iadd (pc' := 26) hC dX6_coinsOf_25 rfl ?_
        refine go_namei (fun x5 hx => ?_)
        have hf := lz_r hx hf
        clear hx
        refine go_istore_n (lc' := [(0, .ref (x_q X 27)), (1, .int p1), (2, .int x5), (3, .int x2)]) (pc' := 27) hC dX6_coinsOf_26 (Nat.le_of_ble_eq_true rfl) rfl rfl ?_
        refine go_iinc (lc' := [(0, .ref (x_q X 27)), (1, .int p1), (2, .int x5), (3, .int (x2 + (1 : Int32)))]) (pc' := 30) hC dX6_coinsOf_27 rfl ki_1 (Nat.le_of_ble_eq_true rfl) rfl rfl ?_
        refine go_goto (tgt := 4) hC dX6_coinsOf_30 (by decide) ?_
        exact ih x5 (x2 + (1 : Int32)) hf
  exact l4_7 fuel (0 : Int32) (0 : Int32) hf
theorem dX0_bestMended_0 : decode cX0_bestMended 0 = .ok (.iconst 0, 1) := by decide +kernel
theorem dX0_bestMended_1 : decode cX0_bestMended 1 = .ok (.istore_n 2, 1) := by decide +kernel
theorem dX0_bestMended_2 : decode cX0_bestMended 2 = .ok (.iconst 0, 1) := by decide +kernel
theorem dX0_bestMended_3 : decode cX0_bestMended 3 = .ok (.istore_n 3, 1) := by decide +kernel
theorem dX0_bestMended_4 : decode cX0_bestMended 4 = .ok (.iconst 1, 1) := by decide +kernel
theorem dX0_bestMended_5 : decode cX0_bestMended 5 = .ok (.istore 4, 2) := by decide +kernel
theorem dX0_bestMended_7 : decode cX0_bestMended 7 = .ok (.iload 4, 2) := by decide +kernel
theorem dX0_bestMended_9 : decode cX0_bestMended 9 = .ok (.iconst 1, 1) := by decide +kernel
theorem dX0_bestMended_10 : decode cX0_bestMended 10 = .ok (.aload_n 0, 1) := by decide +kernel
theorem dX0_bestMended_11 : decode cX0_bestMended 11 = .ok (.getfield 31, 3) := by decide +kernel
theorem dX0_bestMended_14 : decode cX0_bestMended 14 = .ok (.getfield 105, 3) := by decide +kernel
theorem dX0_bestMended_17 : decode cX0_bestMended 17 = .ok (.ishl, 1) := by decide +kernel
theorem dX0_bestMended_18 : decode cX0_bestMended 18 = .ok (.if_icmp .ge 84, 3) := by decide +kernel
theorem dX0_bestMended_21 : decode cX0_bestMended 21 = .ok (.aload_n 0, 1) := by decide +kernel
theorem dX0_bestMended_22 : decode cX0_bestMended 22 = .ok (.getfield 31, 3) := by decide +kernel
theorem dX0_bestMended_25 : decode cX0_bestMended 25 = .ok (.iload 4, 2) := by decide +kernel
theorem dX0_bestMended_27 : decode cX0_bestMended 27 = .ok (.invokevirtual 126, 3) := by decide +kernel
theorem dX0_bestMended_30 : decode cX0_bestMended 30 = .ok (.istore 5, 2) := by decide +kernel
theorem dX0_bestMended_32 : decode cX0_bestMended 32 = .ok (.aload_n 0, 1) := by decide +kernel
theorem dX0_bestMended_33 : decode cX0_bestMended 33 = .ok (.getfield 15, 3) := by decide +kernel
theorem dX0_bestMended_36 : decode cX0_bestMended 36 = .ok (.iload 4, 2) := by decide +kernel
theorem dX0_bestMended_38 : decode cX0_bestMended 38 = .ok (.laload, 1) := by decide +kernel
theorem dX0_bestMended_39 : decode cX0_bestMended 39 = .ok (.aload_n 0, 1) := by decide +kernel
theorem dX0_bestMended_40 : decode cX0_bestMended 40 = .ok (.getfield 15, 3) := by decide +kernel
theorem dX0_bestMended_43 : decode cX0_bestMended 43 = .ok (.iload_n 2, 1) := by decide +kernel
theorem dX0_bestMended_44 : decode cX0_bestMended 44 = .ok (.laload, 1) := by decide +kernel
theorem dX0_bestMended_45 : decode cX0_bestMended 45 = .ok (.lcmp, 1) := by decide +kernel
theorem dX0_bestMended_46 : decode cX0_bestMended 46 = .ok (.ifCond .gt 26, 3) := by decide +kernel
theorem dX0_bestMended_49 : decode cX0_bestMended 49 = .ok (.aload_n 0, 1) := by decide +kernel
theorem dX0_bestMended_50 : decode cX0_bestMended 50 = .ok (.getfield 15, 3) := by decide +kernel
theorem dX0_bestMended_53 : decode cX0_bestMended 53 = .ok (.iload 4, 2) := by decide +kernel
theorem dX0_bestMended_55 : decode cX0_bestMended 55 = .ok (.laload, 1) := by decide +kernel
theorem dX0_bestMended_56 : decode cX0_bestMended 56 = .ok (.aload_n 0, 1) := by decide +kernel
theorem dX0_bestMended_57 : decode cX0_bestMended 57 = .ok (.getfield 15, 3) := by decide +kernel
theorem dX0_bestMended_60 : decode cX0_bestMended 60 = .ok (.iload_n 2, 1) := by decide +kernel
theorem dX0_bestMended_61 : decode cX0_bestMended 61 = .ok (.laload, 1) := by decide +kernel
theorem dX0_bestMended_62 : decode cX0_bestMended 62 = .ok (.lcmp, 1) := by decide +kernel
theorem dX0_bestMended_63 : decode cX0_bestMended 63 = .ok (.ifCond .ne 13, 3) := by decide +kernel
theorem dX0_bestMended_66 : decode cX0_bestMended 66 = .ok (.iload 5, 2) := by decide +kernel
theorem dX0_bestMended_68 : decode cX0_bestMended 68 = .ok (.iload_n 3, 1) := by decide +kernel
theorem dX0_bestMended_69 : decode cX0_bestMended 69 = .ok (.if_icmp .ge 7, 3) := by decide +kernel
theorem dX0_bestMended_72 : decode cX0_bestMended 72 = .ok (.iconst 1, 1) := by decide +kernel
theorem dX0_bestMended_73 : decode cX0_bestMended 73 = .ok (.goto 4, 3) := by decide +kernel
theorem dX0_bestMended_76 : decode cX0_bestMended 76 = .ok (.iconst 0, 1) := by decide +kernel
theorem dX0_bestMended_77 : decode cX0_bestMended 77 = .ok (.istore 6, 2) := by decide +kernel
theorem dX0_bestMended_79 : decode cX0_bestMended 79 = .ok (.iload 6, 2) := by decide +kernel
theorem dX0_bestMended_81 : decode cX0_bestMended 81 = .ok (.ifCond .eq 15, 3) := by decide +kernel
theorem dX0_bestMended_84 : decode cX0_bestMended 84 = .ok (.iload 5, 2) := by decide +kernel
theorem dX0_bestMended_86 : decode cX0_bestMended 86 = .ok (.iload_n 1, 1) := by decide +kernel
theorem dX0_bestMended_87 : decode cX0_bestMended 87 = .ok (.if_icmp .gt 9, 3) := by decide +kernel
theorem dX0_bestMended_90 : decode cX0_bestMended 90 = .ok (.iload 4, 2) := by decide +kernel
theorem dX0_bestMended_92 : decode cX0_bestMended 92 = .ok (.istore_n 2, 1) := by decide +kernel
theorem dX0_bestMended_93 : decode cX0_bestMended 93 = .ok (.iload 5, 2) := by decide +kernel
theorem dX0_bestMended_95 : decode cX0_bestMended 95 = .ok (.istore_n 3, 1) := by decide +kernel
theorem dX0_bestMended_96 : decode cX0_bestMended 96 = .ok (.iinc 4 1, 3) := by decide +kernel
theorem dX0_bestMended_99 : decode cX0_bestMended 99 = .ok (.goto (-92), 3) := by decide +kernel
theorem dX0_bestMended_102 : decode cX0_bestMended 102 = .ok (.iload_n 2, 1) := by decide +kernel
theorem dX0_bestMended_103 : decode cX0_bestMended 103 = .ok (.ireturn, 1) := by decide +kernel
abbrev o_X0_bestMended_q131 : Type := Int32
def f_X0_bestMended_q131_L7 (S : wd_W) (p1 : Int32) (r4 : (Int32) → (Int32) → (Int32) → (Option o_X0_bestMended_q131)) (x1 : Int32) (x2 : Int32) (x3 : Int32) : Option o_X0_bestMended_q131 :=
if ((1 : Int32) <<< ((S.1 2700) &&& 31)) ≤ x3 then (
some x1) else (
bd (f_X6_coinsOf_q27 (wd_o S [] [] [] [] []) x3) fun o5 =>
gd (okx x3 (S.2.2.2.2 133)) <|
gd (okx x1 (S.2.2.2.2 133)) <|
lk (fun x8 =>
lk (fun x10 x11 =>
r4 x10 x11 (x3 + (1 : Int32))) fun k96_12 =>
if x8 = 0 then (
k96_12 x1 x2) else (
if p1 < o5 then (
k96_12 x1 x2) else (
k96_12 x3 o5))) fun k77_9 =>
lk (k77_9 (1 : Int32)) fun k72_15 =>
if ((S.2.2.2.1 133) x1.toNatClampNeg) < ((S.2.2.2.1 133) x3.toNatClampNeg) then (
k72_15) else (
gd (okx x3 (S.2.2.2.2 133)) <|
gd (okx x1 (S.2.2.2.2 133)) <|
lk (k77_9 (0 : Int32)) fun k76_18 =>
if ((S.2.2.2.1 133) x3.toNatClampNeg) = ((S.2.2.2.1 133) x1.toNatClampNeg) then (
if x2 ≤ o5 then (
k76_18) else (
k72_15)) else (
k76_18)))
def f_X0_bestMended_q131 (S : wd_W) (p1 : Int32) : Option o_X0_bestMended_q131 :=
it3 (f_X0_bestMended_q131_L7 S p1) fuel (0 : Int32) (0 : Int32) (1 : Int32)
set_option maxRecDepth 100000 in
set_option maxHeartbeats 4000000 in
theorem c_X0_bestMended_q131 (l : Launch) (D : va_G) (q g : Nat → Nat) (cy : Nat → ClassId) (z : (Nat → Nat) × (Nat → Nat) × Nat) (S : wd_W) (p1 : Int32) (o : o_X0_bestMended_q131) (hf : f_X0_bestMended_q131 S p1 = some o) : MX layX l yX0_bestMended cX0_bestMended 7 (some .int) ({ frames := 1, cells := 0, slots := 0, locals := 23 } : Room) D q g cy z [.ref (q 131), .int p1] S false (some (.int o)) (wd_o S [] [] [] [] []) 0 0 := by
  refine mx_of (own := RX0) (lc := [(0, .ref (q 131)), (1, .int p1)]) (by decide +kernel) rfl layX_ok (Nat.le_of_ble_eq_true rfl) rfl ?_
  intro X hXl hXq hXz hC hQ
  subst hXl; subst hXq; subst hXz
  unfold f_X0_bestMended_q131 at hf
  refine go_iconst (pc' := 1) hC dX0_bestMended_0 ki_0 rfl ?_
  refine go_istore_n (lc' := [(0, .ref (x_q X 131)), (1, .int p1), (2, .int (0 : Int32))]) (pc' := 2) hC dX0_bestMended_1 (Nat.le_of_ble_eq_true rfl) rfl rfl ?_
  refine go_iconst (pc' := 3) hC dX0_bestMended_2 ki_0 rfl ?_
  refine go_istore_n (lc' := [(0, .ref (x_q X 131)), (1, .int p1), (2, .int (0 : Int32)), (3, .int (0 : Int32))]) (pc' := 4) hC dX0_bestMended_3 (Nat.le_of_ble_eq_true rfl) rfl rfl ?_
  refine go_iconst (pc' := 5) hC dX0_bestMended_4 ki_1 rfl ?_
  refine go_istore (lc' := [(0, .ref (x_q X 131)), (1, .int p1), (2, .int (0 : Int32)), (3, .int (0 : Int32)), (4, .int (1 : Int32))]) (pc' := 7) hC dX0_bestMended_5 (Nat.le_of_ble_eq_true rfl) rfl rfl ?_
  have l7_23 : ∀ (nn : Nat) (x1 : Int32) (x2 : Int32) (x3 : Int32), it3 (f_X0_bestMended_q131_L7 S p1) nn x1 x2 x3 = some o → Go X layX S 7 [(0, .ref (x_q X 131)), (1, .int p1), (2, .int x1), (3, .int x2), (4, .int x3)] [] g [] [] [] [] [] 0 0 := by
    intro nn
    induction nn with
    | zero =>
      intro x1 x2 x3 hf
      exact none_no hf
    | succ nn ih =>
      intro x1 x2 x3 hf
      have hf : f_X0_bestMended_q131_L7 S p1 (it3 (f_X0_bestMended_q131_L7 S p1) nn) x1 x2 x3 = some o := hf
      generalize it3 (f_X0_bestMended_q131_L7 S p1) nn = r4 at ih hf
      unfold f_X0_bestMended_q131_L7 at hf
      refine go_iload (pc' := 9) hC dX0_bestMended_7 rfl rfl ?_
      refine go_iconst (pc' := 10) hC dX0_bestMended_9 ki_1 rfl ?_
      refine go_aload_n (pc' := 11) hC dX0_bestMended_10 rfl rfl ?_
      refine go_getq (pc' := 14) hC 131 3 layX_131 rfl rfl inlX0 (Nat.le_of_ble_eq_true rfl) mw_145 rfl dX0_bestMended_11 rfl ?_
      refine go_geti (v := (S.1 2700)) (pc' := 17) hC 27 0 layX_27 rfl rfl inlX6 (Nat.le_of_ble_eq_true rfl) mw_790 rfl dX0_bestMended_14 rfl rfl ?_
      refine go_ishl (pc' := 18) hC dX0_bestMended_17 rfl ?_
      refine go_icmp_ge (tgt := 102) (pc' := 21) hC dX0_bestMended_18 (by decide) rfl (fun h22 => ?_) (fun h22 => ?_)
      · have hf := ite_t h22 hf
        refine go_iload_n (pc' := 103) hC dX0_bestMended_102 rfl rfl ?_
        obtain rfl := Option.some.inj hf
        exact go_iret hC hQ dX0_bestMended_103 rfl rfl rfl rfl (fun _ => rfl) rfl rfl
      · have hf := ite_f h22 hf
        refine go_aload_n (pc' := 22) hC dX0_bestMended_21 rfl rfl ?_
        refine go_getq (pc' := 25) hC 131 3 layX_131 rfl rfl inlX0 (Nat.le_of_ble_eq_true rfl) mw_145 rfl dX0_bestMended_22 rfl ?_
        refine go_iload (pc' := 27) hC dX0_bestMended_25 rfl rfl ?_
        obtain ⟨o5, ho5, hf⟩ := bd_e hf
        refine go_callV0 (pc' := 30) (As := [.int x3]) (st := []) (st' := [.int o5])    (b := 27) hC dX0_bestMended_27 ⟨mw_1103, mw_1106, mw_23, yd_yX6_coinsOf, yp_yX6_coinsOf, Nat.le_of_ble_eq_true rfl, Nat.le_of_ble_eq_true rfl, (Nat.le_of_ble_eq_true rfl), (Nat.le_of_ble_eq_true rfl)⟩ mw_1104 mw_1105 layX_27 rfl rfl rfl (Nat.le_of_ble_eq_true rfl) (c_X6_coinsOf_q27 (x_l X) (x_D X) (x_q X) g (x_cy X) (x_z X) _ x3 o5 ho5) rfl rfl ?_
        refine go_istore (lc' := [(0, .ref (x_q X 131)), (1, .int p1), (2, .int x1), (3, .int x2), (4, .int x3), (5, .int o5)]) (pc' := 32) hC dX0_bestMended_30 (Nat.le_of_ble_eq_true rfl) rfl rfl ?_
        refine go_aload_n (pc' := 33) hC dX0_bestMended_32 rfl rfl ?_
        refine go_getg (pc' := 36) hC 131 1 layX_131 rfl rfl inlX0 (Nat.le_of_ble_eq_true rfl) mw_140 rfl dX0_bestMended_33 rfl ?_
        refine go_iload (pc' := 38) hC dX0_bestMended_36 rfl rfl ?_
        obtain ⟨h6, hf⟩ := gd_e hf
        refine go_laldg (f := (S.2.2.2.1 133)) (pc' := 39) hC 133 layX_133 rfl rfl dX0_bestMended_38 (okx_in h6) rfl ?_
        refine go_aload_n (pc' := 40) hC dX0_bestMended_39 rfl rfl ?_
        refine go_getg (pc' := 43) hC 131 1 layX_131 rfl rfl inlX0 (Nat.le_of_ble_eq_true rfl) mw_140 rfl dX0_bestMended_40 rfl ?_
        refine go_iload_n (pc' := 44) hC dX0_bestMended_43 rfl rfl ?_
        obtain ⟨h7, hf⟩ := gd_e hf
        refine go_laldg (f := (S.2.2.2.1 133)) (pc' := 45) hC 133 layX_133 rfl rfl dX0_bestMended_44 (okx_in h7) rfl ?_
        refine go_lcmp (pc' := 46) hC dX0_bestMended_45 rfl ?_
        obtain ⟨k77_9, hk77_9, hf⟩ := lk_e1 hf
        have jk77_9 : ∀ (x8 : Int32), k77_9 x8 = some o → Go X layX S 77 [(0, .ref (x_q X 131)), (1, .int p1), (2, .int x1), (3, .int x2), (4, .int x3), (5, .int o5)] [.int x8] g [] [] [] [] [] 0 0 := by
          intro x8 hf
          have hf := hk77_9 x8 hf
          clear hk77_9
          refine go_istore (lc' := [(0, .ref (x_q X 131)), (1, .int p1), (2, .int x1), (3, .int x2), (4, .int x3), (5, .int o5), (6, .int x8)]) (pc' := 79) hC dX0_bestMended_77 (Nat.le_of_ble_eq_true rfl) rfl rfl ?_
          refine go_iload (pc' := 81) hC dX0_bestMended_79 rfl rfl ?_
          obtain ⟨k96_12, hk96_12, hf⟩ := lk_e2 hf
          have jk96_12 : ∀ (x10 : Int32) (x11 : Int32), k96_12 x10 x11 = some o → Go X layX S 96 [(0, .ref (x_q X 131)), (1, .int p1), (2, .int x10), (3, .int x11), (4, .int x3)] [] g [] [] [] [] [] 0 0 := by
            intro x10 x11 hf
            have hf := hk96_12 x10 x11 hf
            clear hk96_12
            refine go_iinc (lc' := [(0, .ref (x_q X 131)), (1, .int p1), (2, .int x10), (3, .int x11), (4, .int (x3 + (1 : Int32)))]) (pc' := 99) hC dX0_bestMended_96 rfl ki_1 (Nat.le_of_ble_eq_true rfl) rfl rfl ?_
            refine go_goto (tgt := 7) hC dX0_bestMended_99 (by decide) ?_
            exact ih x10 x11 (x3 + (1 : Int32)) hf
          clear hk96_12
          refine go_if_eq (tgt := 96) (pc' := 84) hC dX0_bestMended_81 (by decide) rfl (fun h14 => ?_) (fun h14 => ?_)
          · have hf := ite_t h14 hf
            refine go_sub [0, 1, 2, 3, 4] rfl ?_
            exact jk96_12 x1 x2 hf
          · have hf := ite_f h14 hf
            refine go_iload (pc' := 86) hC dX0_bestMended_84 rfl rfl ?_
            refine go_iload_n (pc' := 87) hC dX0_bestMended_86 rfl rfl ?_
            refine go_icmp_gt (tgt := 96) (pc' := 90) hC dX0_bestMended_87 (by decide) rfl (fun h13 => ?_) (fun h13 => ?_)
            · have hf := ite_t h13 hf
              refine go_sub [0, 1, 2, 3, 4] rfl ?_
              exact jk96_12 x1 x2 hf
            · have hf := ite_f h13 hf
              refine go_iload (pc' := 92) hC dX0_bestMended_90 rfl rfl ?_
              refine go_istore_n (lc' := [(0, .ref (x_q X 131)), (1, .int p1), (2, .int x3), (3, .int x2), (4, .int x3), (5, .int o5), (6, .int x8)]) (pc' := 93) hC dX0_bestMended_92 (Nat.le_of_ble_eq_true rfl) rfl rfl ?_
              refine go_iload (pc' := 95) hC dX0_bestMended_93 rfl rfl ?_
              refine go_istore_n (lc' := [(0, .ref (x_q X 131)), (1, .int p1), (2, .int x3), (3, .int o5), (4, .int x3), (5, .int o5), (6, .int x8)]) (pc' := 96) hC dX0_bestMended_95 (Nat.le_of_ble_eq_true rfl) rfl rfl ?_
              refine go_sub [0, 1, 2, 3, 4] rfl ?_
              exact jk96_12 x3 o5 hf
        clear hk77_9
        obtain ⟨k72_15, hk72_15, hf⟩ := lk_e0 hf
        have jk72_15 : ∀ (_ : Unit), k72_15 = some o → Go X layX S 72 [(0, .ref (x_q X 131)), (1, .int p1), (2, .int x1), (3, .int x2), (4, .int x3), (5, .int o5)] [] g [] [] [] [] [] 0 0 := by
          intro _ hf
          have hf := hk72_15 hf
          clear hk72_15
          refine go_iconst (pc' := 73) hC dX0_bestMended_72 ki_1 rfl ?_
          refine go_goto (tgt := 77) hC dX0_bestMended_73 (by decide) ?_
          exact jk77_9 (1 : Int32) hf
        clear hk72_15
        refine go_if_gt (tgt := 72) (pc' := 49) hC dX0_bestMended_46 (by decide) rfl (fun h21 => ?_) (fun h21 => ?_)
        · have hf := ite_t (lg_gt.mp h21) hf
          exact jk72_15 () hf
        · have hf := ite_f (mt lg_gt.mpr h21) hf
          refine go_aload_n (pc' := 50) hC dX0_bestMended_49 rfl rfl ?_
          refine go_getg (pc' := 53) hC 131 1 layX_131 rfl rfl inlX0 (Nat.le_of_ble_eq_true rfl) mw_140 rfl dX0_bestMended_50 rfl ?_
          refine go_iload (pc' := 55) hC dX0_bestMended_53 rfl rfl ?_
          obtain ⟨h16, hf⟩ := gd_e hf
          refine go_laldg (f := (S.2.2.2.1 133)) (pc' := 56) hC 133 layX_133 rfl rfl dX0_bestMended_55 (okx_in h16) rfl ?_
          refine go_aload_n (pc' := 57) hC dX0_bestMended_56 rfl rfl ?_
          refine go_getg (pc' := 60) hC 131 1 layX_131 rfl rfl inlX0 (Nat.le_of_ble_eq_true rfl) mw_140 rfl dX0_bestMended_57 rfl ?_
          refine go_iload_n (pc' := 61) hC dX0_bestMended_60 rfl rfl ?_
          obtain ⟨h17, hf⟩ := gd_e hf
          refine go_laldg (f := (S.2.2.2.1 133)) (pc' := 62) hC 133 layX_133 rfl rfl dX0_bestMended_61 (okx_in h17) rfl ?_
          refine go_lcmp (pc' := 63) hC dX0_bestMended_62 rfl ?_
          obtain ⟨k76_18, hk76_18, hf⟩ := lk_e0 hf
          have jk76_18 : ∀ (_ : Unit), k76_18 = some o → Go X layX S 76 [(0, .ref (x_q X 131)), (1, .int p1), (2, .int x1), (3, .int x2), (4, .int x3), (5, .int o5)] [] g [] [] [] [] [] 0 0 := by
            intro _ hf
            have hf := hk76_18 hf
            clear hk76_18
            refine go_iconst (pc' := 77) hC dX0_bestMended_76 ki_0 rfl ?_
            exact jk77_9 (0 : Int32) hf
          clear hk76_18
          refine go_if_ne (tgt := 76) (pc' := 66) hC dX0_bestMended_63 (by decide) rfl (fun h20 => ?_) (fun h20 => ?_)
          · have hf := ite_f (mt lg_eq.mpr h20) hf
            exact jk76_18 () hf
          · have hf := ite_t (lg_eq.mp h20) hf
            refine go_iload (pc' := 68) hC dX0_bestMended_66 rfl rfl ?_
            refine go_iload_n (pc' := 69) hC dX0_bestMended_68 rfl rfl ?_
            refine go_icmp_ge (tgt := 76) (pc' := 72) hC dX0_bestMended_69 (by decide) rfl (fun h19 => ?_) (fun h19 => ?_)
            · have hf := ite_t h19 hf
              exact jk76_18 () hf
            · have hf := ite_f h19 hf
              exact jk72_15 () hf
  exact l7_23 fuel (0 : Int32) (0 : Int32) (1 : Int32) hf
theorem dX11_mend_0 : decode cX11_mend 0 = .ok (.iload_n 1, 1) := by decide +kernel
theorem dX11_mend_1 : decode cX11_mend 1 = .ok (.ifCond .lt 9, 3) := by decide +kernel
theorem dX11_mend_4 : decode cX11_mend 4 = .ok (.iload_n 1, 1) := by decide +kernel
theorem dX11_mend_5 : decode cX11_mend 5 = .ok (.ldc 232, 2) := by decide +kernel
theorem dX11_mend_7 : decode cX11_mend 7 = .ok (.if_icmp .le 7, 3) := by decide +kernel
theorem dX11_mend_10 : decode cX11_mend 10 = .ok (.ldc2_w 186, 3) := by decide +kernel
theorem dX11_mend_13 : decode cX11_mend 13 = .ok (.lreturn, 1) := by decide +kernel
theorem dX11_mend_14 : decode cX11_mend 14 = .ok (.aload_n 0, 1) := by decide +kernel
theorem dX11_mend_15 : decode cX11_mend 15 = .ok (.bipush 24, 2) := by decide +kernel
theorem dX11_mend_17 : decode cX11_mend 17 = .ok (.invokevirtual 233, 3) := by decide +kernel
theorem dX11_mend_20 : decode cX11_mend 20 = .ok (.aload_n 0, 1) := by decide +kernel
theorem dX11_mend_21 : decode cX11_mend 21 = .ok (.aload_n 0, 1) := by decide +kernel
theorem dX11_mend_22 : decode cX11_mend 22 = .ok (.getfield 74, 3) := by decide +kernel
theorem dX11_mend_25 : decode cX11_mend 25 = .ok (.iload_n 1, 1) := by decide +kernel
theorem dX11_mend_26 : decode cX11_mend 26 = .ok (.invokevirtual 236, 3) := by decide +kernel
theorem dX11_mend_29 : decode cX11_mend 29 = .ok (.putfield 43, 3) := by decide +kernel
theorem dX11_mend_32 : decode cX11_mend 32 = .ok (.aload_n 0, 1) := by decide +kernel
theorem dX11_mend_33 : decode cX11_mend 33 = .ok (.aload_n 0, 1) := by decide +kernel
theorem dX11_mend_34 : decode cX11_mend 34 = .ok (.getfield 31, 3) := by decide +kernel
theorem dX11_mend_37 : decode cX11_mend 37 = .ok (.aload_n 0, 1) := by decide +kernel
theorem dX11_mend_38 : decode cX11_mend 38 = .ok (.getfield 43, 3) := by decide +kernel
theorem dX11_mend_41 : decode cX11_mend 41 = .ok (.invokevirtual 239, 3) := by decide +kernel
theorem dX11_mend_44 : decode cX11_mend 44 = .ok (.putfield 47, 3) := by decide +kernel
theorem dX11_mend_47 : decode cX11_mend 47 = .ok (.aload_n 0, 1) := by decide +kernel
theorem dX11_mend_48 : decode cX11_mend 48 = .ok (.getfield 74, 3) := by decide +kernel
theorem dX11_mend_51 : decode cX11_mend 51 = .ok (.getfield 242, 3) := by decide +kernel
theorem dX11_mend_54 : decode cX11_mend 54 = .ok (.aload_n 0, 1) := by decide +kernel
theorem dX11_mend_55 : decode cX11_mend 55 = .ok (.getfield 43, 3) := by decide +kernel
theorem dX11_mend_58 : decode cX11_mend 58 = .ok (.laload, 1) := by decide +kernel
theorem dX11_mend_59 : decode cX11_mend 59 = .ok (.lreturn, 1) := by decide +kernel
abbrev o_X11_mend : Type := Int64 × wd_W × Nat × Nat
def f_X11_mend (S : wd_W) (p1 : Int32) : Option o_X11_mend :=
if p1 < 0 then (
some ((-1 : Int64), S, 0, 0)) else (
if p1 ≤ (99999 : Int32) then (
bd (f_X11_know (wd_o S [] [] [] [] []) (24 : Int32)) fun o1 =>
gd (okr (0 + o1.2.1) (0 + o1.2.2) 0 0 40 500000) <|
bd (f_X0_bestMended_q131 (wd_o o1.1 [] [] [] [] []) p1) fun o2 =>
gd (okr (0 + o1.2.1) (0 + o1.2.2) 0 0 40 500000) <|
bd (f_X6_coinsOf_q27 (wd_o o1.1 [(8, o2)] [] [] [] []) o2) fun o4 =>
lz (wd_o o1.1 [(8, o2)] [] [] [] []) fun S6 =>
gd (okx (S6.1 8) (S6.2.2.2.2 133)) <|
some ((S6.2.2.2.1 133) (S6.1 8).toNatClampNeg, (wd_o S6 [(9, o4)] [] [] [] []), 0 + o1.2.1, 0 + o1.2.2)) else (
some ((-1 : Int64), S, 0, 0)))
set_option maxRecDepth 100000 in
set_option maxHeartbeats 4000000 in
theorem c_X11_mend (l : Launch) (D : va_G) (q g : Nat → Nat) (cy : Nat → ClassId) (z : (Nat → Nat) × (Nat → Nat) × Nat) (S : wd_W) (p1 : Int32) (o : o_X11_mend) (hf : f_X11_mend S p1 = some o) : MX layX l yX11_mend cX11_mend 2 (some .long) ({ frames := 5, cells := 40, slots := 500000, locals := 127 } : Room) D q g cy z [.ref (q 0), .int p1] S true (some (.long o.1)) o.2.1 o.2.2.1 o.2.2.2 := by
  refine mx_of (own := RX11) (lc := [(0, .ref (q 0)), (1, .int p1)]) (by decide +kernel) rfl layX_ok (Nat.le_of_ble_eq_true rfl) rfl ?_
  intro X hXl hXq hXz hC hQ
  subst hXl; subst hXq; subst hXz
  unfold f_X11_mend at hf
  refine go_iload_n (pc' := 1) hC dX11_mend_0 rfl rfl ?_
  refine go_if_lt (tgt := 10) (pc' := 4) hC dX11_mend_1 (by decide) rfl (fun h9 => ?_) (fun h9 => ?_)
  · have hf := ite_t h9 hf
    refine go_ldc2 (pc' := 13) hC dX11_mend_10 mw_909 rfl ?_
    obtain rfl := Option.some.inj hf
    exact go_lret hC hQ dX11_mend_13 rfl rfl rfl (fun h => nomatch h) rfl rfl
  · have hf := ite_f h9 hf
    refine go_iload_n (pc' := 5) hC dX11_mend_4 rfl rfl ?_
    refine go_ldc (pc' := 7) hC dX11_mend_5 mw_1097 rfl ?_
    refine go_icmp_le (tgt := 14) (pc' := 10) hC dX11_mend_7 (by decide) rfl (fun h8 => ?_) (fun h8 => ?_)
    · have hf := ite_t h8 hf
      refine go_aload_n (pc' := 15) hC dX11_mend_14 rfl rfl ?_
      refine go_bipush (pc' := 17) hC dX11_mend_15 kb_24 rfl ?_
      obtain ⟨o1, ho1, hf⟩ := bd_e hf
      refine go_callVw (pc' := 20) (As := [.int (24 : Int32)]) (st := []) (st' := [])  (cells' := 0 + o1.2.1) (slots' := 0 + o1.2.2)  (b := 0) hC dX11_mend_17 ⟨mw_597, mw_600, mw_2, yd_yX11_know, yp_yX11_know, Nat.le_of_ble_eq_true rfl, Nat.le_of_ble_eq_true rfl, (Nat.le_of_ble_eq_true rfl), (Nat.le_of_ble_eq_true rfl)⟩ mw_598 mw_599 layX_0 rfl rfl rfl (Nat.le_of_ble_eq_true rfl) (c_X11_know (x_l X) (x_D X) (x_q X) g (x_cy X) (x_z X) _ (24 : Int32) o1 ho1) rfl rfl rfl rfl (fun g _ => ?_)
      refine go_aload_n (pc' := 21) hC dX11_mend_20 rfl rfl ?_
      refine go_aload_n (pc' := 22) hC dX11_mend_21 rfl rfl ?_
      refine go_getq (pc' := 25) hC 0 13 layX_0 rfl rfl inlX11 (Nat.le_of_ble_eq_true rfl) mw_41 rfl dX11_mend_22 rfl ?_
      refine go_iload_n (pc' := 26) hC dX11_mend_25 rfl rfl ?_
      obtain ⟨h3, hf⟩ := gd_e hf
      obtain ⟨o2, ho2, hf⟩ := bd_e hf
      refine go_callV0 (pc' := 29) (As := [.int p1]) (st := [.ref (x_q X 0)]) (st' := [.int o2, .ref (x_q X 0)])   (rc := { frames := 1, cells := 0, slots := 0, locals := 23 }) (b := 131) hC dX11_mend_26 ⟨mw_1099, mw_1102, mw_40, yd_yX0_bestMended, yp_yX0_bestMended, Nat.le_of_ble_eq_true rfl, Nat.le_of_ble_eq_true rfl, (okr_c h3), (okr_s h3)⟩ mw_1100 mw_1101 layX_131 rfl rfl rfl (Nat.le_of_ble_eq_true rfl) (c_X0_bestMended_q131 (x_l X) (x_D X) (x_q X) g (x_cy X) (x_z X) _ p1 o2 ho2) rfl rfl ?_
      refine go_keys (L1 := [(8, (o1.1.1 8))]) (L2 := []) (L3 := []) (L4 := []) (L5 := []) [8] [] [] [] [] rfl rfl rfl rfl rfl ?_
      refine go_puti (L1' := [(8, o2)]) (pc' := 32) hC 0 8 layX_0 rfl rfl inlX11 tyX11_ok nmX11 (Nat.le_of_ble_eq_true rfl) mw_27 rfl rfl rfl rfl dX11_mend_29 rfl rfl rfl ?_
      refine go_aload_n (pc' := 33) hC dX11_mend_32 rfl rfl ?_
      refine go_aload_n (pc' := 34) hC dX11_mend_33 rfl rfl ?_
      refine go_getq (pc' := 37) hC 0 3 layX_0 rfl rfl inlX11 (Nat.le_of_ble_eq_true rfl) mw_24 rfl dX11_mend_34 rfl ?_
      refine go_aload_n (pc' := 38) hC dX11_mend_37 rfl rfl ?_
      refine go_geti (v := o2) (pc' := 41) hC 0 8 layX_0 rfl rfl inlX11 (Nat.le_of_ble_eq_true rfl) mw_27 rfl dX11_mend_38 rfl rfl ?_
      obtain ⟨h5, hf⟩ := gd_e hf
      obtain ⟨o4, ho4, hf⟩ := bd_e hf
      refine go_callV0 (pc' := 44) (As := [.int o2]) (st := [.ref (x_q X 0)]) (st' := [.int o4, .ref (x_q X 0)])   (rc := { frames := 0, cells := 0, slots := 0, locals := 0 }) (b := 27) hC dX11_mend_41 ⟨mw_1107, mw_1106, mw_23, yd_yX6_coinsOf, yp_yX6_coinsOf, Nat.le_of_ble_eq_true rfl, Nat.le_of_ble_eq_true rfl, (okr_c h5), (okr_s h5)⟩ mw_1104 mw_1105 layX_27 rfl rfl rfl (Nat.le_of_ble_eq_true rfl) (c_X6_coinsOf_q27 (x_l X) (x_D X) (x_q X) g (x_cy X) (x_z X) _ o2 o4 ho4) rfl rfl ?_
      refine go_base (fun S6 hx => ?_)
      have hf := lz_r hx hf
      clear hx
      refine go_keys (L1 := [(9, (S6.1 9))]) (L2 := []) (L3 := []) (L4 := []) (L5 := []) [9] [] [] [] [] rfl rfl rfl rfl rfl ?_
      refine go_puti (L1' := [(9, o4)]) (pc' := 47) hC 0 9 layX_0 rfl rfl inlX11 tyX11_ok nmX11 (Nat.le_of_ble_eq_true rfl) mw_28 rfl rfl rfl rfl dX11_mend_44 rfl rfl rfl ?_
      refine go_aload_n (pc' := 48) hC dX11_mend_47 rfl rfl ?_
      refine go_getq (pc' := 51) hC 0 13 layX_0 rfl rfl inlX11 (Nat.le_of_ble_eq_true rfl) mw_41 rfl dX11_mend_48 rfl ?_
      refine go_getg (pc' := 54) hC 131 1 layX_131 rfl rfl inlX0 (Nat.le_of_ble_eq_true rfl) mw_1098 rfl dX11_mend_51 rfl ?_
      refine go_aload_n (pc' := 55) hC dX11_mend_54 rfl rfl ?_
      refine go_geti (v := (S6.1 8)) (pc' := 58) hC 0 8 layX_0 rfl rfl inlX11 (Nat.le_of_ble_eq_true rfl) mw_27 rfl dX11_mend_55 rfl rfl ?_
      obtain ⟨h7, hf⟩ := gd_e hf
      refine go_laldg (f := (S6.2.2.2.1 133)) (pc' := 59) hC 133 layX_133 rfl rfl dX11_mend_58 (okx_in h7) rfl ?_
      obtain rfl := Option.some.inj hf
      exact go_lret hC hQ dX11_mend_59 rfl rfl rfl (fun h => nomatch h) rfl rfl
    · have hf := ite_f h8 hf
      refine go_ldc2 (pc' := 13) hC dX11_mend_10 mw_909 rfl ?_
      obtain rfl := Option.some.inj hf
      exact go_lret hC hQ dX11_mend_13 rfl rfl rfl (fun h => nomatch h) rfl rfl
theorem dX11_mended_0 : decode cX11_mended 0 = .ok (.iload_n 1, 1) := by decide +kernel
theorem dX11_mended_1 : decode cX11_mended 1 = .ok (.lookupswitch 37 #[(0, 27), (1, 32)], 27) := by decide +kernel
theorem dX11_mended_28 : decode cX11_mended 28 = .ok (.aload_n 0, 1) := by decide +kernel
theorem dX11_mended_29 : decode cX11_mended 29 = .ok (.getfield 43, 3) := by decide +kernel
theorem dX11_mended_32 : decode cX11_mended 32 = .ok (.ireturn, 1) := by decide +kernel
theorem dX11_mended_33 : decode cX11_mended 33 = .ok (.aload_n 0, 1) := by decide +kernel
theorem dX11_mended_34 : decode cX11_mended 34 = .ok (.getfield 47, 3) := by decide +kernel
theorem dX11_mended_37 : decode cX11_mended 37 = .ok (.ireturn, 1) := by decide +kernel
theorem dX11_mended_38 : decode cX11_mended 38 = .ok (.iconst (-1), 1) := by decide +kernel
theorem dX11_mended_39 : decode cX11_mended 39 = .ok (.ireturn, 1) := by decide +kernel
abbrev o_X11_mended : Type := Int32
def f_X11_mended (S : wd_W) (p1 : Int32) : Option o_X11_mended :=
if p1 = (0 : Int32) then (
some (S.1 8)) else (
if p1 = (1 : Int32) then (
some (S.1 9)) else (
some (-1 : Int32)))
set_option maxRecDepth 100000 in
set_option maxHeartbeats 4000000 in
theorem c_X11_mended (l : Launch) (D : va_G) (q g : Nat → Nat) (cy : Nat → ClassId) (z : (Nat → Nat) × (Nat → Nat) × Nat) (S : wd_W) (p1 : Int32) (o : o_X11_mended) (hf : f_X11_mended S p1 = some o) : MX layX l yX11_mended cX11_mended 2 (some .int) ({ frames := 0, cells := 0, slots := 0, locals := 0 } : Room) D q g cy z [.ref (q 0), .int p1] S false (some (.int o)) (wd_o S [] [] [] [] []) 0 0 := by
  refine mx_of (own := RX11) (lc := [(0, .ref (q 0)), (1, .int p1)]) (by decide +kernel) rfl layX_ok (Nat.le_of_ble_eq_true rfl) rfl ?_
  intro X hXl hXq hXz hC hQ
  subst hXl; subst hXq; subst hXz
  unfold f_X11_mended at hf
  refine go_iload_n (pc' := 1) hC dX11_mended_0 rfl rfl ?_
  by_cases h1 : p1 = (0 : Int32)
  · have hf := ite_t h1 hf
    refine go_lkIn' (v := (0 : Int32)) (tgt := 28) hC dX11_mended_1 h1 kt_0 (by decide) rfl (by decide) ?_
    refine go_aload_n (pc' := 29) hC dX11_mended_28 rfl rfl ?_
    refine go_geti (v := (S.1 8)) (pc' := 32) hC 0 8 layX_0 rfl rfl inlX11 (Nat.le_of_ble_eq_true rfl) mw_27 rfl dX11_mended_29 rfl rfl ?_
    obtain rfl := Option.some.inj hf
    exact go_iret hC hQ dX11_mended_32 rfl rfl rfl rfl (fun _ => rfl) rfl rfl
  · have hf := ite_f h1 hf
    by_cases h2 : p1 = (1 : Int32)
    · have hf := ite_t h2 hf
      refine go_lkIn' (v := (1 : Int32)) (tgt := 33) hC dX11_mended_1 h2 kt_1 (by decide) rfl (by decide) ?_
      refine go_aload_n (pc' := 34) hC dX11_mended_33 rfl rfl ?_
      refine go_geti (v := (S.1 9)) (pc' := 37) hC 0 9 layX_0 rfl rfl inlX11 (Nat.le_of_ble_eq_true rfl) mw_28 rfl dX11_mended_34 rfl rfl ?_
      obtain rfl := Option.some.inj hf
      exact go_iret hC hQ dX11_mended_37 rfl rfl rfl rfl (fun _ => rfl) rfl rfl
    · have hf := ite_f h2 hf
      refine go_lookup (tgt := 38) (off := 37) hC dX11_mended_1 (by decide) ?_ (by decide) ?_
      · show Op.lookupswitch.offset [(0, 27), (1, 32)] 37 _ = _
        rw [lv_osw h1 kt_0, lv_osw h2 kt_1]; rfl
      · refine go_iconst (pc' := 39) hC dX11_mended_38 ki_m1 rfl ?_
        obtain rfl := Option.some.inj hf
        exact go_iret hC hQ dX11_mended_39 rfl rfl rfl rfl (fun _ => rfl) rfl rfl
abbrev o_X2_countBy_q142 : Type := Int32 × Int32 × Int32 × Int32
def f_X2_countBy_q142 (S : wd_W) (p1 : Int32) (p2 : Int32) (p3 : Int32) (p4 : Int32) : Option o_X2_countBy_q142 :=
some (p1, p2, p3, p4)
set_option maxRecDepth 100000 in
set_option maxHeartbeats 4000000 in
theorem c_X2_countBy_q142 (l : Launch) (D : va_G) (q g : Nat → Nat) (cy : Nat → ClassId) (z : (Nat → Nat) × (Nat → Nat) × Nat) (S : wd_W) (p1 : Int32) (p2 : Int32) (p3 : Int32) (p4 : Int32) (o : o_X2_countBy_q142) (hf : f_X2_countBy_q142 S p1 p2 p3 p4 = some o) : MX layX l yX2_countBy cX2_countBy 5 none ({ frames := 0, cells := 0, slots := 0, locals := 0 } : Room) D q g cy z [.ref (q 142), .int p1, .int p2, .int p3, .int p4] S false (none) (wd_o S [(14214, o.1), (14215, o.2.1), (14216, o.2.2.1), (14217, o.2.2.2)] [] [] [] []) 0 0 := by
  refine mx_of (own := RX2) (lc := [(0, .ref (q 142)), (1, .int p1), (2, .int p2), (3, .int p3), (4, .int p4)]) (by decide +kernel) rfl layX_ok (Nat.le_of_ble_eq_true rfl) rfl ?_
  intro X hXl hXq hXz hC hQ
  subst hXl; subst hXq; subst hXz
  unfold f_X2_countBy_q142 at hf
  refine go_keys (L1 := [(14214, (S.1 14214)), (14215, (S.1 14215)), (14216, (S.1 14216)), (14217, (S.1 14217))]) (L2 := []) (L3 := []) (L4 := []) (L5 := []) [14214, 14215, 14216, 14217] [] [] [] [] rfl rfl rfl rfl rfl ?_
  refine go_aload_n (pc' := 1) hC dX2_countBy_0 rfl rfl ?_
  refine go_iload_n (pc' := 2) hC dX2_countBy_1 rfl rfl ?_
  refine go_puti (L1' := [(14214, p1), (14215, (S.1 14215)), (14216, (S.1 14216)), (14217, (S.1 14217))]) (pc' := 5) hC 142 14 layX_142 rfl rfl inlX2 tyX2_ok nmX2 (Nat.le_of_ble_eq_true rfl) mw_70 rfl rfl rfl rfl dX2_countBy_2 rfl rfl rfl ?_
  refine go_aload_n (pc' := 6) hC dX2_countBy_5 rfl rfl ?_
  refine go_iload_n (pc' := 7) hC dX2_countBy_6 rfl rfl ?_
  refine go_puti (L1' := [(14214, p1), (14215, p2), (14216, (S.1 14216)), (14217, (S.1 14217))]) (pc' := 10) hC 142 15 layX_142 rfl rfl inlX2 tyX2_ok nmX2 (Nat.le_of_ble_eq_true rfl) mw_316 rfl rfl rfl rfl dX2_countBy_7 rfl rfl rfl ?_
  refine go_aload_n (pc' := 11) hC dX2_countBy_10 rfl rfl ?_
  refine go_iload_n (pc' := 12) hC dX2_countBy_11 rfl rfl ?_
  refine go_puti (L1' := [(14214, p1), (14215, p2), (14216, p3), (14217, (S.1 14217))]) (pc' := 15) hC 142 16 layX_142 rfl rfl inlX2 tyX2_ok nmX2 (Nat.le_of_ble_eq_true rfl) mw_317 rfl rfl rfl rfl dX2_countBy_12 rfl rfl rfl ?_
  refine go_aload_n (pc' := 16) hC dX2_countBy_15 rfl rfl ?_
  refine go_iload (pc' := 18) hC dX2_countBy_16 rfl rfl ?_
  refine go_puti (L1' := [(14214, p1), (14215, p2), (14216, p3), (14217, p4)]) (pc' := 21) hC 142 17 layX_142 rfl rfl inlX2 tyX2_ok nmX2 (Nat.le_of_ble_eq_true rfl) mw_318 rfl rfl rfl rfl dX2_countBy_18 rfl rfl rfl ?_
  obtain rfl := Option.some.inj hf
  exact go_vret hC hQ dX2_countBy_21 rfl rfl rfl (fun _ => rfl) rfl rfl
