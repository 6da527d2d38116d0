theorem dX9_hasRoom_0 : decode cX9_hasRoom 0 = .ok (.aload_n 0, 1) := by decide +kernel
theorem dX9_hasRoom_1 : decode cX9_hasRoom 1 = .ok (.getfield 19, 3) := by decide +kernel
theorem dX9_hasRoom_4 : decode cX9_hasRoom 4 = .ok (.iload_n 1, 1) := by decide +kernel
theorem dX9_hasRoom_5 : decode cX9_hasRoom 5 = .ok (.iadd, 1) := by decide +kernel
theorem dX9_hasRoom_6 : decode cX9_hasRoom 6 = .ok (.aload_n 0, 1) := by decide +kernel
theorem dX9_hasRoom_7 : decode cX9_hasRoom 7 = .ok (.getfield 9, 3) := by decide +kernel
theorem dX9_hasRoom_10 : decode cX9_hasRoom 10 = .ok (.arraylength, 1) := by decide +kernel
theorem dX9_hasRoom_11 : decode cX9_hasRoom 11 = .ok (.if_icmp .gt 7, 3) := by decide +kernel
theorem dX9_hasRoom_14 : decode cX9_hasRoom 14 = .ok (.iconst 1, 1) := by decide +kernel
theorem dX9_hasRoom_15 : decode cX9_hasRoom 15 = .ok (.goto 4, 3) := by decide +kernel
theorem dX9_hasRoom_18 : decode cX9_hasRoom 18 = .ok (.iconst 0, 1) := by decide +kernel
theorem dX9_hasRoom_19 : decode cX9_hasRoom 19 = .ok (.ireturn, 1) := by decide +kernel
abbrev o_X9_hasRoom_q14 : Type := Int32
def f_X9_hasRoom_q14 (S : wd_W) (p1 : Int32) : Option o_X9_hasRoom_q14 :=
if (400 : Int32) < ((S.1 1400) + p1) then (
some (0 : Int32)) else (
some (1 : Int32))
set_option maxRecDepth 100000 in
set_option maxHeartbeats 4000000 in
theorem c_X9_hasRoom_q14 (l : Launch) (D : va_G) (q g : Nat → Nat) (cy : Nat → ClassId) (z : (Nat → Nat) × (Nat → Nat) × Nat) (S : wd_W) (p1 : Int32) (o : o_X9_hasRoom_q14) (hf : f_X9_hasRoom_q14 S p1 = some o) : MX layX l yX9_hasRoom cX9_hasRoom 2 (some .boolean) ({ frames := 0, cells := 0, slots := 0, locals := 0 } : Room) D q g cy z [.ref (q 14), .int p1] S false (some (.int o)) (wd_o S [] [] [] [] []) 0 0 := by
  refine mx_of (own := RX9) (lc := [(0, .ref (q 14)), (1, .int p1)]) (by decide +kernel) rfl layX_ok (Nat.le_of_ble_eq_true rfl) rfl ?_
  intro X hXl hXq hXz hC hQ
  subst hXl; subst hXq; subst hXz
  unfold f_X9_hasRoom_q14 at hf
  refine go_aload_n (pc' := 1) hC dX9_hasRoom_0 rfl rfl ?_
  refine go_geti (v := (S.1 1400)) (pc' := 4) hC 14 0 layX_14 rfl rfl inlX9 (Nat.le_of_ble_eq_true rfl) mw_272 rfl dX9_hasRoom_1 rfl rfl ?_
  refine go_iload_n (pc' := 5) hC dX9_hasRoom_4 rfl rfl ?_
  refine go_iadd (pc' := 6) hC dX9_hasRoom_5 rfl ?_
  refine go_aload_n (pc' := 7) hC dX9_hasRoom_6 rfl rfl ?_
  refine go_getq (pc' := 10) hC 14 1 layX_14 rfl rfl inlX9 (Nat.le_of_ble_eq_true rfl) mw_75 rfl dX9_hasRoom_7 rfl ?_
  refine go_alen (v := (400 : Int32)) (pc' := 11) hC 15 layX_15 rfl (Nat.le_of_ble_eq_true rfl) kn_400 dX9_hasRoom_10 rfl ?_
  refine go_icmp_gt (tgt := 18) (pc' := 14) hC dX9_hasRoom_11 (by decide) rfl (fun h1 => ?_) (fun h1 => ?_)
  · have hf := ite_t h1 hf
    refine go_iconst (pc' := 19) hC dX9_hasRoom_18 ki_0 rfl ?_
    obtain rfl := Option.some.inj hf
    exact go_iret hC hQ dX9_hasRoom_19 rfl rfl rfl rfl (fun _ => rfl) rfl rfl
  · have hf := ite_f h1 hf
    refine go_iconst (pc' := 15) hC dX9_hasRoom_14 ki_1 rfl ?_
    refine go_goto (tgt := 19) hC dX9_hasRoom_15 (by decide) ?_
    obtain rfl := Option.some.inj hf
    exact go_iret hC hQ dX9_hasRoom_19 rfl rfl rfl rfl (fun _ => rfl) rfl rfl
theorem dX9_put_0 : decode cX9_put 0 = .ok (.bipush 24, 2) := by decide +kernel
theorem dX9_put_2 : decode cX9_put 2 = .ok (.istore_n 2, 1) := by decide +kernel
theorem dX9_put_3 : decode cX9_put 3 = .ok (.iload_n 2, 1) := by decide +kernel
theorem dX9_put_4 : decode cX9_put 4 = .ok (.ifCond .lt 47, 3) := by decide +kernel
theorem dX9_put_7 : decode cX9_put 7 = .ok (.aload_n 0, 1) := by decide +kernel
theorem dX9_put_8 : decode cX9_put 8 = .ok (.getfield 19, 3) := by decide +kernel
theorem dX9_put_11 : decode cX9_put 11 = .ok (.aload_n 0, 1) := by decide +kernel
theorem dX9_put_12 : decode cX9_put 12 = .ok (.getfield 9, 3) := by decide +kernel
theorem dX9_put_15 : decode cX9_put 15 = .ok (.arraylength, 1) := by decide +kernel
theorem dX9_put_16 : decode cX9_put 16 = .ok (.if_icmp .ge 29, 3) := by decide +kernel
theorem dX9_put_19 : decode cX9_put 19 = .ok (.aload_n 0, 1) := by decide +kernel
theorem dX9_put_20 : decode cX9_put 20 = .ok (.getfield 9, 3) := by decide +kernel
theorem dX9_put_23 : decode cX9_put 23 = .ok (.aload_n 0, 1) := by decide +kernel
theorem dX9_put_24 : decode cX9_put 24 = .ok (.getfield 19, 3) := by decide +kernel
theorem dX9_put_27 : decode cX9_put 27 = .ok (.iload_n 1, 1) := by decide +kernel
theorem dX9_put_28 : decode cX9_put 28 = .ok (.iload_n 2, 1) := by decide +kernel
theorem dX9_put_29 : decode cX9_put 29 = .ok (.iushr, 1) := by decide +kernel
theorem dX9_put_30 : decode cX9_put 30 = .ok (.sipush 255, 3) := by decide +kernel
theorem dX9_put_33 : decode cX9_put 33 = .ok (.iand, 1) := by decide +kernel
theorem dX9_put_34 : decode cX9_put 34 = .ok (.iastore, 1) := by decide +kernel
theorem dX9_put_35 : decode cX9_put 35 = .ok (.aload_n 0, 1) := by decide +kernel
theorem dX9_put_36 : decode cX9_put 36 = .ok (.dup, 1) := by decide +kernel
theorem dX9_put_37 : decode cX9_put 37 = .ok (.getfield 19, 3) := by decide +kernel
theorem dX9_put_40 : decode cX9_put 40 = .ok (.iconst 1, 1) := by decide +kernel
theorem dX9_put_41 : decode cX9_put 41 = .ok (.iadd, 1) := by decide +kernel
theorem dX9_put_42 : decode cX9_put 42 = .ok (.putfield 19, 3) := by decide +kernel
theorem dX9_put_45 : decode cX9_put 45 = .ok (.iinc 2 (-8), 3) := by decide +kernel
theorem dX9_put_48 : decode cX9_put 48 = .ok (.goto (-45), 3) := by decide +kernel
theorem dX9_put_51 : decode cX9_put 51 = .ok (.return_, 1) := by decide +kernel
abbrev o_X9_put_q14 : Type := Int32 × (Nat → Int32)
def f_X9_put_q14_L3 (p1 : Int32) (r4 : (Int32) → (Int32) → (Nat → Int32) → (Option o_X9_put_q14)) (x1 : Int32) (x2 : Int32) (a3 : Nat → Int32) : Option o_X9_put_q14 :=
if x1 < 0 then (
some (x2, a3)) else (
lk (fun x5 a6 =>
r4 (x1 + (-8 : Int32)) x5 a6) fun k45_7 =>
if (400 : Int32) ≤ x2 then (
k45_7 x2 a3) else (
lz (((p1.toUInt32 >>> (x1.toUInt32 &&& Int32.toUInt32 31)).toInt32) &&& (255 : Int32)) fun x8 =>
gd (okx x2 400) <|
lz (upd a3 x2.toNatClampNeg x8) fun a10 =>
lz (x2 + (1 : Int32)) fun x11 =>
k45_7 x11 a10))
def f_X9_put_q14 (S : wd_W) (p1 : Int32) : Option o_X9_put_q14 :=
it3 (f_X9_put_q14_L3 p1) fuel (24 : Int32) (S.1 1400) (S.2.2.1 15)
set_option maxRecDepth 100000 in
set_option maxHeartbeats 4000000 in
theorem c_X9_put_q14 (l : Launch) (D : va_G) (q g : Nat → Nat) (cy : Nat → ClassId) (z : (Nat → Nat) × (Nat → Nat) × Nat) (S : wd_W) (p1 : Int32) (o : o_X9_put_q14) (hf : f_X9_put_q14 S p1 = some o) : MX layX l yX9_put cX9_put 3 none ({ frames := 0, cells := 0, slots := 0, locals := 0 } : Room) D q g cy z [.ref (q 14), .int p1] S false (none) (wd_o S [(1400, o.1)] [] [(15, o.2)] [] []) 0 0 := by
  refine mx_of (own := RX9) (lc := [(0, .ref (q 14)), (1, .int p1)]) (by decide +kernel) rfl layX_ok (Nat.le_of_ble_eq_true rfl) rfl ?_
  intro X hXl hXq hXz hC hQ
  subst hXl; subst hXq; subst hXz
  unfold f_X9_put_q14 at hf
  refine go_keys (L1 := [(1400, (S.1 1400))]) (L2 := []) (L3 := [(15, (S.2.2.1 15))]) (L4 := []) (L5 := []) [1400] [] [15] [] [] rfl rfl rfl rfl rfl ?_
  refine go_bipush (pc' := 2) hC dX9_put_0 kb_24 rfl ?_
  refine go_istore_n (lc' := [(0, .ref (x_q X 14)), (1, .int p1), (2, .int (24 : Int32))]) (pc' := 3) hC dX9_put_2 (Nat.le_of_ble_eq_true rfl) rfl rfl ?_
  have l3_14 : ∀ (nn : Nat) (x1 : Int32) (x2 : Int32) (a3 : Nat → Int32), it3 (f_X9_put_q14_L3 p1) nn x1 x2 a3 = some o → Go X layX S 3 [(0, .ref (x_q X 14)), (1, .int p1), (2, .int x1)] [] g [(1400, x2)] [] [(15, a3)] [] [] 0 0 := by
    intro nn
    induction nn with
    | zero =>
      intro x1 x2 a3 hf
      exact none_no hf
    | succ nn ih =>
      intro x1 x2 a3 hf
      have hf : f_X9_put_q14_L3 p1 (it3 (f_X9_put_q14_L3 p1) nn) x1 x2 a3 = some o := hf
      generalize it3 (f_X9_put_q14_L3 p1) nn = r4 at ih hf
      unfold f_X9_put_q14_L3 at hf
      refine go_iload_n (pc' := 4) hC dX9_put_3 rfl rfl ?_
      refine go_if_lt (tgt := 51) (pc' := 7) hC dX9_put_4 (by decide) rfl (fun h13 => ?_) (fun h13 => ?_)
      · have hf := ite_t h13 hf
        obtain rfl := Option.some.inj hf
        exact go_vret hC hQ dX9_put_51 rfl rfl rfl (fun _ => rfl) rfl rfl
      · have hf := ite_f h13 hf
        refine go_aload_n (pc' := 8) hC dX9_put_7 rfl rfl ?_
        refine go_geti (v := x2) (pc' := 11) hC 14 0 layX_14 rfl rfl inlX9 (Nat.le_of_ble_eq_true rfl) mw_272 rfl dX9_put_8 rfl rfl ?_
        refine go_aload_n (pc' := 12) hC dX9_put_11 rfl rfl ?_
        refine go_getq (pc' := 15) hC 14 1 layX_14 rfl rfl inlX9 (Nat.le_of_ble_eq_true rfl) mw_75 rfl dX9_put_12 rfl ?_
        refine go_alen (v := (400 : Int32)) (pc' := 16) hC 15 layX_15 rfl (Nat.le_of_ble_eq_true rfl) kn_400 dX9_put_15 rfl ?_
        obtain ⟨k45_7, hk45_7, hf⟩ := lk_e2 hf
        have jk45_7 : ∀ (x5 : Int32) (a6 : Nat → Int32), k45_7 x5 a6 = some o → Go X layX S 45 [(0, .ref (x_q X 14)), (1, .int p1), (2, .int x1)] [] g [(1400, x5)] [] [(15, a6)] [] [] 0 0 := by
          intro x5 a6 hf
          have hf := hk45_7 x5 a6 hf
          clear hk45_7
          refine go_iinc (lc' := [(0, .ref (x_q X 14)), (1, .int p1), (2, .int (x1 + (-8 : Int32)))]) (pc' := 48) hC dX9_put_45 rfl ki_m8 (Nat.le_of_ble_eq_true rfl) rfl rfl ?_
          refine go_goto (tgt := 3) hC dX9_put_48 (by decide) ?_
          exact ih (x1 + (-8 : Int32)) x5 a6 hf
        clear hk45_7
        refine go_icmp_ge (tgt := 45) (pc' := 19) hC dX9_put_16 (by decide) rfl (fun h12 => ?_) (fun h12 => ?_)
        · have hf := ite_t h12 hf
          exact jk45_7 x2 a3 hf
        · have hf := ite_f h12 hf
          refine go_aload_n (pc' := 20) hC dX9_put_19 rfl rfl ?_
          refine go_getq (pc' := 23) hC 14 1 layX_14 rfl rfl inlX9 (Nat.le_of_ble_eq_true rfl) mw_75 rfl dX9_put_20 rfl ?_
          refine go_aload_n (pc' := 24) hC dX9_put_23 rfl rfl ?_
          refine go_geti (v := x2) (pc' := 27) hC 14 0 layX_14 rfl rfl inlX9 (Nat.le_of_ble_eq_true rfl) mw_272 rfl dX9_put_24 rfl rfl ?_
          refine go_iload_n (pc' := 28) hC dX9_put_27 rfl rfl ?_
          refine go_iload_n (pc' := 29) hC dX9_put_28 rfl rfl ?_
          refine go_iushr (pc' := 30) hC dX9_put_29 rfl ?_
          refine go_sipush (pc' := 33) hC dX9_put_30 ks_255 rfl ?_
          refine go_iand (pc' := 34) hC dX9_put_33 rfl ?_
          refine go_namei (fun x8 hx => ?_)
          have hf := lz_r hx hf
          clear hx
          obtain ⟨h9, hf⟩ := gd_e hf
          refine go_iast (f := a3) (pc' := 35) hC 15 layX_15 rfl rfl dX9_put_34 (okx_in h9) rfl rfl (fun a10 ha L3' hL => ?_)
          have hf := lz_r ha hf
          clear ha
          obtain rfl : L3' = [(15, a10)] := hL.symm
          refine go_aload_n (pc' := 36) hC dX9_put_35 rfl rfl ?_
          refine go_dup (pc' := 37) hC dX9_put_36 rfl rfl ?_
          refine go_geti (v := x2) (pc' := 40) hC 14 0 layX_14 rfl rfl inlX9 (Nat.le_of_ble_eq_true rfl) mw_272 rfl dX9_put_37 rfl rfl ?_
          refine go_iconst (pc' := 41) hC dX9_put_40 ki_1 rfl ?_
          refine go_iadd (pc' := 42) hC dX9_put_41 rfl ?_
          refine go_namei (fun x11 hx => ?_)
          have hf := lz_r hx hf
          clear hx
          refine go_puti (L1' := [(1400, x11)]) (pc' := 45) hC 14 0 layX_14 rfl rfl inlX9 tyX9_ok nmX9 (Nat.le_of_ble_eq_true rfl) mw_272 rfl rfl rfl rfl dX9_put_42 rfl rfl rfl ?_
          exact jk45_7 x11 a10 hf
  exact l3_14 fuel (24 : Int32) (S.1 1400) (S.2.2.1 15) hf
theorem dX11_feed_0 : decode cX11_feed 0 = .ok (.aload_n 0, 1) := by decide +kernel
theorem dX11_feed_1 : decode cX11_feed 1 = .ok (.getfield 21, 3) := by decide +kernel
theorem dX11_feed_4 : decode cX11_feed 4 = .ok (.bipush 20, 2) := by decide +kernel
theorem dX11_feed_6 : decode cX11_feed 6 = .ok (.invokevirtual 105, 3) := by decide +kernel
theorem dX11_feed_9 : decode cX11_feed 9 = .ok (.ifCond .ne 5, 3) := by decide +kernel
theorem dX11_feed_12 : decode cX11_feed 12 = .ok (.iconst (-1), 1) := by decide +kernel
theorem dX11_feed_13 : decode cX11_feed 13 = .ok (.ireturn, 1) := by decide +kernel
theorem dX11_feed_14 : decode cX11_feed 14 = .ok (.aload_n 0, 1) := by decide +kernel
theorem dX11_feed_15 : decode cX11_feed 15 = .ok (.getfield 21, 3) := by decide +kernel
theorem dX11_feed_18 : decode cX11_feed 18 = .ok (.iload_n 1, 1) := by decide +kernel
theorem dX11_feed_19 : decode cX11_feed 19 = .ok (.invokevirtual 109, 3) := by decide +kernel
theorem dX11_feed_22 : decode cX11_feed 22 = .ok (.aload_n 0, 1) := by decide +kernel
theorem dX11_feed_23 : decode cX11_feed 23 = .ok (.getfield 21, 3) := by decide +kernel
theorem dX11_feed_26 : decode cX11_feed 26 = .ok (.iload_n 2, 1) := by decide +kernel
theorem dX11_feed_27 : decode cX11_feed 27 = .ok (.invokevirtual 109, 3) := by decide +kernel
theorem dX11_feed_30 : decode cX11_feed 30 = .ok (.aload_n 0, 1) := by decide +kernel
theorem dX11_feed_31 : decode cX11_feed 31 = .ok (.getfield 21, 3) := by decide +kernel
theorem dX11_feed_34 : decode cX11_feed 34 = .ok (.iload_n 3, 1) := by decide +kernel
theorem dX11_feed_35 : decode cX11_feed 35 = .ok (.invokevirtual 109, 3) := by decide +kernel
theorem dX11_feed_38 : decode cX11_feed 38 = .ok (.aload_n 0, 1) := by decide +kernel
theorem dX11_feed_39 : decode cX11_feed 39 = .ok (.getfield 21, 3) := by decide +kernel
theorem dX11_feed_42 : decode cX11_feed 42 = .ok (.iload 4, 2) := by decide +kernel
theorem dX11_feed_44 : decode cX11_feed 44 = .ok (.invokevirtual 109, 3) := by decide +kernel
theorem dX11_feed_47 : decode cX11_feed 47 = .ok (.aload_n 0, 1) := by decide +kernel
theorem dX11_feed_48 : decode cX11_feed 48 = .ok (.getfield 21, 3) := by decide +kernel
theorem dX11_feed_51 : decode cX11_feed 51 = .ok (.iload 5, 2) := by decide +kernel
theorem dX11_feed_53 : decode cX11_feed 53 = .ok (.invokevirtual 109, 3) := by decide +kernel
theorem dX11_feed_56 : decode cX11_feed 56 = .ok (.aload_n 0, 1) := by decide +kernel
theorem dX11_feed_57 : decode cX11_feed 57 = .ok (.getfield 21, 3) := by decide +kernel
theorem dX11_feed_60 : decode cX11_feed 60 = .ok (.getfield 113, 3) := by decide +kernel
theorem dX11_feed_63 : decode cX11_feed 63 = .ok (.ireturn, 1) := by decide +kernel
abbrev o_X11_feed : Type := Int32 × Int32 × (Nat → Int32)
def f_X11_feed (S : wd_W) (p1 : Int32) (p2 : Int32) (p3 : Int32) (p4 : Int32) (p5 : Int32) : Option o_X11_feed :=
bd (f_X9_hasRoom_q14 (wd_o S [(1400, (S.1 1400))] [] [(15, (S.2.2.1 15))] [] []) (20 : Int32)) fun o1 =>
if o1 = 0 then (
some ((-1 : Int32), (S.1 1400), (S.2.2.1 15))) else (
bd (f_X9_put_q14 (wd_o S [(1400, (S.1 1400))] [] [(15, (S.2.2.1 15))] [] []) p1) fun o2 =>
bd (f_X9_put_q14 (wd_o S [(1400, o2.1)] [] [(15, o2.2)] [] []) p2) fun o3 =>
bd (f_X9_put_q14 (wd_o S [(1400, o3.1)] [] [(15, o3.2)] [] []) p3) fun o4 =>
bd (f_X9_put_q14 (wd_o S [(1400, o4.1)] [] [(15, o4.2)] [] []) p4) fun o5 =>
bd (f_X9_put_q14 (wd_o S [(1400, o5.1)] [] [(15, o5.2)] [] []) p5) fun o6 =>
some (o6.1, o6.1, o6.2))
set_option maxRecDepth 100000 in
set_option maxHeartbeats 4000000 in
theorem c_X11_feed (l : Launch) (D : va_G) (q g : Nat → Nat) (cy : Nat → ClassId) (z : (Nat → Nat) × (Nat → Nat) × Nat) (S : wd_W) (p1 : Int32) (p2 : Int32) (p3 : Int32) (p4 : Int32) (p5 : Int32) (o : o_X11_feed) (hf : f_X11_feed S p1 p2 p3 p4 p5 = some o) : MX layX l yX11_feed cX11_feed 6 (some .int) ({ frames := 1, cells := 0, slots := 0, locals := 22 } : Room) D q g cy z [.ref (q 0), .int p1, .int p2, .int p3, .int p4, .int p5] S false (some (.int o.1)) (wd_o S [(1400, o.2.1)] [] [(15, o.2.2)] [] []) 0 0 := by
  refine mx_of (own := RX11) (lc := [(0, .ref (q 0)), (1, .int p1), (2, .int p2), (3, .int p3), (4, .int p4), (5, .int p5)]) (by decide +kernel) rfl layX_ok (Nat.le_of_ble_eq_true rfl) rfl ?_
  intro X hXl hXq hXz hC hQ
  subst hXl; subst hXq; subst hXz
  unfold f_X11_feed at hf
  refine go_keys (L1 := [(1400, (S.1 1400))]) (L2 := []) (L3 := [(15, (S.2.2.1 15))]) (L4 := []) (L5 := []) [1400] [] [15] [] [] rfl rfl rfl rfl rfl ?_
  refine go_aload_n (pc' := 1) hC dX11_feed_0 rfl rfl ?_
  refine go_getq (pc' := 4) hC 0 1 layX_0 rfl rfl inlX11 (Nat.le_of_ble_eq_true rfl) mw_19 rfl dX11_feed_1 rfl ?_
  refine go_bipush (pc' := 6) hC dX11_feed_4 kb_20 rfl ?_
  obtain ⟨o1, ho1, hf⟩ := bd_e hf
  refine go_callV0 (pc' := 9) (As := [.int (20 : Int32)]) (st := []) (st' := [.int o1])    (b := 14) hC dX11_feed_6 ⟨mw_268, mw_271, mw_18, yd_yX9_hasRoom, yp_yX9_hasRoom, Nat.le_of_ble_eq_true rfl, Nat.le_of_ble_eq_true rfl, (Nat.le_of_ble_eq_true rfl), (Nat.le_of_ble_eq_true rfl)⟩ mw_269 mw_270 layX_14 rfl rfl rfl (Nat.le_of_ble_eq_true rfl) (c_X9_hasRoom_q14 (x_l X) (x_D X) (x_q X) g (x_cy X) (x_z X) _ (20 : Int32) o1 ho1) rfl rfl ?_
  refine go_if_ne (tgt := 14) (pc' := 12) hC dX11_feed_9 (by decide) rfl (fun h7 => ?_) (fun h7 => ?_)
  · have hf := ite_f h7 hf
    refine go_aload_n (pc' := 15) hC dX11_feed_14 rfl rfl ?_
    refine go_getq (pc' := 18) hC 0 1 layX_0 rfl rfl inlX11 (Nat.le_of_ble_eq_true rfl) mw_19 rfl dX11_feed_15 rfl ?_
    refine go_iload_n (pc' := 19) hC dX11_feed_18 rfl rfl ?_
    obtain ⟨o2, ho2, hf⟩ := bd_e hf
    refine go_callV1 (pc' := 22) (As := [.int p1]) (st := []) (st' := []) (L1' := [(1400, o2.1)]) (L2' := []) (L3' := [(15, o2.2)]) (L4' := []) (L5' := []) (cells' := 0) (slots' := 0)  (b := 14) hC dX11_feed_19 ⟨mw_273, mw_276, mw_18, yd_yX9_put, yp_yX9_put, Nat.le_of_ble_eq_true rfl, Nat.le_of_ble_eq_true rfl, (Nat.le_of_ble_eq_true rfl), (Nat.le_of_ble_eq_true rfl)⟩ mw_274 mw_275 layX_14 rfl rfl rfl (Nat.le_of_ble_eq_true rfl) (c_X9_put_q14 (x_l X) (x_D X) (x_q X) g (x_cy X) (x_z X) _ p1 o2 ho2) rfl rfl rfl rfl rfl rfl rfl rfl rfl rfl rfl rfl rfl rfl ?_
    refine go_aload_n (pc' := 23) hC dX11_feed_22 rfl rfl ?_
    refine go_getq (pc' := 26) hC 0 1 layX_0 rfl rfl inlX11 (Nat.le_of_ble_eq_true rfl) mw_19 rfl dX11_feed_23 rfl ?_
    refine go_iload_n (pc' := 27) hC dX11_feed_26 rfl rfl ?_
    obtain ⟨o3, ho3, hf⟩ := bd_e hf
    refine go_callV1 (pc' := 30) (As := [.int p2]) (st := []) (st' := []) (L1' := [(1400, o3.1)]) (L2' := []) (L3' := [(15, o3.2)]) (L4' := []) (L5' := []) (cells' := 0) (slots' := 0)  (b := 14) hC dX11_feed_27 ⟨mw_273, mw_276, mw_18, yd_yX9_put, yp_yX9_put, Nat.le_of_ble_eq_true rfl, Nat.le_of_ble_eq_true rfl, (Nat.le_of_ble_eq_true rfl), (Nat.le_of_ble_eq_true rfl)⟩ mw_274 mw_275 layX_14 rfl rfl rfl (Nat.le_of_ble_eq_true rfl) (c_X9_put_q14 (x_l X) (x_D X) (x_q X) g (x_cy X) (x_z X) _ p2 o3 ho3) rfl rfl rfl rfl rfl rfl rfl rfl rfl rfl rfl rfl rfl rfl ?_
    refine go_aload_n (pc' := 31) hC dX11_feed_30 rfl rfl ?_
    refine go_getq (pc' := 34) hC 0 1 layX_0 rfl rfl inlX11 (Nat.le_of_ble_eq_true rfl) mw_19 rfl dX11_feed_31 rfl ?_
    refine go_iload_n (pc' := 35) hC dX11_feed_34 rfl rfl ?_
    obtain ⟨o4, ho4, hf⟩ := bd_e hf
    refine go_callV1 (pc' := 38) (As := [.int p3]) (st := []) (st' := []) (L1' := [(1400, o4.1)]) (L2' := []) (L3' := [(15, o4.2)]) (L4' := []) (L5' := []) (cells' := 0) (slots' := 0)  (b := 14) hC dX11_feed_35 ⟨mw_273, mw_276, mw_18, yd_yX9_put, yp_yX9_put, Nat.le_of_ble_eq_true rfl, Nat.le_of_ble_eq_true rfl, (Nat.le_of_ble_eq_true rfl), (Nat.le_of_ble_eq_true rfl)⟩ mw_274 mw_275 layX_14 rfl rfl rfl (Nat.le_of_ble_eq_true rfl) (c_X9_put_q14 (x_l X) (x_D X) (x_q X) g (x_cy X) (x_z X) _ p3 o4 ho4) rfl rfl rfl rfl rfl rfl rfl rfl rfl rfl rfl rfl rfl rfl ?_
    refine go_aload_n (pc' := 39) hC dX11_feed_38 rfl rfl ?_
    refine go_getq (pc' := 42) hC 0 1 layX_0 rfl rfl inlX11 (Nat.le_of_ble_eq_true rfl) mw_19 rfl dX11_feed_39 rfl ?_
    refine go_iload (pc' := 44) hC dX11_feed_42 rfl rfl ?_
    obtain ⟨o5, ho5, hf⟩ := bd_e hf
    refine go_callV1 (pc' := 47) (As := [.int p4]) (st := []) (st' := []) (L1' := [(1400, o5.1)]) (L2' := []) (L3' := [(15, o5.2)]) (L4' := []) (L5' := []) (cells' := 0) (slots' := 0)  (b := 14) hC dX11_feed_44 ⟨mw_273, mw_276, mw_18, yd_yX9_put, yp_yX9_put, Nat.le_of_ble_eq_true rfl, Nat.le_of_ble_eq_true rfl, (Nat.le_of_ble_eq_true rfl), (Nat.le_of_ble_eq_true rfl)⟩ mw_274 mw_275 layX_14 rfl rfl rfl (Nat.le_of_ble_eq_true rfl) (c_X9_put_q14 (x_l X) (x_D X) (x_q X) g (x_cy X) (x_z X) _ p4 o5 ho5) rfl rfl rfl rfl rfl rfl rfl rfl rfl rfl rfl rfl rfl rfl ?_
    refine go_aload_n (pc' := 48) hC dX11_feed_47 rfl rfl ?_
    refine go_getq (pc' := 51) hC 0 1 layX_0 rfl rfl inlX11 (Nat.le_of_ble_eq_true rfl) mw_19 rfl dX11_feed_48 rfl ?_
    refine go_iload (pc' := 53) hC dX11_feed_51 rfl rfl ?_
    obtain ⟨o6, ho6, hf⟩ := bd_e hf
    refine go_callV1 (pc' := 56) (As := [.int p5]) (st := []) (st' := []) (L1' := [(1400, o6.1)]) (L2' := []) (L3' := [(15, o6.2)]) (L4' := []) (L5' := []) (cells' := 0) (slots' := 0)  (b := 14) hC dX11_feed_53 ⟨mw_273, mw_276, mw_18, yd_yX9_put, yp_yX9_put, Nat.le_of_ble_eq_true rfl, Nat.le_of_ble_eq_true rfl, (Nat.le_of_ble_eq_true rfl), (Nat.le_of_ble_eq_true rfl)⟩ mw_274 mw_275 layX_14 rfl rfl rfl (Nat.le_of_ble_eq_true rfl) (c_X9_put_q14 (x_l X) (x_D X) (x_q X) g (x_cy X) (x_z X) _ p5 o6 ho6) rfl rfl rfl rfl rfl rfl rfl rfl rfl rfl rfl rfl rfl rfl ?_
    refine go_aload_n (pc' := 57) hC dX11_feed_56 rfl rfl ?_
    refine go_getq (pc' := 60) hC 0 1 layX_0 rfl rfl inlX11 (Nat.le_of_ble_eq_true rfl) mw_19 rfl dX11_feed_57 rfl ?_
    refine go_geti (v := o6.1) (pc' := 63) hC 14 0 layX_14 rfl rfl inlX9 (Nat.le_of_ble_eq_true rfl) mw_267 rfl dX11_feed_60 rfl rfl ?_
    obtain rfl := Option.some.inj hf
    exact go_iret hC hQ dX11_feed_63 rfl rfl rfl rfl (fun _ => rfl) rfl rfl
  · have hf := ite_t h7 hf
    refine go_iconst (pc' := 13) hC dX11_feed_12 ki_m1 rfl ?_
    obtain rfl := Option.some.inj hf
    exact go_iret hC hQ dX11_feed_13 rfl rfl rfl rfl (fun _ => rfl) rfl rfl
theorem dX11_end_0 : decode cX11_end 0 = .ok (.iload_n 1, 1) := by decide +kernel
theorem dX11_end_1 : decode cX11_end 1 = .ok (.ifCond .lt 14, 3) := by decide +kernel
theorem dX11_end_4 : decode cX11_end 4 = .ok (.iload_n 1, 1) := by decide +kernel
theorem dX11_end_5 : decode cX11_end 5 = .ok (.aload_n 0, 1) := by decide +kernel
theorem dX11_end_6 : decode cX11_end 6 = .ok (.getfield 21, 3) := by decide +kernel
theorem dX11_end_9 : decode cX11_end 9 = .ok (.getfield 113, 3) := by decide +kernel
theorem dX11_end_12 : decode cX11_end 12 = .ok (.if_icmp .le 5, 3) := by decide +kernel
theorem dX11_end_15 : decode cX11_end 15 = .ok (.iconst (-1), 1) := by decide +kernel
theorem dX11_end_16 : decode cX11_end 16 = .ok (.ireturn, 1) := by decide +kernel
theorem dX11_end_17 : decode cX11_end 17 = .ok (.aload_n 0, 1) := by decide +kernel
theorem dX11_end_18 : decode cX11_end 18 = .ok (.getfield 21, 3) := by decide +kernel
theorem dX11_end_21 : decode cX11_end 21 = .ok (.iload_n 1, 1) := by decide +kernel
theorem dX11_end_22 : decode cX11_end 22 = .ok (.putfield 113, 3) := by decide +kernel
theorem dX11_end_25 : decode cX11_end 25 = .ok (.iload_n 1, 1) := by decide +kernel
theorem dX11_end_26 : decode cX11_end 26 = .ok (.ireturn, 1) := by decide +kernel
abbrev o_X11_end : Type := Int32 × Int32
def f_X11_end (S : wd_W) (p1 : Int32) : Option o_X11_end :=
if p1 < 0 then (
some ((-1 : Int32), (S.1 1400))) else (
if p1 ≤ (S.1 1400) then (
some (p1, p1)) else (
some ((-1 : Int32), (S.1 1400))))
set_option maxRecDepth 100000 in
set_option maxHeartbeats 4000000 in
theorem c_X11_end (l : Launch) (D : va_G) (q g : Nat → Nat) (cy : Nat → ClassId) (z : (Nat → Nat) × (Nat → Nat) × Nat) (S : wd_W) (p1 : Int32) (o : o_X11_end) (hf : f_X11_end S p1 = some o) : MX layX l yX11_end cX11_end 2 (some .int) ({ frames := 0, cells := 0, slots := 0, locals := 0 } : Room) D q g cy z [.ref (q 0), .int p1] S false (some (.int o.1)) (wd_o S [(1400, o.2)] [] [] [] []) 0 0 := by
  refine mx_of (own := RX11) (lc := [(0, .ref (q 0)), (1, .int p1)]) (by decide +kernel) rfl layX_ok (Nat.le_of_ble_eq_true rfl) rfl ?_
  intro X hXl hXq hXz hC hQ
  subst hXl; subst hXq; subst hXz
  unfold f_X11_end at hf
  refine go_keys (L1 := [(1400, (S.1 1400))]) (L2 := []) (L3 := []) (L4 := []) (L5 := []) [1400] [] [] [] [] rfl rfl rfl rfl rfl ?_
  refine go_iload_n (pc' := 1) hC dX11_end_0 rfl rfl ?_
  refine go_if_lt (tgt := 15) (pc' := 4) hC dX11_end_1 (by decide) rfl (fun h2 => ?_) (fun h2 => ?_)
  · have hf := ite_t h2 hf
    refine go_iconst (pc' := 16) hC dX11_end_15 ki_m1 rfl ?_
    obtain rfl := Option.some.inj hf
    exact go_iret hC hQ dX11_end_16 rfl rfl rfl rfl (fun _ => rfl) rfl rfl
  · have hf := ite_f h2 hf
    refine go_iload_n (pc' := 5) hC dX11_end_4 rfl rfl ?_
    refine go_aload_n (pc' := 6) hC dX11_end_5 rfl rfl ?_
    refine go_getq (pc' := 9) hC 0 1 layX_0 rfl rfl inlX11 (Nat.le_of_ble_eq_true rfl) mw_19 rfl dX11_end_6 rfl ?_
    refine go_geti (v := (S.1 1400)) (pc' := 12) hC 14 0 layX_14 rfl rfl inlX9 (Nat.le_of_ble_eq_true rfl) mw_267 rfl dX11_end_9 rfl rfl ?_
    refine go_icmp_le (tgt := 17) (pc' := 15) hC dX11_end_12 (by decide) rfl (fun h1 => ?_) (fun h1 => ?_)
    · have hf := ite_t h1 hf
      refine go_aload_n (pc' := 18) hC dX11_end_17 rfl rfl ?_
      refine go_getq (pc' := 21) hC 0 1 layX_0 rfl rfl inlX11 (Nat.le_of_ble_eq_true rfl) mw_19 rfl dX11_end_18 rfl ?_
      refine go_iload_n (pc' := 22) hC dX11_end_21 rfl rfl ?_
      refine go_puti (L1' := [(1400, p1)]) (pc' := 25) hC 14 0 layX_14 rfl rfl inlX9 tyX9_ok nmX9 (Nat.le_of_ble_eq_true rfl) mw_267 rfl rfl rfl rfl dX11_end_22 rfl rfl rfl ?_
      refine go_iload_n (pc' := 26) hC dX11_end_25 rfl rfl ?_
      obtain rfl := Option.some.inj hf
      exact go_iret hC hQ dX11_end_26 rfl rfl rfl rfl (fun _ => rfl) rfl rfl
    · have hf := ite_f h1 hf
      refine go_iconst (pc' := 16) hC dX11_end_15 ki_m1 rfl ?_
      obtain rfl := Option.some.inj hf
      exact go_iret hC hQ dX11_end_16 rfl rfl rfl rfl (fun _ => rfl) rfl rfl
theorem dX2_countBy_0 : decode cX2_countBy 0 = .ok (.aload_n 0, 1) := by decide +kernel
theorem dX2_countBy_1 : decode cX2_countBy 1 = .ok (.iload_n 1, 1) := by decide +kernel
theorem dX2_countBy_2 : decode cX2_countBy 2 = .ok (.putfield 46, 3) := by decide +kernel
theorem dX2_countBy_5 : decode cX2_countBy 5 = .ok (.aload_n 0, 1) := by decide +kernel
theorem dX2_countBy_6 : decode cX2_countBy 6 = .ok (.iload_n 2, 1) := by decide +kernel
theorem dX2_countBy_7 : decode cX2_countBy 7 = .ok (.putfield 62, 3) := by decide +kernel
theorem dX2_countBy_10 : decode cX2_countBy 10 = .ok (.aload_n 0, 1) := by decide +kernel
theorem dX2_countBy_11 : decode cX2_countBy 11 = .ok (.iload_n 3, 1) := by decide +kernel
theorem dX2_countBy_12 : decode cX2_countBy 12 = .ok (.putfield 65, 3) := by decide +kernel
theorem dX2_countBy_15 : decode cX2_countBy 15 = .ok (.aload_n 0, 1) := by decide +kernel
theorem dX2_countBy_16 : decode cX2_countBy 16 = .ok (.iload 4, 2) := by decide +kernel
theorem dX2_countBy_18 : decode cX2_countBy 18 = .ok (.putfield 68, 3) := by decide +kernel
theorem dX2_countBy_21 : decode cX2_countBy 21 = .ok (.return_, 1) := by decide +kernel
abbrev o_X2_countBy_q3 : Type := Int32 × Int32 × Int32 × Int32
def f_X2_countBy_q3 (S : wd_W) (p1 : Int32) (p2 : Int32) (p3 : Int32) (p4 : Int32) : Option o_X2_countBy_q3 :=
some (p1, p2, p3, p4)
set_option maxRecDepth 100000 in
set_option maxHeartbeats 4000000 in
theorem c_X2_countBy_q3 (l : Launch) (D : va_G) (q g : Nat → Nat) (cy : Nat → ClassId) (z : (Nat → Nat) × (Nat → Nat) × Nat) (S : wd_W) (p1 : Int32) (p2 : Int32) (p3 : Int32) (p4 : Int32) (o : o_X2_countBy_q3) (hf : f_X2_countBy_q3 S p1 p2 p3 p4 = some o) : MX layX l yX2_countBy cX2_countBy 5 none ({ frames := 0, cells := 0, slots := 0, locals := 0 } : Room) D q g cy z [.ref (q 3), .int p1, .int p2, .int p3, .int p4] S false (none) (wd_o S [(314, o.1), (315, o.2.1), (316, o.2.2.1), (317, o.2.2.2)] [] [] [] []) 0 0 := by
  refine mx_of (own := RX2) (lc := [(0, .ref (q 3)), (1, .int p1), (2, .int p2), (3, .int p3), (4, .int p4)]) (by decide +kernel) rfl layX_ok (Nat.le_of_ble_eq_true rfl) rfl ?_
  intro X hXl hXq hXz hC hQ
  subst hXl; subst hXq; subst hXz
  unfold f_X2_countBy_q3 at hf
  refine go_keys (L1 := [(314, (S.1 314)), (315, (S.1 315)), (316, (S.1 316)), (317, (S.1 317))]) (L2 := []) (L3 := []) (L4 := []) (L5 := []) [314, 315, 316, 317] [] [] [] [] rfl rfl rfl rfl rfl ?_
  refine go_aload_n (pc' := 1) hC dX2_countBy_0 rfl rfl ?_
  refine go_iload_n (pc' := 2) hC dX2_countBy_1 rfl rfl ?_
  refine go_puti (L1' := [(314, p1), (315, (S.1 315)), (316, (S.1 316)), (317, (S.1 317))]) (pc' := 5) hC 3 14 layX_3 rfl rfl inlX2 tyX2_ok nmX2 (Nat.le_of_ble_eq_true rfl) mw_70 rfl rfl rfl rfl dX2_countBy_2 rfl rfl rfl ?_
  refine go_aload_n (pc' := 6) hC dX2_countBy_5 rfl rfl ?_
  refine go_iload_n (pc' := 7) hC dX2_countBy_6 rfl rfl ?_
  refine go_puti (L1' := [(314, p1), (315, p2), (316, (S.1 316)), (317, (S.1 317))]) (pc' := 10) hC 3 15 layX_3 rfl rfl inlX2 tyX2_ok nmX2 (Nat.le_of_ble_eq_true rfl) mw_316 rfl rfl rfl rfl dX2_countBy_7 rfl rfl rfl ?_
  refine go_aload_n (pc' := 11) hC dX2_countBy_10 rfl rfl ?_
  refine go_iload_n (pc' := 12) hC dX2_countBy_11 rfl rfl ?_
  refine go_puti (L1' := [(314, p1), (315, p2), (316, p3), (317, (S.1 317))]) (pc' := 15) hC 3 16 layX_3 rfl rfl inlX2 tyX2_ok nmX2 (Nat.le_of_ble_eq_true rfl) mw_317 rfl rfl rfl rfl dX2_countBy_12 rfl rfl rfl ?_
  refine go_aload_n (pc' := 16) hC dX2_countBy_15 rfl rfl ?_
  refine go_iload (pc' := 18) hC dX2_countBy_16 rfl rfl ?_
  refine go_puti (L1' := [(314, p1), (315, p2), (316, p3), (317, p4)]) (pc' := 21) hC 3 17 layX_3 rfl rfl inlX2 tyX2_ok nmX2 (Nat.le_of_ble_eq_true rfl) mw_318 rfl rfl rfl rfl dX2_countBy_18 rfl rfl rfl ?_
  obtain rfl := Option.some.inj hf
  exact go_vret hC hQ dX2_countBy_21 rfl rfl rfl (fun _ => rfl) rfl rfl
theorem dX2_clear_0 : decode cX2_clear 0 = .ok (.aload_n 0, 1) := by decide +kernel
theorem dX2_clear_1 : decode cX2_clear 1 = .ok (.iconst 2, 1) := by decide +kernel
theorem dX2_clear_2 : decode cX2_clear 2 = .ok (.putfield 9, 3) := by decide +kernel
theorem dX2_clear_5 : decode cX2_clear 5 = .ok (.aload_n 0, 1) := by decide +kernel
theorem dX2_clear_6 : decode cX2_clear 6 = .ok (.iconst 0, 1) := by decide +kernel
theorem dX2_clear_7 : decode cX2_clear 7 = .ok (.putfield 49, 3) := by decide +kernel
theorem dX2_clear_10 : decode cX2_clear 10 = .ok (.aload_n 0, 1) := by decide +kernel
theorem dX2_clear_11 : decode cX2_clear 11 = .ok (.iconst 0, 1) := by decide +kernel
theorem dX2_clear_12 : decode cX2_clear 12 = .ok (.putfield 52, 3) := by decide +kernel
theorem dX2_clear_15 : decode cX2_clear 15 = .ok (.aload_n 0, 1) := by decide +kernel
theorem dX2_clear_16 : decode cX2_clear 16 = .ok (.iconst 0, 1) := by decide +kernel
theorem dX2_clear_17 : decode cX2_clear 17 = .ok (.putfield 55, 3) := by decide +kernel
theorem dX2_clear_20 : decode cX2_clear 20 = .ok (.aload_n 0, 1) := by decide +kernel
theorem dX2_clear_21 : decode cX2_clear 21 = .ok (.iconst 1, 1) := by decide +kernel
theorem dX2_clear_22 : decode cX2_clear 22 = .ok (.iconst 0, 1) := by decide +kernel
theorem dX2_clear_23 : decode cX2_clear 23 = .ok (.iconst 0, 1) := by decide +kernel
theorem dX2_clear_24 : decode cX2_clear 24 = .ok (.iconst 0, 1) := by decide +kernel
theorem dX2_clear_25 : decode cX2_clear 25 = .ok (.invokevirtual 58, 3) := by decide +kernel
theorem dX2_clear_28 : decode cX2_clear 28 = .ok (.return_, 1) := by decide +kernel
abbrev o_X2_clear_q3 : Type := Int32 × Int32 × Int32 × Int32 × Int32 × Int32 × Int32 × Int32
def f_X2_clear_q3 (S : wd_W) : Option o_X2_clear_q3 :=
bd (f_X2_countBy_q3 (wd_o S [(300, (2 : Int32)), (301, (0 : Int32)), (307, (0 : Int32)), (310, (0 : Int32)), (314, (S.1 314)), (315, (S.1 315)), (316, (S.1 316)), (317, (S.1 317))] [] [] [] []) (1 : Int32) (0 : Int32) (0 : Int32) (0 : Int32)) fun o1 =>
some ((2 : Int32), (0 : Int32), (0 : Int32), (0 : Int32), o1.1, o1.2.1, o1.2.2.1, o1.2.2.2)
set_option maxRecDepth 100000 in
set_option maxHeartbeats 4000000 in
theorem c_X2_clear_q3 (l : Launch) (D : va_G) (q g : Nat → Nat) (cy : Nat → ClassId) (z : (Nat → Nat) × (Nat → Nat) × Nat) (S : wd_W) (o : o_X2_clear_q3) (hf : f_X2_clear_q3 S = some o) : MX layX l yX2_clear cX2_clear 1 none ({ frames := 1, cells := 0, slots := 0, locals := 24 } : Room) D q g cy z [.ref (q 3)] S false (none) (wd_o S [(300, o.1), (301, o.2.1), (307, o.2.2.1), (310, o.2.2.2.1), (314, o.2.2.2.2.1), (315, o.2.2.2.2.2.1), (316, o.2.2.2.2.2.2.1), (317, o.2.2.2.2.2.2.2)] [] [] [] []) 0 0 := by
  refine mx_of (own := RX2) (lc := [(0, .ref (q 3))]) (by decide +kernel) rfl layX_ok (Nat.le_of_ble_eq_true rfl) rfl ?_
  intro X hXl hXq hXz hC hQ
  subst hXl; subst hXq; subst hXz
  unfold f_X2_clear_q3 at hf
  refine go_keys (L1 := [(300, (S.1 300)), (301, (S.1 301)), (307, (S.1 307)), (310, (S.1 310)), (314, (S.1 314)), (315, (S.1 315)), (316, (S.1 316)), (317, (S.1 317))]) (L2 := []) (L3 := []) (L4 := []) (L5 := []) [300, 301, 307, 310, 314, 315, 316, 317] [] [] [] [] rfl rfl rfl rfl rfl ?_
  refine go_aload_n (pc' := 1) hC dX2_clear_0 rfl rfl ?_
  refine go_iconst (pc' := 2) hC dX2_clear_1 ki_2 rfl ?_
  refine go_puti (L1' := [(300, (2 : Int32)), (301, (S.1 301)), (307, (S.1 307)), (310, (S.1 310)), (314, (S.1 314)), (315, (S.1 315)), (316, (S.1 316)), (317, (S.1 317))]) (pc' := 5) hC 3 0 layX_3 rfl rfl inlX2 tyX2_ok nmX2 (Nat.le_of_ble_eq_true rfl) mw_58 rfl rfl rfl rfl dX2_clear_2 rfl rfl rfl ?_
  refine go_aload_n (pc' := 6) hC dX2_clear_5 rfl rfl ?_
  refine go_iconst (pc' := 7) hC dX2_clear_6 ki_0 rfl ?_
  refine go_puti (L1' := [(300, (2 : Int32)), (301, (0 : Int32)), (307, (S.1 307)), (310, (S.1 310)), (314, (S.1 314)), (315, (S.1 315)), (316, (S.1 316)), (317, (S.1 317))]) (pc' := 10) hC 3 1 layX_3 rfl rfl inlX2 tyX2_ok nmX2 (Nat.le_of_ble_eq_true rfl) mw_309 rfl rfl rfl rfl dX2_clear_7 rfl rfl rfl ?_
  refine go_aload_n (pc' := 11) hC dX2_clear_10 rfl rfl ?_
  refine go_iconst (pc' := 12) hC dX2_clear_11 ki_0 rfl ?_
  refine go_puti (L1' := [(300, (2 : Int32)), (301, (0 : Int32)), (307, (0 : Int32)), (310, (S.1 310)), (314, (S.1 314)), (315, (S.1 315)), (316, (S.1 316)), (317, (S.1 317))]) (pc' := 15) hC 3 7 layX_3 rfl rfl inlX2 tyX2_ok nmX2 (Nat.le_of_ble_eq_true rfl) mw_310 rfl rfl rfl rfl dX2_clear_12 rfl rfl rfl ?_
  refine go_aload_n (pc' := 16) hC dX2_clear_15 rfl rfl ?_
  refine go_iconst (pc' := 17) hC dX2_clear_16 ki_0 rfl ?_
  refine go_puti (L1' := [(300, (2 : Int32)), (301, (0 : Int32)), (307, (0 : Int32)), (310, (0 : Int32)), (314, (S.1 314)), (315, (S.1 315)), (316, (S.1 316)), (317, (S.1 317))]) (pc' := 20) hC 3 10 layX_3 rfl rfl inlX2 tyX2_ok nmX2 (Nat.le_of_ble_eq_true rfl) mw_311 rfl rfl rfl rfl dX2_clear_17 rfl rfl rfl ?_
  refine go_aload_n (pc' := 21) hC dX2_clear_20 rfl rfl ?_
  refine go_iconst (pc' := 22) hC dX2_clear_21 ki_1 rfl ?_
  refine go_iconst (pc' := 23) hC dX2_clear_22 ki_0 rfl ?_
  refine go_iconst (pc' := 24) hC dX2_clear_23 ki_0 rfl ?_
  refine go_iconst (pc' := 25) hC dX2_clear_24 ki_0 rfl ?_
  obtain ⟨o1, ho1, hf⟩ := bd_e hf
  refine go_callV1 (pc' := 28) (As := [.int (1 : Int32), .int (0 : Int32), .int (0 : Int32), .int (0 : Int32)]) (st := []) (st' := []) (L1' := [(300, (2 : Int32)), (301, (0 : Int32)), (307, (0 : Int32)), (310, (0 : Int32)), (314, o1.1), (315, o1.2.1), (316, o1.2.2.1), (317, o1.2.2.2)]) (L2' := []) (L3' := []) (L4' := []) (L5' := []) (cells' := 0) (slots' := 0)  (b := 3) hC dX2_clear_25 ⟨mw_312, mw_315, mw_14, yd_yX2_countBy, yp_yX2_countBy, Nat.le_of_ble_eq_true rfl, Nat.le_of_ble_eq_true rfl, (Nat.le_of_ble_eq_true rfl), (Nat.le_of_ble_eq_true rfl)⟩ mw_313 mw_314 layX_3 rfl rfl rfl (Nat.le_of_ble_eq_true rfl) (c_X2_countBy_q3 (x_l X) (x_D X) (x_q X) g (x_cy X) (x_z X) _ (1 : Int32) (0 : Int32) (0 : Int32) (0 : Int32) o1 ho1) rfl rfl rfl rfl rfl rfl rfl rfl rfl rfl rfl rfl rfl rfl ?_
  obtain rfl := Option.some.inj hf
  exact go_vret hC hQ dX2_clear_28 rfl rfl rfl (fun _ => rfl) rfl rfl
theorem dX9_skipBlanks_0 : decode cX9_skipBlanks 0 = .ok (.aload_n 0, 1) := by decide +kernel
theorem dX9_skipBlanks_1 : decode cX9_skipBlanks 1 = .ok (.getfield 28, 3) := by decide +kernel
theorem dX9_skipBlanks_4 : decode cX9_skipBlanks 4 = .ok (.aload_n 0, 1) := by decide +kernel
theorem dX9_skipBlanks_5 : decode cX9_skipBlanks 5 = .ok (.getfield 19, 3) := by decide +kernel
theorem dX9_skipBlanks_8 : decode cX9_skipBlanks 8 = .ok (.if_icmp .ge 30, 3) := by decide +kernel
theorem dX9_skipBlanks_11 : decode cX9_skipBlanks 11 = .ok (.aload_n 0, 1) := by decide +kernel
theorem dX9_skipBlanks_12 : decode cX9_skipBlanks 12 = .ok (.getfield 9, 3) := by decide +kernel
theorem dX9_skipBlanks_15 : decode cX9_skipBlanks 15 = .ok (.aload_n 0, 1) := by decide +kernel
theorem dX9_skipBlanks_16 : decode cX9_skipBlanks 16 = .ok (.getfield 28, 3) := by decide +kernel
theorem dX9_skipBlanks_19 : decode cX9_skipBlanks 19 = .ok (.iaload, 1) := by decide +kernel
theorem dX9_skipBlanks_20 : decode cX9_skipBlanks 20 = .ok (.bipush 32, 2) := by decide +kernel
theorem dX9_skipBlanks_22 : decode cX9_skipBlanks 22 = .ok (.if_icmp .ne 16, 3) := by decide +kernel
theorem dX9_skipBlanks_25 : decode cX9_skipBlanks 25 = .ok (.aload_n 0, 1) := by decide +kernel
theorem dX9_skipBlanks_26 : decode cX9_skipBlanks 26 = .ok (.dup, 1) := by decide +kernel
theorem dX9_skipBlanks_27 : decode cX9_skipBlanks 27 = .ok (.getfield 28, 3) := by decide +kernel
theorem dX9_skipBlanks_30 : decode cX9_skipBlanks 30 = .ok (.iconst 1, 1) := by decide +kernel
theorem dX9_skipBlanks_31 : decode cX9_skipBlanks 31 = .ok (.iadd, 1) := by decide +kernel
theorem dX9_skipBlanks_32 : decode cX9_skipBlanks 32 = .ok (.putfield 28, 3) := by decide +kernel
theorem dX9_skipBlanks_35 : decode cX9_skipBlanks 35 = .ok (.goto (-35), 3) := by decide +kernel
theorem dX9_skipBlanks_38 : decode cX9_skipBlanks 38 = .ok (.return_, 1) := by decide +kernel
abbrev o_X9_skipBlanks_q14 : Type := Int32
def f_X9_skipBlanks_q14_L0 (S : wd_W) (r2 : (Int32) → (Option o_X9_skipBlanks_q14)) (x1 : Int32) : Option o_X9_skipBlanks_q14 :=
if (S.1 1400) ≤ x1 then (
some x1) else (
gd (okx x1 400) <|
if ((S.2.2.1 15) x1.toNatClampNeg) = (32 : Int32) then (
lz (x1 + (1 : Int32)) fun x4 =>
r2 x4) else (
some x1))
def f_X9_skipBlanks_q14 (S : wd_W) : Option o_X9_skipBlanks_q14 :=
it1 (f_X9_skipBlanks_q14_L0 S) fuel (S.1 1402)
set_option maxRecDepth 100000 in
set_option maxHeartbeats 4000000 in
theorem c_X9_skipBlanks_q14 (l : Launch) (D : va_G) (q g : Nat → Nat) (cy : Nat → ClassId) (z : (Nat → Nat) × (Nat → Nat) × Nat) (S : wd_W) (o : o_X9_skipBlanks_q14) (hf : f_X9_skipBlanks_q14 S = some o) : MX layX l yX9_skipBlanks cX9_skipBlanks 1 none ({ frames := 0, cells := 0, slots := 0, locals := 0 } : Room) D q g cy z [.ref (q 14)] S false (none) (wd_o S [(1402, o)] [] [] [] []) 0 0 := by
  refine mx_of (own := RX9) (lc := [(0, .ref (q 14))]) (by decide +kernel) rfl layX_ok (Nat.le_of_ble_eq_true rfl) rfl ?_
  intro X hXl hXq hXz hC hQ
  subst hXl; subst hXq; subst hXz
  unfold f_X9_skipBlanks_q14 at hf
  refine go_keys (L1 := [(1402, (S.1 1402))]) (L2 := []) (L3 := []) (L4 := []) (L5 := []) [1402] [] [] [] [] rfl rfl rfl rfl rfl ?_
  have l0_7 : ∀ (nn : Nat) (x1 : Int32), it1 (f_X9_skipBlanks_q14_L0 S) nn x1 = some o → Go X layX S 0 [(0, .ref (x_q X 14))] [] g [(1402, x1)] [] [] [] [] 0 0 := by
    intro nn
    induction nn with
    | zero =>
      intro x1 hf
      exact none_no hf
    | succ nn ih =>
      intro x1 hf
      have hf : f_X9_skipBlanks_q14_L0 S (it1 (f_X9_skipBlanks_q14_L0 S) nn) x1 = some o := hf
      generalize it1 (f_X9_skipBlanks_q14_L0 S) nn = r2 at ih hf
      unfold f_X9_skipBlanks_q14_L0 at hf
      refine go_aload_n (pc' := 1) hC dX9_skipBlanks_0 rfl rfl ?_
      refine go_geti (v := x1) (pc' := 4) hC 14 2 layX_14 rfl rfl inlX9 (Nat.le_of_ble_eq_true rfl) mw_302 rfl dX9_skipBlanks_1 rfl rfl ?_
      refine go_aload_n (pc' := 5) hC dX9_skipBlanks_4 rfl rfl ?_
      refine go_geti (v := (S.1 1400)) (pc' := 8) hC 14 0 layX_14 rfl rfl inlX9 (Nat.le_of_ble_eq_true rfl) mw_272 rfl dX9_skipBlanks_5 rfl rfl ?_
      refine go_icmp_ge (tgt := 38) (pc' := 11) hC dX9_skipBlanks_8 (by decide) rfl (fun h6 => ?_) (fun h6 => ?_)
      · have hf := ite_t h6 hf
        obtain rfl := Option.some.inj hf
        exact go_vret hC hQ dX9_skipBlanks_38 rfl rfl rfl (fun _ => rfl) rfl rfl
      · have hf := ite_f h6 hf
        refine go_aload_n (pc' := 12) hC dX9_skipBlanks_11 rfl rfl ?_
        refine go_getq (pc' := 15) hC 14 1 layX_14 rfl rfl inlX9 (Nat.le_of_ble_eq_true rfl) mw_75 rfl dX9_skipBlanks_12 rfl ?_
        refine go_aload_n (pc' := 16) hC dX9_skipBlanks_15 rfl rfl ?_
        refine go_geti (v := x1) (pc' := 19) hC 14 2 layX_14 rfl rfl inlX9 (Nat.le_of_ble_eq_true rfl) mw_302 rfl dX9_skipBlanks_16 rfl rfl ?_
        obtain ⟨h3, hf⟩ := gd_e hf
        refine go_iald (f := (S.2.2.1 15)) (pc' := 20) hC 15 layX_15 rfl rfl dX9_skipBlanks_19 (okx_in h3) rfl ?_
        refine go_bipush (pc' := 22) hC dX9_skipBlanks_20 kb_32 rfl ?_
        refine go_icmp_ne (tgt := 38) (pc' := 25) hC dX9_skipBlanks_22 (by decide) rfl (fun h5 => ?_) (fun h5 => ?_)
        · have hf := ite_f h5 hf
          obtain rfl := Option.some.inj hf
          exact go_vret hC hQ dX9_skipBlanks_38 rfl rfl rfl (fun _ => rfl) rfl rfl
        · have hf := ite_t h5 hf
          refine go_aload_n (pc' := 26) hC dX9_skipBlanks_25 rfl rfl ?_
          refine go_dup (pc' := 27) hC dX9_skipBlanks_26 rfl rfl ?_
          refine go_geti (v := x1) (pc' := 30) hC 14 2 layX_14 rfl rfl inlX9 (Nat.le_of_ble_eq_true rfl) mw_302 rfl dX9_skipBlanks_27 rfl rfl ?_
          refine go_iconst (pc' := 31) hC dX9_skipBlanks_30 ki_1 rfl ?_
          refine go_iadd (pc' := 32) hC dX9_skipBlanks_31 rfl ?_
          refine go_namei (fun x4 hx => ?_)
          have hf := lz_r hx hf
          clear hx
          refine go_puti (L1' := [(1402, x4)]) (pc' := 35) hC 14 2 layX_14 rfl rfl inlX9 tyX9_ok nmX9 (Nat.le_of_ble_eq_true rfl) mw_302 rfl rfl rfl rfl dX9_skipBlanks_32 rfl rfl rfl ?_
          refine go_goto (tgt := 0) hC dX9_skipBlanks_35 (by decide) ?_
          exact ih x4 hf
  exact l0_7 fuel (S.1 1402) hf
theorem dX9_readWord_0 : decode cX9_readWord 0 = .ok (.aload_n 0, 1) := by decide +kernel
theorem dX9_readWord_1 : decode cX9_readWord 1 = .ok (.invokevirtual 52, 3) := by decide +kernel
theorem dX9_readWord_4 : decode cX9_readWord 4 = .ok (.aload_n 0, 1) := by decide +kernel
theorem dX9_readWord_5 : decode cX9_readWord 5 = .ok (.aload_n 0, 1) := by decide +kernel
theorem dX9_readWord_6 : decode cX9_readWord 6 = .ok (.getfield 28, 3) := by decide +kernel
theorem dX9_readWord_9 : decode cX9_readWord 9 = .ok (.putfield 55, 3) := by decide +kernel
theorem dX9_readWord_12 : decode cX9_readWord 12 = .ok (.aload_n 0, 1) := by decide +kernel
theorem dX9_readWord_13 : decode cX9_readWord 13 = .ok (.getfield 28, 3) := by decide +kernel
theorem dX9_readWord_16 : decode cX9_readWord 16 = .ok (.aload_n 0, 1) := by decide +kernel
theorem dX9_readWord_17 : decode cX9_readWord 17 = .ok (.getfield 19, 3) := by decide +kernel
theorem dX9_readWord_20 : decode cX9_readWord 20 = .ok (.if_icmp .ge 44, 3) := by decide +kernel
theorem dX9_readWord_23 : decode cX9_readWord 23 = .ok (.aload_n 0, 1) := by decide +kernel
theorem dX9_readWord_24 : decode cX9_readWord 24 = .ok (.getfield 9, 3) := by decide +kernel
theorem dX9_readWord_27 : decode cX9_readWord 27 = .ok (.aload_n 0, 1) := by decide +kernel
theorem dX9_readWord_28 : decode cX9_readWord 28 = .ok (.getfield 28, 3) := by decide +kernel
theorem dX9_readWord_31 : decode cX9_readWord 31 = .ok (.iaload, 1) := by decide +kernel
theorem dX9_readWord_32 : decode cX9_readWord 32 = .ok (.bipush 97, 2) := by decide +kernel
theorem dX9_readWord_34 : decode cX9_readWord 34 = .ok (.if_icmp .lt 30, 3) := by decide +kernel
theorem dX9_readWord_37 : decode cX9_readWord 37 = .ok (.aload_n 0, 1) := by decide +kernel
theorem dX9_readWord_38 : decode cX9_readWord 38 = .ok (.getfield 9, 3) := by decide +kernel
theorem dX9_readWord_41 : decode cX9_readWord 41 = .ok (.aload_n 0, 1) := by decide +kernel
theorem dX9_readWord_42 : decode cX9_readWord 42 = .ok (.getfield 28, 3) := by decide +kernel
theorem dX9_readWord_45 : decode cX9_readWord 45 = .ok (.iaload, 1) := by decide +kernel
theorem dX9_readWord_46 : decode cX9_readWord 46 = .ok (.bipush 122, 2) := by decide +kernel
theorem dX9_readWord_48 : decode cX9_readWord 48 = .ok (.if_icmp .gt 16, 3) := by decide +kernel
theorem dX9_readWord_51 : decode cX9_readWord 51 = .ok (.aload_n 0, 1) := by decide +kernel
theorem dX9_readWord_52 : decode cX9_readWord 52 = .ok (.dup, 1) := by decide +kernel
theorem dX9_readWord_53 : decode cX9_readWord 53 = .ok (.getfield 28, 3) := by decide +kernel
theorem dX9_readWord_56 : decode cX9_readWord 56 = .ok (.iconst 1, 1) := by decide +kernel
theorem dX9_readWord_57 : decode cX9_readWord 57 = .ok (.iadd, 1) := by decide +kernel
theorem dX9_readWord_58 : decode cX9_readWord 58 = .ok (.putfield 28, 3) := by decide +kernel
theorem dX9_readWord_61 : decode cX9_readWord 61 = .ok (.goto (-49), 3) := by decide +kernel
theorem dX9_readWord_64 : decode cX9_readWord 64 = .ok (.return_, 1) := by decide +kernel
abbrev o_X9_readWord_q14 : Type := Int32 × Int32
def f_X9_readWord_q14_L12 (S : wd_W) (o1 : o_X9_skipBlanks_q14) (r3 : (Int32) → (Option o_X9_readWord_q14)) (x2 : Int32) : Option o_X9_readWord_q14 :=
if (S.1 1400) ≤ x2 then (
some (x2, o1)) else (
gd (okx x2 400) <|
if ((S.2.2.1 15) x2.toNatClampNeg) < (97 : Int32) then (
some (x2, o1)) else (
gd (okx x2 400) <|
if (122 : Int32) < ((S.2.2.1 15) x2.toNatClampNeg) then (
some (x2, o1)) else (
lz (x2 + (1 : Int32)) fun x6 =>
r3 x6)))
def f_X9_readWord_q14 (S : wd_W) : Option o_X9_readWord_q14 :=
bd (f_X9_skipBlanks_q14 (wd_o S [(1402, (S.1 1402)), (1403, (S.1 1403))] [] [] [] [])) fun o1 =>
it1 (f_X9_readWord_q14_L12 S o1) fuel o1
set_option maxRecDepth 100000 in
set_option maxHeartbeats 4000000 in
theorem c_X9_readWord_q14 (l : Launch) (D : va_G) (q g : Nat → Nat) (cy : Nat → ClassId) (z : (Nat → Nat) × (Nat → Nat) × Nat) (S : wd_W) (o : o_X9_readWord_q14) (hf : f_X9_readWord_q14 S = some o) : MX layX l yX9_readWord cX9_readWord 1 none ({ frames := 1, cells := 0, slots := 0, locals := 20 } : Room) D q g cy z [.ref (q 14)] S false (none) (wd_o S [(1402, o.1), (1403, o.2)] [] [] [] []) 0 0 := by
  refine mx_of (own := RX9) (lc := [(0, .ref (q 14))]) (by decide +kernel) rfl layX_ok (Nat.le_of_ble_eq_true rfl) rfl ?_
  intro X hXl hXq hXz hC hQ
  subst hXl; subst hXq; subst hXz
  unfold f_X9_readWord_q14 at hf
  refine go_keys (L1 := [(1402, (S.1 1402)), (1403, (S.1 1403))]) (L2 := []) (L3 := []) (L4 := []) (L5 := []) [1402, 1403] [] [] [] [] rfl rfl rfl rfl rfl ?_
  refine go_aload_n (pc' := 1) hC dX9_readWord_0 rfl rfl ?_
  obtain ⟨o1, ho1, hf⟩ := bd_e hf
  refine go_callV1 (pc' := 4) (As := []) (st := []) (st' := []) (L1' := [(1402, o1), (1403, (S.1 1403))]) (L2' := []) (L3' := []) (L4' := []) (L5' := []) (cells' := 0) (slots' := 0)  (b := 14) hC dX9_readWord_1 ⟨mw_329, mw_332, mw_18, yd_yX9_skipBlanks, yp_yX9_skipBlanks, Nat.le_of_ble_eq_true rfl, Nat.le_of_ble_eq_true rfl, (Nat.le_of_ble_eq_true rfl), (Nat.le_of_ble_eq_true rfl)⟩ mw_330 mw_331 layX_14 rfl rfl rfl (Nat.le_of_ble_eq_true rfl) (c_X9_skipBlanks_q14 (x_l X) (x_D X) (x_q X) g (x_cy X) (x_z X) _  o1 ho1) rfl rfl rfl rfl rfl rfl rfl rfl rfl rfl rfl rfl rfl rfl ?_
  refine go_aload_n (pc' := 5) hC dX9_readWord_4 rfl rfl ?_
  refine go_aload_n (pc' := 6) hC dX9_readWord_5 rfl rfl ?_
  refine go_geti (v := o1) (pc' := 9) hC 14 2 layX_14 rfl rfl inlX9 (Nat.le_of_ble_eq_true rfl) mw_302 rfl dX9_readWord_6 rfl rfl ?_
  refine go_puti (L1' := [(1402, o1), (1403, o1)]) (pc' := 12) hC 14 3 layX_14 rfl rfl inlX9 tyX9_ok nmX9 (Nat.le_of_ble_eq_true rfl) mw_323 rfl rfl rfl rfl dX9_readWord_9 rfl rfl rfl ?_
  have l12_10 : ∀ (nn : Nat) (x2 : Int32), it1 (f_X9_readWord_q14_L12 S o1) nn x2 = some o → Go X layX S 12 [(0, .ref (x_q X 14))] [] g [(1402, x2), (1403, o1)] [] [] [] [] 0 0 := by
    intro nn
    induction nn with
    | zero =>
      intro x2 hf
      exact none_no hf
    | succ nn ih =>
      intro x2 hf
      have hf : f_X9_readWord_q14_L12 S o1 (it1 (f_X9_readWord_q14_L12 S o1) nn) x2 = some o := hf
      generalize it1 (f_X9_readWord_q14_L12 S o1) nn = r3 at ih hf
      unfold f_X9_readWord_q14_L12 at hf
      refine go_aload_n (pc' := 13) hC dX9_readWord_12 rfl rfl ?_
      refine go_geti (v := x2) (pc' := 16) hC 14 2 layX_14 rfl rfl inlX9 (Nat.le_of_ble_eq_true rfl) mw_302 rfl dX9_readWord_13 rfl rfl ?_
      refine go_aload_n (pc' := 17) hC dX9_readWord_16 rfl rfl ?_
      refine go_geti (v := (S.1 1400)) (pc' := 20) hC 14 0 layX_14 rfl rfl inlX9 (Nat.le_of_ble_eq_true rfl) mw_272 rfl dX9_readWord_17 rfl rfl ?_
      refine go_icmp_ge (tgt := 64) (pc' := 23) hC dX9_readWord_20 (by decide) rfl (fun h9 => ?_) (fun h9 => ?_)
      · have hf := ite_t h9 hf
        obtain rfl := Option.some.inj hf
        exact go_vret hC hQ dX9_readWord_64 rfl rfl rfl (fun _ => rfl) rfl rfl
      · have hf := ite_f h9 hf
        refine go_aload_n (pc' := 24) hC dX9_readWord_23 rfl rfl ?_
        refine go_getq (pc' := 27) hC 14 1 layX_14 rfl rfl inlX9 (Nat.le_of_ble_eq_true rfl) mw_75 rfl dX9_readWord_24 rfl ?_
        refine go_aload_n (pc' := 28) hC dX9_readWord_27 rfl rfl ?_
        refine go_geti (v := x2) (pc' := 31) hC 14 2 layX_14 rfl rfl inlX9 (Nat.le_of_ble_eq_true rfl) mw_302 rfl dX9_readWord_28 rfl rfl ?_
        obtain ⟨h4, hf⟩ := gd_e hf
        refine go_iald (f := (S.2.2.1 15)) (pc' := 32) hC 15 layX_15 rfl rfl dX9_readWord_31 (okx_in h4) rfl ?_
        refine go_bipush (pc' := 34) hC dX9_readWord_32 kb_97 rfl ?_
        refine go_icmp_lt (tgt := 64) (pc' := 37) hC dX9_readWord_34 (by decide) rfl (fun h8 => ?_) (fun h8 => ?_)
        · have hf := ite_t h8 hf
          obtain rfl := Option.some.inj hf
          exact go_vret hC hQ dX9_readWord_64 rfl rfl rfl (fun _ => rfl) rfl rfl
        · have hf := ite_f h8 hf
          refine go_aload_n (pc' := 38) hC dX9_readWord_37 rfl rfl ?_
          refine go_getq (pc' := 41) hC 14 1 layX_14 rfl rfl inlX9 (Nat.le_of_ble_eq_true rfl) mw_75 rfl dX9_readWord_38 rfl ?_
          refine go_aload_n (pc' := 42) hC dX9_readWord_41 rfl rfl ?_
          refine go_geti (v := x2) (pc' := 45) hC 14 2 layX_14 rfl rfl inlX9 (Nat.le_of_ble_eq_true rfl) mw_302 rfl dX9_readWord_42 rfl rfl ?_
          obtain ⟨h5, hf⟩ := gd_e hf
          refine go_iald (f := (S.2.2.1 15)) (pc' := 46) hC 15 layX_15 rfl rfl dX9_readWord_45 (okx_in h5) rfl ?_
          refine go_bipush (pc' := 48) hC dX9_readWord_46 kb_122 rfl ?_
          refine go_icmp_gt (tgt := 64) (pc' := 51) hC dX9_readWord_48 (by decide) rfl (fun h7 => ?_) (fun h7 => ?_)
          · have hf := ite_t h7 hf
            obtain rfl := Option.some.inj hf
            exact go_vret hC hQ dX9_readWord_64 rfl rfl rfl (fun _ => rfl) rfl rfl
          · have hf := ite_f h7 hf
            refine go_aload_n (pc' := 52) hC dX9_readWord_51 rfl rfl ?_
            refine go_dup (pc' := 53) hC dX9_readWord_52 rfl rfl ?_
            refine go_geti (v := x2) (pc' := 56) hC 14 2 layX_14 rfl rfl inlX9 (Nat.le_of_ble_eq_true rfl) mw_302 rfl dX9_readWord_53 rfl rfl ?_
            refine go_iconst (pc' := 57) hC dX9_readWord_56 ki_1 rfl ?_
            refine go_iadd (pc' := 58) hC dX9_readWord_57 rfl ?_
            refine go_namei (fun x6 hx => ?_)
            have hf := lz_r hx hf
            clear hx
            refine go_puti (L1' := [(1402, x6), (1403, o1)]) (pc' := 61) hC 14 2 layX_14 rfl rfl inlX9 tyX9_ok nmX9 (Nat.le_of_ble_eq_true rfl) mw_302 rfl rfl rfl rfl dX9_readWord_58 rfl rfl rfl ?_
            refine go_goto (tgt := 12) hC dX9_readWord_61 (by decide) ?_
            exact ih x6 hf
  exact l12_10 fuel o1 hf
theorem dX9_isWord_0 : decode cX9_isWord 0 = .ok (.aload_n 0, 1) := by decide +kernel
theorem dX9_isWord_1 : decode cX9_isWord 1 = .ok (.getfield 28, 3) := by decide +kernel
theorem dX9_isWord_4 : decode cX9_isWord 4 = .ok (.aload_n 0, 1) := by decide +kernel
theorem dX9_isWord_5 : decode cX9_isWord 5 = .ok (.getfield 55, 3) := by decide +kernel
theorem dX9_isWord_8 : decode cX9_isWord 8 = .ok (.isub, 1) := by decide +kernel
theorem dX9_isWord_9 : decode cX9_isWord 9 = .ok (.aload_n 1, 1) := by decide +kernel
theorem dX9_isWord_10 : decode cX9_isWord 10 = .ok (.invokevirtual 58, 3) := by decide +kernel
theorem dX9_isWord_13 : decode cX9_isWord 13 = .ok (.if_icmp .eq 5, 3) := by decide +kernel
theorem dX9_isWord_16 : decode cX9_isWord 16 = .ok (.iconst 0, 1) := by decide +kernel
theorem dX9_isWord_17 : decode cX9_isWord 17 = .ok (.ireturn, 1) := by decide +kernel
theorem dX9_isWord_18 : decode cX9_isWord 18 = .ok (.iconst 0, 1) := by decide +kernel
theorem dX9_isWord_19 : decode cX9_isWord 19 = .ok (.istore_n 2, 1) := by decide +kernel
theorem dX9_isWord_20 : decode cX9_isWord 20 = .ok (.iload_n 2, 1) := by decide +kernel
theorem dX9_isWord_21 : decode cX9_isWord 21 = .ok (.aload_n 1, 1) := by decide +kernel
theorem dX9_isWord_22 : decode cX9_isWord 22 = .ok (.invokevirtual 58, 3) := by decide +kernel
theorem dX9_isWord_25 : decode cX9_isWord 25 = .ok (.if_icmp .ge 30, 3) := by decide +kernel
theorem dX9_isWord_28 : decode cX9_isWord 28 = .ok (.aload_n 0, 1) := by decide +kernel
theorem dX9_isWord_29 : decode cX9_isWord 29 = .ok (.getfield 9, 3) := by decide +kernel
theorem dX9_isWord_32 : decode cX9_isWord 32 = .ok (.aload_n 0, 1) := by decide +kernel
theorem dX9_isWord_33 : decode cX9_isWord 33 = .ok (.getfield 55, 3) := by decide +kernel
theorem dX9_isWord_36 : decode cX9_isWord 36 = .ok (.iload_n 2, 1) := by decide +kernel
theorem dX9_isWord_37 : decode cX9_isWord 37 = .ok (.iadd, 1) := by decide +kernel
theorem dX9_isWord_38 : decode cX9_isWord 38 = .ok (.iaload, 1) := by decide +kernel
theorem dX9_isWord_39 : decode cX9_isWord 39 = .ok (.aload_n 1, 1) := by decide +kernel
theorem dX9_isWord_40 : decode cX9_isWord 40 = .ok (.iload_n 2, 1) := by decide +kernel
theorem dX9_isWord_41 : decode cX9_isWord 41 = .ok (.invokevirtual 64, 3) := by decide +kernel
theorem dX9_isWord_44 : decode cX9_isWord 44 = .ok (.if_icmp .eq 5, 3) := by decide +kernel
theorem dX9_isWord_47 : decode cX9_isWord 47 = .ok (.iconst 0, 1) := by decide +kernel
theorem dX9_isWord_48 : decode cX9_isWord 48 = .ok (.ireturn, 1) := by decide +kernel
theorem dX9_isWord_49 : decode cX9_isWord 49 = .ok (.iinc 2 1, 3) := by decide +kernel
theorem dX9_isWord_52 : decode cX9_isWord 52 = .ok (.goto (-32), 3) := by decide +kernel
theorem dX9_isWord_55 : decode cX9_isWord 55 = .ok (.iconst 1, 1) := by decide +kernel
theorem dX9_isWord_56 : decode cX9_isWord 56 = .ok (.ireturn, 1) := by decide +kernel
abbrev o_X9_isWord_q14_str0 : Type := Int32
def f_X9_isWord_q14_str0_L20 (S : wd_W) (r2 : (Int32) → (Option o_X9_isWord_q14_str0)) (x1 : Int32) : Option o_X9_isWord_q14_str0 :=
if (6 : Int32) ≤ x1 then (
some (1 : Int32)) else (
gd (okx ((S.1 1403) + x1) 400) <|
gd (okx x1 6) <|
if ((S.2.2.1 15) ((S.1 1403) + x1).toNatClampNeg) = (st_ch 0 x1) then (
r2 (x1 + (1 : Int32))) else (
some (0 : Int32)))
def f_X9_isWord_q14_str0 (S : wd_W) : Option o_X9_isWord_q14_str0 :=
if ((S.1 1402) - (S.1 1403)) = (6 : Int32) then (
it1 (f_X9_isWord_q14_str0_L20 S) fuel (0 : Int32)) else (
some (0 : Int32))
set_option maxRecDepth 100000 in
set_option maxHeartbeats 4000000 in
theorem c_X9_isWord_q14_str0 (l : Launch) (D : va_G) (q g : Nat → Nat) (cy : Nat → ClassId) (z : (Nat → Nat) × (Nat → Nat) × Nat) (S : wd_W) (o : o_X9_isWord_q14_str0) (hf : f_X9_isWord_q14_str0 S = some o) : MX layX l yX9_isWord cX9_isWord 3 (some .boolean) ({ frames := 4, cells := 0, slots := 0, locals := 85 } : Room) D q g cy z [.ref (q 14), .ref (z.1 0)] S false (some (.int o)) (wd_o S [] [] [] [] []) 0 0 := by
  refine mx_of (own := RX9) (lc := [(0, .ref (q 14)), (1, .ref (z.1 0))]) (by decide +kernel) rfl layX_ok (Nat.le_of_ble_eq_true rfl) rfl ?_
  intro X hXl hXq hXz hC hQ
  subst hXl; subst hXq; subst hXz
  unfold f_X9_isWord_q14_str0 at hf
  refine go_aload_n (pc' := 1) hC dX9_isWord_0 rfl rfl ?_
  refine go_geti (v := (S.1 1402)) (pc' := 4) hC 14 2 layX_14 rfl rfl inlX9 (Nat.le_of_ble_eq_true rfl) mw_302 rfl dX9_isWord_1 rfl rfl ?_
  refine go_aload_n (pc' := 5) hC dX9_isWord_4 rfl rfl ?_
  refine go_geti (v := (S.1 1403)) (pc' := 8) hC 14 3 layX_14 rfl rfl inlX9 (Nat.le_of_ble_eq_true rfl) mw_323 rfl dX9_isWord_5 rfl rfl ?_
  refine go_isub (pc' := 9) hC dX9_isWord_8 rfl ?_
  refine go_aload_n (pc' := 10) hC dX9_isWord_9 rfl rfl ?_
  refine go_callVs0 (pc' := 13) (As := []) (st := [.int ((S.1 1402) - (S.1 1403))]) (st' := [.int (6 : Int32), .int ((S.1 1402) - (S.1 1403))]) hC dX9_isWord_10 ⟨mw_337, mw_341, mw_340, yd_yJ0_length_8abf5, yp_yJ0_length_8abf5, Nat.le_of_ble_eq_true rfl, Nat.le_of_ble_eq_true rfl, Nat.le_of_ble_eq_true rfl, Nat.le_of_ble_eq_true rfl⟩ mw_338 mw_339 (by decide : 0 < 11) rfl rfl (Nat.le_of_ble_eq_true rfl) (c_strlen (x_l X) (x_D X) (x_q X) g (x_cy X) (x_z X) _ layX layX_ok (by decide : 0 < 11) (by decide : Int32.ofNat (st_len.getD 0 0) >>> ((0 : Int32) &&& 31) = 6)) rfl rfl ?_
  refine go_icmp_eq (tgt := 18) (pc' := 16) hC dX9_isWord_13 (by decide) rfl (fun h8 => ?_) (fun h8 => ?_)
  · have hf := ite_t h8 hf
    refine go_iconst (pc' := 19) hC dX9_isWord_18 ki_0 rfl ?_
    refine go_istore_n (lc' := [(0, .ref (x_q X 14)), (1, .ref ((x_z X).1 0)), (2, .int (0 : Int32))]) (pc' := 20) hC dX9_isWord_19 (Nat.le_of_ble_eq_true rfl) rfl rfl ?_
    have l20_7 : ∀ (nn : Nat) (x1 : Int32), it1 (f_X9_isWord_q14_str0_L20 S) nn x1 = some o → Go X layX S 20 [(0, .ref (x_q X 14)), (1, .ref ((x_z X).1 0)), (2, .int x1)] [] g [] [] [] [] [] 0 0 := by
      intro nn
      induction nn with
      | zero =>
        intro x1 hf
        exact none_no hf
      | succ nn ih =>
        intro x1 hf
        have hf : f_X9_isWord_q14_str0_L20 S (it1 (f_X9_isWord_q14_str0_L20 S) nn) x1 = some o := hf
        generalize it1 (f_X9_isWord_q14_str0_L20 S) nn = r2 at ih hf
        unfold f_X9_isWord_q14_str0_L20 at hf
        refine go_iload_n (pc' := 21) hC dX9_isWord_20 rfl rfl ?_
        refine go_aload_n (pc' := 22) hC dX9_isWord_21 rfl rfl ?_
        refine go_callVs0 (pc' := 25) (As := []) (st := [.int x1]) (st' := [.int (6 : Int32), .int x1]) hC dX9_isWord_22 ⟨mw_337, mw_341, mw_340, yd_yJ0_length_8abf5, yp_yJ0_length_8abf5, Nat.le_of_ble_eq_true rfl, Nat.le_of_ble_eq_true rfl, Nat.le_of_ble_eq_true rfl, Nat.le_of_ble_eq_true rfl⟩ mw_338 mw_339 (by decide : 0 < 11) rfl rfl (Nat.le_of_ble_eq_true rfl) (c_strlen (x_l X) (x_D X) (x_q X) g (x_cy X) (x_z X) _ layX layX_ok (by decide : 0 < 11) (by decide : Int32.ofNat (st_len.getD 0 0) >>> ((0 : Int32) &&& 31) = 6)) rfl rfl ?_
        refine go_icmp_ge (tgt := 55) (pc' := 28) hC dX9_isWord_25 (by decide) rfl (fun h6 => ?_) (fun h6 => ?_)
        · have hf := ite_t h6 hf
          refine go_iconst (pc' := 56) hC dX9_isWord_55 ki_1 rfl ?_
          obtain rfl := Option.some.inj hf
          exact go_iret hC hQ dX9_isWord_56 rfl rfl rfl rfl (fun _ => rfl) rfl rfl
        · have hf := ite_f h6 hf
          refine go_aload_n (pc' := 29) hC dX9_isWord_28 rfl rfl ?_
          refine go_getq (pc' := 32) hC 14 1 layX_14 rfl rfl inlX9 (Nat.le_of_ble_eq_true rfl) mw_75 rfl dX9_isWord_29 rfl ?_
          refine go_aload_n (pc' := 33) hC dX9_isWord_32 rfl rfl ?_
          refine go_geti (v := (S.1 1403)) (pc' := 36) hC 14 3 layX_14 rfl rfl inlX9 (Nat.le_of_ble_eq_true rfl) mw_323 rfl dX9_isWord_33 rfl rfl ?_
          refine go_iload_n (pc' := 37) hC dX9_isWord_36 rfl rfl ?_
          refine go_iadd (pc' := 38) hC dX9_isWord_37 rfl ?_
          obtain ⟨h3, hf⟩ := gd_e hf
          refine go_iald (f := (S.2.2.1 15)) (pc' := 39) hC 15 layX_15 rfl rfl dX9_isWord_38 (okx_in h3) rfl ?_
          refine go_aload_n (pc' := 40) hC dX9_isWord_39 rfl rfl ?_
          refine go_iload_n (pc' := 41) hC dX9_isWord_40 rfl rfl ?_
          obtain ⟨h4, hf⟩ := gd_e hf
          refine go_callVs0 (pc' := 44) (As := [.int x1]) (st := [.int ((S.2.2.1 15) ((S.1 1403) + x1).toNatClampNeg)]) (st' := [.int (st_ch 0 x1), .int ((S.2.2.1 15) ((S.1 1403) + x1).toNatClampNeg)]) hC dX9_isWord_41 ⟨mw_349, mw_352, mw_340, yd_yJ0_charAt_5068e, yp_yJ0_charAt_5068e, Nat.le_of_ble_eq_true rfl, Nat.le_of_ble_eq_true rfl, Nat.le_of_ble_eq_true rfl, Nat.le_of_ble_eq_true rfl⟩ mw_350 mw_351 (by decide : 0 < 11) rfl rfl (Nat.le_of_ble_eq_true rfl) (c_charAt (x_l X) (x_D X) (x_q X) g (x_cy X) (x_z X) _ layX layX_ok (by decide : 0 < 11) h4) rfl rfl ?_
          refine go_icmp_eq (tgt := 49) (pc' := 47) hC dX9_isWord_44 (by decide) rfl (fun h5 => ?_) (fun h5 => ?_)
          · have hf := ite_t h5 hf
            refine go_iinc (lc' := [(0, .ref (x_q X 14)), (1, .ref ((x_z X).1 0)), (2, .int (x1 + (1 : Int32)))]) (pc' := 52) hC dX9_isWord_49 rfl ki_1 (Nat.le_of_ble_eq_true rfl) rfl rfl ?_
            refine go_goto (tgt := 20) hC dX9_isWord_52 (by decide) ?_
            exact ih (x1 + (1 : Int32)) hf
          · have hf := ite_f h5 hf
            refine go_iconst (pc' := 48) hC dX9_isWord_47 ki_0 rfl ?_
            obtain rfl := Option.some.inj hf
            exact go_iret hC hQ dX9_isWord_48 rfl rfl rfl rfl (fun _ => rfl) rfl rfl
    exact l20_7 fuel (0 : Int32) hf
  · have hf := ite_f h8 hf
    refine go_iconst (pc' := 17) hC dX9_isWord_16 ki_0 rfl ?_
    obtain rfl := Option.some.inj hf
    exact go_iret hC hQ dX9_isWord_17 rfl rfl rfl rfl (fun _ => rfl) rfl rfl
theorem dX9_blame_0 : decode cX9_blame 0 = .ok (.aload_n 0, 1) := by decide +kernel
theorem dX9_blame_1 : decode cX9_blame 1 = .ok (.getfield 31, 3) := by decide +kernel
theorem dX9_blame_4 : decode cX9_blame 4 = .ok (.ifCond .ne 15, 3) := by decide +kernel
theorem dX9_blame_7 : decode cX9_blame 7 = .ok (.aload_n 0, 1) := by decide +kernel
theorem dX9_blame_8 : decode cX9_blame 8 = .ok (.iconst 1, 1) := by decide +kernel
theorem dX9_blame_9 : decode cX9_blame 9 = .ok (.bipush 8, 2) := by decide +kernel
theorem dX9_blame_11 : decode cX9_blame 11 = .ok (.iload_n 1, 1) := by decide +kernel
theorem dX9_blame_12 : decode cX9_blame 12 = .ok (.imul, 1) := by decide +kernel
theorem dX9_blame_13 : decode cX9_blame 13 = .ok (.iadd, 1) := by decide +kernel
theorem dX9_blame_14 : decode cX9_blame 14 = .ok (.iload_n 2, 1) := by decide +kernel
theorem dX9_blame_15 : decode cX9_blame 15 = .ok (.iadd, 1) := by decide +kernel
theorem dX9_blame_16 : decode cX9_blame 16 = .ok (.putfield 31, 3) := by decide +kernel
theorem dX9_blame_19 : decode cX9_blame 19 = .ok (.return_, 1) := by decide +kernel
abbrev o_X9_blame_q14 : Type := Int32
def f_X9_blame_q14 (S : wd_W) (p1 : Int32) (p2 : Int32) : Option o_X9_blame_q14 :=
if (S.1 1404) = 0 then (
lz (((1 : Int32) + ((8 : Int32) * p1)) + p2) fun x1 =>
some x1) else (
some (S.1 1404))
set_option maxRecDepth 100000 in
set_option maxHeartbeats 4000000 in
theorem c_X9_blame_q14 (l : Launch) (D : va_G) (q g : Nat → Nat) (cy : Nat → ClassId) (z : (Nat → Nat) × (Nat → Nat) × Nat) (S : wd_W) (p1 : Int32) (p2 : Int32) (o : o_X9_blame_q14) (hf : f_X9_blame_q14 S p1 p2 = some o) : MX layX l yX9_blame cX9_blame 3 none ({ frames := 0, cells := 0, slots := 0, locals := 0 } : Room) D q g cy z [.ref (q 14), .int p1, .int p2] S false (none) (wd_o S [(1404, o)] [] [] [] []) 0 0 := by
  refine mx_of (own := RX9) (lc := [(0, .ref (q 14)), (1, .int p1), (2, .int p2)]) (by decide +kernel) rfl layX_ok (Nat.le_of_ble_eq_true rfl) rfl ?_
  intro X hXl hXq hXz hC hQ
  subst hXl; subst hXq; subst hXz
  unfold f_X9_blame_q14 at hf
  refine go_keys (L1 := [(1404, (S.1 1404))]) (L2 := []) (L3 := []) (L4 := []) (L5 := []) [1404] [] [] [] [] rfl rfl rfl rfl rfl ?_
  refine go_aload_n (pc' := 1) hC dX9_blame_0 rfl rfl ?_
  refine go_geti (v := (S.1 1404)) (pc' := 4) hC 14 4 layX_14 rfl rfl inlX9 (Nat.le_of_ble_eq_true rfl) mw_303 rfl dX9_blame_1 rfl rfl ?_
  refine go_if_ne (tgt := 19) (pc' := 7) hC dX9_blame_4 (by decide) rfl (fun h2 => ?_) (fun h2 => ?_)
  · have hf := ite_f h2 hf
    obtain rfl := Option.some.inj hf
    exact go_vret hC hQ dX9_blame_19 rfl rfl rfl (fun _ => rfl) rfl rfl
  · have hf := ite_t h2 hf
    refine go_aload_n (pc' := 8) hC dX9_blame_7 rfl rfl ?_
    refine go_iconst (pc' := 9) hC dX9_blame_8 ki_1 rfl ?_
    refine go_bipush (pc' := 11) hC dX9_blame_9 kb_8 rfl ?_
    refine go_iload_n (pc' := 12) hC dX9_blame_11 rfl rfl ?_
    refine go_imul (pc' := 13) hC dX9_blame_12 rfl ?_
    refine go_iadd (pc' := 14) hC dX9_blame_13 rfl ?_
    refine go_iload_n (pc' := 15) hC dX9_blame_14 rfl rfl ?_
    refine go_iadd (pc' := 16) hC dX9_blame_15 rfl ?_
    refine go_namei (fun x1 hx => ?_)
    have hf := lz_r hx hf
    clear hx
    refine go_puti (L1' := [(1404, x1)]) (pc' := 19) hC 14 4 layX_14 rfl rfl inlX9 tyX9_ok nmX9 (Nat.le_of_ble_eq_true rfl) mw_303 rfl rfl rfl rfl dX9_blame_16 rfl rfl rfl ?_
    obtain rfl := Option.some.inj hf
    exact go_vret hC hQ dX9_blame_19 rfl rfl rfl (fun _ => rfl) rfl rfl
theorem dX9_readNumber_0 : decode cX9_readNumber 0 = .ok (.aload_n 0, 1) := by decide +kernel
theorem dX9_readNumber_1 : decode cX9_readNumber 1 = .ok (.invokevirtual 52, 3) := by decide +kernel
theorem dX9_readNumber_4 : decode cX9_readNumber 4 = .ok (.aload_n 0, 1) := by decide +kernel
theorem dX9_readNumber_5 : decode cX9_readNumber 5 = .ok (.aload_n 0, 1) := by decide +kernel
theorem dX9_readNumber_6 : decode cX9_readNumber 6 = .ok (.getfield 28, 3) := by decide +kernel
theorem dX9_readNumber_9 : decode cX9_readNumber 9 = .ok (.putfield 55, 3) := by decide +kernel
theorem dX9_readNumber_12 : decode cX9_readNumber 12 = .ok (.iconst 0, 1) := by decide +kernel
theorem dX9_readNumber_13 : decode cX9_readNumber 13 = .ok (.istore_n 3, 1) := by decide +kernel
theorem dX9_readNumber_14 : decode cX9_readNumber 14 = .ok (.aload_n 0, 1) := by decide +kernel
theorem dX9_readNumber_15 : decode cX9_readNumber 15 = .ok (.getfield 28, 3) := by decide +kernel
theorem dX9_readNumber_18 : decode cX9_readNumber 18 = .ok (.aload_n 0, 1) := by decide +kernel
theorem dX9_readNumber_19 : decode cX9_readNumber 19 = .ok (.getfield 19, 3) := by decide +kernel
theorem dX9_readNumber_22 : decode cX9_readNumber 22 = .ok (.if_icmp .ge 68, 3) := by decide +kernel
theorem dX9_readNumber_25 : decode cX9_readNumber 25 = .ok (.aload_n 0, 1) := by decide +kernel
theorem dX9_readNumber_26 : decode cX9_readNumber 26 = .ok (.getfield 9, 3) := by decide +kernel
theorem dX9_readNumber_29 : decode cX9_readNumber 29 = .ok (.aload_n 0, 1) := by decide +kernel
theorem dX9_readNumber_30 : decode cX9_readNumber 30 = .ok (.getfield 28, 3) := by decide +kernel
theorem dX9_readNumber_33 : decode cX9_readNumber 33 = .ok (.iaload, 1) := by decide +kernel
theorem dX9_readNumber_34 : decode cX9_readNumber 34 = .ok (.bipush 48, 2) := by decide +kernel
theorem dX9_readNumber_36 : decode cX9_readNumber 36 = .ok (.if_icmp .lt 54, 3) := by decide +kernel
theorem dX9_readNumber_39 : decode cX9_readNumber 39 = .ok (.aload_n 0, 1) := by decide +kernel
theorem dX9_readNumber_40 : decode cX9_readNumber 40 = .ok (.getfield 9, 3) := by decide +kernel
theorem dX9_readNumber_43 : decode cX9_readNumber 43 = .ok (.aload_n 0, 1) := by decide +kernel
theorem dX9_readNumber_44 : decode cX9_readNumber 44 = .ok (.getfield 28, 3) := by decide +kernel
theorem dX9_readNumber_47 : decode cX9_readNumber 47 = .ok (.iaload, 1) := by decide +kernel
theorem dX9_readNumber_48 : decode cX9_readNumber 48 = .ok (.bipush 57, 2) := by decide +kernel
theorem dX9_readNumber_50 : decode cX9_readNumber 50 = .ok (.if_icmp .gt 40, 3) := by decide +kernel
theorem dX9_readNumber_53 : decode cX9_readNumber 53 = .ok (.sipush 1000, 3) := by decide +kernel
theorem dX9_readNumber_56 : decode cX9_readNumber 56 = .ok (.iload_n 3, 1) := by decide +kernel
theorem dX9_readNumber_57 : decode cX9_readNumber 57 = .ok (.bipush 10, 2) := by decide +kernel
theorem dX9_readNumber_59 : decode cX9_readNumber 59 = .ok (.imul, 1) := by decide +kernel
theorem dX9_readNumber_60 : decode cX9_readNumber 60 = .ok (.aload_n 0, 1) := by decide +kernel
theorem dX9_readNumber_61 : decode cX9_readNumber 61 = .ok (.getfield 9, 3) := by decide +kernel
theorem dX9_readNumber_64 : decode cX9_readNumber 64 = .ok (.aload_n 0, 1) := by decide +kernel
theorem dX9_readNumber_65 : decode cX9_readNumber 65 = .ok (.getfield 28, 3) := by decide +kernel
theorem dX9_readNumber_68 : decode cX9_readNumber 68 = .ok (.iaload, 1) := by decide +kernel
theorem dX9_readNumber_69 : decode cX9_readNumber 69 = .ok (.iadd, 1) := by decide +kernel
theorem dX9_readNumber_70 : decode cX9_readNumber 70 = .ok (.bipush 48, 2) := by decide +kernel
theorem dX9_readNumber_72 : decode cX9_readNumber 72 = .ok (.isub, 1) := by decide +kernel
theorem dX9_readNumber_73 : decode cX9_readNumber 73 = .ok (.invokestatic 68, 3) := by decide +kernel
theorem dX9_readNumber_76 : decode cX9_readNumber 76 = .ok (.istore_n 3, 1) := by decide +kernel
theorem dX9_readNumber_77 : decode cX9_readNumber 77 = .ok (.aload_n 0, 1) := by decide +kernel
theorem dX9_readNumber_78 : decode cX9_readNumber 78 = .ok (.dup, 1) := by decide +kernel
theorem dX9_readNumber_79 : decode cX9_readNumber 79 = .ok (.getfield 28, 3) := by decide +kernel
theorem dX9_readNumber_82 : decode cX9_readNumber 82 = .ok (.iconst 1, 1) := by decide +kernel
theorem dX9_readNumber_83 : decode cX9_readNumber 83 = .ok (.iadd, 1) := by decide +kernel
theorem dX9_readNumber_84 : decode cX9_readNumber 84 = .ok (.putfield 28, 3) := by decide +kernel
theorem dX9_readNumber_87 : decode cX9_readNumber 87 = .ok (.goto (-73), 3) := by decide +kernel
theorem dX9_readNumber_90 : decode cX9_readNumber 90 = .ok (.aload_n 0, 1) := by decide +kernel
theorem dX9_readNumber_91 : decode cX9_readNumber 91 = .ok (.getfield 28, 3) := by decide +kernel
theorem dX9_readNumber_94 : decode cX9_readNumber 94 = .ok (.aload_n 0, 1) := by decide +kernel
theorem dX9_readNumber_95 : decode cX9_readNumber 95 = .ok (.getfield 55, 3) := by decide +kernel
theorem dX9_readNumber_98 : decode cX9_readNumber 98 = .ok (.if_icmp .ne 15, 3) := by decide +kernel
theorem dX9_readNumber_101 : decode cX9_readNumber 101 = .ok (.aload_n 0, 1) := by decide +kernel
theorem dX9_readNumber_102 : decode cX9_readNumber 102 = .ok (.aload_n 0, 1) := by decide +kernel
theorem dX9_readNumber_103 : decode cX9_readNumber 103 = .ok (.getfield 55, 3) := by decide +kernel
theorem dX9_readNumber_106 : decode cX9_readNumber 106 = .ok (.iconst 0, 1) := by decide +kernel
theorem dX9_readNumber_107 : decode cX9_readNumber 107 = .ok (.invokevirtual 45, 3) := by decide +kernel
theorem dX9_readNumber_110 : decode cX9_readNumber 110 = .ok (.goto 35, 3) := by decide +kernel
theorem dX9_readNumber_113 : decode cX9_readNumber 113 = .ok (.aload_n 0, 1) := by decide +kernel
theorem dX9_readNumber_114 : decode cX9_readNumber 114 = .ok (.getfield 28, 3) := by decide +kernel
theorem dX9_readNumber_117 : decode cX9_readNumber 117 = .ok (.aload_n 0, 1) := by decide +kernel
theorem dX9_readNumber_118 : decode cX9_readNumber 118 = .ok (.getfield 55, 3) := by decide +kernel
theorem dX9_readNumber_121 : decode cX9_readNumber 121 = .ok (.isub, 1) := by decide +kernel
theorem dX9_readNumber_122 : decode cX9_readNumber 122 = .ok (.iconst 2, 1) := by decide +kernel
theorem dX9_readNumber_123 : decode cX9_readNumber 123 = .ok (.if_icmp .gt 13, 3) := by decide +kernel
theorem dX9_readNumber_126 : decode cX9_readNumber 126 = .ok (.iload_n 3, 1) := by decide +kernel
theorem dX9_readNumber_127 : decode cX9_readNumber 127 = .ok (.iload_n 1, 1) := by decide +kernel
theorem dX9_readNumber_128 : decode cX9_readNumber 128 = .ok (.if_icmp .lt 8, 3) := by decide +kernel
theorem dX9_readNumber_131 : decode cX9_readNumber 131 = .ok (.iload_n 3, 1) := by decide +kernel
theorem dX9_readNumber_132 : decode cX9_readNumber 132 = .ok (.iload_n 2, 1) := by decide +kernel
theorem dX9_readNumber_133 : decode cX9_readNumber 133 = .ok (.if_icmp .le 12, 3) := by decide +kernel
theorem dX9_readNumber_136 : decode cX9_readNumber 136 = .ok (.aload_n 0, 1) := by decide +kernel
theorem dX9_readNumber_137 : decode cX9_readNumber 137 = .ok (.aload_n 0, 1) := by decide +kernel
theorem dX9_readNumber_138 : decode cX9_readNumber 138 = .ok (.getfield 55, 3) := by decide +kernel
theorem dX9_readNumber_141 : decode cX9_readNumber 141 = .ok (.iconst 1, 1) := by decide +kernel
theorem dX9_readNumber_142 : decode cX9_readNumber 142 = .ok (.invokevirtual 45, 3) := by decide +kernel
theorem dX9_readNumber_145 : decode cX9_readNumber 145 = .ok (.iload_n 3, 1) := by decide +kernel
theorem dX9_readNumber_146 : decode cX9_readNumber 146 = .ok (.ireturn, 1) := by decide +kernel
abbrev o_X9_readNumber_q14 : Type := Int32 × Int32 × Int32 × Int32
def f_X9_readNumber_q14_L14 (S : wd_W) (k90_4 : (Int32) → (Int32) → (Option o_X9_readNumber_q14)) (r14 : (Int32) → (Int32) → (Option o_X9_readNumber_q14)) (x12 : Int32) (x13 : Int32) : Option o_X9_readNumber_q14 :=
if (S.1 1400) ≤ x13 then (
k90_4 x12 x13) else (
gd (okx x13 400) <|
if ((S.2.2.1 15) x13.toNatClampNeg) < (48 : Int32) then (
k90_4 x12 x13) else (
gd (okx x13 400) <|
if (57 : Int32) < ((S.2.2.1 15) x13.toNatClampNeg) then (
k90_4 x12 x13) else (
gd (okx x13 400) <|
lz ((if (((x12 * (10 : Int32)) + ((S.2.2.1 15) x13.toNatClampNeg)) - (48 : Int32)) < (1000 : Int32) then (((x12 * (10 : Int32)) + ((S.2.2.1 15) x13.toNatClampNeg)) - (48 : Int32)) else (1000 : Int32))) fun x18 =>
lz (x13 + (1 : Int32)) fun x19 =>
r14 x18 x19)))
def f_X9_readNumber_q14 (S : wd_W) (p1 : Int32) (p2 : Int32) : Option o_X9_readNumber_q14 :=
bd (f_X9_skipBlanks_q14 (wd_o S [(1402, (S.1 1402)), (1403, (S.1 1403)), (1404, (S.1 1404))] [] [] [] [])) fun o1 =>
lk (fun x2 x3 =>
if x3 = o1 then (
bd (f_X9_blame_q14 (wd_o S [(1402, x3), (1403, o1), (1404, (S.1 1404))] [] [] [] []) o1 (0 : Int32)) fun o10 =>
some (x2, x3, o1, o10)) else (
lk (bd (f_X9_blame_q14 (wd_o S [(1402, x3), (1403, o1), (1404, (S.1 1404))] [] [] [] []) o1 (1 : Int32)) fun o6 =>
some (x2, x3, o1, o6)) fun k136_5 =>
if (2 : Int32) < (x3 - o1) then (
k136_5) else (
if x2 < p1 then (
k136_5) else (
if x2 ≤ p2 then (
some (x2, x3, o1, (S.1 1404))) else (
k136_5))))) fun k90_4 =>
it2 (f_X9_readNumber_q14_L14 S k90_4) fuel (0 : Int32) o1
set_option maxRecDepth 100000 in
set_option maxHeartbeats 4000000 in
theorem c_X9_readNumber_q14 (l : Launch) (D : va_G) (q g : Nat → Nat) (cy : Nat → ClassId) (z : (Nat → Nat) × (Nat → Nat) × Nat) (S : wd_W) (p1 : Int32) (p2 : Int32) (o : o_X9_readNumber_q14) (hf : f_X9_readNumber_q14 S p1 p2 = some o) : MX layX l yX9_readNumber cX9_readNumber 4 (some .int) ({ frames := 1, cells := 0, slots := 0, locals := 22 } : Room) D q g cy z [.ref (q 14), .int p1, .int p2] S false (some (.int o.1)) (wd_o S [(1402, o.2.1), (1403, o.2.2.1), (1404, o.2.2.2)] [] [] [] []) 0 0 := by
  refine mx_of (own := RX9) (lc := [(0, .ref (q 14)), (1, .int p1), (2, .int p2)]) (by decide +kernel) rfl layX_ok (Nat.le_of_ble_eq_true rfl) rfl ?_
  intro X hXl hXq hXz hC hQ
  subst hXl; subst hXq; subst hXz
  unfold f_X9_readNumber_q14 at hf
  refine go_keys (L1 := [(1402, (S.1 1402)), (1403, (S.1 1403)), (1404, (S.1 1404))]) (L2 := []) (L3 := []) (L4 := []) (L5 := []) [1402, 1403, 1404] [] [] [] [] rfl rfl rfl rfl rfl ?_
  refine go_aload_n (pc' := 1) hC dX9_readNumber_0 rfl rfl ?_
  obtain ⟨o1, ho1, hf⟩ := bd_e hf
  refine go_callV1 (pc' := 4) (As := []) (st := []) (st' := []) (L1' := [(1402, o1), (1403, (S.1 1403)), (1404, (S.1 1404))]) (L2' := []) (L3' := []) (L4' := []) (L5' := []) (cells' := 0) (slots' := 0)  (b := 14) hC dX9_readNumber_1 ⟨mw_329, mw_332, mw_18, yd_yX9_skipBlanks, yp_yX9_skipBlanks, Nat.le_of_ble_eq_true rfl, Nat.le_of_ble_eq_true rfl, (Nat.le_of_ble_eq_true rfl), (Nat.le_of_ble_eq_true rfl)⟩ mw_330 mw_331 layX_14 rfl rfl rfl (Nat.le_of_ble_eq_true rfl) (c_X9_skipBlanks_q14 (x_l X) (x_D X) (x_q X) g (x_cy X) (x_z X) _  o1 ho1) rfl rfl rfl rfl rfl rfl rfl rfl rfl rfl rfl rfl rfl rfl ?_
  refine go_aload_n (pc' := 5) hC dX9_readNumber_4 rfl rfl ?_
  refine go_aload_n (pc' := 6) hC dX9_readNumber_5 rfl rfl ?_
  refine go_geti (v := o1) (pc' := 9) hC 14 2 layX_14 rfl rfl inlX9 (Nat.le_of_ble_eq_true rfl) mw_302 rfl dX9_readNumber_6 rfl rfl ?_
  refine go_puti (L1' := [(1402, o1), (1403, o1), (1404, (S.1 1404))]) (pc' := 12) hC 14 3 layX_14 rfl rfl inlX9 tyX9_ok nmX9 (Nat.le_of_ble_eq_true rfl) mw_323 rfl rfl rfl rfl dX9_readNumber_9 rfl rfl rfl ?_
  refine go_iconst (pc' := 13) hC dX9_readNumber_12 ki_0 rfl ?_
  refine go_istore_n (lc' := [(0, .ref (x_q X 14)), (1, .int p1), (2, .int p2), (3, .int (0 : Int32))]) (pc' := 14) hC dX9_readNumber_13 (Nat.le_of_ble_eq_true rfl) rfl rfl ?_
  obtain ⟨k90_4, hk90_4, hf⟩ := lk_e2 hf
  have jk90_4 : ∀ (x2 : Int32) (x3 : Int32), k90_4 x2 x3 = some o → Go X layX S 90 [(0, .ref (x_q X 14)), (1, .int p1), (2, .int p2), (3, .int x2)] [] g [(1402, x3), (1403, o1), (1404, (S.1 1404))] [] [] [] [] 0 0 := by
    intro x2 x3 hf
    have hf := hk90_4 x2 x3 hf
    clear hk90_4
    refine go_aload_n (pc' := 91) hC dX9_readNumber_90 rfl rfl ?_
    refine go_geti (v := x3) (pc' := 94) hC 14 2 layX_14 rfl rfl inlX9 (Nat.le_of_ble_eq_true rfl) mw_302 rfl dX9_readNumber_91 rfl rfl ?_
    refine go_aload_n (pc' := 95) hC dX9_readNumber_94 rfl rfl ?_
    refine go_geti (v := o1) (pc' := 98) hC 14 3 layX_14 rfl rfl inlX9 (Nat.le_of_ble_eq_true rfl) mw_323 rfl dX9_readNumber_95 rfl rfl ?_
    refine go_icmp_ne (tgt := 113) (pc' := 101) hC dX9_readNumber_98 (by decide) rfl (fun h11 => ?_) (fun h11 => ?_)
    · have hf := ite_f h11 hf
      refine go_aload_n (pc' := 114) hC dX9_readNumber_113 rfl rfl ?_
      refine go_geti (v := x3) (pc' := 117) hC 14 2 layX_14 rfl rfl inlX9 (Nat.le_of_ble_eq_true rfl) mw_302 rfl dX9_readNumber_114 rfl rfl ?_
      refine go_aload_n (pc' := 118) hC dX9_readNumber_117 rfl rfl ?_
      refine go_geti (v := o1) (pc' := 121) hC 14 3 layX_14 rfl rfl inlX9 (Nat.le_of_ble_eq_true rfl) mw_323 rfl dX9_readNumber_118 rfl rfl ?_
      refine go_isub (pc' := 122) hC dX9_readNumber_121 rfl ?_
      refine go_iconst (pc' := 123) hC dX9_readNumber_122 ki_2 rfl ?_
      obtain ⟨k136_5, hk136_5, hf⟩ := lk_e0 hf
      have jk136_5 : ∀ (_ : Unit), k136_5 = some o → Go X layX S 136 [(0, .ref (x_q X 14)), (3, .int x2)] [] g [(1402, x3), (1403, o1), (1404, (S.1 1404))] [] [] [] [] 0 0 := by
        intro _ hf
        have hf := hk136_5 hf
        clear hk136_5
        refine go_aload_n (pc' := 137) hC dX9_readNumber_136 rfl rfl ?_
        refine go_aload_n (pc' := 138) hC dX9_readNumber_137 rfl rfl ?_
        refine go_geti (v := o1) (pc' := 141) hC 14 3 layX_14 rfl rfl inlX9 (Nat.le_of_ble_eq_true rfl) mw_323 rfl dX9_readNumber_138 rfl rfl ?_
        refine go_iconst (pc' := 142) hC dX9_readNumber_141 ki_1 rfl ?_
        obtain ⟨o6, ho6, hf⟩ := bd_e hf
        refine go_callV1 (pc' := 145) (As := [.int o1, .int (1 : Int32)]) (st := []) (st' := []) (L1' := [(1402, x3), (1403, o1), (1404, o6)]) (L2' := []) (L3' := []) (L4' := []) (L5' := []) (cells' := 0) (slots' := 0)  (b := 14) hC dX9_readNumber_142 ⟨mw_386, mw_389, mw_18, yd_yX9_blame, yp_yX9_blame, Nat.le_of_ble_eq_true rfl, Nat.le_of_ble_eq_true rfl, (Nat.le_of_ble_eq_true rfl), (Nat.le_of_ble_eq_true rfl)⟩ mw_387 mw_388 layX_14 rfl rfl rfl (Nat.le_of_ble_eq_true rfl) (c_X9_blame_q14 (x_l X) (x_D X) (x_q X) g (x_cy X) (x_z X) _ o1 (1 : Int32) o6 ho6) rfl rfl rfl rfl rfl rfl rfl rfl rfl rfl rfl rfl rfl rfl ?_
        refine go_iload_n (pc' := 146) hC dX9_readNumber_145 rfl rfl ?_
        obtain rfl := Option.some.inj hf
        exact go_iret hC hQ dX9_readNumber_146 rfl rfl rfl rfl (fun _ => rfl) rfl rfl
      clear hk136_5
      refine go_icmp_gt (tgt := 136) (pc' := 126) hC dX9_readNumber_123 (by decide) rfl (fun h9 => ?_) (fun h9 => ?_)
      · have hf := ite_t h9 hf
        refine go_sub [0, 3] rfl ?_
        exact jk136_5 () hf
      · have hf := ite_f h9 hf
        refine go_iload_n (pc' := 127) hC dX9_readNumber_126 rfl rfl ?_
        refine go_iload_n (pc' := 128) hC dX9_readNumber_127 rfl rfl ?_
        refine go_icmp_lt (tgt := 136) (pc' := 131) hC dX9_readNumber_128 (by decide) rfl (fun h8 => ?_) (fun h8 => ?_)
        · have hf := ite_t h8 hf
          refine go_sub [0, 3] rfl ?_
          exact jk136_5 () hf
        · have hf := ite_f h8 hf
          refine go_iload_n (pc' := 132) hC dX9_readNumber_131 rfl rfl ?_
          refine go_iload_n (pc' := 133) hC dX9_readNumber_132 rfl rfl ?_
          refine go_icmp_le (tgt := 145) (pc' := 136) hC dX9_readNumber_133 (by decide) rfl (fun h7 => ?_) (fun h7 => ?_)
          · have hf := ite_t h7 hf
            refine go_iload_n (pc' := 146) hC dX9_readNumber_145 rfl rfl ?_
            obtain rfl := Option.some.inj hf
            exact go_iret hC hQ dX9_readNumber_146 rfl rfl rfl rfl (fun _ => rfl) rfl rfl
          · have hf := ite_f h7 hf
            refine go_sub [0, 3] rfl ?_
            exact jk136_5 () hf
    · have hf := ite_t h11 hf
      refine go_aload_n (pc' := 102) hC dX9_readNumber_101 rfl rfl ?_
      refine go_aload_n (pc' := 103) hC dX9_readNumber_102 rfl rfl ?_
      refine go_geti (v := o1) (pc' := 106) hC 14 3 layX_14 rfl rfl inlX9 (Nat.le_of_ble_eq_true rfl) mw_323 rfl dX9_readNumber_103 rfl rfl ?_
      refine go_iconst (pc' := 107) hC dX9_readNumber_106 ki_0 rfl ?_
      obtain ⟨o10, ho10, hf⟩ := bd_e hf
      refine go_callV1 (pc' := 110) (As := [.int o1, .int (0 : Int32)]) (st := []) (st' := []) (L1' := [(1402, x3), (1403, o1), (1404, o10)]) (L2' := []) (L3' := []) (L4' := []) (L5' := []) (cells' := 0) (slots' := 0)  (b := 14) hC dX9_readNumber_107 ⟨mw_386, mw_389, mw_18, yd_yX9_blame, yp_yX9_blame, Nat.le_of_ble_eq_true rfl, Nat.le_of_ble_eq_true rfl, (Nat.le_of_ble_eq_true rfl), (Nat.le_of_ble_eq_true rfl)⟩ mw_387 mw_388 layX_14 rfl rfl rfl (Nat.le_of_ble_eq_true rfl) (c_X9_blame_q14 (x_l X) (x_D X) (x_q X) g (x_cy X) (x_z X) _ o1 (0 : Int32) o10 ho10) rfl rfl rfl rfl rfl rfl rfl rfl rfl rfl rfl rfl rfl rfl ?_
      refine go_goto (tgt := 145) hC dX9_readNumber_110 (by decide) ?_
      refine go_iload_n (pc' := 146) hC dX9_readNumber_145 rfl rfl ?_
      obtain rfl := Option.some.inj hf
      exact go_iret hC hQ dX9_readNumber_146 rfl rfl rfl rfl (fun _ => rfl) rfl rfl
  clear hk90_4
  have l14_23 : ∀ (nn : Nat) (x12 : Int32) (x13 : Int32), it2 (f_X9_readNumber_q14_L14 S k90_4) nn x12 x13 = some o → Go X layX S 14 [(0, .ref (x_q X 14)), (1, .int p1), (2, .int p2), (3, .int x12)] [] g [(1402, x13), (1403, o1), (1404, (S.1 1404))] [] [] [] [] 0 0 := by
    intro nn
    induction nn with
    | zero =>
      intro x12 x13 hf
      exact none_no hf
    | succ nn ih =>
      intro x12 x13 hf
      have hf : f_X9_readNumber_q14_L14 S k90_4 (it2 (f_X9_readNumber_q14_L14 S k90_4) nn) x12 x13 = some o := hf
      generalize it2 (f_X9_readNumber_q14_L14 S k90_4) nn = r14 at ih hf
      unfold f_X9_readNumber_q14_L14 at hf
      refine go_aload_n (pc' := 15) hC dX9_readNumber_14 rfl rfl ?_
      refine go_geti (v := x13) (pc' := 18) hC 14 2 layX_14 rfl rfl inlX9 (Nat.le_of_ble_eq_true rfl) mw_302 rfl dX9_readNumber_15 rfl rfl ?_
      refine go_aload_n (pc' := 19) hC dX9_readNumber_18 rfl rfl ?_
      refine go_geti (v := (S.1 1400)) (pc' := 22) hC 14 0 layX_14 rfl rfl inlX9 (Nat.le_of_ble_eq_true rfl) mw_272 rfl dX9_readNumber_19 rfl rfl ?_
      refine go_icmp_ge (tgt := 90) (pc' := 25) hC dX9_readNumber_22 (by decide) rfl (fun h22 => ?_) (fun h22 => ?_)
      · have hf := ite_t h22 hf
        exact jk90_4 x12 x13 hf
      · have hf := ite_f h22 hf
        refine go_aload_n (pc' := 26) hC dX9_readNumber_25 rfl rfl ?_
        refine go_getq (pc' := 29) hC 14 1 layX_14 rfl rfl inlX9 (Nat.le_of_ble_eq_true rfl) mw_75 rfl dX9_readNumber_26 rfl ?_
        refine go_aload_n (pc' := 30) hC dX9_readNumber_29 rfl rfl ?_
        refine go_geti (v := x13) (pc' := 33) hC 14 2 layX_14 rfl rfl inlX9 (Nat.le_of_ble_eq_true rfl) mw_302 rfl dX9_readNumber_30 rfl rfl ?_
        obtain ⟨h15, hf⟩ := gd_e hf
        refine go_iald (f := (S.2.2.1 15)) (pc' := 34) hC 15 layX_15 rfl rfl dX9_readNumber_33 (okx_in h15) rfl ?_
        refine go_bipush (pc' := 36) hC dX9_readNumber_34 kb_48 rfl ?_
        refine go_icmp_lt (tgt := 90) (pc' := 39) hC dX9_readNumber_36 (by decide) rfl (fun h21 => ?_) (fun h21 => ?_)
        · have hf := ite_t h21 hf
          exact jk90_4 x12 x13 hf
        · have hf := ite_f h21 hf
          refine go_aload_n (pc' := 40) hC dX9_readNumber_39 rfl rfl ?_
          refine go_getq (pc' := 43) hC 14 1 layX_14 rfl rfl inlX9 (Nat.le_of_ble_eq_true rfl) mw_75 rfl dX9_readNumber_40 rfl ?_
          refine go_aload_n (pc' := 44) hC dX9_readNumber_43 rfl rfl ?_
          refine go_geti (v := x13) (pc' := 47) hC 14 2 layX_14 rfl rfl inlX9 (Nat.le_of_ble_eq_true rfl) mw_302 rfl dX9_readNumber_44 rfl rfl ?_
          obtain ⟨h16, hf⟩ := gd_e hf
          refine go_iald (f := (S.2.2.1 15)) (pc' := 48) hC 15 layX_15 rfl rfl dX9_readNumber_47 (okx_in h16) rfl ?_
          refine go_bipush (pc' := 50) hC dX9_readNumber_48 kb_57 rfl ?_
          refine go_icmp_gt (tgt := 90) (pc' := 53) hC dX9_readNumber_50 (by decide) rfl (fun h20 => ?_) (fun h20 => ?_)
          · have hf := ite_t h20 hf
            exact jk90_4 x12 x13 hf
          · have hf := ite_f h20 hf
            refine go_sipush (pc' := 56) hC dX9_readNumber_53 ks_1000 rfl ?_
            refine go_iload_n (pc' := 57) hC dX9_readNumber_56 rfl rfl ?_
            refine go_bipush (pc' := 59) hC dX9_readNumber_57 kb_10 rfl ?_
            refine go_imul (pc' := 60) hC dX9_readNumber_59 rfl ?_
            refine go_aload_n (pc' := 61) hC dX9_readNumber_60 rfl rfl ?_
            refine go_getq (pc' := 64) hC 14 1 layX_14 rfl rfl inlX9 (Nat.le_of_ble_eq_true rfl) mw_75 rfl dX9_readNumber_61 rfl ?_
            refine go_aload_n (pc' := 65) hC dX9_readNumber_64 rfl rfl ?_
            refine go_geti (v := x13) (pc' := 68) hC 14 2 layX_14 rfl rfl inlX9 (Nat.le_of_ble_eq_true rfl) mw_302 rfl dX9_readNumber_65 rfl rfl ?_
            obtain ⟨h17, hf⟩ := gd_e hf
            refine go_iald (f := (S.2.2.1 15)) (pc' := 69) hC 15 layX_15 rfl rfl dX9_readNumber_68 (okx_in h17) rfl ?_
            refine go_iadd (pc' := 70) hC dX9_readNumber_69 rfl ?_
            refine go_bipush (pc' := 72) hC dX9_readNumber_70 kb_48 rfl ?_
            refine go_isub (pc' := 73) hC dX9_readNumber_72 rfl ?_
            refine go_mmin (pc' := 76) hC dX9_readNumber_73 mw_394 (Nat.le_of_ble_eq_true rfl) (Nat.le_of_ble_eq_true rfl) (Nat.le_of_ble_eq_true rfl) (Nat.le_of_ble_eq_true rfl) rfl ?_
            refine go_namei (fun x18 hx => ?_)
            have hf := lz_r hx hf
            clear hx
            refine go_istore_n (lc' := [(0, .ref (x_q X 14)), (1, .int p1), (2, .int p2), (3, .int x18)]) (pc' := 77) hC dX9_readNumber_76 (Nat.le_of_ble_eq_true rfl) rfl rfl ?_
            refine go_aload_n (pc' := 78) hC dX9_readNumber_77 rfl rfl ?_
            refine go_dup (pc' := 79) hC dX9_readNumber_78 rfl rfl ?_
            refine go_geti (v := x13) (pc' := 82) hC 14 2 layX_14 rfl rfl inlX9 (Nat.le_of_ble_eq_true rfl) mw_302 rfl dX9_readNumber_79 rfl rfl ?_
            refine go_iconst (pc' := 83) hC dX9_readNumber_82 ki_1 rfl ?_
            refine go_iadd (pc' := 84) hC dX9_readNumber_83 rfl ?_
            refine go_namei (fun x19 hx => ?_)
            have hf := lz_r hx hf
            clear hx
            refine go_puti (L1' := [(1402, x19), (1403, o1), (1404, (S.1 1404))]) (pc' := 87) hC 14 2 layX_14 rfl rfl inlX9 tyX9_ok nmX9 (Nat.le_of_ble_eq_true rfl) mw_302 rfl rfl rfl rfl dX9_readNumber_84 rfl rfl rfl ?_
            refine go_goto (tgt := 14) hC dX9_readNumber_87 (by decide) ?_
            exact ih x18 x19 hf
  exact l14_23 fuel (0 : Int32) o1 hf
theorem dX9_readPlaces_0 : decode cX9_readPlaces 0 = .ok (.aload_n 0, 1) := by decide +kernel
theorem dX9_readPlaces_1 : decode cX9_readPlaces 1 = .ok (.invokevirtual 80, 3) := by decide +kernel
theorem dX9_readPlaces_4 : decode cX9_readPlaces 4 = .ok (.aload_n 0, 1) := by decide +kernel
theorem dX9_readPlaces_5 : decode cX9_readPlaces 5 = .ok (.ldc 83, 2) := by decide +kernel
theorem dX9_readPlaces_7 : decode cX9_readPlaces 7 = .ok (.invokevirtual 84, 3) := by decide +kernel
theorem dX9_readPlaces_10 : decode cX9_readPlaces 10 = .ok (.ifCond .ne 12, 3) := by decide +kernel
theorem dX9_readPlaces_13 : decode cX9_readPlaces 13 = .ok (.aload_n 0, 1) := by decide +kernel
theorem dX9_readPlaces_14 : decode cX9_readPlaces 14 = .ok (.aload_n 0, 1) := by decide +kernel
theorem dX9_readPlaces_15 : decode cX9_readPlaces 15 = .ok (.getfield 55, 3) := by decide +kernel
theorem dX9_readPlaces_18 : decode cX9_readPlaces 18 = .ok (.iconst 0, 1) := by decide +kernel
theorem dX9_readPlaces_19 : decode cX9_readPlaces 19 = .ok (.invokevirtual 45, 3) := by decide +kernel
theorem dX9_readPlaces_22 : decode cX9_readPlaces 22 = .ok (.aload_n 0, 1) := by decide +kernel
theorem dX9_readPlaces_23 : decode cX9_readPlaces 23 = .ok (.iconst 2, 1) := by decide +kernel
theorem dX9_readPlaces_24 : decode cX9_readPlaces 24 = .ok (.bipush 10, 2) := by decide +kernel
theorem dX9_readPlaces_26 : decode cX9_readPlaces 26 = .ok (.invokevirtual 77, 3) := by decide +kernel
theorem dX9_readPlaces_29 : decode cX9_readPlaces 29 = .ok (.istore_n 1, 1) := by decide +kernel
theorem dX9_readPlaces_30 : decode cX9_readPlaces 30 = .ok (.aload_n 0, 1) := by decide +kernel
theorem dX9_readPlaces_31 : decode cX9_readPlaces 31 = .ok (.getfield 31, 3) := by decide +kernel
theorem dX9_readPlaces_34 : decode cX9_readPlaces 34 = .ok (.ifCond .ne 11, 3) := by decide +kernel
theorem dX9_readPlaces_37 : decode cX9_readPlaces 37 = .ok (.aload_n 0, 1) := by decide +kernel
theorem dX9_readPlaces_38 : decode cX9_readPlaces 38 = .ok (.getfield 15, 3) := by decide +kernel
theorem dX9_readPlaces_41 : decode cX9_readPlaces 41 = .ok (.iload_n 1, 1) := by decide +kernel
theorem dX9_readPlaces_42 : decode cX9_readPlaces 42 = .ok (.putfield 74, 3) := by decide +kernel
theorem dX9_readPlaces_45 : decode cX9_readPlaces 45 = .ok (.return_, 1) := by decide +kernel
abbrev o_X9_readPlaces_q14 : Type := Int32 × Int32 × Int32 × Int32
def f_X9_readPlaces_q14 (S : wd_W) : Option o_X9_readPlaces_q14 :=
bd (f_X9_readWord_q14 (wd_o S [(300, (S.1 300)), (1402, (S.1 1402)), (1403, (S.1 1403)), (1404, (S.1 1404))] [] [] [] [])) fun o1 =>
bd (f_X9_isWord_q14_str0 (wd_o S [(300, (S.1 300)), (1402, o1.1), (1403, o1.2), (1404, (S.1 1404))] [] [] [] [])) fun o2 =>
lk (fun x3 =>
bd (f_X9_readNumber_q14 (wd_o S [(300, (S.1 300)), (1402, o1.1), (1403, o1.2), (1404, x3)] [] [] [] []) (2 : Int32) (10 : Int32)) fun o5 =>
if o5.2.2.2 = 0 then (
some (o5.1, o5.2.1, o5.2.2.1, o5.2.2.2)) else (
some ((S.1 300), o5.2.1, o5.2.2.1, o5.2.2.2))) fun k22_4 =>
if o2 = 0 then (
bd (f_X9_blame_q14 (wd_o S [(300, (S.1 300)), (1402, o1.1), (1403, o1.2), (1404, (S.1 1404))] [] [] [] []) o1.2 (0 : Int32)) fun o7 =>
k22_4 o7) else (
k22_4 (S.1 1404))
set_option maxRecDepth 100000 in
set_option maxHeartbeats 4000000 in
theorem c_X9_readPlaces_q14 (l : Launch) (D : va_G) (q g : Nat → Nat) (cy : Nat → ClassId) (z : (Nat → Nat) × (Nat → Nat) × Nat) (S : wd_W) (o : o_X9_readPlaces_q14) (hf : f_X9_readPlaces_q14 S = some o) : MX layX l yX9_readPlaces cX9_readPlaces 2 none ({ frames := 5, cells := 0, slots := 0, locals := 107 } : Room) D q g cy z [.ref (q 14)] S false (none) (wd_o S [(300, o.1), (1402, o.2.1), (1403, o.2.2.1), (1404, o.2.2.2)] [] [] [] []) 0 0 := by
  refine mx_of (own := RX9) (lc := [(0, .ref (q 14))]) (by decide +kernel) rfl layX_ok (Nat.le_of_ble_eq_true rfl) rfl ?_
  intro X hXl hXq hXz hC hQ
  subst hXl; subst hXq; subst hXz
  unfold f_X9_readPlaces_q14 at hf
  refine go_keys (L1 := [(300, (S.1 300)), (1402, (S.1 1402)), (1403, (S.1 1403)), (1404, (S.1 1404))]) (L2 := []) (L3 := []) (L4 := []) (L5 := []) [300, 1402, 1403, 1404] [] [] [] [] rfl rfl rfl rfl rfl ?_
  refine go_aload_n (pc' := 1) hC dX9_readPlaces_0 rfl rfl ?_
  obtain ⟨o1, ho1, hf⟩ := bd_e hf
  refine go_callV1 (pc' := 4) (As := []) (st := []) (st' := []) (L1' := [(300, (S.1 300)), (1402, o1.1), (1403, o1.2), (1404, (S.1 1404))]) (L2' := []) (L3' := []) (L4' := []) (L5' := []) (cells' := 0) (slots' := 0)  (b := 14) hC dX9_readPlaces_1 ⟨mw_325, mw_328, mw_18, yd_yX9_readWord, yp_yX9_readWord, Nat.le_of_ble_eq_true rfl, Nat.le_of_ble_eq_true rfl, (Nat.le_of_ble_eq_true rfl), (Nat.le_of_ble_eq_true rfl)⟩ mw_326 mw_327 layX_14 rfl rfl rfl (Nat.le_of_ble_eq_true rfl) (c_X9_readWord_q14 (x_l X) (x_D X) (x_q X) g (x_cy X) (x_z X) _  o1 ho1) rfl rfl rfl rfl rfl rfl rfl rfl rfl rfl rfl rfl rfl rfl ?_
  refine go_aload_n (pc' := 5) hC dX9_readPlaces_4 rfl rfl ?_
  refine go_ldcS (pc' := 7) hC 0 dX9_readPlaces_5 rfl rfl rfl ?_
  obtain ⟨o2, ho2, hf⟩ := bd_e hf
  refine go_callV0 (pc' := 10) (As := [.ref ((x_z X).1 0)]) (st := []) (st' := [.int o2])    (b := 14) hC dX9_readPlaces_7 ⟨mw_333, mw_336, mw_18, yd_yX9_isWord, yp_yX9_isWord, Nat.le_of_ble_eq_true rfl, Nat.le_of_ble_eq_true rfl, (Nat.le_of_ble_eq_true rfl), (Nat.le_of_ble_eq_true rfl)⟩ mw_334 mw_335 layX_14 rfl rfl rfl (Nat.le_of_ble_eq_true rfl) (c_X9_isWord_q14_str0 (x_l X) (x_D X) (x_q X) g (x_cy X) (x_z X) _  o2 ho2) rfl rfl ?_
  obtain ⟨k22_4, hk22_4, hf⟩ := lk_e1 hf
  have jk22_4 : ∀ (x3 : Int32), k22_4 x3 = some o → Go X layX S 22 [(0, .ref (x_q X 14))] [] g [(300, (S.1 300)), (1402, o1.1), (1403, o1.2), (1404, x3)] [] [] [] [] 0 0 := by
    intro x3 hf
    have hf := hk22_4 x3 hf
    clear hk22_4
    refine go_aload_n (pc' := 23) hC dX9_readPlaces_22 rfl rfl ?_
    refine go_iconst (pc' := 24) hC dX9_readPlaces_23 ki_2 rfl ?_
    refine go_bipush (pc' := 26) hC dX9_readPlaces_24 kb_10 rfl ?_
    obtain ⟨o5, ho5, hf⟩ := bd_e hf
    refine go_callV1 (pc' := 29) (As := [.int (2 : Int32), .int (10 : Int32)]) (st := []) (st' := [.int o5.1]) (L1' := [(300, (S.1 300)), (1402, o5.2.1), (1403, o5.2.2.1), (1404, o5.2.2.2)]) (L2' := []) (L3' := []) (L4' := []) (L5' := []) (cells' := 0) (slots' := 0)  (b := 14) hC dX9_readPlaces_26 ⟨mw_390, mw_393, mw_18, yd_yX9_readNumber, yp_yX9_readNumber, Nat.le_of_ble_eq_true rfl, Nat.le_of_ble_eq_true rfl, (Nat.le_of_ble_eq_true rfl), (Nat.le_of_ble_eq_true rfl)⟩ mw_391 mw_392 layX_14 rfl rfl rfl (Nat.le_of_ble_eq_true rfl) (c_X9_readNumber_q14 (x_l X) (x_D X) (x_q X) g (x_cy X) (x_z X) _ (2 : Int32) (10 : Int32) o5 ho5) rfl rfl rfl rfl rfl rfl rfl rfl rfl rfl rfl rfl rfl rfl ?_
    refine go_istore_n (lc' := [(0, .ref (x_q X 14)), (1, .int o5.1)]) (pc' := 30) hC dX9_readPlaces_29 (Nat.le_of_ble_eq_true rfl) rfl rfl ?_
    refine go_aload_n (pc' := 31) hC dX9_readPlaces_30 rfl rfl ?_
    refine go_geti (v := o5.2.2.2) (pc' := 34) hC 14 4 layX_14 rfl rfl inlX9 (Nat.le_of_ble_eq_true rfl) mw_303 rfl dX9_readPlaces_31 rfl rfl ?_
    refine go_if_ne (tgt := 45) (pc' := 37) hC dX9_readPlaces_34 (by decide) rfl (fun h6 => ?_) (fun h6 => ?_)
    · have hf := ite_f h6 hf
      obtain rfl := Option.some.inj hf
      exact go_vret hC hQ dX9_readPlaces_45 rfl rfl rfl (fun _ => rfl) rfl rfl
    · have hf := ite_t h6 hf
      refine go_aload_n (pc' := 38) hC dX9_readPlaces_37 rfl rfl ?_
      refine go_getq (pc' := 41) hC 14 6 layX_14 rfl rfl inlX9 (Nat.le_of_ble_eq_true rfl) mw_76 rfl dX9_readPlaces_38 rfl ?_
      refine go_iload_n (pc' := 42) hC dX9_readPlaces_41 rfl rfl ?_
      refine go_puti (L1' := [(300, o5.1), (1402, o5.2.1), (1403, o5.2.2.1), (1404, o5.2.2.2)]) (pc' := 45) hC 3 0 layX_3 rfl rfl inlX2 tyX2_ok nmX2 (Nat.le_of_ble_eq_true rfl) mw_324 rfl rfl rfl rfl dX9_readPlaces_42 rfl rfl rfl ?_
      obtain rfl := Option.some.inj hf
      exact go_vret hC hQ dX9_readPlaces_45 rfl rfl rfl (fun _ => rfl) rfl rfl
  clear hk22_4
  refine go_if_ne (tgt := 22) (pc' := 13) hC dX9_readPlaces_10 (by decide) rfl (fun h8 => ?_) (fun h8 => ?_)
  · have hf := ite_f h8 hf
    exact jk22_4 (S.1 1404) hf
  · have hf := ite_t h8 hf
    refine go_aload_n (pc' := 14) hC dX9_readPlaces_13 rfl rfl ?_
    refine go_aload_n (pc' := 15) hC dX9_readPlaces_14 rfl rfl ?_
    refine go_geti (v := o1.2) (pc' := 18) hC 14 3 layX_14 rfl rfl inlX9 (Nat.le_of_ble_eq_true rfl) mw_323 rfl dX9_readPlaces_15 rfl rfl ?_
    refine go_iconst (pc' := 19) hC dX9_readPlaces_18 ki_0 rfl ?_
    obtain ⟨o7, ho7, hf⟩ := bd_e hf
    refine go_callV1 (pc' := 22) (As := [.int o1.2, .int (0 : Int32)]) (st := []) (st' := []) (L1' := [(300, (S.1 300)), (1402, o1.1), (1403, o1.2), (1404, o7)]) (L2' := []) (L3' := []) (L4' := []) (L5' := []) (cells' := 0) (slots' := 0)  (b := 14) hC dX9_readPlaces_19 ⟨mw_386, mw_389, mw_18, yd_yX9_blame, yp_yX9_blame, Nat.le_of_ble_eq_true rfl, Nat.le_of_ble_eq_true rfl, (Nat.le_of_ble_eq_true rfl), (Nat.le_of_ble_eq_true rfl)⟩ mw_387 mw_388 layX_14 rfl rfl rfl (Nat.le_of_ble_eq_true rfl) (c_X9_blame_q14 (x_l X) (x_D X) (x_q X) g (x_cy X) (x_z X) _ o1.2 (0 : Int32) o7 ho7) rfl rfl rfl rfl rfl rfl rfl rfl rfl rfl rfl rfl rfl rfl ?_
    exact jk22_4 o7 hf
theorem dX9_hasMore_0 : decode cX9_hasMore 0 = .ok (.aload_n 0, 1) := by decide +kernel
theorem dX9_hasMore_1 : decode cX9_hasMore 1 = .ok (.invokevirtual 52, 3) := by decide +kernel
theorem dX9_hasMore_4 : decode cX9_hasMore 4 = .ok (.aload_n 0, 1) := by decide +kernel
theorem dX9_hasMore_5 : decode cX9_hasMore 5 = .ok (.getfield 28, 3) := by decide +kernel
theorem dX9_hasMore_8 : decode cX9_hasMore 8 = .ok (.aload_n 0, 1) := by decide +kernel
theorem dX9_hasMore_9 : decode cX9_hasMore 9 = .ok (.getfield 19, 3) := by decide +kernel
theorem dX9_hasMore_12 : decode cX9_hasMore 12 = .ok (.if_icmp .ge 7, 3) := by decide +kernel
theorem dX9_hasMore_15 : decode cX9_hasMore 15 = .ok (.iconst 1, 1) := by decide +kernel
theorem dX9_hasMore_16 : decode cX9_hasMore 16 = .ok (.goto 4, 3) := by decide +kernel
theorem dX9_hasMore_19 : decode cX9_hasMore 19 = .ok (.iconst 0, 1) := by decide +kernel
theorem dX9_hasMore_20 : decode cX9_hasMore 20 = .ok (.ireturn, 1) := by decide +kernel
abbrev o_X9_hasMore_q14 : Type := Int32 × Int32
def f_X9_hasMore_q14 (S : wd_W) : Option o_X9_hasMore_q14 :=
bd (f_X9_skipBlanks_q14 (wd_o S [(1402, (S.1 1402))] [] [] [] [])) fun o1 =>
if (S.1 1400) ≤ o1 then (
some ((0 : Int32), o1)) else (
some ((1 : Int32), o1))
set_option maxRecDepth 100000 in
set_option maxHeartbeats 4000000 in
theorem c_X9_hasMore_q14 (l : Launch) (D : va_G) (q g : Nat → Nat) (cy : Nat → ClassId) (z : (Nat → Nat) × (Nat → Nat) × Nat) (S : wd_W) (o : o_X9_hasMore_q14) (hf : f_X9_hasMore_q14 S = some o) : MX layX l yX9_hasMore cX9_hasMore 1 (some .boolean) ({ frames := 1, cells := 0, slots := 0, locals := 20 } : Room) D q g cy z [.ref (q 14)] S false (some (.int o.1)) (wd_o S [(1402, o.2)] [] [] [] []) 0 0 := by
  refine mx_of (own := RX9) (lc := [(0, .ref (q 14))]) (by decide +kernel) rfl layX_ok (Nat.le_of_ble_eq_true rfl) rfl ?_
  intro X hXl hXq hXz hC hQ
  subst hXl; subst hXq; subst hXz
  unfold f_X9_hasMore_q14 at hf
  refine go_keys (L1 := [(1402, (S.1 1402))]) (L2 := []) (L3 := []) (L4 := []) (L5 := []) [1402] [] [] [] [] rfl rfl rfl rfl rfl ?_
  refine go_aload_n (pc' := 1) hC dX9_hasMore_0 rfl rfl ?_
  obtain ⟨o1, ho1, hf⟩ := bd_e hf
  refine go_callV1 (pc' := 4) (As := []) (st := []) (st' := []) (L1' := [(1402, o1)]) (L2' := []) (L3' := []) (L4' := []) (L5' := []) (cells' := 0) (slots' := 0)  (b := 14) hC dX9_hasMore_1 ⟨mw_329, mw_332, mw_18, yd_yX9_skipBlanks, yp_yX9_skipBlanks, Nat.le_of_ble_eq_true rfl, Nat.le_of_ble_eq_true rfl, (Nat.le_of_ble_eq_true rfl), (Nat.le_of_ble_eq_true rfl)⟩ mw_330 mw_331 layX_14 rfl rfl rfl (Nat.le_of_ble_eq_true rfl) (c_X9_skipBlanks_q14 (x_l X) (x_D X) (x_q X) g (x_cy X) (x_z X) _  o1 ho1) rfl rfl rfl rfl rfl rfl rfl rfl rfl rfl rfl rfl rfl rfl ?_
  refine go_aload_n (pc' := 5) hC dX9_hasMore_4 rfl rfl ?_
  refine go_geti (v := o1) (pc' := 8) hC 14 2 layX_14 rfl rfl inlX9 (Nat.le_of_ble_eq_true rfl) mw_302 rfl dX9_hasMore_5 rfl rfl ?_
  refine go_aload_n (pc' := 9) hC dX9_hasMore_8 rfl rfl ?_
  refine go_geti (v := (S.1 1400)) (pc' := 12) hC 14 0 layX_14 rfl rfl inlX9 (Nat.le_of_ble_eq_true rfl) mw_272 rfl dX9_hasMore_9 rfl rfl ?_
  refine go_icmp_ge (tgt := 19) (pc' := 15) hC dX9_hasMore_12 (by decide) rfl (fun h2 => ?_) (fun h2 => ?_)
  · have hf := ite_t h2 hf
    refine go_iconst (pc' := 20) hC dX9_hasMore_19 ki_0 rfl ?_
    obtain rfl := Option.some.inj hf
    exact go_iret hC hQ dX9_hasMore_20 rfl rfl rfl rfl (fun _ => rfl) rfl rfl
  · have hf := ite_f h2 hf
    refine go_iconst (pc' := 16) hC dX9_hasMore_15 ki_1 rfl ?_
    refine go_goto (tgt := 20) hC dX9_hasMore_16 (by decide) ?_
    obtain rfl := Option.some.inj hf
    exact go_iret hC hQ dX9_hasMore_20 rfl rfl rfl rfl (fun _ => rfl) rfl rfl
abbrev o_X9_isWord_q14_str1 : Type := Int32
def f_X9_isWord_q14_str1_L20 (S : wd_W) (r2 : (Int32) → (Option o_X9_isWord_q14_str1)) (x1 : Int32) : Option o_X9_isWord_q14_str1 :=
if (4 : Int32) ≤ x1 then (
some (1 : Int32)) else (
gd (okx ((S.1 1403) + x1) 400) <|
gd (okx x1 4) <|
if ((S.2.2.1 15) ((S.1 1403) + x1).toNatClampNeg) = (st_ch 1 x1) then (
r2 (x1 + (1 : Int32))) else (
some (0 : Int32)))
def f_X9_isWord_q14_str1 (S : wd_W) : Option o_X9_isWord_q14_str1 :=
if ((S.1 1402) - (S.1 1403)) = (4 : Int32) then (
it1 (f_X9_isWord_q14_str1_L20 S) fuel (0 : Int32)) else (
some (0 : Int32))
set_option maxRecDepth 100000 in
set_option maxHeartbeats 4000000 in
theorem c_X9_isWord_q14_str1 (l : Launch) (D : va_G) (q g : Nat → Nat) (cy : Nat → ClassId) (z : (Nat → Nat) × (Nat → Nat) × Nat) (S : wd_W) (o : o_X9_isWord_q14_str1) (hf : f_X9_isWord_q14_str1 S = some o) : MX layX l yX9_isWord cX9_isWord 3 (some .boolean) ({ frames := 4, cells := 0, slots := 0, locals := 85 } : Room) D q g cy z [.ref (q 14), .ref (z.1 1)] S false (some (.int o)) (wd_o S [] [] [] [] []) 0 0 := by
  refine mx_of (own := RX9) (lc := [(0, .ref (q 14)), (1, .ref (z.1 1))]) (by decide +kernel) rfl layX_ok (Nat.le_of_ble_eq_true rfl) rfl ?_
  intro X hXl hXq hXz hC hQ
  subst hXl; subst hXq; subst hXz
  unfold f_X9_isWord_q14_str1 at hf
  refine go_aload_n (pc' := 1) hC dX9_isWord_0 rfl rfl ?_
  refine go_geti (v := (S.1 1402)) (pc' := 4) hC 14 2 layX_14 rfl rfl inlX9 (Nat.le_of_ble_eq_true rfl) mw_302 rfl dX9_isWord_1 rfl rfl ?_
  refine go_aload_n (pc' := 5) hC dX9_isWord_4 rfl rfl ?_
  refine go_geti (v := (S.1 1403)) (pc' := 8) hC 14 3 layX_14 rfl rfl inlX9 (Nat.le_of_ble_eq_true rfl) mw_323 rfl dX9_isWord_5 rfl rfl ?_
  refine go_isub (pc' := 9) hC dX9_isWord_8 rfl ?_
  refine go_aload_n (pc' := 10) hC dX9_isWord_9 rfl rfl ?_
  refine go_callVs0 (pc' := 13) (As := []) (st := [.int ((S.1 1402) - (S.1 1403))]) (st' := [.int (4 : Int32), .int ((S.1 1402) - (S.1 1403))]) hC dX9_isWord_10 ⟨mw_337, mw_341, mw_340, yd_yJ0_length_8abf5, yp_yJ0_length_8abf5, Nat.le_of_ble_eq_true rfl, Nat.le_of_ble_eq_true rfl, Nat.le_of_ble_eq_true rfl, Nat.le_of_ble_eq_true rfl⟩ mw_338 mw_339 (by decide : 1 < 11) rfl rfl (Nat.le_of_ble_eq_true rfl) (c_strlen (x_l X) (x_D X) (x_q X) g (x_cy X) (x_z X) _ layX layX_ok (by decide : 1 < 11) (by decide : Int32.ofNat (st_len.getD 1 0) >>> ((0 : Int32) &&& 31) = 4)) rfl rfl ?_
  refine go_icmp_eq (tgt := 18) (pc' := 16) hC dX9_isWord_13 (by decide) rfl (fun h8 => ?_) (fun h8 => ?_)
  · have hf := ite_t h8 hf
    refine go_iconst (pc' := 19) hC dX9_isWord_18 ki_0 rfl ?_
    refine go_istore_n (lc' := [(0, .ref (x_q X 14)), (1, .ref ((x_z X).1 1)), (2, .int (0 : Int32))]) (pc' := 20) hC dX9_isWord_19 (Nat.le_of_ble_eq_true rfl) rfl rfl ?_
    have l20_7 : ∀ (nn : Nat) (x1 : Int32), it1 (f_X9_isWord_q14_str1_L20 S) nn x1 = some o → Go X layX S 20 [(0, .ref (x_q X 14)), (1, .ref ((x_z X).1 1)), (2, .int x1)] [] g [] [] [] [] [] 0 0 := by
      intro nn
      induction nn with
      | zero =>
        intro x1 hf
        exact none_no hf
      | succ nn ih =>
        intro x1 hf
        have hf : f_X9_isWord_q14_str1_L20 S (it1 (f_X9_isWord_q14_str1_L20 S) nn) x1 = some o := hf
        generalize it1 (f_X9_isWord_q14_str1_L20 S) nn = r2 at ih hf
        unfold f_X9_isWord_q14_str1_L20 at hf
        refine go_iload_n (pc' := 21) hC dX9_isWord_20 rfl rfl ?_
        refine go_aload_n (pc' := 22) hC dX9_isWord_21 rfl rfl ?_
        refine go_callVs0 (pc' := 25) (As := []) (st := [.int x1]) (st' := [.int (4 : Int32), .int x1]) hC dX9_isWord_22 ⟨mw_337, mw_341, mw_340, yd_yJ0_length_8abf5, yp_yJ0_length_8abf5, Nat.le_of_ble_eq_true rfl, Nat.le_of_ble_eq_true rfl, Nat.le_of_ble_eq_true rfl, Nat.le_of_ble_eq_true rfl⟩ mw_338 mw_339 (by decide : 1 < 11) rfl rfl (Nat.le_of_ble_eq_true rfl) (c_strlen (x_l X) (x_D X) (x_q X) g (x_cy X) (x_z X) _ layX layX_ok (by decide : 1 < 11) (by decide : Int32.ofNat (st_len.getD 1 0) >>> ((0 : Int32) &&& 31) = 4)) rfl rfl ?_
        refine go_icmp_ge (tgt := 55) (pc' := 28) hC dX9_isWord_25 (by decide) rfl (fun h6 => ?_) (fun h6 => ?_)
        · have hf := ite_t h6 hf
          refine go_iconst (pc' := 56) hC dX9_isWord_55 ki_1 rfl ?_
          obtain rfl := Option.some.inj hf
          exact go_iret hC hQ dX9_isWord_56 rfl rfl rfl rfl (fun _ => rfl) rfl rfl
        · have hf := ite_f h6 hf
          refine go_aload_n (pc' := 29) hC dX9_isWord_28 rfl rfl ?_
          refine go_getq (pc' := 32) hC 14 1 layX_14 rfl rfl inlX9 (Nat.le_of_ble_eq_true rfl) mw_75 rfl dX9_isWord_29 rfl ?_
          refine go_aload_n (pc' := 33) hC dX9_isWord_32 rfl rfl ?_
          refine go_geti (v := (S.1 1403)) (pc' := 36) hC 14 3 layX_14 rfl rfl inlX9 (Nat.le_of_ble_eq_true rfl) mw_323 rfl dX9_isWord_33 rfl rfl ?_
          refine go_iload_n (pc' := 37) hC dX9_isWord_36 rfl rfl ?_
          refine go_iadd (pc' := 38) hC dX9_isWord_37 rfl ?_
          obtain ⟨h3, hf⟩ := gd_e hf
          refine go_iald (f := (S.2.2.1 15)) (pc' := 39) hC 15 layX_15 rfl rfl dX9_isWord_38 (okx_in h3) rfl ?_
          refine go_aload_n (pc' := 40) hC dX9_isWord_39 rfl rfl ?_
          refine go_iload_n (pc' := 41) hC dX9_isWord_40 rfl rfl ?_
          obtain ⟨h4, hf⟩ := gd_e hf
          refine go_callVs0 (pc' := 44) (As := [.int x1]) (st := [.int ((S.2.2.1 15) ((S.1 1403) + x1).toNatClampNeg)]) (st' := [.int (st_ch 1 x1), .int ((S.2.2.1 15) ((S.1 1403) + x1).toNatClampNeg)]) hC dX9_isWord_41 ⟨mw_349, mw_352, mw_340, yd_yJ0_charAt_5068e, yp_yJ0_charAt_5068e, Nat.le_of_ble_eq_true rfl, Nat.le_of_ble_eq_true rfl, Nat.le_of_ble_eq_true rfl, Nat.le_of_ble_eq_true rfl⟩ mw_350 mw_351 (by decide : 1 < 11) rfl rfl (Nat.le_of_ble_eq_true rfl) (c_charAt (x_l X) (x_D X) (x_q X) g (x_cy X) (x_z X) _ layX layX_ok (by decide : 1 < 11) h4) rfl rfl ?_
          refine go_icmp_eq (tgt := 49) (pc' := 47) hC dX9_isWord_44 (by decide) rfl (fun h5 => ?_) (fun h5 => ?_)
          · have hf := ite_t h5 hf
            refine go_iinc (lc' := [(0, .ref (x_q X 14)), (1, .ref ((x_z X).1 1)), (2, .int (x1 + (1 : Int32)))]) (pc' := 52) hC dX9_isWord_49 rfl ki_1 (Nat.le_of_ble_eq_true rfl) rfl rfl ?_
            refine go_goto (tgt := 20) hC dX9_isWord_52 (by decide) ?_
            exact ih (x1 + (1 : Int32)) hf
          · have hf := ite_f h5 hf
            refine go_iconst (pc' := 48) hC dX9_isWord_47 ki_0 rfl ?_
            obtain rfl := Option.some.inj hf
            exact go_iret hC hQ dX9_isWord_48 rfl rfl rfl rfl (fun _ => rfl) rfl rfl
    exact l20_7 fuel (0 : Int32) hf
  · have hf := ite_f h8 hf
    refine go_iconst (pc' := 17) hC dX9_isWord_16 ki_0 rfl ?_
    obtain rfl := Option.some.inj hf
    exact go_iret hC hQ dX9_isWord_17 rfl rfl rfl rfl (fun _ => rfl) rfl rfl
theorem dX2_things_0 : decode cX2_things 0 = .ok (.aload_n 0, 1) := by decide +kernel
theorem dX2_things_1 : decode cX2_things 1 = .ok (.getfield 49, 3) := by decide +kernel
theorem dX2_things_4 : decode cX2_things 4 = .ok (.aload_n 0, 1) := by decide +kernel
theorem dX2_things_5 : decode cX2_things 5 = .ok (.getfield 52, 3) := by decide +kernel
theorem dX2_things_8 : decode cX2_things 8 = .ok (.iadd, 1) := by decide +kernel
theorem dX2_things_9 : decode cX2_things 9 = .ok (.aload_n 0, 1) := by decide +kernel
theorem dX2_things_10 : decode cX2_things 10 = .ok (.getfield 55, 3) := by decide +kernel
theorem dX2_things_13 : decode cX2_things 13 = .ok (.iadd, 1) := by decide +kernel
theorem dX2_things_14 : decode cX2_things 14 = .ok (.ireturn, 1) := by decide +kernel
abbrev o_X2_things_q3 : Type := Int32
def f_X2_things_q3 (S : wd_W) : Option o_X2_things_q3 :=
some (((S.1 301) + (S.1 307)) + (S.1 310))
set_option maxRecDepth 100000 in
set_option maxHeartbeats 4000000 in
theorem c_X2_things_q3 (l : Launch) (D : va_G) (q g : Nat → Nat) (cy : Nat → ClassId) (z : (Nat → Nat) × (Nat → Nat) × Nat) (S : wd_W) (o : o_X2_things_q3) (hf : f_X2_things_q3 S = some o) : MX layX l yX2_things cX2_things 1 (some .int) ({ frames := 0, cells := 0, slots := 0, locals := 0 } : Room) D q g cy z [.ref (q 3)] S false (some (.int o)) (wd_o S [] [] [] [] []) 0 0 := by
  refine mx_of (own := RX2) (lc := [(0, .ref (q 3))]) (by decide +kernel) rfl layX_ok (Nat.le_of_ble_eq_true rfl) rfl ?_
  intro X hXl hXq hXz hC hQ
  subst hXl; subst hXq; subst hXz
  unfold f_X2_things_q3 at hf
  refine go_aload_n (pc' := 1) hC dX2_things_0 rfl rfl ?_
  refine go_geti (v := (S.1 301)) (pc' := 4) hC 3 1 layX_3 rfl rfl inlX2 (Nat.le_of_ble_eq_true rfl) mw_309 rfl dX2_things_1 rfl rfl ?_
  refine go_aload_n (pc' := 5) hC dX2_things_4 rfl rfl ?_
  refine go_geti (v := (S.1 307)) (pc' := 8) hC 3 7 layX_3 rfl rfl inlX2 (Nat.le_of_ble_eq_true rfl) mw_310 rfl dX2_things_5 rfl rfl ?_
  refine go_iadd (pc' := 9) hC dX2_things_8 rfl ?_
  refine go_aload_n (pc' := 10) hC dX2_things_9 rfl rfl ?_
  refine go_geti (v := (S.1 310)) (pc' := 13) hC 3 10 layX_3 rfl rfl inlX2 (Nat.le_of_ble_eq_true rfl) mw_311 rfl dX2_things_10 rfl rfl ?_
  refine go_iadd (pc' := 14) hC dX2_things_13 rfl ?_
  obtain rfl := Option.some.inj hf
  exact go_iret hC hQ dX2_things_14 rfl rfl rfl rfl (fun _ => rfl) rfl rfl
theorem dX9_refuseIf_0 : decode cX9_refuseIf 0 = .ok (.iload_n 1, 1) := by decide +kernel
theorem dX9_refuseIf_1 : decode cX9_refuseIf 1 = .ok (.ifCond .ne 15, 3) := by decide +kernel
theorem dX9_refuseIf_4 : decode cX9_refuseIf 4 = .ok (.aload_n 0, 1) := by decide +kernel
theorem dX9_refuseIf_5 : decode cX9_refuseIf 5 = .ok (.getfield 15, 3) := by decide +kernel
theorem dX9_refuseIf_8 : decode cX9_refuseIf 8 = .ok (.invokevirtual 108, 3) := by decide +kernel
theorem dX9_refuseIf_11 : decode cX9_refuseIf 11 = .ok (.bipush 15, 2) := by decide +kernel
theorem dX9_refuseIf_13 : decode cX9_refuseIf 13 = .ok (.if_icmp .lt 12, 3) := by decide +kernel
theorem dX9_refuseIf_16 : decode cX9_refuseIf 16 = .ok (.aload_n 0, 1) := by decide +kernel
theorem dX9_refuseIf_17 : decode cX9_refuseIf 17 = .ok (.aload_n 0, 1) := by decide +kernel
theorem dX9_refuseIf_18 : decode cX9_refuseIf 18 = .ok (.getfield 55, 3) := by decide +kernel
theorem dX9_refuseIf_21 : decode cX9_refuseIf 21 = .ok (.iconst 3, 1) := by decide +kernel
theorem dX9_refuseIf_22 : decode cX9_refuseIf 22 = .ok (.invokevirtual 45, 3) := by decide +kernel
theorem dX9_refuseIf_25 : decode cX9_refuseIf 25 = .ok (.return_, 1) := by decide +kernel
abbrev o_X9_refuseIf_q14 : Type := Int32
def f_X9_refuseIf_q14 (S : wd_W) (p1 : Int32) : Option o_X9_refuseIf_q14 :=
lk (bd (f_X9_blame_q14 (wd_o S [(1404, (S.1 1404))] [] [] [] []) (S.1 1403) (3 : Int32)) fun o2 =>
some o2) fun k16_1 =>
if p1 = 0 then (
bd (f_X2_things_q3 (wd_o S [(1404, (S.1 1404))] [] [] [] [])) fun o3 =>
if o3 < (15 : Int32) then (
some (S.1 1404)) else (
k16_1)) else (
k16_1)
set_option maxRecDepth 100000 in
set_option maxHeartbeats 4000000 in
theorem c_X9_refuseIf_q14 (l : Launch) (D : va_G) (q g : Nat → Nat) (cy : Nat → ClassId) (z : (Nat → Nat) × (Nat → Nat) × Nat) (S : wd_W) (p1 : Int32) (o : o_X9_refuseIf_q14) (hf : f_X9_refuseIf_q14 S p1 = some o) : MX layX l yX9_refuseIf cX9_refuseIf 2 none ({ frames := 1, cells := 0, slots := 0, locals := 22 } : Room) D q g cy z [.ref (q 14), .int p1] S false (none) (wd_o S [(1404, o)] [] [] [] []) 0 0 := by
  refine mx_of (own := RX9) (lc := [(0, .ref (q 14)), (1, .int p1)]) (by decide +kernel) rfl layX_ok (Nat.le_of_ble_eq_true rfl) rfl ?_
  intro X hXl hXq hXz hC hQ
  subst hXl; subst hXq; subst hXz
  unfold f_X9_refuseIf_q14 at hf
  refine go_keys (L1 := [(1404, (S.1 1404))]) (L2 := []) (L3 := []) (L4 := []) (L5 := []) [1404] [] [] [] [] rfl rfl rfl rfl rfl ?_
  refine go_iload_n (pc' := 1) hC dX9_refuseIf_0 rfl rfl ?_
  obtain ⟨k16_1, hk16_1, hf⟩ := lk_e0 hf
  have jk16_1 : ∀ (_ : Unit), k16_1 = some o → Go X layX S 16 [(0, .ref (x_q X 14))] [] g [(1404, (S.1 1404))] [] [] [] [] 0 0 := by
    intro _ hf
    have hf := hk16_1 hf
    clear hk16_1
    refine go_aload_n (pc' := 17) hC dX9_refuseIf_16 rfl rfl ?_
    refine go_aload_n (pc' := 18) hC dX9_refuseIf_17 rfl rfl ?_
    refine go_geti (v := (S.1 1403)) (pc' := 21) hC 14 3 layX_14 rfl rfl inlX9 (Nat.le_of_ble_eq_true rfl) mw_323 rfl dX9_refuseIf_18 rfl rfl ?_
    refine go_iconst (pc' := 22) hC dX9_refuseIf_21 ki_3 rfl ?_
    obtain ⟨o2, ho2, hf⟩ := bd_e hf
    refine go_callV1 (pc' := 25) (As := [.int (S.1 1403), .int (3 : Int32)]) (st := []) (st' := []) (L1' := [(1404, o2)]) (L2' := []) (L3' := []) (L4' := []) (L5' := []) (cells' := 0) (slots' := 0)  (b := 14) hC dX9_refuseIf_22 ⟨mw_386, mw_389, mw_18, yd_yX9_blame, yp_yX9_blame, Nat.le_of_ble_eq_true rfl, Nat.le_of_ble_eq_true rfl, (Nat.le_of_ble_eq_true rfl), (Nat.le_of_ble_eq_true rfl)⟩ mw_387 mw_388 layX_14 rfl rfl rfl (Nat.le_of_ble_eq_true rfl) (c_X9_blame_q14 (x_l X) (x_D X) (x_q X) g (x_cy X) (x_z X) _ (S.1 1403) (3 : Int32) o2 ho2) rfl rfl rfl rfl rfl rfl rfl rfl rfl rfl rfl rfl rfl rfl ?_
    obtain rfl := Option.some.inj hf
    exact go_vret hC hQ dX9_refuseIf_25 rfl rfl rfl (fun _ => rfl) rfl rfl
  clear hk16_1
  refine go_if_ne (tgt := 16) (pc' := 4) hC dX9_refuseIf_1 (by decide) rfl (fun h5 => ?_) (fun h5 => ?_)
  · have hf := ite_f h5 hf
    refine go_sub [0] rfl ?_
    exact jk16_1 () hf
  · have hf := ite_t h5 hf
    refine go_aload_n (pc' := 5) hC dX9_refuseIf_4 rfl rfl ?_
    refine go_getq (pc' := 8) hC 14 6 layX_14 rfl rfl inlX9 (Nat.le_of_ble_eq_true rfl) mw_76 rfl dX9_refuseIf_5 rfl ?_
    obtain ⟨o3, ho3, hf⟩ := bd_e hf
    refine go_callV0 (pc' := 11) (As := []) (st := []) (st' := [.int o3])    (b := 3) hC dX9_refuseIf_8 ⟨mw_415, mw_418, mw_14, yd_yX2_things, yp_yX2_things, Nat.le_of_ble_eq_true rfl, Nat.le_of_ble_eq_true rfl, (Nat.le_of_ble_eq_true rfl), (Nat.le_of_ble_eq_true rfl)⟩ mw_416 mw_417 layX_3 rfl rfl rfl (Nat.le_of_ble_eq_true rfl) (c_X2_things_q3 (x_l X) (x_D X) (x_q X) g (x_cy X) (x_z X) _  o3 ho3) rfl rfl ?_
    refine go_bipush (pc' := 13) hC dX9_refuseIf_11 kb_15 rfl ?_
    refine go_icmp_lt (tgt := 25) (pc' := 16) hC dX9_refuseIf_13 (by decide) rfl (fun h4 => ?_) (fun h4 => ?_)
    · have hf := ite_t h4 hf
      obtain rfl := Option.some.inj hf
      exact go_vret hC hQ dX9_refuseIf_25 rfl rfl rfl (fun _ => rfl) rfl rfl
    · have hf := ite_f h4 hf
      refine go_sub [0] rfl ?_
      exact jk16_1 () hf
theorem dX9_readPlace_0 : decode cX9_readPlace 0 = .ok (.aload_n 0, 1) := by decide +kernel
theorem dX9_readPlace_1 : decode cX9_readPlace 1 = .ok (.iconst 0, 1) := by decide +kernel
theorem dX9_readPlace_2 : decode cX9_readPlace 2 = .ok (.aload_n 0, 1) := by decide +kernel
theorem dX9_readPlace_3 : decode cX9_readPlace 3 = .ok (.getfield 15, 3) := by decide +kernel
theorem dX9_readPlace_6 : decode cX9_readPlace 6 = .ok (.getfield 74, 3) := by decide +kernel
theorem dX9_readPlace_9 : decode cX9_readPlace 9 = .ok (.iconst 1, 1) := by decide +kernel
theorem dX9_readPlace_10 : decode cX9_readPlace 10 = .ok (.isub, 1) := by decide +kernel
theorem dX9_readPlace_11 : decode cX9_readPlace 11 = .ok (.invokevirtual 77, 3) := by decide +kernel
theorem dX9_readPlace_14 : decode cX9_readPlace 14 = .ok (.istore_n 2, 1) := by decide +kernel
theorem dX9_readPlace_15 : decode cX9_readPlace 15 = .ok (.iload_n 2, 1) := by decide +kernel
theorem dX9_readPlace_16 : decode cX9_readPlace 16 = .ok (.iload_n 1, 1) := by decide +kernel
theorem dX9_readPlace_17 : decode cX9_readPlace 17 = .ok (.if_icmp .ne 12, 3) := by decide +kernel
theorem dX9_readPlace_20 : decode cX9_readPlace 20 = .ok (.aload_n 0, 1) := by decide +kernel
theorem dX9_readPlace_21 : decode cX9_readPlace 21 = .ok (.aload_n 0, 1) := by decide +kernel
theorem dX9_readPlace_22 : decode cX9_readPlace 22 = .ok (.getfield 55, 3) := by decide +kernel
theorem dX9_readPlace_25 : decode cX9_readPlace 25 = .ok (.iconst 1, 1) := by decide +kernel
theorem dX9_readPlace_26 : decode cX9_readPlace 26 = .ok (.invokevirtual 45, 3) := by decide +kernel
theorem dX9_readPlace_29 : decode cX9_readPlace 29 = .ok (.iload_n 2, 1) := by decide +kernel
theorem dX9_readPlace_30 : decode cX9_readPlace 30 = .ok (.ireturn, 1) := by decide +kernel
abbrev o_X9_readPlace_q14 : Type := Int32 × Int32 × Int32 × Int32
def f_X9_readPlace_q14 (S : wd_W) (p1 : Int32) : Option o_X9_readPlace_q14 :=
bd (f_X9_readNumber_q14 (wd_o S [(1402, (S.1 1402)), (1403, (S.1 1403)), (1404, (S.1 1404))] [] [] [] []) (0 : Int32) ((S.1 300) - (1 : Int32))) fun o1 =>
if o1.1 = p1 then (
bd (f_X9_blame_q14 (wd_o S [(1402, o1.2.1), (1403, o1.2.2.1), (1404, o1.2.2.2)] [] [] [] []) o1.2.2.1 (1 : Int32)) fun o2 =>
some (o1.1, o1.2.1, o1.2.2.1, o2)) else (
some (o1.1, o1.2.1, o1.2.2.1, o1.2.2.2))
set_option maxRecDepth 100000 in
set_option maxHeartbeats 4000000 in
theorem c_X9_readPlace_q14 (l : Launch) (D : va_G) (q g : Nat → Nat) (cy : Nat → ClassId) (z : (Nat → Nat) × (Nat → Nat) × Nat) (S : wd_W) (p1 : Int32) (o : o_X9_readPlace_q14) (hf : f_X9_readPlace_q14 S p1 = some o) : MX layX l yX9_readPlace cX9_readPlace 3 (some .int) ({ frames := 2, cells := 0, slots := 0, locals := 45 } : Room) D q g cy z [.ref (q 14), .int p1] S false (some (.int o.1)) (wd_o S [(1402, o.2.1), (1403, o.2.2.1), (1404, o.2.2.2)] [] [] [] []) 0 0 := by
  refine mx_of (own := RX9) (lc := [(0, .ref (q 14)), (1, .int p1)]) (by decide +kernel) rfl layX_ok (Nat.le_of_ble_eq_true rfl) rfl ?_
  intro X hXl hXq hXz hC hQ
  subst hXl; subst hXq; subst hXz
  unfold f_X9_readPlace_q14 at hf
  refine go_keys (L1 := [(1402, (S.1 1402)), (1403, (S.1 1403)), (1404, (S.1 1404))]) (L2 := []) (L3 := []) (L4 := []) (L5 := []) [1402, 1403, 1404] [] [] [] [] rfl rfl rfl rfl rfl ?_
  refine go_aload_n (pc' := 1) hC dX9_readPlace_0 rfl rfl ?_
  refine go_iconst (pc' := 2) hC dX9_readPlace_1 ki_0 rfl ?_
  refine go_aload_n (pc' := 3) hC dX9_readPlace_2 rfl rfl ?_
  refine go_getq (pc' := 6) hC 14 6 layX_14 rfl rfl inlX9 (Nat.le_of_ble_eq_true rfl) mw_76 rfl dX9_readPlace_3 rfl ?_
  refine go_geti (v := (S.1 300)) (pc' := 9) hC 3 0 layX_3 rfl rfl inlX2 (Nat.le_of_ble_eq_true rfl) mw_324 rfl dX9_readPlace_6 rfl rfl ?_
  refine go_iconst (pc' := 10) hC dX9_readPlace_9 ki_1 rfl ?_
  refine go_isub (pc' := 11) hC dX9_readPlace_10 rfl ?_
  obtain ⟨o1, ho1, hf⟩ := bd_e hf
  refine go_callV1 (pc' := 14) (As := [.int (0 : Int32), .int ((S.1 300) - (1 : Int32))]) (st := []) (st' := [.int o1.1]) (L1' := [(1402, o1.2.1), (1403, o1.2.2.1), (1404, o1.2.2.2)]) (L2' := []) (L3' := []) (L4' := []) (L5' := []) (cells' := 0) (slots' := 0)  (b := 14) hC dX9_readPlace_11 ⟨mw_390, mw_393, mw_18, yd_yX9_readNumber, yp_yX9_readNumber, Nat.le_of_ble_eq_true rfl, Nat.le_of_ble_eq_true rfl, (Nat.le_of_ble_eq_true rfl), (Nat.le_of_ble_eq_true rfl)⟩ mw_391 mw_392 layX_14 rfl rfl rfl (Nat.le_of_ble_eq_true rfl) (c_X9_readNumber_q14 (x_l X) (x_D X) (x_q X) g (x_cy X) (x_z X) _ (0 : Int32) ((S.1 300) - (1 : Int32)) o1 ho1) rfl rfl rfl rfl rfl rfl rfl rfl rfl rfl rfl rfl rfl rfl ?_
  refine go_istore_n (lc' := [(0, .ref (x_q X 14)), (1, .int p1), (2, .int o1.1)]) (pc' := 15) hC dX9_readPlace_14 (Nat.le_of_ble_eq_true rfl) rfl rfl ?_
  refine go_iload_n (pc' := 16) hC dX9_readPlace_15 rfl rfl ?_
  refine go_iload_n (pc' := 17) hC dX9_readPlace_16 rfl rfl ?_
  refine go_icmp_ne (tgt := 29) (pc' := 20) hC dX9_readPlace_17 (by decide) rfl (fun h3 => ?_) (fun h3 => ?_)
  · have hf := ite_f h3 hf
    refine go_iload_n (pc' := 30) hC dX9_readPlace_29 rfl rfl ?_
    obtain rfl := Option.some.inj hf
    exact go_iret hC hQ dX9_readPlace_30 rfl rfl rfl rfl (fun _ => rfl) rfl rfl
  · have hf := ite_t h3 hf
    refine go_aload_n (pc' := 21) hC dX9_readPlace_20 rfl rfl ?_
    refine go_aload_n (pc' := 22) hC dX9_readPlace_21 rfl rfl ?_
    refine go_geti (v := o1.2.2.1) (pc' := 25) hC 14 3 layX_14 rfl rfl inlX9 (Nat.le_of_ble_eq_true rfl) mw_323 rfl dX9_readPlace_22 rfl rfl ?_
    refine go_iconst (pc' := 26) hC dX9_readPlace_25 ki_1 rfl ?_
    obtain ⟨o2, ho2, hf⟩ := bd_e hf
    refine go_callV1 (pc' := 29) (As := [.int o1.2.2.1, .int (1 : Int32)]) (st := []) (st' := []) (L1' := [(1402, o1.2.1), (1403, o1.2.2.1), (1404, o2)]) (L2' := []) (L3' := []) (L4' := []) (L5' := []) (cells' := 0) (slots' := 0)  (b := 14) hC dX9_readPlace_26 ⟨mw_386, mw_389, mw_18, yd_yX9_blame, yp_yX9_blame, Nat.le_of_ble_eq_true rfl, Nat.le_of_ble_eq_true rfl, (Nat.le_of_ble_eq_true rfl), (Nat.le_of_ble_eq_true rfl)⟩ mw_387 mw_388 layX_14 rfl rfl rfl (Nat.le_of_ble_eq_true rfl) (c_X9_blame_q14 (x_l X) (x_D X) (x_q X) g (x_cy X) (x_z X) _ o1.2.2.1 (1 : Int32) o2 ho2) rfl rfl rfl rfl rfl rfl rfl rfl rfl rfl rfl rfl rfl rfl ?_
    refine go_iload_n (pc' := 30) hC dX9_readPlace_29 rfl rfl ?_
    obtain rfl := Option.some.inj hf
    exact go_iret hC hQ dX9_readPlace_30 rfl rfl rfl rfl (fun _ => rfl) rfl rfl
theorem dX9_clauseGoesOn_0 : decode cX9_clauseGoesOn 0 = .ok (.aload_n 0, 1) := by decide +kernel
theorem dX9_clauseGoesOn_1 : decode cX9_clauseGoesOn 1 = .ok (.getfield 31, 3) := by decide +kernel
theorem dX9_clauseGoesOn_4 : decode cX9_clauseGoesOn 4 = .ok (.ifCond .ne 28, 3) := by decide +kernel
theorem dX9_clauseGoesOn_7 : decode cX9_clauseGoesOn 7 = .ok (.aload_n 0, 1) := by decide +kernel
theorem dX9_clauseGoesOn_8 : decode cX9_clauseGoesOn 8 = .ok (.invokevirtual 41, 3) := by decide +kernel
theorem dX9_clauseGoesOn_11 : decode cX9_clauseGoesOn 11 = .ok (.ifCond .eq 21, 3) := by decide +kernel
theorem dX9_clauseGoesOn_14 : decode cX9_clauseGoesOn 14 = .ok (.aload_n 0, 1) := by decide +kernel
theorem dX9_clauseGoesOn_15 : decode cX9_clauseGoesOn 15 = .ok (.getfield 9, 3) := by decide +kernel
theorem dX9_clauseGoesOn_18 : decode cX9_clauseGoesOn 18 = .ok (.aload_n 0, 1) := by decide +kernel
theorem dX9_clauseGoesOn_19 : decode cX9_clauseGoesOn 19 = .ok (.getfield 28, 3) := by decide +kernel
theorem dX9_clauseGoesOn_22 : decode cX9_clauseGoesOn 22 = .ok (.iaload, 1) := by decide +kernel
theorem dX9_clauseGoesOn_23 : decode cX9_clauseGoesOn 23 = .ok (.bipush 59, 2) := by decide +kernel
theorem dX9_clauseGoesOn_25 : decode cX9_clauseGoesOn 25 = .ok (.if_icmp .eq 7, 3) := by decide +kernel
theorem dX9_clauseGoesOn_28 : decode cX9_clauseGoesOn 28 = .ok (.iconst 1, 1) := by decide +kernel
theorem dX9_clauseGoesOn_29 : decode cX9_clauseGoesOn 29 = .ok (.goto 4, 3) := by decide +kernel
theorem dX9_clauseGoesOn_32 : decode cX9_clauseGoesOn 32 = .ok (.iconst 0, 1) := by decide +kernel
theorem dX9_clauseGoesOn_33 : decode cX9_clauseGoesOn 33 = .ok (.ireturn, 1) := by decide +kernel
abbrev o_X9_clauseGoesOn_q14 : Type := Int32 × Int32
def f_X9_clauseGoesOn_q14 (S : wd_W) : Option o_X9_clauseGoesOn_q14 :=
if (S.1 1404) = 0 then (
bd (f_X9_hasMore_q14 (wd_o S [(1402, (S.1 1402))] [] [] [] [])) fun o1 =>
if o1.1 = 0 then (
some ((0 : Int32), o1.2)) else (
gd (okx o1.2 400) <|
if ((S.2.2.1 15) o1.2.toNatClampNeg) = (59 : Int32) then (
some ((0 : Int32), o1.2)) else (
some ((1 : Int32), o1.2)))) else (
some ((0 : Int32), (S.1 1402)))
set_option maxRecDepth 100000 in
set_option maxHeartbeats 4000000 in
theorem c_X9_clauseGoesOn_q14 (l : Launch) (D : va_G) (q g : Nat → Nat) (cy : Nat → ClassId) (z : (Nat → Nat) × (Nat → Nat) × Nat) (S : wd_W) (o : o_X9_clauseGoesOn_q14) (hf : f_X9_clauseGoesOn_q14 S = some o) : MX layX l yX9_clauseGoesOn cX9_clauseGoesOn 1 (some .boolean) ({ frames := 2, cells := 0, slots := 0, locals := 40 } : Room) D q g cy z [.ref (q 14)] S false (some (.int o.1)) (wd_o S [(1402, o.2)] [] [] [] []) 0 0 := by
  refine mx_of (own := RX9) (lc := [(0, .ref (q 14))]) (by decide +kernel) rfl layX_ok (Nat.le_of_ble_eq_true rfl) rfl ?_
  intro X hXl hXq hXz hC hQ
  subst hXl; subst hXq; subst hXz
  unfold f_X9_clauseGoesOn_q14 at hf
  refine go_keys (L1 := [(1402, (S.1 1402))]) (L2 := []) (L3 := []) (L4 := []) (L5 := []) [1402] [] [] [] [] rfl rfl rfl rfl rfl ?_
  refine go_aload_n (pc' := 1) hC dX9_clauseGoesOn_0 rfl rfl ?_
  refine go_geti (v := (S.1 1404)) (pc' := 4) hC 14 4 layX_14 rfl rfl inlX9 (Nat.le_of_ble_eq_true rfl) mw_303 rfl dX9_clauseGoesOn_1 rfl rfl ?_
  refine go_if_ne (tgt := 32) (pc' := 7) hC dX9_clauseGoesOn_4 (by decide) rfl (fun h5 => ?_) (fun h5 => ?_)
  · have hf := ite_f h5 hf
    refine go_iconst (pc' := 33) hC dX9_clauseGoesOn_32 ki_0 rfl ?_
    obtain rfl := Option.some.inj hf
    exact go_iret hC hQ dX9_clauseGoesOn_33 rfl rfl rfl rfl (fun _ => rfl) rfl rfl
  · have hf := ite_t h5 hf
    refine go_aload_n (pc' := 8) hC dX9_clauseGoesOn_7 rfl rfl ?_
    obtain ⟨o1, ho1, hf⟩ := bd_e hf
    refine go_callV1 (pc' := 11) (As := []) (st := []) (st' := [.int o1.1]) (L1' := [(1402, o1.2)]) (L2' := []) (L3' := []) (L4' := []) (L5' := []) (cells' := 0) (slots' := 0)  (b := 14) hC dX9_clauseGoesOn_8 ⟨mw_398, mw_401, mw_18, yd_yX9_hasMore, yp_yX9_hasMore, Nat.le_of_ble_eq_true rfl, Nat.le_of_ble_eq_true rfl, (Nat.le_of_ble_eq_true rfl), (Nat.le_of_ble_eq_true rfl)⟩ mw_399 mw_400 layX_14 rfl rfl rfl (Nat.le_of_ble_eq_true rfl) (c_X9_hasMore_q14 (x_l X) (x_D X) (x_q X) g (x_cy X) (x_z X) _  o1 ho1) rfl rfl rfl rfl rfl rfl rfl rfl rfl rfl rfl rfl rfl rfl ?_
    refine go_if_eq (tgt := 32) (pc' := 14) hC dX9_clauseGoesOn_11 (by decide) rfl (fun h4 => ?_) (fun h4 => ?_)
    · have hf := ite_t h4 hf
      refine go_iconst (pc' := 33) hC dX9_clauseGoesOn_32 ki_0 rfl ?_
      obtain rfl := Option.some.inj hf
      exact go_iret hC hQ dX9_clauseGoesOn_33 rfl rfl rfl rfl (fun _ => rfl) rfl rfl
    · have hf := ite_f h4 hf
      refine go_aload_n (pc' := 15) hC dX9_clauseGoesOn_14 rfl rfl ?_
      refine go_getq (pc' := 18) hC 14 1 layX_14 rfl rfl inlX9 (Nat.le_of_ble_eq_true rfl) mw_75 rfl dX9_clauseGoesOn_15 rfl ?_
      refine go_aload_n (pc' := 19) hC dX9_clauseGoesOn_18 rfl rfl ?_
      refine go_geti (v := o1.2) (pc' := 22) hC 14 2 layX_14 rfl rfl inlX9 (Nat.le_of_ble_eq_true rfl) mw_302 rfl dX9_clauseGoesOn_19 rfl rfl ?_
      obtain ⟨h2, hf⟩ := gd_e hf
      refine go_iald (f := (S.2.2.1 15)) (pc' := 23) hC 15 layX_15 rfl rfl dX9_clauseGoesOn_22 (okx_in h2) rfl ?_
      refine go_bipush (pc' := 25) hC dX9_clauseGoesOn_23 kb_59 rfl ?_
      refine go_icmp_eq (tgt := 32) (pc' := 28) hC dX9_clauseGoesOn_25 (by decide) rfl (fun h3 => ?_) (fun h3 => ?_)
      · have hf := ite_t h3 hf
        refine go_iconst (pc' := 33) hC dX9_clauseGoesOn_32 ki_0 rfl ?_
        obtain rfl := Option.some.inj hf
        exact go_iret hC hQ dX9_clauseGoesOn_33 rfl rfl rfl rfl (fun _ => rfl) rfl rfl
      · have hf := ite_f h3 hf
        refine go_iconst (pc' := 29) hC dX9_clauseGoesOn_28 ki_1 rfl ?_
        refine go_goto (tgt := 33) hC dX9_clauseGoesOn_29 (by decide) ?_
        obtain rfl := Option.some.inj hf
        exact go_iret hC hQ dX9_clauseGoesOn_33 rfl rfl rfl rfl (fun _ => rfl) rfl rfl
abbrev o_X9_isWord_q14_str2 : Type := Int32
def f_X9_isWord_q14_str2_L20 (S : wd_W) (r2 : (Int32) → (Option o_X9_isWord_q14_str2)) (x1 : Int32) : Option o_X9_isWord_q14_str2 :=
if (3 : Int32) ≤ x1 then (
some (1 : Int32)) else (
gd (okx ((S.1 1403) + x1) 400) <|
gd (okx x1 3) <|
if ((S.2.2.1 15) ((S.1 1403) + x1).toNatClampNeg) = (st_ch 2 x1) then (
r2 (x1 + (1 : Int32))) else (
some (0 : Int32)))
def f_X9_isWord_q14_str2 (S : wd_W) : Option o_X9_isWord_q14_str2 :=
if ((S.1 1402) - (S.1 1403)) = (3 : Int32) then (
it1 (f_X9_isWord_q14_str2_L20 S) fuel (0 : Int32)) else (
some (0 : Int32))
set_option maxRecDepth 100000 in
set_option maxHeartbeats 4000000 in
theorem c_X9_isWord_q14_str2 (l : Launch) (D : va_G) (q g : Nat → Nat) (cy : Nat → ClassId) (z : (Nat → Nat) × (Nat → Nat) × Nat) (S : wd_W) (o : o_X9_isWord_q14_str2) (hf : f_X9_isWord_q14_str2 S = some o) : MX layX l yX9_isWord cX9_isWord 3 (some .boolean) ({ frames := 4, cells := 0, slots := 0, locals := 85 } : Room) D q g cy z [.ref (q 14), .ref (z.1 2)] S false (some (.int o)) (wd_o S [] [] [] [] []) 0 0 := by
  refine mx_of (own := RX9) (lc := [(0, .ref (q 14)), (1, .ref (z.1 2))]) (by decide +kernel) rfl layX_ok (Nat.le_of_ble_eq_true rfl) rfl ?_
  intro X hXl hXq hXz hC hQ
  subst hXl; subst hXq; subst hXz
  unfold f_X9_isWord_q14_str2 at hf
  refine go_aload_n (pc' := 1) hC dX9_isWord_0 rfl rfl ?_
  refine go_geti (v := (S.1 1402)) (pc' := 4) hC 14 2 layX_14 rfl rfl inlX9 (Nat.le_of_ble_eq_true rfl) mw_302 rfl dX9_isWord_1 rfl rfl ?_
  refine go_aload_n (pc' := 5) hC dX9_isWord_4 rfl rfl ?_
  refine go_geti (v := (S.1 1403)) (pc' := 8) hC 14 3 layX_14 rfl rfl inlX9 (Nat.le_of_ble_eq_true rfl) mw_323 rfl dX9_isWord_5 rfl rfl ?_
  refine go_isub (pc' := 9) hC dX9_isWord_8 rfl ?_
  refine go_aload_n (pc' := 10) hC dX9_isWord_9 rfl rfl ?_
  refine go_callVs0 (pc' := 13) (As := []) (st := [.int ((S.1 1402) - (S.1 1403))]) (st' := [.int (3 : Int32), .int ((S.1 1402) - (S.1 1403))]) hC dX9_isWord_10 ⟨mw_337, mw_341, mw_340, yd_yJ0_length_8abf5, yp_yJ0_length_8abf5, Nat.le_of_ble_eq_true rfl, Nat.le_of_ble_eq_true rfl, Nat.le_of_ble_eq_true rfl, Nat.le_of_ble_eq_true rfl⟩ mw_338 mw_339 (by decide : 2 < 11) rfl rfl (Nat.le_of_ble_eq_true rfl) (c_strlen (x_l X) (x_D X) (x_q X) g (x_cy X) (x_z X) _ layX layX_ok (by decide : 2 < 11) (by decide : Int32.ofNat (st_len.getD 2 0) >>> ((0 : Int32) &&& 31) = 3)) rfl rfl ?_
  refine go_icmp_eq (tgt := 18) (pc' := 16) hC dX9_isWord_13 (by decide) rfl (fun h8 => ?_) (fun h8 => ?_)
  · have hf := ite_t h8 hf
    refine go_iconst (pc' := 19) hC dX9_isWord_18 ki_0 rfl ?_
    refine go_istore_n (lc' := [(0, .ref (x_q X 14)), (1, .ref ((x_z X).1 2)), (2, .int (0 : Int32))]) (pc' := 20) hC dX9_isWord_19 (Nat.le_of_ble_eq_true rfl) rfl rfl ?_
    have l20_7 : ∀ (nn : Nat) (x1 : Int32), it1 (f_X9_isWord_q14_str2_L20 S) nn x1 = some o → Go X layX S 20 [(0, .ref (x_q X 14)), (1, .ref ((x_z X).1 2)), (2, .int x1)] [] g [] [] [] [] [] 0 0 := by
      intro nn
      induction nn with
      | zero =>
        intro x1 hf
        exact none_no hf
      | succ nn ih =>
        intro x1 hf
        have hf : f_X9_isWord_q14_str2_L20 S (it1 (f_X9_isWord_q14_str2_L20 S) nn) x1 = some o := hf
        generalize it1 (f_X9_isWord_q14_str2_L20 S) nn = r2 at ih hf
        unfold f_X9_isWord_q14_str2_L20 at hf
        refine go_iload_n (pc' := 21) hC dX9_isWord_20 rfl rfl ?_
        refine go_aload_n (pc' := 22) hC dX9_isWord_21 rfl rfl ?_
        refine go_callVs0 (pc' := 25) (As := []) (st := [.int x1]) (st' := [.int (3 : Int32), .int x1]) hC dX9_isWord_22 ⟨mw_337, mw_341, mw_340, yd_yJ0_length_8abf5, yp_yJ0_length_8abf5, Nat.le_of_ble_eq_true rfl, Nat.le_of_ble_eq_true rfl, Nat.le_of_ble_eq_true rfl, Nat.le_of_ble_eq_true rfl⟩ mw_338 mw_339 (by decide : 2 < 11) rfl rfl (Nat.le_of_ble_eq_true rfl) (c_strlen (x_l X) (x_D X) (x_q X) g (x_cy X) (x_z X) _ layX layX_ok (by decide : 2 < 11) (by decide : Int32.ofNat (st_len.getD 2 0) >>> ((0 : Int32) &&& 31) = 3)) rfl rfl ?_
        refine go_icmp_ge (tgt := 55) (pc' := 28) hC dX9_isWord_25 (by decide) rfl (fun h6 => ?_) (fun h6 => ?_)
        · have hf := ite_t h6 hf
          refine go_iconst (pc' := 56) hC dX9_isWord_55 ki_1 rfl ?_
          obtain rfl := Option.some.inj hf
          exact go_iret hC hQ dX9_isWord_56 rfl rfl rfl rfl (fun _ => rfl) rfl rfl
        · have hf := ite_f h6 hf
          refine go_aload_n (pc' := 29) hC dX9_isWord_28 rfl rfl ?_
          refine go_getq (pc' := 32) hC 14 1 layX_14 rfl rfl inlX9 (Nat.le_of_ble_eq_true rfl) mw_75 rfl dX9_isWord_29 rfl ?_
          refine go_aload_n (pc' := 33) hC dX9_isWord_32 rfl rfl ?_
          refine go_geti (v := (S.1 1403)) (pc' := 36) hC 14 3 layX_14 rfl rfl inlX9 (Nat.le_of_ble_eq_true rfl) mw_323 rfl dX9_isWord_33 rfl rfl ?_
          refine go_iload_n (pc' := 37) hC dX9_isWord_36 rfl rfl ?_
          refine go_iadd (pc' := 38) hC dX9_isWord_37 rfl ?_
          obtain ⟨h3, hf⟩ := gd_e hf
          refine go_iald (f := (S.2.2.1 15)) (pc' := 39) hC 15 layX_15 rfl rfl dX9_isWord_38 (okx_in h3) rfl ?_
          refine go_aload_n (pc' := 40) hC dX9_isWord_39 rfl rfl ?_
          refine go_iload_n (pc' := 41) hC dX9_isWord_40 rfl rfl ?_
          obtain ⟨h4, hf⟩ := gd_e hf
          refine go_callVs0 (pc' := 44) (As := [.int x1]) (st := [.int ((S.2.2.1 15) ((S.1 1403) + x1).toNatClampNeg)]) (st' := [.int (st_ch 2 x1), .int ((S.2.2.1 15) ((S.1 1403) + x1).toNatClampNeg)]) hC dX9_isWord_41 ⟨mw_349, mw_352, mw_340, yd_yJ0_charAt_5068e, yp_yJ0_charAt_5068e, Nat.le_of_ble_eq_true rfl, Nat.le_of_ble_eq_true rfl, Nat.le_of_ble_eq_true rfl, Nat.le_of_ble_eq_true rfl⟩ mw_350 mw_351 (by decide : 2 < 11) rfl rfl (Nat.le_of_ble_eq_true rfl) (c_charAt (x_l X) (x_D X) (x_q X) g (x_cy X) (x_z X) _ layX layX_ok (by decide : 2 < 11) h4) rfl rfl ?_
          refine go_icmp_eq (tgt := 49) (pc' := 47) hC dX9_isWord_44 (by decide) rfl (fun h5 => ?_) (fun h5 => ?_)
          · have hf := ite_t h5 hf
            refine go_iinc (lc' := [(0, .ref (x_q X 14)), (1, .ref ((x_z X).1 2)), (2, .int (x1 + (1 : Int32)))]) (pc' := 52) hC dX9_isWord_49 rfl ki_1 (Nat.le_of_ble_eq_true rfl) rfl rfl ?_
            refine go_goto (tgt := 20) hC dX9_isWord_52 (by decide) ?_
            exact ih (x1 + (1 : Int32)) hf
          · have hf := ite_f h5 hf
            refine go_iconst (pc' := 48) hC dX9_isWord_47 ki_0 rfl ?_
            obtain rfl := Option.some.inj hf
            exact go_iret hC hQ dX9_isWord_48 rfl rfl rfl rfl (fun _ => rfl) rfl rfl
    exact l20_7 fuel (0 : Int32) hf
  · have hf := ite_f h8 hf
    refine go_iconst (pc' := 17) hC dX9_isWord_16 ki_0 rfl ?_
    obtain rfl := Option.some.inj hf
    exact go_iret hC hQ dX9_isWord_17 rfl rfl rfl rfl (fun _ => rfl) rfl rfl
abbrev o_X9_isWord_q14_str3 : Type := Int32
def f_X9_isWord_q14_str3_L20 (S : wd_W) (r2 : (Int32) → (Option o_X9_isWord_q14_str3)) (x1 : Int32) : Option o_X9_isWord_q14_str3 :=
if (4 : Int32) ≤ x1 then (
some (1 : Int32)) else (
gd (okx ((S.1 1403) + x1) 400) <|
gd (okx x1 4) <|
if ((S.2.2.1 15) ((S.1 1403) + x1).toNatClampNeg) = (st_ch 3 x1) then (
r2 (x1 + (1 : Int32))) else (
some (0 : Int32)))
def f_X9_isWord_q14_str3 (S : wd_W) : Option o_X9_isWord_q14_str3 :=
if ((S.1 1402) - (S.1 1403)) = (4 : Int32) then (
it1 (f_X9_isWord_q14_str3_L20 S) fuel (0 : Int32)) else (
some (0 : Int32))
set_option maxRecDepth 100000 in
set_option maxHeartbeats 4000000 in
theorem c_X9_isWord_q14_str3 (l : Launch) (D : va_G) (q g : Nat → Nat) (cy : Nat → ClassId) (z : (Nat → Nat) × (Nat → Nat) × Nat) (S : wd_W) (o : o_X9_isWord_q14_str3) (hf : f_X9_isWord_q14_str3 S = some o) : MX layX l yX9_isWord cX9_isWord 3 (some .boolean) ({ frames := 4, cells := 0, slots := 0, locals := 85 } : Room) D q g cy z [.ref (q 14), .ref (z.1 3)] S false (some (.int o)) (wd_o S [] [] [] [] []) 0 0 := by
  refine mx_of (own := RX9) (lc := [(0, .ref (q 14)), (1, .ref (z.1 3))]) (by decide +kernel) rfl layX_ok (Nat.le_of_ble_eq_true rfl) rfl ?_
  intro X hXl hXq hXz hC hQ
  subst hXl; subst hXq; subst hXz
  unfold f_X9_isWord_q14_str3 at hf
  refine go_aload_n (pc' := 1) hC dX9_isWord_0 rfl rfl ?_
  refine go_geti (v := (S.1 1402)) (pc' := 4) hC 14 2 layX_14 rfl rfl inlX9 (Nat.le_of_ble_eq_true rfl) mw_302 rfl dX9_isWord_1 rfl rfl ?_
  refine go_aload_n (pc' := 5) hC dX9_isWord_4 rfl rfl ?_
  refine go_geti (v := (S.1 1403)) (pc' := 8) hC 14 3 layX_14 rfl rfl inlX9 (Nat.le_of_ble_eq_true rfl) mw_323 rfl dX9_isWord_5 rfl rfl ?_
  refine go_isub (pc' := 9) hC dX9_isWord_8 rfl ?_
  refine go_aload_n (pc' := 10) hC dX9_isWord_9 rfl rfl ?_
  refine go_callVs0 (pc' := 13) (As := []) (st := [.int ((S.1 1402) - (S.1 1403))]) (st' := [.int (4 : Int32), .int ((S.1 1402) - (S.1 1403))]) hC dX9_isWord_10 ⟨mw_337, mw_341, mw_340, yd_yJ0_length_8abf5, yp_yJ0_length_8abf5, Nat.le_of_ble_eq_true rfl, Nat.le_of_ble_eq_true rfl, Nat.le_of_ble_eq_true rfl, Nat.le_of_ble_eq_true rfl⟩ mw_338 mw_339 (by decide : 3 < 11) rfl rfl (Nat.le_of_ble_eq_true rfl) (c_strlen (x_l X) (x_D X) (x_q X) g (x_cy X) (x_z X) _ layX layX_ok (by decide : 3 < 11) (by decide : Int32.ofNat (st_len.getD 3 0) >>> ((0 : Int32) &&& 31) = 4)) rfl rfl ?_
  refine go_icmp_eq (tgt := 18) (pc' := 16) hC dX9_isWord_13 (by decide) rfl (fun h8 => ?_) (fun h8 => ?_)
  · have hf := ite_t h8 hf
    refine go_iconst (pc' := 19) hC dX9_isWord_18 ki_0 rfl ?_
    refine go_istore_n (lc' := [(0, .ref (x_q X 14)), (1, .ref ((x_z X).1 3)), (2, .int (0 : Int32))]) (pc' := 20) hC dX9_isWord_19 (Nat.le_of_ble_eq_true rfl) rfl rfl ?_
    have l20_7 : ∀ (nn : Nat) (x1 : Int32), it1 (f_X9_isWord_q14_str3_L20 S) nn x1 = some o → Go X layX S 20 [(0, .ref (x_q X 14)), (1, .ref ((x_z X).1 3)), (2, .int x1)] [] g [] [] [] [] [] 0 0 := by
      intro nn
      induction nn with
      | zero =>
        intro x1 hf
        exact none_no hf
      | succ nn ih =>
        intro x1 hf
        have hf : f_X9_isWord_q14_str3_L20 S (it1 (f_X9_isWord_q14_str3_L20 S) nn) x1 = some o := hf
        generalize it1 (f_X9_isWord_q14_str3_L20 S) nn = r2 at ih hf
        unfold f_X9_isWord_q14_str3_L20 at hf
        refine go_iload_n (pc' := 21) hC dX9_isWord_20 rfl rfl ?_
        refine go_aload_n (pc' := 22) hC dX9_isWord_21 rfl rfl ?_
        refine go_callVs0 (pc' := 25) (As := []) (st := [.int x1]) (st' := [.int (4 : Int32), .int x1]) hC dX9_isWord_22 ⟨mw_337, mw_341, mw_340, yd_yJ0_length_8abf5, yp_yJ0_length_8abf5, Nat.le_of_ble_eq_true rfl, Nat.le_of_ble_eq_true rfl, Nat.le_of_ble_eq_true rfl, Nat.le_of_ble_eq_true rfl⟩ mw_338 mw_339 (by decide : 3 < 11) rfl rfl (Nat.le_of_ble_eq_true rfl) (c_strlen (x_l X) (x_D X) (x_q X) g (x_cy X) (x_z X) _ layX layX_ok (by decide : 3 < 11) (by decide : Int32.ofNat (st_len.getD 3 0) >>> ((0 : Int32) &&& 31) = 4)) rfl rfl ?_
        refine go_icmp_ge (tgt := 55) (pc' := 28) hC dX9_isWord_25 (by decide) rfl (fun h6 => ?_) (fun h6 => ?_)
        · have hf := ite_t h6 hf
          refine go_iconst (pc' := 56) hC dX9_isWord_55 ki_1 rfl ?_
          obtain rfl := Option.some.inj hf
          exact go_iret hC hQ dX9_isWord_56 rfl rfl rfl rfl (fun _ => rfl) rfl rfl
        · have hf := ite_f h6 hf
          refine go_aload_n (pc' := 29) hC dX9_isWord_28 rfl rfl ?_
          refine go_getq (pc' := 32) hC 14 1 layX_14 rfl rfl inlX9 (Nat.le_of_ble_eq_true rfl) mw_75 rfl dX9_isWord_29 rfl ?_
          refine go_aload_n (pc' := 33) hC dX9_isWord_32 rfl rfl ?_
          refine go_geti (v := (S.1 1403)) (pc' := 36) hC 14 3 layX_14 rfl rfl inlX9 (Nat.le_of_ble_eq_true rfl) mw_323 rfl dX9_isWord_33 rfl rfl ?_
          refine go_iload_n (pc' := 37) hC dX9_isWord_36 rfl rfl ?_
          refine go_iadd (pc' := 38) hC dX9_isWord_37 rfl ?_
          obtain ⟨h3, hf⟩ := gd_e hf
          refine go_iald (f := (S.2.2.1 15)) (pc' := 39) hC 15 layX_15 rfl rfl dX9_isWord_38 (okx_in h3) rfl ?_
          refine go_aload_n (pc' := 40) hC dX9_isWord_39 rfl rfl ?_
          refine go_iload_n (pc' := 41) hC dX9_isWord_40 rfl rfl ?_
          obtain ⟨h4, hf⟩ := gd_e hf
          refine go_callVs0 (pc' := 44) (As := [.int x1]) (st := [.int ((S.2.2.1 15) ((S.1 1403) + x1).toNatClampNeg)]) (st' := [.int (st_ch 3 x1), .int ((S.2.2.1 15) ((S.1 1403) + x1).toNatClampNeg)]) hC dX9_isWord_41 ⟨mw_349, mw_352, mw_340, yd_yJ0_charAt_5068e, yp_yJ0_charAt_5068e, Nat.le_of_ble_eq_true rfl, Nat.le_of_ble_eq_true rfl, Nat.le_of_ble_eq_true rfl, Nat.le_of_ble_eq_true rfl⟩ mw_350 mw_351 (by decide : 3 < 11) rfl rfl (Nat.le_of_ble_eq_true rfl) (c_charAt (x_l X) (x_D X) (x_q X) g (x_cy X) (x_z X) _ layX layX_ok (by decide : 3 < 11) h4) rfl rfl ?_
          refine go_icmp_eq (tgt := 49) (pc' := 47) hC dX9_isWord_44 (by decide) rfl (fun h5 => ?_) (fun h5 => ?_)
          · have hf := ite_t h5 hf
            refine go_iinc (lc' := [(0, .ref (x_q X 14)), (1, .ref ((x_z X).1 3)), (2, .int (x1 + (1 : Int32)))]) (pc' := 52) hC dX9_isWord_49 rfl ki_1 (Nat.le_of_ble_eq_true rfl) rfl rfl ?_
            refine go_goto (tgt := 20) hC dX9_isWord_52 (by decide) ?_
            exact ih (x1 + (1 : Int32)) hf
          · have hf := ite_f h5 hf
            refine go_iconst (pc' := 48) hC dX9_isWord_47 ki_0 rfl ?_
            obtain rfl := Option.some.inj hf
            exact go_iret hC hQ dX9_isWord_48 rfl rfl rfl rfl (fun _ => rfl) rfl rfl
    exact l20_7 fuel (0 : Int32) hf
  · have hf := ite_f h8 hf
    refine go_iconst (pc' := 17) hC dX9_isWord_16 ki_0 rfl ?_
    obtain rfl := Option.some.inj hf
    exact go_iret hC hQ dX9_isWord_17 rfl rfl rfl rfl (fun _ => rfl) rfl rfl
theorem dX2_addLine_0 : decode cX2_addLine 0 = .ok (.aload_n 0, 1) := by decide +kernel
theorem dX2_addLine_1 : decode cX2_addLine 1 = .ok (.getfield 49, 3) := by decide +kernel
theorem dX2_addLine_4 : decode cX2_addLine 4 = .ok (.aload_n 0, 1) := by decide +kernel
theorem dX2_addLine_5 : decode cX2_addLine 5 = .ok (.getfield 15, 3) := by decide +kernel
theorem dX2_addLine_8 : decode cX2_addLine 8 = .ok (.arraylength, 1) := by decide +kernel
theorem dX2_addLine_9 : decode cX2_addLine 9 = .ok (.if_icmp .ge 65, 3) := by decide +kernel
theorem dX2_addLine_12 : decode cX2_addLine 12 = .ok (.aload_n 0, 1) := by decide +kernel
theorem dX2_addLine_13 : decode cX2_addLine 13 = .ok (.getfield 15, 3) := by decide +kernel
theorem dX2_addLine_16 : decode cX2_addLine 16 = .ok (.aload_n 0, 1) := by decide +kernel
theorem dX2_addLine_17 : decode cX2_addLine 17 = .ok (.getfield 49, 3) := by decide +kernel
theorem dX2_addLine_20 : decode cX2_addLine 20 = .ok (.iload_n 1, 1) := by decide +kernel
theorem dX2_addLine_21 : decode cX2_addLine 21 = .ok (.iastore, 1) := by decide +kernel
theorem dX2_addLine_22 : decode cX2_addLine 22 = .ok (.aload_n 0, 1) := by decide +kernel
theorem dX2_addLine_23 : decode cX2_addLine 23 = .ok (.getfield 19, 3) := by decide +kernel
theorem dX2_addLine_26 : decode cX2_addLine 26 = .ok (.aload_n 0, 1) := by decide +kernel
theorem dX2_addLine_27 : decode cX2_addLine 27 = .ok (.getfield 49, 3) := by decide +kernel
theorem dX2_addLine_30 : decode cX2_addLine 30 = .ok (.iload_n 2, 1) := by decide +kernel
theorem dX2_addLine_31 : decode cX2_addLine 31 = .ok (.iastore, 1) := by decide +kernel
theorem dX2_addLine_32 : decode cX2_addLine 32 = .ok (.aload_n 0, 1) := by decide +kernel
theorem dX2_addLine_33 : decode cX2_addLine 33 = .ok (.getfield 22, 3) := by decide +kernel
theorem dX2_addLine_36 : decode cX2_addLine 36 = .ok (.aload_n 0, 1) := by decide +kernel
theorem dX2_addLine_37 : decode cX2_addLine 37 = .ok (.getfield 49, 3) := by decide +kernel
theorem dX2_addLine_40 : decode cX2_addLine 40 = .ok (.iload_n 3, 1) := by decide +kernel
theorem dX2_addLine_41 : decode cX2_addLine 41 = .ok (.iastore, 1) := by decide +kernel
theorem dX2_addLine_42 : decode cX2_addLine 42 = .ok (.aload_n 0, 1) := by decide +kernel
theorem dX2_addLine_43 : decode cX2_addLine 43 = .ok (.getfield 25, 3) := by decide +kernel
theorem dX2_addLine_46 : decode cX2_addLine 46 = .ok (.aload_n 0, 1) := by decide +kernel
theorem dX2_addLine_47 : decode cX2_addLine 47 = .ok (.getfield 49, 3) := by decide +kernel
theorem dX2_addLine_50 : decode cX2_addLine 50 = .ok (.iload 4, 2) := by decide +kernel
theorem dX2_addLine_52 : decode cX2_addLine 52 = .ok (.iastore, 1) := by decide +kernel
theorem dX2_addLine_53 : decode cX2_addLine 53 = .ok (.aload_n 0, 1) := by decide +kernel
theorem dX2_addLine_54 : decode cX2_addLine 54 = .ok (.getfield 28, 3) := by decide +kernel
theorem dX2_addLine_57 : decode cX2_addLine 57 = .ok (.aload_n 0, 1) := by decide +kernel
theorem dX2_addLine_58 : decode cX2_addLine 58 = .ok (.getfield 49, 3) := by decide +kernel
theorem dX2_addLine_61 : decode cX2_addLine 61 = .ok (.iload 5, 2) := by decide +kernel
theorem dX2_addLine_63 : decode cX2_addLine 63 = .ok (.iastore, 1) := by decide +kernel
theorem dX2_addLine_64 : decode cX2_addLine 64 = .ok (.aload_n 0, 1) := by decide +kernel
theorem dX2_addLine_65 : decode cX2_addLine 65 = .ok (.dup, 1) := by decide +kernel
theorem dX2_addLine_66 : decode cX2_addLine 66 = .ok (.getfield 49, 3) := by decide +kernel
theorem dX2_addLine_69 : decode cX2_addLine 69 = .ok (.iconst 1, 1) := by decide +kernel
theorem dX2_addLine_70 : decode cX2_addLine 70 = .ok (.iadd, 1) := by decide +kernel
theorem dX2_addLine_71 : decode cX2_addLine 71 = .ok (.putfield 49, 3) := by decide +kernel
theorem dX2_addLine_74 : decode cX2_addLine 74 = .ok (.return_, 1) := by decide +kernel
abbrev o_X2_addLine_q3 : Type := Int32 × (Nat → Int32) × (Nat → Int32) × (Nat → Int32) × (Nat → Int32) × (Nat → Int32)
def f_X2_addLine_q3 (S : wd_W) (p1 : Int32) (p2 : Int32) (p3 : Int32) (p4 : Int32) (p5 : Int32) : Option o_X2_addLine_q3 :=
if (13 : Int32) ≤ (S.1 301) then (
some ((S.1 301), (S.2.2.1 4), (S.2.2.1 5), (S.2.2.1 6), (S.2.2.1 7), (S.2.2.1 8))) else (
gd (okx (S.1 301) 13) <|
lz (upd (S.2.2.1 4) (S.1 301).toNatClampNeg p1) fun a2 =>
gd (okx (S.1 301) 13) <|
lz (upd (S.2.2.1 5) (S.1 301).toNatClampNeg p2) fun a4 =>
gd (okx (S.1 301) 13) <|
lz (upd (S.2.2.1 6) (S.1 301).toNatClampNeg p3) fun a6 =>
gd (okx (S.1 301) 13) <|
lz (upd (S.2.2.1 7) (S.1 301).toNatClampNeg p4) fun a8 =>
gd (okx (S.1 301) 13) <|
lz (upd (S.2.2.1 8) (S.1 301).toNatClampNeg p5) fun a10 =>
lz ((S.1 301) + (1 : Int32)) fun x11 =>
some (x11, a2, a4, a6, a8, a10))
set_option maxRecDepth 100000 in
set_option maxHeartbeats 4000000 in
theorem c_X2_addLine_q3 (l : Launch) (D : va_G) (q g : Nat → Nat) (cy : Nat → ClassId) (z : (Nat → Nat) × (Nat → Nat) × Nat) (S : wd_W) (p1 : Int32) (p2 : Int32) (p3 : Int32) (p4 : Int32) (p5 : Int32) (o : o_X2_addLine_q3) (hf : f_X2_addLine_q3 S p1 p2 p3 p4 p5 = some o) : MX layX l yX2_addLine cX2_addLine 6 none ({ frames := 0, cells := 0, slots := 0, locals := 0 } : Room) D q g cy z [.ref (q 3), .int p1, .int p2, .int p3, .int p4, .int p5] S false (none) (wd_o S [(301, o.1)] [] [(4, o.2.1), (5, o.2.2.1), (6, o.2.2.2.1), (7, o.2.2.2.2.1), (8, o.2.2.2.2.2)] [] []) 0 0 := by
  refine mx_of (own := RX2) (lc := [(0, .ref (q 3)), (1, .int p1), (2, .int p2), (3, .int p3), (4, .int p4), (5, .int p5)]) (by decide +kernel) rfl layX_ok (Nat.le_of_ble_eq_true rfl) rfl ?_
  intro X hXl hXq hXz hC hQ
  subst hXl; subst hXq; subst hXz
  unfold f_X2_addLine_q3 at hf
  refine go_keys (L1 := [(301, (S.1 301))]) (L2 := []) (L3 := [(4, (S.2.2.1 4)), (5, (S.2.2.1 5)), (6, (S.2.2.1 6)), (7, (S.2.2.1 7)), (8, (S.2.2.1 8))]) (L4 := []) (L5 := []) [301] [] [4, 5, 6, 7, 8] [] [] rfl rfl rfl rfl rfl ?_
  refine go_aload_n (pc' := 1) hC dX2_addLine_0 rfl rfl ?_
  refine go_geti (v := (S.1 301)) (pc' := 4) hC 3 1 layX_3 rfl rfl inlX2 (Nat.le_of_ble_eq_true rfl) mw_309 rfl dX2_addLine_1 rfl rfl ?_
  refine go_aload_n (pc' := 5) hC dX2_addLine_4 rfl rfl ?_
  refine go_getq (pc' := 8) hC 3 2 layX_3 rfl rfl inlX2 (Nat.le_of_ble_eq_true rfl) mw_60 rfl dX2_addLine_5 rfl ?_
  refine go_alen (v := (13 : Int32)) (pc' := 9) hC 4 layX_4 rfl (Nat.le_of_ble_eq_true rfl) kn_13 dX2_addLine_8 rfl ?_
  refine go_icmp_ge (tgt := 74) (pc' := 12) hC dX2_addLine_9 (by decide) rfl (fun h12 => ?_) (fun h12 => ?_)
  · have hf := ite_t h12 hf
    obtain rfl := Option.some.inj hf
    exact go_vret hC hQ dX2_addLine_74 rfl rfl rfl (fun _ => rfl) rfl rfl
  · have hf := ite_f h12 hf
    refine go_aload_n (pc' := 13) hC dX2_addLine_12 rfl rfl ?_
    refine go_getq (pc' := 16) hC 3 2 layX_3 rfl rfl inlX2 (Nat.le_of_ble_eq_true rfl) mw_60 rfl dX2_addLine_13 rfl ?_
    refine go_aload_n (pc' := 17) hC dX2_addLine_16 rfl rfl ?_
    refine go_geti (v := (S.1 301)) (pc' := 20) hC 3 1 layX_3 rfl rfl inlX2 (Nat.le_of_ble_eq_true rfl) mw_309 rfl dX2_addLine_17 rfl rfl ?_
    refine go_iload_n (pc' := 21) hC dX2_addLine_20 rfl rfl ?_
    obtain ⟨h1, hf⟩ := gd_e hf
    refine go_iast (f := (S.2.2.1 4)) (pc' := 22) hC 4 layX_4 rfl rfl dX2_addLine_21 (okx_in h1) rfl rfl (fun a2 ha L3' hL => ?_)
    have hf := lz_r ha hf
    clear ha
    obtain rfl : L3' = [(4, a2), (5, (S.2.2.1 5)), (6, (S.2.2.1 6)), (7, (S.2.2.1 7)), (8, (S.2.2.1 8))] := hL.symm
    refine go_aload_n (pc' := 23) hC dX2_addLine_22 rfl rfl ?_
    refine go_getq (pc' := 26) hC 3 3 layX_3 rfl rfl inlX2 (Nat.le_of_ble_eq_true rfl) mw_61 rfl dX2_addLine_23 rfl ?_
    refine go_aload_n (pc' := 27) hC dX2_addLine_26 rfl rfl ?_
    refine go_geti (v := (S.1 301)) (pc' := 30) hC 3 1 layX_3 rfl rfl inlX2 (Nat.le_of_ble_eq_true rfl) mw_309 rfl dX2_addLine_27 rfl rfl ?_
    refine go_iload_n (pc' := 31) hC dX2_addLine_30 rfl rfl ?_
    obtain ⟨h3, hf⟩ := gd_e hf
    refine go_iast (f := (S.2.2.1 5)) (pc' := 32) hC 5 layX_5 rfl rfl dX2_addLine_31 (okx_in h3) rfl rfl (fun a4 ha L3' hL => ?_)
    have hf := lz_r ha hf
    clear ha
    obtain rfl : L3' = [(4, a2), (5, a4), (6, (S.2.2.1 6)), (7, (S.2.2.1 7)), (8, (S.2.2.1 8))] := hL.symm
    refine go_aload_n (pc' := 33) hC dX2_addLine_32 rfl rfl ?_
    refine go_getq (pc' := 36) hC 3 4 layX_3 rfl rfl inlX2 (Nat.le_of_ble_eq_true rfl) mw_62 rfl dX2_addLine_33 rfl ?_
    refine go_aload_n (pc' := 37) hC dX2_addLine_36 rfl rfl ?_
    refine go_geti (v := (S.1 301)) (pc' := 40) hC 3 1 layX_3 rfl rfl inlX2 (Nat.le_of_ble_eq_true rfl) mw_309 rfl dX2_addLine_37 rfl rfl ?_
    refine go_iload_n (pc' := 41) hC dX2_addLine_40 rfl rfl ?_
    obtain ⟨h5, hf⟩ := gd_e hf
    refine go_iast (f := (S.2.2.1 6)) (pc' := 42) hC 6 layX_6 rfl rfl dX2_addLine_41 (okx_in h5) rfl rfl (fun a6 ha L3' hL => ?_)
    have hf := lz_r ha hf
    clear ha
    obtain rfl : L3' = [(4, a2), (5, a4), (6, a6), (7, (S.2.2.1 7)), (8, (S.2.2.1 8))] := hL.symm
    refine go_aload_n (pc' := 43) hC dX2_addLine_42 rfl rfl ?_
    refine go_getq (pc' := 46) hC 3 5 layX_3 rfl rfl inlX2 (Nat.le_of_ble_eq_true rfl) mw_63 rfl dX2_addLine_43 rfl ?_
    refine go_aload_n (pc' := 47) hC dX2_addLine_46 rfl rfl ?_
    refine go_geti (v := (S.1 301)) (pc' := 50) hC 3 1 layX_3 rfl rfl inlX2 (Nat.le_of_ble_eq_true rfl) mw_309 rfl dX2_addLine_47 rfl rfl ?_
    refine go_iload (pc' := 52) hC dX2_addLine_50 rfl rfl ?_
    obtain ⟨h7, hf⟩ := gd_e hf
    refine go_iast (f := (S.2.2.1 7)) (pc' := 53) hC 7 layX_7 rfl rfl dX2_addLine_52 (okx_in h7) rfl rfl (fun a8 ha L3' hL => ?_)
    have hf := lz_r ha hf
    clear ha
    obtain rfl : L3' = [(4, a2), (5, a4), (6, a6), (7, a8), (8, (S.2.2.1 8))] := hL.symm
    refine go_aload_n (pc' := 54) hC dX2_addLine_53 rfl rfl ?_
    refine go_getq (pc' := 57) hC 3 6 layX_3 rfl rfl inlX2 (Nat.le_of_ble_eq_true rfl) mw_64 rfl dX2_addLine_54 rfl ?_
    refine go_aload_n (pc' := 58) hC dX2_addLine_57 rfl rfl ?_
    refine go_geti (v := (S.1 301)) (pc' := 61) hC 3 1 layX_3 rfl rfl inlX2 (Nat.le_of_ble_eq_true rfl) mw_309 rfl dX2_addLine_58 rfl rfl ?_
    refine go_iload (pc' := 63) hC dX2_addLine_61 rfl rfl ?_
    obtain ⟨h9, hf⟩ := gd_e hf
    refine go_iast (f := (S.2.2.1 8)) (pc' := 64) hC 8 layX_8 rfl rfl dX2_addLine_63 (okx_in h9) rfl rfl (fun a10 ha L3' hL => ?_)
    have hf := lz_r ha hf
    clear ha
    obtain rfl : L3' = [(4, a2), (5, a4), (6, a6), (7, a8), (8, a10)] := hL.symm
    refine go_aload_n (pc' := 65) hC dX2_addLine_64 rfl rfl ?_
    refine go_dup (pc' := 66) hC dX2_addLine_65 rfl rfl ?_
    refine go_geti (v := (S.1 301)) (pc' := 69) hC 3 1 layX_3 rfl rfl inlX2 (Nat.le_of_ble_eq_true rfl) mw_309 rfl dX2_addLine_66 rfl rfl ?_
    refine go_iconst (pc' := 70) hC dX2_addLine_69 ki_1 rfl ?_
    refine go_iadd (pc' := 71) hC dX2_addLine_70 rfl ?_
    refine go_namei (fun x11 hx => ?_)
    have hf := lz_r hx hf
    clear hx
    refine go_puti (L1' := [(301, x11)]) (pc' := 74) hC 3 1 layX_3 rfl rfl inlX2 tyX2_ok nmX2 (Nat.le_of_ble_eq_true rfl) mw_309 rfl rfl rfl rfl dX2_addLine_71 rfl rfl rfl ?_
    obtain rfl := Option.some.inj hf
    exact go_vret hC hQ dX2_addLine_74 rfl rfl rfl (fun _ => rfl) rfl rfl
