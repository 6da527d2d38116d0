theorem yd_yJ0_coder_7d493 : yJ0_coder_7d493.cls ≠ "java/lang/invoke/MethodHandle" ∧ yJ0_coder_7d493.cls ≠ "java/lang/invoke/VarHandle" := by decide +kernel
theorem yp_yJ0_coder_7d493 : (parseMethodDescriptor yJ0_coder_7d493.desc).map (fun d => d.parameters.length) = some 0 := by decide +kernel
theorem yd_yJ0_isLatin1_aae02 : yJ0_isLatin1_aae02.cls ≠ "java/lang/invoke/MethodHandle" ∧ yJ0_isLatin1_aae02.cls ≠ "java/lang/invoke/VarHandle" := by decide +kernel
theorem yp_yJ0_isLatin1_aae02 : (parseMethodDescriptor yJ0_isLatin1_aae02.desc).map (fun d => d.parameters.length) = some 0 := by decide +kernel
theorem yd_yJ0_checkIndex_df160 : yJ0_checkIndex_df160.cls ≠ "java/lang/invoke/MethodHandle" ∧ yJ0_checkIndex_df160.cls ≠ "java/lang/invoke/VarHandle" := by decide +kernel
theorem yp_yJ0_checkIndex_df160 : (parseMethodDescriptor yJ0_checkIndex_df160.desc).map (fun d => d.parameters.length) = some 2 := by decide +kernel
theorem yd_yJ1_charAt_3b067 : yJ1_charAt_3b067.cls ≠ "java/lang/invoke/MethodHandle" ∧ yJ1_charAt_3b067.cls ≠ "java/lang/invoke/VarHandle" := by decide +kernel
theorem yp_yJ1_charAt_3b067 : (parseMethodDescriptor yJ1_charAt_3b067.desc).map (fun d => d.parameters.length) = some 2 := by decide +kernel
theorem yd_yJ3_checkIndex_8e157 : yJ3_checkIndex_8e157.cls ≠ "java/lang/invoke/MethodHandle" ∧ yJ3_checkIndex_8e157.cls ≠ "java/lang/invoke/VarHandle" := by decide +kernel
theorem yp_yJ3_checkIndex_8e157 : (parseMethodDescriptor yJ3_checkIndex_8e157.desc).map (fun d => d.parameters.length) = some 3 := by decide +kernel
theorem yd_yJ0_length_8abf5 : yJ0_length_8abf5.cls ≠ "java/lang/invoke/MethodHandle" ∧ yJ0_length_8abf5.cls ≠ "java/lang/invoke/VarHandle" := by decide +kernel
theorem yp_yJ0_length_8abf5 : (parseMethodDescriptor yJ0_length_8abf5.desc).map (fun d => d.parameters.length) = some 0 := by decide +kernel
theorem yd_yJ0_charAt_5068e : yJ0_charAt_5068e.cls ≠ "java/lang/invoke/MethodHandle" ∧ yJ0_charAt_5068e.cls ≠ "java/lang/invoke/VarHandle" := by decide +kernel
theorem yp_yJ0_charAt_5068e : (parseMethodDescriptor yJ0_charAt_5068e.desc).map (fun d => d.parameters.length) = some 1 := by decide +kernel
theorem ksS_255 : (Int16.ofInt 255).toInt32 = (255 : Int32) := by decide
theorem kI_0 : Int32.ofInt 0 = (0 : Int32) := by decide
theorem kI_1 : Int32.ofInt 1 = (1 : Int32) := by decide
/-- the sign at a place of a String constant -/
def st_ch (i : Nat) (j : Int32) : Int32 := ((st_byt.getD i []).getD j.toNatClampNeg 0) &&& 255
section GOC
variable {X : XT} {lay : List wd_E} {S0 : wd_W} {cc : ByteArray} {own : String} {nL : Nat} {rt : Option FieldType} {rm : Room}
variable {pc pc' : Nat} {lc lc' : List (Nat × Value)} {st : List Value} {g : Nat → Nat} {L1 L1' M1 : List (Nat × Int32)} {L2 L2' M2 : List (Nat × Int64)} {L3 L3' M3 : List (Nat × (Nat → Int32))} {L4 L4' M4 : List (Nat × (Nat → Int64))} {L5 L5' M5 : List (Nat × Nat)} {cells slots : Nat}
theorem go_callVs {y : MethodName} {bytes : ByteArray} {maxL n idx i : Nat} {rt' : Option FieldType} {rc : Room} {As : List Value} {al : Bool} {ret : Option Value} {mc ms : Nat} {st0 : List Value} (h : MC X lay cc own nL rt rm) (hd : decode cc pc = .ok (.invokevirtual idx, 3)) (hc : CM X rm cells slots own idx y bytes maxL rt' n rc) (hwi : Cond.instanceMethod y ∈ wAll) (hws : Cond.selects "java/lang/String" y y ∈ wAll)
    (hi : i < 11) (hst : st0 = As.reverse ++ .ref ((x_z X).1 i) :: st) (hn : As.length = n) (hcat : (st.map fun v => v.category).sum ≤ 8)
    (hM : MX lay (x_l X) y bytes maxL rt' rc (x_D X) (x_q X) g (x_cy X) (x_z X) (.ref ((x_z X).1 i) :: As) (wd_o S0 L1 L2 L3 L4 L5) al ret (wd_o (wd_o S0 L1 L2 L3 L4 L5) M1 M2 M3 M4 M5) mc ms)
    (i1 : wd_in L1 M1 = true) (i2 : wd_in L2 M2 = true) (i3 : wd_in L3 M3 = true) (i4 : wd_in L4 M4 = true) (i5 : wd_in L5 M5 = true) (e1 : wd_sls L1 M1 = L1') (e2 : wd_sls L2 M2 = L2') (e3 : wd_sls L3 M3 = L3') (e4 : wd_sls L4 M4 = L4') (e5 : wd_sls L5 M5 = L5') (hp : pc + 3 = pc')
    {st' : List Value} {cells' slots' : Nat} (hst' : ret.toList ++ st = st') (hcl' : cells + mc = cells') (hsl' : slots + ms = slots') (k : ∀ g' : Nat → Nat, (al = false → g' = g) → Go X lay S0 pc' lc st' g' L1' L2' L3' L4' L5' cells' slots') : Go X lay S0 pc lc st0 g L1 L2 L3 L4 L5 cells slots := by
  subst hst'
  subst hcl'
  subst hsl'
  subst hst
  subst hp
  intro H locs ls hl hg T0 hT XS
  have hK := go_back (g := g) h hc hM H.size
  obtain ⟨c1, c2, c3, c4, c5, c6, c7, c8, c9⟩ := hc
  have hts := h.2.2.2.2.2.1
  obtain ⟨cellB, hcB, hoB, hclB⟩ := vk_recv h.2.2.2.2.2.2.2.2.2.2.2.1.2.2.2.2.1 hi hg.2.2
  have hR : x_R X = rm := h.2.2.2.2.2.2.2.2.2.2.1
  obtain ⟨v, vm₁, B, hW₁, XB, hpost, stp⟩ := callV XS h.1 (C := "java/lang/String") (bytes := bytes) (maxL := maxL) (ret := rt') h.2.2.2.2.1 (hts _ c1) (hts _ hwi) (hts _ hws) (hts _ c2) c4 hK (by rw [hT]; exact hcB) hoB hclB (g := F0 (x_m X) pc ls (As.reverse ++ .ref ((x_z X).1 i) :: st)) rfl (by rw [h.2.2.1]; exact hl.1.trans h.2.2.2.1) (argsL := As) (rest := st) (fun sig hs => by rw [hs] at c5; exact hn.trans (Option.some.inj c5).symm) rfl (lv_room hcat) (by rw [h.2.1]; exact hd)
    (fun vm₁ hW₁ => ⟨by rw [hR]; exact c8, by rw [hR]; exact c9, go_pre h hg (U := T0.setVm vm₁) hT hW₁⟩)
  obtain ⟨t, a, b⟩ := go_after (y := y) (bytes := bytes) (maxL := maxL) (n := n) (idx := idx) (rt' := rt') (rc := rc) (st0 := []) h i1 i2 i3 i4 i5 e1 e2 e3 e4 e5 hl hg k hT XB hpost
  exact ⟨t, stp t a, b⟩
theorem go_callVs1 {y : MethodName} {bytes : ByteArray} {maxL n idx i : Nat} {rt' : Option FieldType} {rc : Room} {As : List Value} {ret : Option Value} {mc ms : Nat} {st0 : List Value} (h : MC X lay cc own nL rt rm) (hd : decode cc pc = .ok (.invokevirtual idx, 3)) (hc : CM X rm cells slots own idx y bytes maxL rt' n rc) (hwi : Cond.instanceMethod y ∈ wAll) (hws : Cond.selects "java/lang/String" y y ∈ wAll)
    (hi : i < 11) (hst : st0 = As.reverse ++ .ref ((x_z X).1 i) :: st) (hn : As.length = n) (hcat : (st.map fun v => v.category).sum ≤ 8)
    (hM : MX lay (x_l X) y bytes maxL rt' rc (x_D X) (x_q X) g (x_cy X) (x_z X) (.ref ((x_z X).1 i) :: As) (wd_o S0 L1 L2 L3 L4 L5) false ret (wd_o (wd_o S0 L1 L2 L3 L4 L5) M1 M2 M3 M4 M5) mc ms)
    (i1 : wd_in L1 M1 = true) (i2 : wd_in L2 M2 = true) (i3 : wd_in L3 M3 = true) (i4 : wd_in L4 M4 = true) (i5 : wd_in L5 M5 = true) (e1 : wd_sls L1 M1 = L1') (e2 : wd_sls L2 M2 = L2') (e3 : wd_sls L3 M3 = L3') (e4 : wd_sls L4 M4 = L4') (e5 : wd_sls L5 M5 = L5') (hp : pc + 3 = pc')
    {st' : List Value} {cells' slots' : Nat} (hst' : ret.toList ++ st = st') (hcl' : cells + mc = cells') (hsl' : slots + ms = slots') (k : Go X lay S0 pc' lc st' g L1' L2' L3' L4' L5' cells' slots') : Go X lay S0 pc lc st0 g L1 L2 L3 L4 L5 cells slots := by
  refine go_callVs h hd hc hwi hws hi hst hn hcat hM i1 i2 i3 i4 i5 e1 e2 e3 e4 e5 hp hst' hcl' hsl' (fun g' hg => ?_)
  rw [hg rfl]
  exact k
theorem go_callVs0 {y : MethodName} {bytes : ByteArray} {maxL n idx i : Nat} {rt' : Option FieldType} {rc : Room} {As : List Value} {ret : Option Value} {st0 : List Value} (h : MC X lay cc own nL rt rm) (hd : decode cc pc = .ok (.invokevirtual idx, 3)) (hc : CM X rm cells slots own idx y bytes maxL rt' n rc) (hwi : Cond.instanceMethod y ∈ wAll) (hws : Cond.selects "java/lang/String" y y ∈ wAll)
    (hi : i < 11) (hst : st0 = As.reverse ++ .ref ((x_z X).1 i) :: st) (hn : As.length = n) (hcat : (st.map fun v => v.category).sum ≤ 8)
    (hM : MX lay (x_l X) y bytes maxL rt' rc (x_D X) (x_q X) g (x_cy X) (x_z X) (.ref ((x_z X).1 i) :: As) (wd_o S0 L1 L2 L3 L4 L5) false ret (wd_o (wd_o S0 L1 L2 L3 L4 L5) [] [] [] [] []) 0 0)
    (hp : pc + 3 = pc')
    {st' : List Value} (hst' : ret.toList ++ st = st') (k : Go X lay S0 pc' lc st' g L1 L2 L3 L4 L5 cells slots) : Go X lay S0 pc lc st0 g L1 L2 L3 L4 L5 cells slots := by
  exact go_callVs1 h hd hc hwi hws hi hst hn hcat hM rfl rfl rfl rfl rfl rfl rfl rfl rfl rfl hp hst' rfl rfl k
end GOC
set_option maxRecDepth 100000 in
theorem c_coder (l : Launch) (D : va_G) (q g : Nat → Nat) (cy : Nat → ClassId) (z : (Nat → Nat) × (Nat → Nat) × Nat) (S : wd_W) (lay : List wd_E) (hok : wd_ok lay = true) {i : Nat} (hi : i < 11) : MX lay l yJ0_coder_7d493 cJ0_coder_7d493 1 (some .byte) ({ frames := 0, cells := 0, slots := 0, locals := 0 } : Room) D q g cy z [.ref (z.1 i)] S false (some (.int 0)) (wd_o S [] [] [] [] []) 0 0 := by
  refine mx_of (own := RJ0) (lc := [(0, .ref (z.1 i))]) (by decide +kernel) rfl hok (Nat.le_of_ble_eq_true rfl) rfl ?_
  intro X hXl hXq hXz hC hQ
  subst hXl; subst hXq; subst hXz
  refine go_cs (pc' := 3) hC mw_347 dJ0_coder_7d493_0 rfl ?_
  refine go_if_eq (tgt := 13) (pc' := 6) hC dJ0_coder_7d493_3 (by decide) rfl (fun h => absurd h (by decide)) (fun _ => ?_)
  refine go_aload_n (pc' := 7) hC dJ0_coder_7d493_6 rfl rfl ?_
  refine go_strc (pc' := 10) hC hi mw_348 dJ0_coder_7d493_7 rfl ?_
  refine go_goto (tgt := 14) hC dJ0_coder_7d493_10 (by decide) ?_
  exact go_iret hC hQ dJ0_coder_7d493_14 rfl rfl rfl rfl (fun _ => rfl) rfl rfl

set_option maxRecDepth 100000 in
theorem c_isLatin1 (l : Launch) (D : va_G) (q g : Nat → Nat) (cy : Nat → ClassId) (z : (Nat → Nat) × (Nat → Nat) × Nat) (S : wd_W) (lay : List wd_E) (hok : wd_ok lay = true) {i : Nat} (hi : i < 11) : MX lay l yJ0_isLatin1_aae02 cJ0_isLatin1_aae02 1 (some .boolean) ({ frames := 0, cells := 0, slots := 0, locals := 0 } : Room) D q g cy z [.ref (z.1 i)] S false (some (.int 1)) (wd_o S [] [] [] [] []) 0 0 := by
  refine mx_of (own := RJ0) (lc := [(0, .ref (z.1 i))]) (by decide +kernel) rfl hok (Nat.le_of_ble_eq_true rfl) rfl ?_
  intro X hXl hXq hXz hC hQ
  subst hXl; subst hXq; subst hXz
  refine go_cs (pc' := 3) hC mw_347 dJ0_isLatin1_aae02_0 rfl ?_
  refine go_if_eq (tgt := 17) (pc' := 6) hC dJ0_isLatin1_aae02_3 (by decide) rfl (fun h => absurd h (by decide)) (fun _ => ?_)
  refine go_aload_n (pc' := 7) hC dJ0_isLatin1_aae02_6 rfl rfl ?_
  refine go_strc (pc' := 10) hC hi mw_348 dJ0_isLatin1_aae02_7 rfl ?_
  refine go_if_ne (tgt := 17) (pc' := 13) hC dJ0_isLatin1_aae02_10 (by decide) rfl (fun h => absurd rfl h) (fun _ => ?_)
  refine go_iconst (pc' := 14) hC dJ0_isLatin1_aae02_13 kI_1 rfl ?_
  refine go_goto (tgt := 18) hC dJ0_isLatin1_aae02_14 (by decide) ?_
  exact go_iret hC hQ dJ0_isLatin1_aae02_18 rfl rfl rfl rfl (fun _ => rfl) rfl rfl

set_option maxRecDepth 100000 in
theorem c_strlen (l : Launch) (D : va_G) (q g : Nat → Nat) (cy : Nat → ClassId) (z : (Nat → Nat) × (Nat → Nat) × Nat) (S : wd_W) (lay : List wd_E) (hok : wd_ok lay = true) {i : Nat} (hi : i < 11) {v : Int32} (hv : Int32.ofNat (st_len.getD i 0) >>> ((0 : Int32) &&& 31) = v) : MX lay l yJ0_length_8abf5 cJ0_length_8abf5 1 (some .int) ({ frames := 1, cells := 0, slots := 0, locals := 20 } : Room) D q g cy z [.ref (z.1 i)] S false (some (.int v)) (wd_o S [] [] [] [] []) 0 0 := by
  refine mx_of (own := RJ0) (lc := [(0, .ref (z.1 i))]) (by decide +kernel) rfl hok (Nat.le_of_ble_eq_true rfl) rfl ?_
  intro X hXl hXq hXz hC hQ
  subst hXl; subst hXq; subst hXz
  subst hv
  refine go_aload_n (pc' := 1) hC dJ0_length_8abf5_0 rfl rfl ?_
  refine go_strv (pc' := 4) hC hi mw_342 dJ0_length_8abf5_1 rfl ?_
  refine go_strl (pc' := 5) hC hi dJ0_length_8abf5_4 rfl ?_
  refine go_aload_n (pc' := 6) hC dJ0_length_8abf5_5 rfl rfl ?_
  refine go_callVs0 (pc' := 9) (As := []) (st := [.int (Int32.ofNat (st_len.getD i 0))]) (st' := [.int 0, .int (Int32.ofNat (st_len.getD i 0))]) hC dJ0_length_8abf5_6 ⟨mw_343, mw_346, mw_340, yd_yJ0_coder_7d493, yp_yJ0_coder_7d493, Nat.le_of_ble_eq_true rfl, Nat.le_of_ble_eq_true rfl, Nat.le_of_ble_eq_true rfl, Nat.le_of_ble_eq_true rfl⟩ mw_344 mw_345 hi rfl rfl (Nat.le_of_ble_eq_true rfl) (c_coder (x_l X) (x_D X) (x_q X) g (x_cy X) (x_z X) _ lay hok hi) rfl rfl ?_
  refine go_ishr (pc' := 10) hC dJ0_length_8abf5_9 rfl ?_
  exact go_iret hC hQ dJ0_length_8abf5_10 rfl rfl rfl rfl (fun _ => rfl) rfl rfl

set_option maxRecDepth 100000 in
theorem c_preCheck (l : Launch) (D : va_G) (q g : Nat → Nat) (cy : Nat → ClassId) (z : (Nat → Nat) × (Nat → Nat) × Nat) (S : wd_W) (lay : List wd_E) (hok : wd_ok lay = true) {a b : Int32} {r : Option Nat} (h0 : ¬ a < 0) (h1 : a < b) : MX lay l yJ3_checkIndex_8e157 cJ3_checkIndex_8e157 3 (some .int) ({ frames := 0, cells := 0, slots := 0, locals := 0 } : Room) D q g cy z [.int a, .int b, va_rf r] S false (some (.int a)) (wd_o S [] [] [] [] []) 0 0 := by
  refine mx_of (own := RJ3) (lc := [(0, .int a), (1, .int b), (2, va_rf r)]) (by decide +kernel) rfl hok (by cases r <;> exact Nat.le_of_ble_eq_true rfl) rfl ?_
  intro X hXl hXq hXz hC hQ
  subst hXl; subst hXq; subst hXz

  refine go_iload_n (pc' := 1) hC dJ3_checkIndex_8e157_0 rfl rfl ?_
  refine go_if_lt (tgt := 9) (pc' := 4) hC dJ3_checkIndex_8e157_1 (by decide) rfl (fun h => absurd h h0) (fun _ => ?_)
  refine go_iload_n (pc' := 5) hC dJ3_checkIndex_8e157_4 rfl rfl ?_
  refine go_iload_n (pc' := 6) hC dJ3_checkIndex_8e157_5 rfl rfl ?_
  refine go_icmp_lt (tgt := 16) (pc' := 9) hC dJ3_checkIndex_8e157_6 (by decide) rfl (fun _ => ?_) (fun h => absurd h1 h)
  refine go_iload_n (pc' := 17) hC dJ3_checkIndex_8e157_16 rfl rfl ?_
  exact go_iret hC hQ dJ3_checkIndex_8e157_17 rfl rfl rfl rfl (fun _ => rfl) rfl rfl

set_option maxRecDepth 100000 in
theorem c_strCheck (l : Launch) (D : va_G) (q g : Nat → Nat) (cy : Nat → ClassId) (z : (Nat → Nat) × (Nat → Nat) × Nat) (S : wd_W) (lay : List wd_E) (hok : wd_ok lay = true) {a b : Int32} (h0 : ¬ a < 0) (h1 : a < b) : MX lay l yJ0_checkIndex_df160 cJ0_checkIndex_df160 2 none ({ frames := 1, cells := 0, slots := 0, locals := 22 } : Room) D q g cy z [.int a, .int b] S false (none) (wd_o S [] [] [] [] []) 0 0 := by
  refine mx_of (own := RJ0) (lc := [(0, .int a), (1, .int b)]) (by decide +kernel) rfl hok (Nat.le_of_ble_eq_true rfl) rfl ?_
  intro X hXl hXq hXz hC hQ
  subst hXl; subst hXq; subst hXz
  refine go_iload_n (pc' := 1) hC dJ0_checkIndex_df160_0 rfl rfl ?_
  refine go_iload_n (pc' := 2) hC dJ0_checkIndex_df160_1 rfl rfl ?_
  refine go_sio (pc' := 5) hC mw_364 dJ0_checkIndex_df160_2 rfl (fun r => ?_)
  refine go_callS0 (pc' := 8) (As := [.int a, .int b, va_rf r]) (st := []) (st' := [.int a]) hC dJ0_checkIndex_df160_5 ⟨mw_365, mw_368, mw_367, yd_yJ3_checkIndex_8e157, yp_yJ3_checkIndex_8e157, Nat.le_of_ble_eq_true rfl, Nat.le_of_ble_eq_true rfl, Nat.le_of_ble_eq_true rfl, Nat.le_of_ble_eq_true rfl⟩ mw_366 rfl rfl (Nat.le_of_ble_eq_true rfl) (c_preCheck (x_l X) (x_D X) (x_q X) g (x_cy X) (x_z X) _ lay hok h0 h1) rfl rfl ?_
  refine go_pop (pc' := 9) hC dJ0_checkIndex_df160_8 rfl rfl ?_
  exact go_vret hC hQ dJ0_checkIndex_df160_9 rfl rfl rfl (fun _ => rfl) rfl rfl

set_option maxRecDepth 100000 in
theorem c_latCharAt (l : Launch) (D : va_G) (q g : Nat → Nat) (cy : Nat → ClassId) (z : (Nat → Nat) × (Nat → Nat) × Nat) (S : wd_W) (lay : List wd_E) (hok : wd_ok lay = true) {i : Nat} (hi : i < 11) {j : Int32} (hj : okx j (st_len.getD i 0) = true) : MX lay l yJ1_charAt_3b067 cJ1_charAt_3b067 2 (some .char) ({ frames := 2, cells := 0, slots := 0, locals := 43 } : Room) D q g cy z [.ref (z.2.1 i), .int j] S false (some (.int (st_ch i j))) (wd_o S [] [] [] [] []) 0 0 := by
  refine mx_of (own := RJ1) (lc := [(0, .ref (z.2.1 i)), (1, .int j)]) (by decide +kernel) rfl hok (Nat.le_of_ble_eq_true rfl) rfl ?_
  intro X hXl hXq hXz hC hQ
  subst hXl; subst hXq; subst hXz
  have hj1 := okx_in hj
  have hj2 := vp_in_iff.mp hj1
  have h0 : ¬ j < 0 := by rw [Int32.lt_iff_toInt_lt, Int32.toInt_zero]; omega
  have hl : ∀ i, i < 11 → st_len.getD i 0 < 100 := by decide
  have h1 : j < Int32.ofNat (st_len.getD i 0) := by rw [Int32.lt_iff_toInt_lt, show (Int32.ofNat (st_len.getD i 0)).toInt = _ from nI_toInt (Nat.lt_trans (hl i hi) (by decide))]; exact hj2.2
  refine go_iload_n (pc' := 1) hC dJ1_charAt_3b067_0 rfl rfl ?_
  refine go_aload_n (pc' := 2) hC dJ1_charAt_3b067_1 rfl rfl ?_
  refine go_strl (pc' := 3) hC hi dJ1_charAt_3b067_2 rfl ?_
  refine go_callS0 (pc' := 6) (As := [.int j, .int (Int32.ofNat (st_len.getD i 0))]) (st := []) (st' := []) hC dJ1_charAt_3b067_3 ⟨mw_361, mw_363, mw_340, yd_yJ0_checkIndex_df160, yp_yJ0_checkIndex_df160, Nat.le_of_ble_eq_true rfl, Nat.le_of_ble_eq_true rfl, Nat.le_of_ble_eq_true rfl, Nat.le_of_ble_eq_true rfl⟩ mw_362 rfl rfl (Nat.le_of_ble_eq_true rfl) (c_strCheck (x_l X) (x_D X) (x_q X) g (x_cy X) (x_z X) _ lay hok h0 h1) rfl rfl ?_
  refine go_aload_n (pc' := 7) hC dJ1_charAt_3b067_6 rfl rfl ?_
  refine go_iload_n (pc' := 8) hC dJ1_charAt_3b067_7 rfl rfl ?_
  refine go_strb (pc' := 9) hC hi dJ1_charAt_3b067_8 hj1 rfl ?_
  refine go_sipush (pc' := 12) hC dJ1_charAt_3b067_9 ksS_255 rfl ?_
  refine go_iand (pc' := 13) hC dJ1_charAt_3b067_12 rfl ?_
  refine go_i2c (pc' := 14) hC dJ1_charAt_3b067_13 rfl ?_
  rw [sc_c2]
  exact go_iret hC hQ dJ1_charAt_3b067_14 rfl (sc_nar _) rfl rfl (fun _ => rfl) rfl rfl

set_option maxRecDepth 100000 in
theorem c_charAt (l : Launch) (D : va_G) (q g : Nat → Nat) (cy : Nat → ClassId) (z : (Nat → Nat) × (Nat → Nat) × Nat) (S : wd_W) (lay : List wd_E) (hok : wd_ok lay = true) {i : Nat} (hi : i < 11) {j : Int32} (hj : okx j (st_len.getD i 0) = true) : MX lay l yJ0_charAt_5068e cJ0_charAt_5068e 2 (some .char) ({ frames := 3, cells := 0, slots := 0, locals := 64 } : Room) D q g cy z [.ref (z.1 i), .int j] S false (some (.int (st_ch i j))) (wd_o S [] [] [] [] []) 0 0 := by
  refine mx_of (own := RJ0) (lc := [(0, .ref (z.1 i)), (1, .int j)]) (by decide +kernel) rfl hok (Nat.le_of_ble_eq_true rfl) rfl ?_
  intro X hXl hXq hXz hC hQ
  subst hXl; subst hXq; subst hXz
  refine go_aload_n (pc' := 1) hC dJ0_charAt_5068e_0 rfl rfl ?_
  refine go_callVs0 (pc' := 4) (As := []) (st := []) (st' := [.int 1]) hC dJ0_charAt_5068e_1 ⟨mw_353, mw_356, mw_340, yd_yJ0_isLatin1_aae02, yp_yJ0_isLatin1_aae02, Nat.le_of_ble_eq_true rfl, Nat.le_of_ble_eq_true rfl, Nat.le_of_ble_eq_true rfl, Nat.le_of_ble_eq_true rfl⟩ mw_354 mw_355 hi rfl rfl (Nat.le_of_ble_eq_true rfl) (c_isLatin1 (x_l X) (x_D X) (x_q X) g (x_cy X) (x_z X) _ lay hok hi) rfl rfl ?_
  refine go_if_eq (tgt := 16) (pc' := 7) hC dJ0_charAt_5068e_4 (by decide) rfl (fun h => absurd h (by decide)) (fun _ => ?_)
  refine go_aload_n (pc' := 8) hC dJ0_charAt_5068e_7 rfl rfl ?_
  refine go_strv (pc' := 11) hC hi mw_342 dJ0_charAt_5068e_8 rfl ?_
  refine go_iload_n (pc' := 12) hC dJ0_charAt_5068e_11 rfl rfl ?_
  refine go_callS0 (pc' := 15) (As := [.ref ((x_z X).2.1 i), .int j]) (st := []) (st' := [.int (st_ch i j)]) hC dJ0_charAt_5068e_12 ⟨mw_357, mw_360, mw_359, yd_yJ1_charAt_3b067, yp_yJ1_charAt_3b067, Nat.le_of_ble_eq_true rfl, Nat.le_of_ble_eq_true rfl, Nat.le_of_ble_eq_true rfl, Nat.le_of_ble_eq_true rfl⟩ mw_358 rfl rfl (Nat.le_of_ble_eq_true rfl) (c_latCharAt (x_l X) (x_D X) (x_q X) g (x_cy X) (x_z X) _ lay hok hi hj) rfl rfl ?_
  exact go_iret hC hQ dJ0_charAt_5068e_15 rfl (sc_nar _) rfl rfl (fun _ => rfl) rfl rfl

set_option maxRecDepth 100000 in
theorem c_copyRow (l : Launch) (D : va_G) (q g : Nat → Nat) (cy : Nat → ClassId) (z : (Nat → Nat) × (Nat → Nat) × Nat) (S : wd_W) (lay : List wd_E) (hok : wd_ok lay = true) (a b n : Nat) (ha : lay[a]? = some (.inr (0, 0, n, 0))) (hb : lay[b]? = some (.inr (0, 0, n, 0))) (hn : n < 500) : MX lay l yX2_copyRow cX2_copyRow 2 none ({ frames := 1, cells := 0, slots := 0, locals := 60 } : Room) D q g cy z [.ref (q a), .ref (q b)] S false none (wd_o S [] [] [(b, va_cpy (S.2.2.1 a) (S.2.2.1 b) 0 0 n)] [] []) 0 0 := by
  refine mx_of (own := RX2) (lc := [(0, .ref (q a)), (1, .ref (q b))]) (by decide +kernel) rfl hok (Nat.le_of_ble_eq_true rfl) rfl ?_
  intro X hXl hXq hXz hC hQ
  subst hXl; subst hXq; subst hXz
  refine go_keys (L1 := []) (L2 := []) (L3 := [(b, S.2.2.1 b)]) (L4 := []) (L5 := []) [] [] [b] [] [] rfl rfl rfl rfl rfl ?_
  refine go_aload_n (pc' := 1) hC dX2_copyRow_0 rfl rfl ?_
  refine go_iconst (pc' := 2) hC dX2_copyRow_1 kI_0 rfl ?_
  refine go_aload_n (pc' := 3) hC dX2_copyRow_2 rfl rfl ?_
  refine go_iconst (pc' := 4) hC dX2_copyRow_3 kI_0 rfl ?_
  refine go_aload_n (pc' := 5) hC dX2_copyRow_4 rfl rfl ?_
  refine go_alen (v := nI n) (pc' := 6) hC a ha rfl (Nat.le_of_ble_eq_true rfl) rfl dX2_copyRow_5 rfl ?_
  refine go_aload_n (pc' := 7) hC dX2_copyRow_6 rfl rfl ?_
  refine go_alen (v := nI n) (pc' := 8) hC b hb rfl (Nat.le_of_ble_eq_true rfl) rfl dX2_copyRow_7 rfl ?_
  refine go_mmin (pc' := 11) hC dX2_copyRow_8 mw_468 (Nat.le_of_ble_eq_true rfl) (Nat.le_of_ble_eq_true rfl) (Nat.le_of_ble_eq_true rfl) (Nat.le_of_ble_eq_true rfl) rfl ?_
  have hmin : (if nI n < nI n then nI n else nI n) = nI n := by split <;> rfl
  rw [hmin]
  have hcl : (nI n).toNatClampNeg = n := nI_clamp (Nat.lt_trans hn (by decide))
  have hz : (0 : Int32).toNatClampNeg = 0 := by decide
  have hself : ∀ (f : Nat → Nat → Int32), wd_ov f [(b, f b)] a = f a := by
    intro f
    simp only [wd_ov, wd_lk]
    cases hh : Nat.beq a b with
    | false => rfl
    | true => simp [Nat.eq_of_beq_eq_true hh]
  have hself2 : ∀ (f : Nat → Nat → Int32) v, wd_ov f [(b, v)] b = v := by
    intro f v
    simp only [wd_ov, wd_lk]
    rw [show Nat.beq b b = true from Nat.beq_refl b]; rfl
  refine go_copyI (L3' := [(b, va_cpy (S.2.2.1 a) (S.2.2.1 b) 0 0 n)]) (pc' := 14) hC a b ha hb (hself _) (hself2 _ _) (by decide) (by decide) (nI_pos (Nat.lt_trans hn (by decide))) (by rw [hcl, hz]; omega) (by rw [hcl, hz]; omega) dX2_copyRow_11 mw_469 (Nat.le_of_ble_eq_true rfl) (by decide) rfl (by simp only [wd_lk]; rw [show Nat.beq b b = true from Nat.beq_refl b]; rfl) (by rw [hcl, hz]; simp only [wd_sl]; rw [show Nat.beq b b = true from Nat.beq_refl b]; rfl) ?_
  exact go_vret hC hQ dX2_copyRow_14 rfl rfl rfl (fun _ => rfl) rfl rfl

