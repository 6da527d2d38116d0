/-! the developers' sets: all worked out -/
/-- what the sets know of a land -/
def xS (S : wd_W) (L : Ld) : Prop :=
  xR S 111 L ∧ S.1 10602 = nI (2 ^ l_M L) ∧ S.1 10603 = nI (2 ^ l_n L - 1) ∧ S.1 11700 = nI (l_M L) ∧
  (∀ t, t < l_M L → S.2.2.1 118 t = nI (cha L t) ∧ S.2.2.1 119 t = nI (hT L t)) ∧
  (∀ s, s < 2 ^ l_M L → S.2.2.2.1 107 s = lN (wt L s) ∧ S.2.2.1 109 s = nI (hm L s)) ∧
  (∀ j, j < 2 ^ l_n L → S.2.2.1 110 j = nI (b2n (carB L j)) ∧ S.2.2.2.1 108 j = lN (opw L j)) ∧
  2 ^ l_M L ≤ S.2.2.2.2 107 ∧ 2 ^ l_M L ≤ S.2.2.2.2 109 ∧ 2 ^ l_n L ≤ S.2.2.2.2 108 ∧ 2 ^ l_n L ≤ S.2.2.2.2 110
/-- the world behind workOut -/
abbrev xWo (S : wd_W) (o : o_X8_workOut_q106) : wd_W :=
  wd_o S [(10602, o.1), (10603, o.2.1), (11100, o.2.2.1), (11101, o.2.2.2.1), (11102, o.2.2.2.2.1), (11103, o.2.2.2.2.2.1), (11700, o.2.2.2.2.2.2.1)] []
    [(109, o.2.2.2.2.2.2.2.1), (110, o.2.2.2.2.2.2.2.2.1), (112, o.2.2.2.2.2.2.2.2.2.1), (113, o.2.2.2.2.2.2.2.2.2.2.1), (114, o.2.2.2.2.2.2.2.2.2.2.2.1), (115, o.2.2.2.2.2.2.2.2.2.2.2.2.1), (118, o.2.2.2.2.2.2.2.2.2.2.2.2.2.1), (119, o.2.2.2.2.2.2.2.2.2.2.2.2.2.2.1)]
    [(107, o.2.2.2.2.2.2.2.2.2.2.2.2.2.2.2.1), (108, o.2.2.2.2.2.2.2.2.2.2.2.2.2.2.2.2.1)]
    [(107, o.2.2.2.2.2.2.2.2.2.2.2.2.2.2.2.2.2.1), (108, o.2.2.2.2.2.2.2.2.2.2.2.2.2.2.2.2.2.2.1), (109, o.2.2.2.2.2.2.2.2.2.2.2.2.2.2.2.2.2.2.2.1), (110, o.2.2.2.2.2.2.2.2.2.2.2.2.2.2.2.2.2.2.2.2.1)]
theorem okr_t {c s : Nat} (hc : c ≤ 4) (hs : s ≤ 80000) : okr (0 + c) (0 + s) 0 0 4 80000 = true := by
  unfold okr
  simp only [Bool.and_eq_true]
  exact ⟨Nat.ble_eq_true_of_le (by omega), Nat.ble_eq_true_of_le (by omega)⟩
theorem x_fill108 {S : wd_W} {n : Nat} (hn : S.2.2.2.2 108 = n) (hb : n ≤ 4096) : f_J7_fill_d0a16_g108 S 0 = some (fil (fun _ => 0) (S.2.2.2.1 108) n) := by
  have hx : Int32.ofNat n = nI n := rfl
  unfold f_J7_fill_d0a16_g108
  rw [lz_eq, hn, hx]
  refine Eq.trans ?_ (eq_for0 (W := fun m i => it2 (f_J7_fill_d0a16_g108_L6 S 0 (nI n)) m (nI i) (fil (fun _ => 0) (S.2.2.2.1 108) i)) (e := n) (by omega) ?_ ?_)
  · show it2 _ fuel (nI 0) _ = it2 _ fuel (nI 0) (fil _ _ 0)
    rw [fil_0]
  · intro m
    show f_J7_fill_d0a16_g108_L6 S 0 (nI n) _ (nI n) _ = _
    unfold f_J7_fill_d0a16_g108_L6
    rw [if_pos (nI_le (Nat.le_refl _) (by omega))]
  · intro m i hi
    show f_J7_fill_d0a16_g108_L6 S 0 (nI n) (it2 _ m) (nI i) _ = it2 (f_J7_fill_d0a16_g108_L6 S 0 (nI n)) m (nI (i + 1)) _
    generalize it2 (f_J7_fill_d0a16_g108_L6 S 0 (nI n)) m = r
    unfold f_J7_fill_d0a16_g108_L6
    rw [if_neg (nI_ge hi (by omega)), hn, ← fil_updL, gd_in (by omega) (by omega), lz_eq, nI_clamp (by omega), nI_1]
theorem hm_lt {L : Ld} (hL : lOk L) (s : Nat) : hm L s < 2 ^ 22 := hmF_lt (fun t ht => hT_lt hL ht) s
theorem x_openIn {S : wd_W} {L : Ld} {s : Nat} (hL : lOk L) (h3 : S.1 10603 = nI (2 ^ l_n L - 1)) (h9 : S.2.2.1 109 s = nI (hm L s)) (hs : s < S.2.2.2.2 109) (hb : S.2.2.2.2 109 ≤ 32768) :
    f_X8_openIn_q106 S (nI s) = some (nI (opM L s false)) := by
  unfold f_X8_openIn_q106
  rw [gd_in hs (by omega), nI_clamp (by omega), h3, h9, oI_ndn]
  unfold hm
  rw [hm_open hL]
theorem x_follow_ok {S : wd_W} {L : Ld} (hL : lOr L) (h : xL S 16 L) : Ok (f_X7_follow_q111 S) (fun o => o.1 = nI (l_n L) ∧ o.2.1 = nI (2 ^ l_N L - 1) ∧ o.2.2.1 = nI (neM L) ∧ o.2.2.2.1 = nI (l_N L) ∧ (∀ k, k < l_n L → o.2.2.2.2.1 k = nI (tM L k)) ∧ (∀ k, k < l_n L → o.2.2.2.2.2.1 k = nI (ouM L k)) ∧ ∀ k, k < l_n L → o.2.2.2.2.2.2 k = nI (inM L k)) :=
  ok_of (x_follow_q111 hL h) ⟨rfl, rfl, rfl, rfl, fun _ hk => fil_in (f := fun k => nI (tM L k)) hk, fun _ hk => fil_in (f := fun k => nI (ouM L k)) hk, fun _ hk => fil_in (f := fun k => nI (inM L k)) hk⟩
theorem x_spread_ok {S : wd_W} {M : Nat} {h H : Nat → Nat} (hM : M ≤ 15) (h0 : S.1 11700 = nI M) (hh : ∀ t, t < M → S.2.2.1 118 t = nI (h t) ∧ S.2.2.1 119 t = nI (H t) ∧ h t ≤ 16) (l7 : 2 ^ M ≤ S.2.2.2.2 107) (l9 : 2 ^ M ≤ S.2.2.2.2 109) (b7 : S.2.2.2.2 107 ≤ 32768) (b9 : S.2.2.2.2 109 ≤ 32768) :
    Ok (f_X8_spread_q106 S) (fun o => (∀ s, s < 2 ^ M → o.1 s = nI (hmF H M s)) ∧ ∀ s, s < 2 ^ M → o.2 s = lN (wtF h (fun t => 16 - h t) M s)) :=
  ok_of (x_spread hM h0 hh l7 l9 b7 b9) ⟨fun _ hs => fil_in (f := fun s => nI (hmF H M s)) hs, fun _ hs => fil_in (f := fun s => lN (wtF h (fun t => 16 - h t) M s)) hs⟩
theorem x_workOut {S : wd_W} {L : Ld} (hL : lOk L) (hc3 : l_c L ≤ 3) (hl : xL S 16 L) (hN : xN S) :
    Ok (f_X8_workOut_q106 S) (fun o => xS (xWo S o) L ∧ xN (xWo S o) ∧ o.2.2.2.2.2.2.2.2.2.2.2.2.2.2.2.2.2.2.2.2.2.1 ≤ 4 ∧ o.2.2.2.2.2.2.2.2.2.2.2.2.2.2.2.2.2.2.2.2.2.2 ≤ 80000 ∧
      o.2.2.2.2.2.2.2.2.2.2.2.2.2.2.2.2.2.2.2.2.2.2 + 2 * (S.2.2.2.2 107 + S.2.2.2.2 109 + S.2.2.2.2 108 + S.2.2.2.2 110) ≤ 2 * ((xWo S o).2.2.2.2 107 + (xWo S o).2.2.2.2 109 + (xWo S o).2.2.2.2 108 + (xWo S o).2.2.2.2 110)) := by
  have hR := lOk_r hL
  have hL0 := hL
  obtain ⟨⟨g1, g2, g3, g4, g5, g6⟩, gk, gj, gu, gc, gw⟩ := hL
  have p1 := pow_le15 g6
  have p3 : 2 ^ l_n L ≤ 4096 := pow_le_k (n := 12) g3
  have p0 := Nat.two_pow_pos (l_n L)
  have p0' := Nat.two_pow_pos (l_M L)
  unfold f_X8_workOut_q106
  refine ok_bd (x_follow_ok (S := wd_o S [(10602, (S.1 10602)), (10603, (S.1 10603)), (11100, (S.1 11100)), (11101, (S.1 11101)), (11102, (S.1 11102)), (11103, (S.1 11103)), (11700, (S.1 11700))] [] [(109, (S.2.2.1 109)), (110, (S.2.2.1 110)), (112, (S.2.2.1 112)), (113, (S.2.2.1 113)), (114, (S.2.2.1 114)), (115, (S.2.2.1 115)), (118, (S.2.2.1 118)), (119, (S.2.2.1 119))] [(107, (S.2.2.2.1 107)), (108, (S.2.2.2.1 108))] [(107, (S.2.2.2.2 107)), (108, (S.2.2.2.2 108)), (109, (S.2.2.2.2 109)), (110, (S.2.2.2.2 110))]) hR hl) ?_
  rintro ⟨v1, v2, v3, v4, a112, a113, a114⟩ ⟨q1, q2, q3, q4, r1, r2, r3⟩
  dsimp only at q1 q2 q3 q4 r1 r2 r3
  subst q1; subst q2; subst q3; subst q4
  dsimp only
  refine ok_bd (x_take_q117 hL0 hc3 hl ⟨⟨rfl, rfl, rfl, rfl⟩, fun k hk => ⟨r1 k hk, r2 k hk, r3 k hk⟩⟩) ?_
  rintro ⟨c2, a118, a119⟩ ⟨e2, t2⟩
  dsimp only at e2 t2
  subst e2
  dsimp only
  have x3 : (1 : Int32) <<< (nI (l_M L) &&& 31) = nI (2 ^ l_M L) := oI_pow (by omega)
  have x4 : ((1 : Int32) <<< (nI (l_n L) &&& 31)) - (1 : Int32) = nI (2 ^ l_n L - 1) := by rw [oI_pow (by omega), li_1, oI_sub1 p0]
  rw [x3, x4, lz_eq, lz_eq]
  have x5 : nI (2 ^ l_n L - 1) + (1 : Int32) = nI (2 ^ l_n L) := by rw [nI_1, show 2 ^ l_n L - 1 + 1 = 2 ^ l_n L by omega]
  rw [x5]
  refine ok_bd (x_makeRoom (S := wd_o S [(10602, nI (2 ^ l_M L)), (10603, nI (2 ^ l_n L - 1)), (11100, nI (l_n L)), (11101, nI (2 ^ l_N L - 1)), (11102, nI (neM L)), (11103, nI (l_N L)), (11700, nI (l_M L))] [] [(109, (S.2.2.1 109)), (110, (S.2.2.1 110)), (112, a112), (113, a113), (114, a114), (115, (S.2.2.1 115)), (118, a118), (119, a119)] [(107, (S.2.2.2.1 107)), (108, (S.2.2.2.1 108))] [(107, (S.2.2.2.2 107)), (108, (S.2.2.2.2 108)), (109, (S.2.2.2.2 109)), (110, (S.2.2.2.2 110))]) g6 g3 hN) ?_
  rintro ⟨b109, b110, b107, b108, n7, n8, n9, n10, cs, sl⟩ ⟨e, f, he, hf, hMe, hnf, q7, q9, q8, q10, hcs, hsl, hsl2⟩
  dsimp only at q7 q9 q8 q10 hcs hsl hsl2 ⊢
  subst q7; subst q9; subst q8; subst q10
  have hsl : sl + 2 * (S.2.2.2.2 107 + S.2.2.2.2 109 + S.2.2.2.2 108 + S.2.2.2.2 110) ≤ 2 * (2 ^ e + 2 ^ e + 2 ^ f + 2 ^ f) := hsl
  have pe := pow_le15 he
  have pf : 2 ^ f ≤ 4096 := pow_le_k (n := 12) hf
  have pMe : 2 ^ l_M L ≤ 2 ^ e := pow_le_k hMe
  have pnf : 2 ^ l_n L ≤ 2 ^ f := pow_le_k hnf
  refine ok_lk ?_
  -- carries
  refine ok_for0 (W := fun n i (s : (Nat → Int32) × (Nat → Int32)) => it3 (f_X8_workOut_q106_L59 S _ _ _ _ _ _) n (nI i) s.1 s.2) (I := fun i s => ∀ j, j < i → s.1 j = nI (b2n (carB L j))) (e := 2 ^ l_n L) (s := (b110, S.2.2.1 115)) (by omega) (fun j hj => by omega) ?_ ?_
  · intro n s hI
    obtain ⟨a110, a115⟩ := s
    dsimp only at hI
    show Ok (f_X8_workOut_q106_L59 S _ _ _ _ _ _ _ (nI (2 ^ l_n L)) a110 a115) _
    unfold f_X8_workOut_q106_L59
    rw [if_pos (nI_lt (by omega) (by omega))]
    dsimp only
    rw [gd_t (okr_t hcs hsl2)]
    refine ok_bd (x_spread_ok (S := wd_o S [(10602, nI (2 ^ l_M L)), (10603, nI (2 ^ l_n L - 1)), (11100, nI (l_n L)), (11101, nI (2 ^ l_N L - 1)), (11102, nI (neM L)), (11103, nI (l_N L)), (11700, nI (l_M L))] [] [(109, b109), (110, a110), (112, a112), (113, a113), (114, a114), (115, a115), (118, a118), (119, a119)] [(107, b107), (108, b108)] [(107, 2 ^ e), (108, 2 ^ f), (109, 2 ^ e), (110, 2 ^ f)]) (M := l_M L) (h := cha L) (H := hT L) g6 rfl (fun t ht => ⟨(t2 t ht).1, (t2 t ht).2, cha_le hL0 ht⟩) pMe pMe pe pe) ?_
    rintro ⟨a109, a107⟩ ⟨s9, s7⟩
    dsimp only at s9 s7 ⊢
    rw [gd_t (okr_t hcs hsl2)]
    rw [bd_s (x_fill108 (n := 2 ^ f) rfl pf)]
    show Ok (it2 (f_X8_workOut_q106_L110 S (nI (l_n L), nI (2 ^ l_N L - 1), nI (neM L), nI (l_N L), a112, a113, a114) (nI (l_M L), a118, a119) (nI (2 ^ l_M L)) (nI (2 ^ l_n L - 1)) (b109, b110, b107, b108, 2 ^ e, 2 ^ f, 2 ^ e, 2 ^ f, cs, sl) a110 a115 (a109, a107)) fuel 0 (fil (fun _ => 0) b108 (2 ^ f))) _
    refine ok_for0 (W := fun n i (a : Nat → Int64) => it2 (f_X8_workOut_q106_L110 S (nI (l_n L), nI (2 ^ l_N L - 1), nI (neM L), nI (l_N L), a112, a113, a114) (nI (l_M L), a118, a119) (nI (2 ^ l_M L)) (nI (2 ^ l_n L - 1)) (b109, b110, b107, b108, 2 ^ e, 2 ^ f, 2 ^ e, 2 ^ f, cs, sl) a110 a115 (a109, a107)) n (nI i) a) (I := fun i a => ∀ j, j < 2 ^ l_n L → a j = lN (fb_sm (fun s => if opM L s false = j then wt L s else 0) i)) (e := 2 ^ l_M L) (by omega) (fun j hj => by
      show fil (fun _ => (0 : Int64)) b108 (2 ^ f) j = _
      rw [fil_in (by omega)]; rfl) ?_ ?_
    · intro n a hI2
      show Ok (f_X8_workOut_q106_L110 S _ _ _ _ _ _ _ _ _ (nI (2 ^ l_M L)) a) _
      unfold f_X8_workOut_q106_L110
      rw [if_pos (nI_le (Nat.le_refl _) (by omega))]
      refine ok_some ⟨?_, ⟨e, f, he, hf, rfl, rfl, rfl, rfl⟩, by dsimp only; omega, by dsimp only; omega, ?_⟩
      · exact ⟨⟨⟨rfl, rfl, rfl, rfl⟩, fun k hk => ⟨r1 k hk, r2 k hk, r3 k hk⟩⟩, rfl, rfl, rfl, t2, fun s hs => ⟨s7 s hs, s9 s hs⟩, fun j hj => ⟨hI j hj, hI2 j hj⟩, pMe, pMe, pnf, pnf⟩
      · show 0 + sl + 2 * (S.2.2.2.2 107 + S.2.2.2.2 109 + S.2.2.2.2 108 + S.2.2.2.2 110) ≤ 2 * (2 ^ e + 2 ^ e + 2 ^ f + 2 ^ f)
        omega
    · intro n i a hi hI2 ih
      show Ok (f_X8_workOut_q106_L110 S _ _ _ _ _ _ _ _ (it2 _ n) (nI i) a) _
      generalize it2 (f_X8_workOut_q106_L110 S (nI (l_n L), nI (2 ^ l_N L - 1), nI (neM L), nI (l_N L), a112, a113, a114) (nI (l_M L), a118, a119) (nI (2 ^ l_M L)) (nI (2 ^ l_n L - 1)) (b109, b110, b107, b108, 2 ^ e, 2 ^ f, 2 ^ e, 2 ^ f, cs, sl) a110 a115 (a109, a107)) n = r at ih
      unfold f_X8_workOut_q106_L110
      rw [if_neg (nI_ge hi (by omega))]
      dsimp only
      rw [gd_t (okr_t hcs hsl2), bd_s (x_openIn (S := wd_o S [(10602, nI (2 ^ l_M L)), (10603, nI (2 ^ l_n L - 1)), (11100, nI (l_n L)), (11101, nI (2 ^ l_N L - 1)), (11102, nI (neM L)), (11103, nI (l_N L)), (11700, nI (l_M L))] [] [(109, a109), (110, a110), (112, a112), (113, a113), (114, a114), (115, a115), (118, a118), (119, a119)] [(107, a107), (108, a)] [(107, 2 ^ e), (108, 2 ^ f), (109, 2 ^ e), (110, 2 ^ f)]) hL0 rfl (s9 i hi) (Nat.lt_of_lt_of_le hi pMe) pe)]
      have ho := opM_lt0 L i
      rw [gd_in (by omega) (by omega), gd_in (by omega) (by omega), nI_clamp (by omega), nI_clamp (by omega), lz_eq, gd_in (by omega) (by omega), lz_eq, nI_1, hI2 _ ho, s7 i hi, lN_add]
      refine ih _ (fun j hj => ?_)
      rw [fb_sm_succ]
      by_cases hj2 : j = opM L i false
      · subst hj2; rw [pk_uLs, if_pos rfl]; rfl
      · rw [pk_uLn hj2, hI2 j hj, if_neg (fun z => hj2 z.symm), Nat.add_zero]
  · intro n i s hi hI ih
    obtain ⟨a110, a115⟩ := s
    dsimp only at hI
    show Ok (f_X8_workOut_q106_L59 S _ _ _ _ _ _ (it3 _ n) (nI i) a110 a115) _
    generalize it3 (f_X8_workOut_q106_L59 S _ _ _ _ _ _) n = r at ih
    unfold f_X8_workOut_q106_L59
    rw [if_neg (nI_nlt (by omega) (by omega))]
    dsimp only
    rw [gd_t (okr_t hcs hsl2)]
    refine ok_bd (x_carries_q111 (L := L) (op := i) hR hl ⟨⟨rfl, rfl, rfl, rfl⟩, fun k hk => ⟨r1 k hk, r2 k hk, r3 k hk⟩⟩ hi) ?_
    rintro o29 ⟨x, ex, hx⟩
    have hxc : x = carB L i := b_of_iff hx (carB_iff L i)
    refine ok_lk ?_
    have go : ∀ x31 : Int32, x31 = nI (b2n (carB L i)) → Ok (lz (x31.toInt8.toInt32) fun x34 => gd (okx (nI i) (2 ^ f)) <| lz (upd a110 (nI i).toNatClampNeg (vp_nar .byte x34)) fun a36 => r (nI i + (1 : Int32)) a36 o29.2) (fun o => xS (xWo S o) L ∧ xN (xWo S o) ∧ o.2.2.2.2.2.2.2.2.2.2.2.2.2.2.2.2.2.2.2.2.2.1 ≤ 4 ∧ o.2.2.2.2.2.2.2.2.2.2.2.2.2.2.2.2.2.2.2.2.2.2 ≤ 80000 ∧ o.2.2.2.2.2.2.2.2.2.2.2.2.2.2.2.2.2.2.2.2.2.2 + 2 * (S.2.2.2.2 107 + S.2.2.2.2 109 + S.2.2.2.2 108 + S.2.2.2.2 110) ≤ 2 * ((xWo S o).2.2.2.2 107 + (xWo S o).2.2.2.2 109 + (xWo S o).2.2.2.2 108 + (xWo S o).2.2.2.2 110)) := by
      intro x31 e31
      subst e31
      have eb : vp_nar .byte ((nI (b2n (carB L i))).toInt8.toInt32) = nI (b2n (carB L i)) := by
        rw [vp_nar_byte]
        cases carB L i <;> decide
      rw [lz_eq, gd_in (by omega) (by omega), lz_eq, nI_clamp (by omega), nI_1, eb]
      refine ih (upd a110 i (nI (b2n (carB L i))), o29.2) (fun j hj => ?_)
      dsimp only
      by_cases hji : j = i
      · subst hji; rw [pk_us]
      · rw [pk_un hji]; exact hI j (by omega)
    rw [ex, hxc]
    cases hc : carB L i with
    | false => exact ok_ite (fun _ => go _ (by rw [hc]; rfl)) (fun z => absurd rfl z)
    | true => exact ok_ite (fun z => absurd z (by decide)) (fun _ => go _ (by rw [hc]; rfl))
theorem x_isThrough {S : wd_W} {L : Ld} {s : Nat} (hL : lOk L) (h : xS S L) (hN : xN S) (hs : s < 2 ^ l_M L) : f_X8_isThrough_q106 S (nI s) = some (nI (b2n (thB L s))) := by
  obtain ⟨⟨⟨h0, h1, h2, h3⟩, hk⟩, k2, k3, k4, kt, ks, kj, l7, l9, l8, l10⟩ := h
  obtain ⟨e, f, he, hf, n7, n9, n8, n10⟩ := hN
  have pe := pow_le15 he
  have pf : 2 ^ f ≤ 4096 := pow_le_k (n := 12) hf
  obtain ⟨s7, s9⟩ := ks s hs
  have hh := hm_lt hL s
  have hR := lOk_r hL
  have hne := lt_1024 (neM_lt hR) hR.1.2.1
  have ho := opM_lt0 L s
  have hop := hm_open hL s
  have hth := hm_thr hL s
  rw [hop] at hth
  obtain ⟨j1, j2⟩ := kj _ ho
  unfold f_X8_isThrough_q106
  rw [gd_in (by omega) (by omega), nI_clamp (by omega), s9]
  have key : f_X8_isThroughAfter_q106 (wd_o S [] [] [] [] []) (nI (hm L s)) = some (nI (b2n (thB L s))) := by
    unfold f_X8_isThroughAfter_q106
    have q2 : (wd_o S [] [] [] [] []).1 11102 = nI (neM L) := h2
    have q3 : (wd_o S [] [] [] [] []).1 10603 = nI (2 ^ l_n L - 1) := k3
    have q4 : (wd_o S [] [] [] [] []).2.2.2.2 110 = 2 ^ f := n10
    have q5 : (wd_o S [] [] [] [] []).2.2.1 110 (opM L s false) = nI (b2n (carB L (opM L s false))) := j1
    have e12 : nI (hm L s) >>> ((12 : Int32) &&& 31) = nI (hm L s >>> 12) := by
      rw [li_12s, oI_shr (by omega) (by omega)]
    have hsh : hm L s >>> 12 ≤ hm L s := by rw [Nat.shiftRight_eq_div_pow]; exact Nat.div_le_self _ _
    have hand : hm L s >>> 12 &&& neM L ≤ hm L s >>> 12 := Nat.and_le_left
    have hop2 : ndn (2 ^ l_n L - 1) (hm L s) = opM L s false := hop
    rw [q2, q3, q4, e12, oI_and, oI_ndn, hop2, gd_in (by omega) (by omega), nI_clamp (by omega), q5]
    simp (disch := omega) only [oI_z]
    by_cases c1 : hm L s >>> 12 &&& neM L = 0
    · rw [if_pos c1]
      cases hc : carB L (opM L s false) with
      | true =>
        have : thB L s = true := hth.mpr ⟨c1, hc⟩
        rw [this]; rfl
      | false =>
        have : thB L s = false := by
          cases q : thB L s with
          | false => rfl
          | true => have := (hth.mp q).2; rw [hc] at this; cases this
        rw [this]; rfl
    · rw [if_neg c1]
      have : thB L s = false := by
        cases q : thB L s with
        | false => rfl
        | true => exact absurd (hth.mp q).1 c1
      rw [this]; rfl
  rw [bd_s key]
  cases thB L s <;> rfl
