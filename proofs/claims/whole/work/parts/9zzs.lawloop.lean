/-! the law: the loop -/
theorem law_one {X : XT} {rt : Option FieldType} (h : NC X cL_law RL 4 rt room_1) {b L : Nat} {xs : Nat → Int32} (hX : va_X b L xs (x_s X) (x_s X).heap) (hbl : b < (x_s X).heap.size) (hbA : ¬ (x_A X) b) {qx qm gx gm : Nat → Nat} {SX SM : wd_W} {c s : Nat} {i : Int32} (hR : RW SX SM) (hc : c + 80 ≤ 600000) (hs : s + 1000000 ≤ 7302250) (h1 : vp_in (i + 1) L) (h2 : vp_in (i + 2) L) (h3 : vp_in (i + 3) L) (h4 : vp_in (i + 4) L) (h5 : vp_in (i + 5) L) (K : LK X qx qm b i SX c s) {v : Int32} : GN X (wd_ws qx gx (x_cy X) SX 0 layX ++ wd_ws qm gm (x_cy X) SM 0 layM) 33 [(0, .ref b), (1, .ref (qx 0)), (2, .ref (qm 0)), (3, .int i)] [.int v] c s := by
  by_cases e0 : v.toInt = 0
  · exact gn_tabIn (off := 171) (tgt := 204) h dL_law_33 (by omega) (by omega) (by rw [e0]; rfl) (by decide) (law_feed h hX hbl hbA hR hc hs h1 h2 h3 h4 h5 K)
  by_cases e1 : v.toInt = 1
  · exact gn_tabIn (off := 234) (tgt := 267) h dL_law_33 (by omega) (by omega) (by rw [e1]; rfl) (by decide) (law_end h hX hbl hbA hR hc hs h1 h2 h3 h4 h5 K)
  by_cases e2 : v.toInt = 2
  · exact gn_tabIn (off := 257) (tgt := 290) h dL_law_33 (by omega) (by omega) (by rw [e2]; rfl) (by decide) (law_land h hX hbl hbA hR hc hs h1 h2 h3 h4 h5 K)
  by_cases e3 : v.toInt = 3
  · exact gn_tabIn (off := 270) (tgt := 303) h dL_law_33 (by omega) (by omega) (by rw [e3]; rfl) (by decide) (law_line h hX hbl hbA hR hc hs h1 h2 h3 h4 h5 K)
  by_cases e4 : v.toInt = 4
  · exact gn_tabIn (off := 303) (tgt := 336) h dL_law_33 (by omega) (by omega) (by rw [e4]; rfl) (by decide) (law_place h hX hbl hbA hR hc hs h1 h2 h3 h4 h5 K)
  by_cases e5 : v.toInt = 5
  · exact gn_tabIn (off := 336) (tgt := 369) h dL_law_33 (by omega) (by omega) (by rw [e5]; rfl) (by decide) (law_so h hX hbl hbA hR hc hs h1 h2 h3 h4 h5 K)
  by_cases e6 : v.toInt = 6
  · exact gn_tabIn (off := 359) (tgt := 392) h dL_law_33 (by omega) (by omega) (by rw [e6]; rfl) (by decide) (law_chance h hX hbl hbA hR hc hs h1 h2 h3 h4 h5 K)
  by_cases e7 : v.toInt = 7
  · exact gn_tabIn (off := 383) (tgt := 416) h dL_law_33 (by omega) (by omega) (by rw [e7]; rfl) (by decide) (law_sure h hX hbl hbA hR hc hs h1 h2 h3 h4 h5 K)
  by_cases e8 : v.toInt = 8
  · exact gn_tabIn (off := 433) (tgt := 466) h dL_law_33 (by omega) (by omega) (by rw [e8]; rfl) (by decide) (law_matters h hX hbl hbA hR hc hs h1 h2 h3 h4 h5 K)
  by_cases e9 : v.toInt = 9
  · exact gn_tabIn (off := 467) (tgt := 500) h dL_law_33 (by omega) (by omega) (by rw [e9]; rfl) (by decide) (law_most h hX hbl hbA hR hc hs h1 h2 h3 h4 h5 K)
  by_cases e10 : v.toInt = 10
  · exact gn_tabIn (off := 480) (tgt := 513) h dL_law_33 (by omega) (by omega) (by rw [e10]; rfl) (by decide) (law_useless h hX hbl hbA hR hc hs h1 h2 h3 h4 h5 K)
  by_cases e11 : v.toInt = 11
  · exact gn_tabIn (off := 493) (tgt := 526) h dL_law_33 (by omega) (by omega) (by rw [e11]; rfl) (by decide) (law_ways h hX hbl hbA hR hc hs h1 h2 h3 h4 h5 K)
  by_cases e12 : v.toInt = 12
  · exact gn_tabIn (off := 532) (tgt := 565) h dL_law_33 (by omega) (by omega) (by rw [e12]; rfl) (by decide) (law_way h hX hbl hbA hR hc hs h1 h2 h3 h4 h5 K)
  by_cases e13 : v.toInt = 13
  · exact gn_tabIn (off := 581) (tgt := 614) h dL_law_33 (by omega) (by omega) (by rw [e13]; rfl) (by decide) (law_ends h hX hbl hbA hR hc hs h1 h2 h3 h4 h5 K)
  by_cases e14 : v.toInt = 14
  · exact gn_tabIn (off := 615) (tgt := 648) h dL_law_33 (by omega) (by omega) (by rw [e14]; rfl) (by decide) (law_row h hX hbl hbA hR hc hs h1 h2 h3 h4 h5 K)
  by_cases e15 : v.toInt = 15
  · exact gn_tabIn (off := 638) (tgt := 671) h dL_law_33 (by omega) (by omega) (by rw [e15]; rfl) (by decide) (law_mending h hX hbl hbA hR hc hs h1 h2 h3 h4 h5 K)
  by_cases e16 : v.toInt = 16
  · exact gn_tabIn (off := 681) (tgt := 714) h dL_law_33 (by omega) (by omega) (by rw [e16]; rfl) (by decide) (law_mend h hX hbl hbA hR hc hs h1 h2 h3 h4 h5 K)
  by_cases e17 : v.toInt = 17
  · exact gn_tabIn (off := 705) (tgt := 738) h dL_law_33 (by omega) (by omega) (by rw [e17]; rfl) (by decide) (law_mended h hX hbl hbA hR hc hs h1 h2 h3 h4 h5 K)
  by_cases e18 : v.toInt = 18
  · exact gn_tabIn (off := 728) (tgt := 761) h dL_law_33 (by omega) (by omega) (by rw [e18]; rfl) (by decide) (law_add h hX hbl hbA hR hc hs h1 h2 h3 h4 h5 K)
  by_cases e19 : v.toInt = 19
  · exact gn_tabIn (off := 762) (tgt := 795) h dL_law_33 (by omega) (by omega) (by rw [e19]; rfl) (by decide) (law_plan h hX hbl hbA hR hc hs h1 h2 h3 h4 h5 K)
  by_cases e20 : v.toInt = 20
  · exact gn_tabIn (off := 785) (tgt := 818) h dL_law_33 (by omega) (by omega) (by rw [e20]; rfl) (by decide) (law_judge h hX hbl hbA hR hc hs h1 h2 h3 h4 h5 K)
  by_cases e21 : v.toInt = 21
  · exact gn_tabIn (off := 809) (tgt := 842) h dL_law_33 (by omega) (by omega) (by rw [e21]; rfl) (by decide) (law_without h hX hbl hbA hR hc hs h1 h2 h3 h4 h5 K)
  by_cases e22 : v.toInt = 22
  · exact gn_tabIn (off := 833) (tgt := 866) h dL_law_33 (by omega) (by omega) (by rw [e22]; rfl) (by decide) (law_letter h hX hbl hbA hR hc hs h1 h2 h3 h4 h5 K)
  by_cases e23 : v.toInt = 23
  · exact gn_tabIn (off := 892) (tgt := 925) h dL_law_33 (by omega) (by omega) (by rw [e23]; rfl) (by decide) (law_thought h hX hbl hbA hR hc hs h1 h2 h3 h4 h5 K)
  by_cases e24 : v.toInt = 24
  · exact gn_tabIn (off := 926) (tgt := 959) h dL_law_33 (by omega) (by omega) (by rw [e24]; rfl) (by decide) (law_look h hX hbl hbA hR hc hs h1 h2 h3 h4 h5 K)
  by_cases e25 : v.toInt = 25
  · exact gn_tabIn (off := 939) (tgt := 972) h dL_law_33 (by omega) (by omega) (by rw [e25]; rfl) (by decide) (law_within h hX hbl hbA hR hc hs h1 h2 h3 h4 h5 K)
  by_cases e26 : v.toInt = 26
  · exact gn_tabIn (off := 983) (tgt := 1016) h dL_law_33 (by omega) (by omega) (by rw [e26]; rfl) (by decide) (law_soon h hX hbl hbA hR hc hs h1 h2 h3 h4 h5 K)
  by_cases e27 : v.toInt = 27
  · exact gn_tabIn (off := 1026) (tgt := 1059) h dL_law_33 (by omega) (by omega) (by rw [e27]; rfl) (by decide) (law_draw h hX hbl hbA hR hc hs h1 h2 h3 h4 h5 K)
  by_cases e28 : v.toInt = 28
  · exact gn_tabIn (off := 1059) (tgt := 1092) h dL_law_33 (by omega) (by omega) (by rw [e28]; rfl) (by decide) (law_joined h hX hbl hbA hR hc hs h1 h2 h3 h4 h5 K)
  by_cases e29 : v.toInt = 29
  · exact gn_tabIn (off := 1092) (tgt := 1125) h dL_law_33 (by omega) (by omega) (by rw [e29]; rfl) (by decide) (law_alone h hX hbl hbA hR hc hs h1 h2 h3 h4 h5 K)
  by_cases e30 : v.toInt = 30
  · exact gn_tabIn (off := 1116) (tgt := 1149) h dL_law_33 (by omega) (by omega) (by rw [e30]; rfl) (by decide) (law_alike h hX hbl hbA hR hc hs h1 h2 h3 h4 h5 K)
  by_cases e31 : v.toInt = 31
  · exact gn_tabIn (off := 1140) (tgt := 1173) h dL_law_33 (by omega) (by omega) (by rw [e31]; rfl) (by decide) (law_even h hX hbl hbA hR hc hs h1 h2 h3 h4 h5 K)
  by_cases e32 : v.toInt = 32
  · exact gn_tabIn (off := 1153) (tgt := 1186) h dL_law_33 (by omega) (by omega) (by rw [e32]; rfl) (by decide) (law_trees h hX hbl hbA hR hc hs h1 h2 h3 h4 h5 K)
  by_cases e33 : v.toInt = 33
  · exact gn_tabIn (off := 1166) (tgt := 1199) h dL_law_33 (by omega) (by omega) (by rw [e33]; rfl) (by decide) (law_looks h hX hbl hbA hR hc hs h1 h2 h3 h4 h5 K)
  by_cases e34 : v.toInt = 34
  · exact gn_tabIn (off := 1189) (tgt := 1222) h dL_law_33 (by omega) (by omega) (by rw [e34]; rfl) (by decide) (law_mean h hX hbl hbA hR hc hs h1 h2 h3 h4 h5 K)
  by_cases e35 : v.toInt = 35
  · exact gn_tabIn (off := 1233) (tgt := 1266) h dL_law_33 (by omega) (by omega) (by rw [e35]; rfl) (by decide) (law_differ h hX hbl hbA hR hc hs h1 h2 h3 h4 h5 K)
  by_cases e36 : v.toInt = 36
  · exact gn_tabIn (off := 1277) (tgt := 1310) h dL_law_33 (by omega) (by omega) (by rw [e36]; rfl) (by decide) (law_image h hX hbl hbA hR hc hs h1 h2 h3 h4 h5 K)
  by_cases e37 : v.toInt = 37
  · exact gn_tabIn (off := 1300) (tgt := 1333) h dL_law_33 (by omega) (by omega) (by rw [e37]; rfl) (by decide) (law_restore h hX hbl hbA hR hc hs h1 h2 h3 h4 h5 K)
  by_cases e38 : v.toInt = 38
  · exact gn_tabIn (off := 1323) (tgt := 1356) h dL_law_33 (by omega) (by omega) (by rw [e38]; rfl) (by decide) (law_count h hX hbl hbA hR hc hs h1 h2 h3 h4 h5 K)
  refine gn_tabOut (tgt := 1379) h dL_law_33 (by omega) (by decide) ?_
  exact K gx gm SX SM c s hR (by omega) (Nat.le_refl _)
theorem law_head {X : XT} {rt : Option FieldType} (h : NC X cL_law RL 4 rt room_1) {b L : Nat} {xs : Nat → Int32} (hX : va_X b L xs (x_s X) (x_s X).heap) (hbl : b < (x_s X).heap.size) (hbA : ¬ (x_A X) b) {qx qm : Nat → Nat} {ws : va_W} {c s j : Nat} (hL : L ≤ 3072) (hj : 6 * j ≤ 3078) (kend : GN X ws 1386 [(0, .ref b), (1, .ref (qx 0)), (2, .ref (qm 0)), (3, .int (nI (6 * j)))] [.int 1] c s) (kgo : 6 * j + 6 ≤ L → GN X ws 33 [(0, .ref b), (1, .ref (qx 0)), (2, .ref (qm 0)), (3, .int (nI (6 * j)))] [.int (xs (nI (6 * j)).toNatClampNeg &&& 63)] c s) : GN X ws 18 [(0, .ref b), (1, .ref (qx 0)), (2, .ref (qm 0)), (3, .int (nI (6 * j)))] [] c s := by
  refine gn_iload_n (pc' := 19) h dL_law_18 rfl rfl ?_
  refine gn_aload_n (pc' := 20) h dL_law_19 rfl rfl ?_
  refine gn_slen (pc' := 21) h hX hbl hbA dL_law_20 rfl ?_
  refine gn_bipush (v := 6) (pc' := 23) h dL_law_21 (by decide) rfl ?_
  refine gn_isub (pc' := 24) h dL_law_23 rfl ?_
  have e : (nI L - 6).toInt = (L : Int) - 6 := by
    rw [fb_subI] <;> rw [nI_toInt (by omega), show (6 : Int32).toInt = 6 from by decide]
    · omega
    · omega
  refine gn_icmp_gt (tgt := 1385) (pc' := 27) h dL_law_24 (by decide) rfl (fun q => ?_) (fun q => ?_)
  · refine gn_iconst (v := 1) (pc' := 1386) h dL_law_1385 (by decide) rfl ?_
    exact kend
  · have hle : 6 * j + 6 ≤ L := by
      rw [Int32.lt_iff_toInt_lt, e, nI_toInt (by omega)] at q
      omega
    refine gn_aload_n (pc' := 28) h dL_law_27 rfl rfl ?_
    refine gn_iload_n (pc' := 29) h dL_law_28 rfl rfl ?_
    refine gn_sld (pc' := 30) h hX hbl hbA (vp_in_nI (by omega) (by omega)) dL_law_29 rfl ?_
    refine gn_bipush (v := 63) (pc' := 32) h dL_law_30 (by decide) rfl ?_
    refine gn_iand (pc' := 33) h dL_law_32 rfl ?_
    exact kgo hle
theorem law_loop {X : XT} {rt : Option FieldType} (h : NC X cL_law RL 4 rt room_1) {b L : Nat} {xs : Nat → Int32} (hX : va_X b L xs (x_s X) (x_s X).heap) (hbl : b < (x_s X).heap.size) (hbA : ¬ (x_A X) b) {qx qm : Nat → Nat} (hL : L ≤ 3072) (fin : ∀ (ws : va_W) (lc : List (Nat × Value)) (c s : Nat), c ≤ 600000 → s ≤ 7302250 → GN X ws 1386 lc [.int 1] c s) : ∀ (n j : Nat) (gx gm : Nat → Nat) (SX SM : wd_W) (c s : Nat), 512 ≤ n + j → 6 * j ≤ 3078 → RW SX SM → c ≤ 1000 + 40 * j → s ≤ 200000 + 2 * lenS SX → GN X (wd_ws qx gx (x_cy X) SX 0 layX ++ wd_ws qm gm (x_cy X) SM 0 layM) 18 [(0, .ref b), (1, .ref (qx 0)), (2, .ref (qm 0)), (3, .int (nI (6 * j)))] [] c s := by
  intro n
  induction n with
  | zero =>
    intro j gx gm SX SM c s hn hj hR hc hs
    have hlen : lenS SX ≤ 120000 := by
      obtain ⟨st, w, _⟩ := hR
      exact lenS_le w
    exact law_head h hX hbl hbA hL hj (fin _ _ _ _ (by omega) (by omega)) (fun q => by omega)
  | succ n ih =>
    intro j gx gm SX SM c s hn hj hR hc hs
    have hlen : lenS SX ≤ 120000 := by
      obtain ⟨st, w, _⟩ := hR
      exact lenS_le w
    refine law_head h hX hbl hbA hL hj (fin _ _ _ _ (by omega) (by omega)) (fun q => ?_)
    have hi : ∀ k : Nat, 1 ≤ k → k ≤ 5 → vp_in (nI (6 * j) + nI k) L := fun k k1 k5 => by
      rw [show nI (6 * j) + nI k = nI (6 * j + k) from (Int32.ofNat_add _ _).symm]
      exact vp_in_nI (by omega) (by omega)
    refine law_one h hX hbl hbA hR (by omega) (by omega) (hi 1 (by omega) (by omega)) (hi 2 (by omega) (by omega)) (hi 3 (by omega) (by omega)) (hi 4 (by omega) (by omega)) (hi 5 (by omega) (by omega)) ?_
    intro gx' gm' SX' SM' c' s' hR' hc' hs'
    have e6 : nI (6 * j) + 6 = nI (6 * (j + 1)) := by
      rw [show 6 * (j + 1) = 6 * j + 6 from by omega]
      exact (Int32.ofNat_add _ _).symm
    refine gn_iinc (v := (6 : Int32)) (lc' := [(0, .ref b), (1, .ref (qx 0)), (2, .ref (qm 0)), (3, .int (nI (6 * j) + 6))]) (pc' := 1382) h dL_law_1379 rfl (by decide) (by decide) rfl rfl ?_
    refine gn_goto (tgt := 18) h dL_law_1382 (by decide) ?_
    rw [e6]
    exact ih (j + 1) gx' gm' SX' SM' c' s' (by omega) (by omega) hR' (by omega) (by omega)
