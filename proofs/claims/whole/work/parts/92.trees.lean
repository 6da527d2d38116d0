/-! trees of the developers -/
def joB (L : Ld) (s : Nat) : Bool := rchM (tM L) (tM L) s (l_n L) (l_N L) 0 == 2 ^ l_N L - 1
def treN (L : Ld) : Nat := fb_ct (fun s => (cnt s 12 == l_N L - 1) && joB L s) (2 ^ l_n L)
theorem x_trees {S : wd_W} {L : Ld} (hL : lOr L) (hn : l_n L ≤ 12) (h : xR S 111 L) : f_X7_joiningTrees_q111 S = some (nI (treN L)) := by
  have hL0 := hL
  obtain ⟨⟨g1, g2, g3⟩, gk, w1, w2, w3, w4⟩ := hL
  simp only [xR, Nat.reduceMul, Nat.reduceAdd] at h
  obtain ⟨⟨h0, h1, h2, h3⟩, hk⟩ := h
  have p3 : 2 ^ l_n L ≤ 4096 := pow_le_k (n := 12) hn
  have h2N := Nat.two_pow_pos (l_N L)
  have h2N2 : 2 ^ l_N L ≤ 2 ^ 10 := pow_le_k g2
  apply ok_e
  unfold f_X7_joiningTrees_q111
  rw [li_0]
  refine ok_for0 (W := fun m i (v : Nat) => it2 (f_X7_joiningTrees_q111_L4 S) m (nI v) (nI i)) (I := fun i v => v = fb_ct (fun s => (cnt s 12 == l_N L - 1) && joB L s) i) (e := 2 ^ l_n L) (s := 0) (by omega) rfl ?_ ?_
  · intro m v hI
    show Ok (f_X7_joiningTrees_q111_L4 S _ (nI v) (nI (2 ^ l_n L))) _
    unfold f_X7_joiningTrees_q111_L4
    rw [h0, oI_pow (by omega), if_pos (nI_le (Nat.le_refl _) (by omega)), hI]
    exact ok_some rfl
  · intro m i v hi hI ih
    show Ok (f_X7_joiningTrees_q111_L4 S (it2 (f_X7_joiningTrees_q111_L4 S) m) (nI v) (nI i)) _
    generalize it2 (f_X7_joiningTrees_q111_L4 S) m = r at ih
    unfold f_X7_joiningTrees_q111_L4
    have hs := fb_ct_succ (fun s => (cnt s 12 == l_N L - 1) && joB L s) i
    have hc := cnt_le i 12
    rw [h0, oI_pow (by omega), if_neg (nI_ge hi (by omega)), bd_s (x_bitCount (show i < 4096 by omega)), h3, h1, nI_1, nI_1, show nI (l_N L) - (1 : Int32) = nI (l_N L - 1) from by rw [li_1, oI_sub1 (by omega)]]
    refine ok_lk (ok_ite (fun c => ?_) (fun c => ?_))
    · rw [nI_eq (by omega) (by omega)] at c
      have ck : (cnt i 12 == l_N L - 1) = true := by simp [c]
      have hr := rchM_ok (g := tM L) (t := tM L) (N := l_N L) (a := 0) hi (fun k hk' => (tM_lt hL0 (tb_in hi hk')).1) (by omega)
      rw [li_0, bd_s (x_reached_q111_q112 (S := wd_o S [] [] [] [] []) (g := tM L) (t := tM L) (a := 0) h0 h3 g2 g3 (by omega) hi (fun k hk' => ⟨(hk k hk').1, (tM_lt hL0 hk').1, (hk k hk').1, (tM_lt hL0 hk').1⟩))]
      have b1 := lt_1024 hr.1 g2
      refine ok_ite (fun d => ih _ ?_) (fun d => ih _ ?_)
      · rw [nI_eq (by omega) (by omega)] at d
        have : joB L i = true := by unfold joB; rw [d]; exact beq_self_eq_true _
        rw [hs, hI, ck, this]; rfl
      · rw [nI_eq (by omega) (by omega)] at d
        have : joB L i = false := by unfold joB; rw [beq_eq_false_iff_ne]; exact d
        rw [hs, hI, ck, this]; rfl
    · rw [nI_eq (by omega) (by omega)] at c
      have ck : (cnt i 12 == l_N L - 1) = false := by simp [c]
      exact ih _ (by rw [hs, hI, ck]; rfl)
