/-! trees of the reference, whole -/
theorem m_trees {S : wd_W} {L : Ld} (hL : lOk L) (hl : mL S L) : f_X12_trees S = some (nI (treN L)) := by
  have hl0 := hl
  have g1 := hL.1.1
  have g2 := hL.1.2.1
  have g3 : l_n L ≤ 12 := hL.1.2.2.1
  have h20 : S.1 20 = nI (l_N L) := hl.1.1
  have h21 : S.1 21 = nI (l_n L) := hl.1.2.1
  have p3 : 2 ^ l_n L ≤ 4096 := pow_le_k (n := 12) g3
  apply ok_e
  unfold f_X12_trees
  rw [li_0]
  refine ok_for0 (W := fun m i (v : Nat) => it2 (f_X12_trees_L4 S) m (nI v) (nI i)) (I := fun i v => v = fb_ct (fun s => (cnt s 12 == l_N L - 1) && joB L s) i) (e := 2 ^ l_n L) (s := 0) (by omega) rfl ?_ ?_
  · intro m v hI
    show Ok (f_X12_trees_L4 S _ (nI v) (nI (2 ^ l_n L))) _
    unfold f_X12_trees_L4
    rw [h21, oI_pow (by omega), if_pos (nI_le (Nat.le_refl _) (by omega)), hI]
    exact ok_some rfl
  · intro m i v hi hI ih
    show Ok (f_X12_trees_L4 S (it2 (f_X12_trees_L4 S) m) (nI v) (nI i)) _
    generalize it2 (f_X12_trees_L4 S) m = r at ih
    unfold f_X12_trees_L4
    have hs := fb_ct_succ (fun s => (cnt s 12 == l_N L - 1) && joB L s) i
    have hc := cnt_le i 12
    rw [h21, oI_pow (by omega), if_neg (nI_ge hi (by omega)), bd_s (m_bits (show i < 4096 by omega)), h20, nI_1, nI_1, show nI (l_N L) - (1 : Int32) = nI (l_N L - 1) from by rw [li_1, oI_sub1 (by omega)]]
    refine ok_lk (ok_ite (fun c => ?_) (fun c => ?_))
    · rw [nI_eq (by omega) (by omega)] at c
      have ck : (cnt i 12 == l_N L - 1) = true := by simp [c]
      rw [bd_s (m_areJoined (S := wd_o S [] [] [] [] []) hL hl0 hi)]
      refine ok_b (fun d => ih _ ?_) (fun d => ih _ ?_)
      · rw [hs, hI, ck, d]; rfl
      · rw [hs, hI, ck, d]; rfl
    · rw [nI_eq (by omega) (by omega)] at c
      have ck : (cnt i 12 == l_N L - 1) = false := by simp [c]
      exact ih _ (by rw [hs, hI, ck]; rfl)
