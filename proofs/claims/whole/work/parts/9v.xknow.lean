/-! know -/
def kM (q n : Nat) : Nat → Bool := fun b => b == 0 || (q.testBit b && decide (b < n))
theorem kM_step {q n c : Nat} (h : kM q (n + 1) c = true) : kM q n c = true ∨ (c = n ∧ q.testBit n = true) := by
  unfold kM at h ⊢
  rw [Bool.or_eq_true, Bool.and_eq_true, decide_eq_true_iff] at h
  rw [Bool.or_eq_true, Bool.and_eq_true, decide_eq_true_iff]
  rcases h with h | ⟨h1, h2⟩
  · exact Or.inl (Or.inl h)
  · by_cases e : c = n
    · subst e; exact Or.inr ⟨rfl, h1⟩
    · exact Or.inl (Or.inr ⟨h1, by omega⟩)
theorem kM_to {q n c : Nat} (h : kM q (n + 1) c = true) : kM q n c = true ∨ c = n := by
  rcases kM_step h with z | z
  · exact Or.inl z
  · exact Or.inr z.1
def kW (q : Nat) : Nat → Bool := fun b => kM q 6 b || (q.testBit b && decide (b = 7))
theorem kW_step {q c : Nat} (h : kW q c = true) : kM q 6 c = true ∨ (c = 7 ∧ q.testBit 7 = true) := by
  unfold kW at h
  rw [Bool.or_eq_true, Bool.and_eq_true, decide_eq_true_iff] at h
  rcases h with h | ⟨h1, h2⟩
  · exact Or.inl h
  · subst h2; exact Or.inr ⟨rfl, h1⟩
theorem xKI_wk {S0 S' : wd_W} {L : Ld} {T : Nt} {m : Nat → Bool} {C N C' N' nc ns : Nat} (h : xKI S0 L T m C N S' nc ns) (hC : C ≤ C') (hN : N ≤ N') : xKI S0 L T m C' N' S' nc ns := by
  obtain ⟨h1, h2, h3, h4, h5, h6⟩ := h
  exact ⟨h1, h2, h3, by omega, by omega, h6⟩
theorem x_know {S : wd_W} {L : Ld} {T : Nt} {q : Nat} (hX : XI S L T) (hq : q < 512) (h43 : q.testBit 4 = true → q.testBit 3 = true) (h79 : q.testBit 7 = true → l_M L ≤ 9) :
    Ok (f_X11_know S (nI q)) (fun o => xKI S L T (kW q) 11 120675 o.1 o.2.1 o.2.2) := by
  obtain ⟨hC, k0, hk0, h70, hn0⟩ := hX
  obtain ⟨hL, hc3, hT⟩ := hC.1
  unfold f_X11_know
  rw [bd_s (x_isNew (S := wd_o S [(7, (S.1 7))] [] [] [] []) (p := (1 : Int32)) (k := k0) (b := 0) h70 hk0 (by omega) rfl)]
  have hI0 : xKI S L T (fun _ => false) 0 0 S 0 0 := ⟨hC, ⟨k0, hk0, h70, hn0, fun b hb => by cases hb⟩, xFr_refl S, Nat.le_refl _, Nat.le_refl _, by omega⟩
  refine ok_lk3 (fun S' nc ns => xKI S L T (kM q 1) 4 80000 S' nc ns) (fun K hK => ?_) (fun S2 n3 n4 hI => ?_)
  · dsimp only
    refine ok_b (fun z => hK _ _ _ ?_) (fun z => ?_)
    · have z : k0.testBit 0 = true := by
        cases w : k0.testBit 0 with
        | true => rfl
        | false => rw [w] at z; cases z
      have := xKI_stay (q := 1) (m' := kM q 1) hI0 hk0 h70 hn0 (fun b hb => by cases hb) (b := 0) (by omega) (by rw [z]; rfl) (fun c hc => ?_)
      · obtain ⟨a1, a2, a3, a4, a5, a6⟩ := this
        exact ⟨a1, a2, a3, Nat.zero_le _, Nat.zero_le _, a6⟩
      · rcases kM_step hc with w | w
        · refine Or.inr ⟨?_, rfl⟩
          unfold kM at w
          rw [Bool.or_eq_true, Bool.and_eq_true, decide_eq_true_iff] at w
          rcases w with w | ⟨_, w⟩
          · exact eq_of_beq w
          · exact absurd w (Nat.not_lt_zero _)
        · exact Or.inr ⟨w.1, rfl⟩
    · refine ok_lz ?_
      refine ok_bd (x_workOut hL hc3 ?_ ?_) ?_
      · exact hC.2.1
      · exact hC.2.2.2.2.1
      · rintro o ⟨w1, w2, w3, w4, w5⟩
        refine hK _ _ _ (xKI_set (b := 0) (m' := kM q 1) hI0 hk0 hn0 (fun b hb => by cases hb) (by omega) (fun c hc => ?_) (xFr_trans (xFr_o rfl rfl) (xFr_o rfl rfl)) ?_ rfl ?_ ?_ (by omega) (by omega) ?_)
        · rcases kM_step hc with w | w
          · unfold kM at w
            rw [Bool.or_eq_true, Bool.and_eq_true, decide_eq_true_iff] at w
            rcases w with w | ⟨_, w⟩
            · exact Or.inr (eq_of_beq w)
            · exact absurd w (Nat.not_lt_zero _)
          · exact Or.inr w.1
        · exact ⟨w2, hC.2.2.2.2.2⟩
        · exact w1
        · intro c hc hc0 hp
          match c, hc0, hp with
          | 0, hc0, _ => exact absurd rfl hc0
          | 1, _, hp => exact hp
          | 2, _, hp => exact hp
          | 3, _, hp => exact hp
          | 4, _, hp => exact hp
          | 5, _, hp => exact hp
          | 6, _, hp => exact hp
          | 7, _, hp => exact hp
          | _ + 8, _, hp => exact hp
        · have w5 : o.2.2.2.2.2.2.2.2.2.2.2.2.2.2.2.2.2.2.2.2.2.2 + 2 * (S.2.2.2.2 107 + S.2.2.2.2 109 + S.2.2.2.2 108 + S.2.2.2.2 110) ≤ 2 * (o.2.2.2.2.2.2.2.2.2.2.2.2.2.2.2.2.2.1 + o.2.2.2.2.2.2.2.2.2.2.2.2.2.2.2.2.2.2.2.1 + o.2.2.2.2.2.2.2.2.2.2.2.2.2.2.2.2.2.2.1 + o.2.2.2.2.2.2.2.2.2.2.2.2.2.2.2.2.2.2.2.2.1) := w5
          show 0 + o.2.2.2.2.2.2.2.2.2.2.2.2.2.2.2.2.2.2.2.2.2.2 + 2 * ((S.2.2.2.2 107 + S.2.2.2.2 109 + S.2.2.2.2 108 + S.2.2.2.2 110) + (S.2.2.2.2 132 + S.2.2.2.2 134 + S.2.2.2.2 135 + S.2.2.2.2 136) + S.2.2.2.2 133 + S.2.2.2.2 138 + S.2.2.2.2 141 + S.2.2.2.2 160) ≤ 0 + 2 * ((o.2.2.2.2.2.2.2.2.2.2.2.2.2.2.2.2.2.1 + o.2.2.2.2.2.2.2.2.2.2.2.2.2.2.2.2.2.2.2.1 + o.2.2.2.2.2.2.2.2.2.2.2.2.2.2.2.2.2.2.1 + o.2.2.2.2.2.2.2.2.2.2.2.2.2.2.2.2.2.2.2.2.1) + (S.2.2.2.2 132 + S.2.2.2.2 134 + S.2.2.2.2 135 + S.2.2.2.2 136) + S.2.2.2.2 133 + S.2.2.2.2 138 + S.2.2.2.2 141 + S.2.2.2.2 160)
          omega
  · obtain ⟨k, hk, h7, hn, hm⟩ := hI.2.1
    have hC := hI.1
    have hc1 := hI.2.2.2.1
    have hs1 := hI.2.2.2.2.1
    rw [gd_t (okr_in (by omega) (by omega)), bd_s (x_lacks (S := wd_o S2 [(7, (S2.1 7))] [] [] [] []) (p2 := (2 : Int32)) (b := 1) h7 hk hq (by omega) rfl)]
    refine ok_lk1 (fun S' => xKI S L T (kM q 2) 4 80000 S' n3 n4) (fun K hK => ?_) (fun S8 hI => ?_)
    · dsimp only
      refine ok_b (fun z => hK _ (xKI_wk (xKI_stay (m' := kM q 2) hI hk h7 hn hm (by omega) z (fun c hc => kM_step hc)) (by omega) (by omega))) (fun z => ?_)
      rw [Bool.and_eq_true] at z
      obtain ⟨z1, _⟩ := z
      rw [if_pos z1]
      refine ok_lz ?_
      rw [gd_t (okr_in (by omega) (by omega))]
      refine ok_bd (x_find_q123 (c := false) hL (hn 0 (by omega) (hm 0 rfl)) hC.2.2.2.2.1 hC.2.2.2.1.1) ?_
      rintro o ⟨w1, w2, w3, w4⟩
      refine hK _ (xKI_set (b := 1) (m' := kM q 2) hI hk hn hm (by omega) (fun c hc => kM_to hc) (xFr_trans (xFr_o rfl rfl) (xFr_o rfl rfl)) hC.2.2.2.2 rfl ⟨w1, w2, w3, w4⟩ ?_ (by omega) (by omega) ?_)
      · intro c hc hc0 hp
        match c, hc0, hp with
          | 0, _, hp => exact hp
          | 1, hc0, _ => exact absurd rfl hc0
          | 2, _, hp => exact hp
          | 3, _, hp => exact hp
          | 4, _, hp => exact hp
          | 5, _, hp => exact hp
          | 6, _, hp => exact hp
          | 7, _, hp => exact hp
          | _ + 8, _, hp => exact hp
      · exact Nat.le_refl _
    obtain ⟨k, hk, h7, hn, hm⟩ := hI.2.1
    have hC := hI.1
    have hc1 := hI.2.2.2.1
    have hs1 := hI.2.2.2.2.1
    rw [gd_t (okr_in (by omega) (by omega)), bd_s (x_lacks (S := wd_o S8 [(7, (S8.1 7))] [] [] [] []) (p2 := (4 : Int32)) (b := 2) h7 hk hq (by omega) rfl)]
    refine ok_lk1 (fun S' => xKI S L T (kM q 3) 4 80000 S' n3 n4) (fun K hK => ?_) (fun S12 hI => ?_)
    · dsimp only
      refine ok_b (fun z => hK _ (xKI_wk (xKI_stay (m' := kM q 3) hI hk h7 hn hm (by omega) z (fun c hc => kM_step hc)) (by omega) (by omega))) (fun z => ?_)
      rw [Bool.and_eq_true] at z
      obtain ⟨z1, _⟩ := z
      rw [if_pos z1]
      refine ok_lz ?_
      rw [gd_t (okr_in (by omega) (by omega))]
      refine ok_bd (x_find_q127 (c := true) hL (hn 0 (by omega) (hm 0 rfl)) hC.2.2.2.2.1 hC.2.2.2.1.2) ?_
      rintro o ⟨w1, w2, w3, w4⟩
      refine hK _ (xKI_set (b := 2) (m' := kM q 3) hI hk hn hm (by omega) (fun c hc => kM_to hc) (xFr_trans (xFr_o rfl rfl) (xFr_o rfl rfl)) hC.2.2.2.2 rfl ⟨w1, w2, w3, w4⟩ ?_ (by omega) (by omega) ?_)
      · intro c hc hc0 hp
        match c, hc0, hp with
          | 0, _, hp => exact hp
          | 1, _, hp => exact hp
          | 2, hc0, _ => exact absurd rfl hc0
          | 3, _, hp => exact hp
          | 4, _, hp => exact hp
          | 5, _, hp => exact hp
          | 6, _, hp => exact hp
          | 7, _, hp => exact hp
          | _ + 8, _, hp => exact hp
      · exact Nat.le_refl _
    obtain ⟨k, hk, h7, hn, hm⟩ := hI.2.1
    have hC := hI.1
    have hc1 := hI.2.2.2.1
    have hs1 := hI.2.2.2.2.1
    rw [gd_t (okr_in (by omega) (by omega)), bd_s (x_lacks (S := wd_o S12 [(7, (S12.1 7))] [] [] [] []) (p2 := (8 : Int32)) (b := 3) h7 hk hq (by omega) rfl)]
    refine ok_lk3 (fun S' nc ns => xKI S L T (kM q 4) 8 96384 S' nc ns) (fun K hK => ?_) (fun S16 n17 n18 hI => ?_)
    · dsimp only
      refine ok_b (fun z => hK _ _ _ (xKI_wk (xKI_stay (m' := kM q 4) hI hk h7 hn hm (by omega) z (fun c hc => kM_step hc)) (by omega) (by omega))) (fun z => ?_)
      rw [Bool.and_eq_true] at z
      obtain ⟨z1, _⟩ := z
      rw [if_pos z1]
      refine ok_lz ?_
      rw [gd_t (okr_in (by omega) (by omega))]
      refine ok_bd (x_builtOut hL hC.2.1 (hn 0 (by omega) (hm 0 rfl)) hC.2.2.2.2.1 hC.2.2.2.2.2.2.1) ?_
      rintro o ⟨w1, ⟨e, w2, w3, w4, w5, w6, w7, w8⟩, w9, w10, w11⟩
      refine hK _ _ _ (xKI_set (b := 3) (m' := kM q 4) hI hk hn hm (by omega) (fun c hc => kM_to hc) (xFr_trans (xFr_o rfl rfl) (xFr_o rfl rfl)) ⟨hC.2.2.2.2.1, hC.2.2.2.2.2.1, ⟨e, w2, w3, w4, w5, w6⟩, hC.2.2.2.2.2.2.2⟩ rfl ⟨w1, Nat.le_trans w7 (Nat.le_of_eq w3.symm), w9⟩ ?_ (by omega) (by omega) ?_)
      · intro c hc hc0 hp
        match c, hc0, hp with
          | 0, _, hp => exact hp
          | 1, _, hp => exact hp
          | 2, _, hp => exact hp
          | 3, hc0, _ => exact absurd rfl hc0
          | 4, _, hp => exact hp
          | 5, _, hp => exact hp
          | 6, _, hp => exact hp
          | 7, _, hp => exact hp
          | _ + 8, _, hp => exact hp
      · obtain ⟨e0, f0, f1, f2, f3, f4⟩ := hC.2.2.2.2.2.2.1
        have w8 : o.2.2.2.2.2.2.2.2.2.2 + 2 * (4 * S12.2.2.2.2 132) ≤ 2 * (4 * 2 ^ e) := w8
        show n4 + o.2.2.2.2.2.2.2.2.2.2 + 2 * ((S12.2.2.2.2 107 + S12.2.2.2.2 109 + S12.2.2.2.2 108 + S12.2.2.2.2 110) + (S12.2.2.2.2 132 + S12.2.2.2.2 134 + S12.2.2.2.2 135 + S12.2.2.2.2 136) + S12.2.2.2.2 133 + S12.2.2.2.2 138 + S12.2.2.2.2 141 + S12.2.2.2.2 160) ≤ n4 + 2 * ((S12.2.2.2.2 107 + S12.2.2.2.2 109 + S12.2.2.2.2 108 + S12.2.2.2.2 110) + (o.2.2.2.2.2.1 + o.2.2.2.2.2.2.1 + o.2.2.2.2.2.2.2.1 + o.2.2.2.2.2.2.2.2.1) + S12.2.2.2.2 133 + S12.2.2.2.2 138 + S12.2.2.2.2 141 + S12.2.2.2.2 160)
        omega
    obtain ⟨k, hk, h7, hn, hm⟩ := hI.2.1
    have hC := hI.1
    have hc1 := hI.2.2.2.1
    have hs1 := hI.2.2.2.2.1
    rw [gd_t (okr_in (by omega) (by omega)), bd_s (x_lacks (S := wd_o S16 [(7, (S16.1 7))] [] [] [] []) (p2 := (16 : Int32)) (b := 4) h7 hk hq (by omega) rfl)]
    refine ok_lk3 (fun S' nc ns => xKI S L T (kM q 5) 9 96896 S' nc ns) (fun K hK => ?_) (fun S22 n23 n24 hI => ?_)
    · dsimp only
      refine ok_b (fun z => hK _ _ _ (xKI_wk (xKI_stay (m' := kM q 5) hI hk h7 hn hm (by omega) z (fun c hc => kM_step hc)) (by omega) (by omega))) (fun z => ?_)
      rw [Bool.and_eq_true] at z
      obtain ⟨z1, _⟩ := z
      rw [if_pos z1]
      refine ok_lz ?_
      rw [gd_t (okr_in (by omega) (by omega))]
      refine ok_bd (x_mendAll hL hC.2.1 hC.2.2.1 hT (hn 3 (by omega) (hm 3 (by unfold kM; rw [h43 z1]; rfl))) hC.2.2.2.2.2.2.1 hC.2.2.2.2.2.2.2.1) ?_
      rintro o ⟨w1, w2, w3, w4, w5, w9⟩
      refine hK _ _ _ (xKI_set (b := 4) (m' := kM q 5) hI hk hn hm (by omega) (fun c hc => kM_to hc) (xFr_trans (xFr_o rfl rfl) (xFr_o rfl rfl)) ⟨hC.2.2.2.2.1, hC.2.2.2.2.2.1, hC.2.2.2.2.2.2.1, w1, hC.2.2.2.2.2.2.2.2⟩ rfl ⟨w2, w3⟩ ?_ (by omega) (by omega) ?_)
      · intro c hc hc0 hp
        match c, hc0, hp with
          | 0, _, hp => exact hp
          | 1, _, hp => exact hp
          | 2, _, hp => exact hp
          | 3, _, hp => exact hp
          | 4, hc0, _ => exact absurd rfl hc0
          | 5, _, hp => exact hp
          | 6, _, hp => exact hp
          | 7, _, hp => exact hp
          | _ + 8, _, hp => exact hp
      · have w9 : o.2.2.2.2.2 + 2 * S16.2.2.2.2 133 ≤ 2 * o.2.2.2.1 := w9
        show n18 + o.2.2.2.2.2 + 2 * ((S16.2.2.2.2 107 + S16.2.2.2.2 109 + S16.2.2.2.2 108 + S16.2.2.2.2 110) + (S16.2.2.2.2 132 + S16.2.2.2.2 134 + S16.2.2.2.2 135 + S16.2.2.2.2 136) + S16.2.2.2.2 133 + S16.2.2.2.2 138 + S16.2.2.2.2 141 + S16.2.2.2.2 160) ≤ n18 + 2 * ((S16.2.2.2.2 107 + S16.2.2.2.2 109 + S16.2.2.2.2 108 + S16.2.2.2.2 110) + (S16.2.2.2.2 132 + S16.2.2.2.2 134 + S16.2.2.2.2 135 + S16.2.2.2.2 136) + o.2.2.2.1 + S16.2.2.2.2 138 + S16.2.2.2.2 141 + S16.2.2.2.2 160)
        omega
    obtain ⟨k, hk, h7, hn, hm⟩ := hI.2.1
    have hC := hI.1
    have hc1 := hI.2.2.2.1
    have hs1 := hI.2.2.2.2.1
    rw [gd_t (okr_in (by omega) (by omega)), bd_s (x_lacks (S := wd_o S22 [(7, (S22.1 7))] [] [] [] []) (p2 := (32 : Int32)) (b := 5) h7 hk hq (by omega) rfl)]
    refine ok_lk3 (fun S' nc ns => xKI S L T (kM q 6) 10 100992 S' nc ns) (fun K hK => ?_) (fun S28 n29 n30 hI => ?_)
    · dsimp only
      refine ok_b (fun z => hK _ _ _ (xKI_wk (xKI_stay (m' := kM q 6) hI hk h7 hn hm (by omega) z (fun c hc => kM_step hc)) (by omega) (by omega))) (fun z => ?_)
      rw [Bool.and_eq_true] at z
      obtain ⟨z1, _⟩ := z
      rw [if_pos z1]
      refine ok_lz ?_
      rw [gd_t (okr_in (by omega) (by omega))]
      refine ok_bd (x_compare hL (hn 0 (by omega) (hm 0 rfl)) hC.2.2.1 hT hC.2.2.2.2.2.2.2.2.2) ?_
      rintro o ⟨w1, w2, w3, w4, w5, w9⟩
      refine hK _ _ _ (xKI_set (b := 5) (m' := kM q 6) hI hk hn hm (by omega) (fun c hc => kM_to hc) (xFr_trans (xFr_o rfl rfl) (xFr_o rfl rfl)) ⟨hC.2.2.2.2.1, hC.2.2.2.2.2.1, hC.2.2.2.2.2.2.1, hC.2.2.2.2.2.2.2.1, hC.2.2.2.2.2.2.2.2.1, w1⟩ rfl ⟨w2, w3⟩ ?_ (by omega) (by omega) ?_)
      · intro c hc hc0 hp
        match c, hc0, hp with
          | 0, _, hp => exact hp
          | 1, _, hp => exact hp
          | 2, _, hp => exact hp
          | 3, _, hp => exact hp
          | 4, _, hp => exact hp
          | 5, hc0, _ => exact absurd rfl hc0
          | 6, _, hp => exact hp
          | 7, _, hp => exact hp
          | _ + 8, _, hp => exact hp
      · have w9 : o.2.2.2 + 2 * S22.2.2.2.2 138 ≤ 2 * o.2.1 := w9
        show n24 + o.2.2.2 + 2 * ((S22.2.2.2.2 107 + S22.2.2.2.2 109 + S22.2.2.2.2 108 + S22.2.2.2.2 110) + (S22.2.2.2.2 132 + S22.2.2.2.2 134 + S22.2.2.2.2 135 + S22.2.2.2.2 136) + S22.2.2.2.2 133 + S22.2.2.2.2 138 + S22.2.2.2.2 141 + S22.2.2.2.2 160) ≤ n24 + 2 * ((S22.2.2.2.2 107 + S22.2.2.2.2 109 + S22.2.2.2.2 108 + S22.2.2.2.2 110) + (S22.2.2.2.2 132 + S22.2.2.2.2 134 + S22.2.2.2.2 135 + S22.2.2.2.2 136) + S22.2.2.2.2 133 + o.2.1 + S22.2.2.2.2 141 + S22.2.2.2.2 160)
        omega
    obtain ⟨k, hk, h7, hn, hm⟩ := hI.2.1
    have hC := hI.1
    have hc1 := hI.2.2.2.1
    have hs1 := hI.2.2.2.2.1
    rw [gd_t (okr_in (by omega) (by omega)), bd_s (x_lacks (S := wd_o S28 [(7, (S28.1 7))] [] [] [] []) (p2 := (128 : Int32)) (b := 7) h7 hk hq (by omega) rfl)]
    dsimp only
    refine ok_b (fun z => ok_some (xKI_wk (xKI_stay (m' := kW q) hI hk h7 hn hm (by omega) z (fun c hc => kW_step hc)) (by omega) (by omega))) (fun z => ?_)
    rw [Bool.and_eq_true] at z
    obtain ⟨z1, _⟩ := z
    rw [if_pos z1]
    refine ok_lz ?_
    rw [gd_t (okr_in (by omega) (by omega))]
    refine ok_bd (x_workLooks hL (hn 0 (by omega) (hm 0 rfl)) hC.2.2.2.2.1 hC.2.2.2.2.2.1 (h79 z1)) ?_
    rintro o ⟨w0, w1, w2, w3, w4, w5, w9⟩
    refine ok_some (xKI_set (b := 7) (m' := kW q) hI hk hn hm (by omega) (fun c hc => (kW_step hc).imp id And.left) (xFr_trans (xFr_o rfl rfl) (xFr_o rfl rfl)) ⟨hC.2.2.2.2.1, w1, hC.2.2.2.2.2.2⟩ rfl ⟨w0, w2, w3⟩ ?_ (by dsimp only; omega) (by dsimp only; omega) ?_)
    · intro c hc hc0 hp
      match c, hc0, hp with
          | 0, _, hp => exact hp
          | 1, _, hp => exact hp
          | 2, _, hp => exact hp
          | 3, _, hp => exact hp
          | 4, _, hp => exact hp
          | 5, _, hp => exact hp
          | 6, _, hp => exact hp
          | 7, hc0, _ => exact absurd rfl hc0
          | _ + 8, _, hp => exact hp
    · have w9 : o.2.2.2.2 + 2 * S28.2.2.2.2 160 ≤ 2 * o.2.2.1 := w9
      show n30 + o.2.2.2.2 + 2 * ((S28.2.2.2.2 107 + S28.2.2.2.2 109 + S28.2.2.2.2 108 + S28.2.2.2.2 110) + (S28.2.2.2.2 132 + S28.2.2.2.2 134 + S28.2.2.2.2 135 + S28.2.2.2.2 136) + S28.2.2.2.2 133 + S28.2.2.2.2 138 + S28.2.2.2.2 141 + S28.2.2.2.2 160) ≤ n30 + 2 * ((S28.2.2.2.2 107 + S28.2.2.2.2 109 + S28.2.2.2.2 108 + S28.2.2.2.2 110) + (S28.2.2.2.2 132 + S28.2.2.2.2 134 + S28.2.2.2.2 135 + S28.2.2.2.2 136) + S28.2.2.2.2 133 + S28.2.2.2.2 138 + S28.2.2.2.2 141 + o.2.2.1)
      omega
