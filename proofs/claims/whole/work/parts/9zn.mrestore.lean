/-! restore on both sides: the reference's state -/
theorem b01_b {n : Nat} (h : n ≤ 1) : b01 (nI n) = nI n := by
  rcases (show n = 0 ∨ n = 1 by omega) with rfl | rfl <;> rfl
theorem MIm_fr {S S' : wd_W} {I : Nat → Option (Ld × Nt)} (h : MIm S I) (h46 : S'.2.2.1 46 = S.2.2.1 46) (h47 : S'.2.2.1 47 = S.2.2.1 47) : MIm S' I := by
  intro i hi
  rw [h46, h47]
  exact h i hi
theorem m_restore {S : wd_W} {st : Sta} {p1 : Int32} (h : MW S st) : Ok (f_X12_restore S p1) (fun o => o.1 = rstA st p1 ∧ MW o.2 (rstS st p1)) := by
  obtain ⟨L, T, M, I, t⟩ := st
  have h0 := h
  obtain ⟨h1, h2, h3, h4, h5⟩ := h
  dsimp only at h1 h2 h3 h4 h5
  unfold rstA rstS
  cases hin : inB 0 3 p1 with
  | false =>
    unfold f_X12_restore
    rw [lN_0, show (3 : Int64) = lN 3 from rfl, bd_s (m_inN (by omega) (by omega))]
    refine ok_b (fun z => ok_some ⟨rfl, h0⟩) (fun z => ?_)
    have z : inB 0 3 p1 = true := z
    rw [hin] at z; cases z
  | true =>
    obtain ⟨p, hp, rfl, n1, n2⟩ := inB_t (by omega) hin
    rw [if_pos rfl, if_pos rfl, nI_clamp hp]
    dsimp only
    obtain ⟨q1, q2⟩ := h4 p (by omega)
    cases hI : I p with
    | none =>
      rw [hI] at q1
      unfold f_X12_restore
      rw [lN_0, show (3 : Int64) = lN 3 from rfl, bd_s (m_inN (by omega) (by omega))]
      have hin' : inB ((0 : Nat) : Int) ((3 : Nat) : Int) (nI p) = true := hin
      rw [hin', if_neg (show ¬ nI (b2n true) = 0 from n1_ne), gd_in (by omega) (by omega), nI_clamp hp, q1, if_pos (show nI (b2n (none : Option (Ld × Nt)).isSome) = 0 from rfl)]
      exact ok_some ⟨rfl, h0⟩
    | some v =>
      obtain ⟨L', T'⟩ := v
      rw [hI] at q1
      obtain ⟨hln, hpic⟩ := q2 L' T' hI
      obtain ⟨hL, hc3, hT⟩ := hln
      have g3 := hL.1.2.2.1
      have hM := lM_15 hL
      have n0 := hT.1.1
      have n4 := hT.2.1
      obtain ⟨⟨a0, a1, a2, a3, a4, a5, a6, a7, a8, a9, a10⟩, p2, p3, p4, p5, p6⟩ := hpic
      refine ok_mono (m_restoreW (S := S) (p := p) (f := fun j => S.2.2.1 46 (200 * p + j)) (by omega) q1 (fun _ => rfl)) ?_
      rintro ⟨v, S'⟩ ⟨e0, ⟨⟨e1, e2⟩, e3, e4⟩, ⟨d0, d1, d2, d3, d4, d5, d6, d7, d8, d9, d10⟩, k1, k2, k3, k4, k5, z55, z44⟩
      dsimp only at e0 e1 e2 e3 e4 d0 d1 d2 d3 d4 d5 d6 d7 d8 d9 d10 k1 k2 k3 k4 k5 z55 z44 ⊢
      refine ⟨e0.trans a4, ⟨⟨hL, hc3, hT⟩, ⟨⟨d0.trans a0, d1.trans a1, d2.trans a2, trivial, d4.trans a4, d5.trans a5, d6.trans a6, d7.trans a7, d8.trans a8⟩, fun k hk => ?_, fun q hq => ?_, fun s hs => ?_⟩, d3.trans a3, d9.trans a9, d10.trans a10, fun k hk => ?_, fun k hk => ?_⟩, Or.inl z44, Or.inl ⟨z55, rfl⟩, MIm_fr h4 e1 e2, e3.trans h5.1, fun i hi => ?_⟩
      · have hk : k < l_n L' := hk
        obtain ⟨b1, b2, b3, b4, b5, b6⟩ := k1 k (by omega)
        obtain ⟨c1, c2, c3, c4, c5, c6⟩ := p2 k hk
        refine ⟨b1.trans c1, b2.trans c2, b3.trans c3, b4.trans ?_, b5.trans c5, b6.trans c6⟩
        rw [c4, b01_b (hL.2.1 k hk).2.2.2.2.1]
      · obtain ⟨b1, b2⟩ := k2 q (by omega)
        obtain ⟨c1, c2⟩ := p3 q hq
        exact ⟨b1.trans c1, b2.trans c2⟩
      · have hs : s < l_M L' := hs
        exact (k3 s (by omega)).trans (p4 s hs)
      · have hk : k < T' 0 0 := hk
        obtain ⟨b1, b2, b3⟩ := k4 k (by omega)
        obtain ⟨c1, c2, c3⟩ := p5 k hk
        exact ⟨b1.trans c1, b2.trans c2, b3.trans c3⟩
      · have hk : k < T' 4 0 := hk
        obtain ⟨b1, b2, b3⟩ := k5 k (by omega)
        obtain ⟨c1, c2, c3⟩ := p6 k hk
        refine ⟨b1.trans c1, b2.trans c2, b3.trans ?_⟩
        rw [c3, b01_b (hT.2.2 k hk).2.2.2]
      · rw [e4]; exact h5.2 i hi
