/-! image and restore, the reference's -/
theorem mPic_eq {L : Ld} {T : Nt} {f g : Nat → Int32} (h : lnOk L T) (e : ∀ j, j < 163 → g j = f j) (hp : mPic L T f) : mPic L T g := by
  obtain ⟨hL, hc3, hT⟩ := h
  have g3 := hL.1.2.2.1
  have hM := lM_15 hL
  have n0 := hT.1.1
  have n4 := hT.2.1
  obtain ⟨⟨a0, a1, a2, a3, a4, a5, a6, a7, a8, a9, a10⟩, h2, h3, h4, h5, h6⟩ := hp
  refine ⟨⟨?_, ?_, ?_, ?_, ?_, ?_, ?_, ?_, ?_, ?_, ?_⟩, fun i hi => ?_, fun i hi => ?_, fun i hi => ?_, fun i hi => ?_, fun i hi => ?_⟩
  · rw [e _ (by omega)]; exact a0
  · rw [e _ (by omega)]; exact a1
  · rw [e _ (by omega)]; exact a2
  · rw [e _ (by omega)]; exact a3
  · rw [e _ (by omega)]; exact a4
  · rw [e _ (by omega)]; exact a5
  · rw [e _ (by omega)]; exact a6
  · rw [e _ (by omega)]; exact a7
  · rw [e _ (by omega)]; exact a8
  · rw [e _ (by omega)]; exact a9
  · rw [e _ (by omega)]; exact a10
  · rw [e _ (by omega), e _ (by omega), e _ (by omega), e _ (by omega), e _ (by omega), e _ (by omega)]; exact h2 i hi
  · rw [e _ (by omega), e _ (by omega)]; exact h3 i hi
  · rw [e _ (by omega)]; exact h4 i hi
  · rw [e _ (by omega), e _ (by omega), e _ (by omega)]; exact h5 i hi
  · rw [e _ (by omega), e _ (by omega), e _ (by omega)]; exact h6 i hi
theorem n01_b {n : Nat} (h : n ≤ 1) : n01 (nI n) = nI n := by
  rcases (show n = 0 ∨ n = 1 by omega) with rfl | rfl <;> rfl
theorem pic_ok {S : wd_W} {L : Ld} {T : Nt} (h : MQs S L T) : mPic L T (picW S) := by
  obtain ⟨⟨hL, hc3, hT⟩, ⟨⟨l0, l1, l2, _, l4, l5, l6, l7, l8⟩, k1, k2, k3⟩, h31, t0, t4, t1, t2⟩ := h
  have g3 := hL.1.2.2.1
  have hM := lM_15 hL
  have n0 := hT.1.1
  have n4 := hT.2.1
  refine ⟨⟨l0, l1, l2, h31, l4, l5, l6, l7, l8, t0, t4⟩, fun i hi => ?_, fun i hi => ?_, fun i hi => ?_, fun i hi => ?_, fun i hi => ?_⟩
  · obtain ⟨b1, b2, b3, b4, b5, b6⟩ := k1 i hi
    have hO := (hL.2.1 i hi).2.2.2.2.1
    have e0 := pw_lin (S := S) (i := i) (f := 0) (by omega) (by omega)
    have e1 := pw_lin (S := S) (i := i) (f := 1) (by omega) (by omega)
    have e2 := pw_lin (S := S) (i := i) (f := 2) (by omega) (by omega)
    have e3 := pw_lin (S := S) (i := i) (f := 3) (by omega) (by omega)
    have e4 := pw_lin (S := S) (i := i) (f := 4) (by omega) (by omega)
    have e5 := pw_lin (S := S) (i := i) (f := 5) (by omega) (by omega)
    rw [show 12 + 6 * i = 11 + 6 * i + 1 by omega, show 13 + 6 * i = 11 + 6 * i + 2 by omega, show 14 + 6 * i = 11 + 6 * i + 3 by omega, show 15 + 6 * i = 11 + 6 * i + 4 by omega, show 16 + 6 * i = 11 + 6 * i + 5 by omega]
    refine ⟨e0.trans b1, e1.trans b2, e2.trans b3, e3.trans ?_, e4.trans b5, e5.trans b6⟩
    show n01 (S.2.2.1 11 i) = _
    rw [b4, n01_b hO]
  · obtain ⟨b1, b2⟩ := k2 i hi
    have e0 := pw_plc (S := S) (i := i) (f := 0) (by omega) (by omega)
    have e1 := pw_plc (S := S) (i := i) (f := 1) (by omega) (by omega)
    rw [show 84 + 2 * i = 83 + 2 * i + 1 by omega]
    exact ⟨e0.trans b1, e1.trans b2⟩
  · exact (pw_cha (by omega)).trans (k3 i hi)
  · obtain ⟨b1, b2, b3⟩ := t1 i hi
    have e0 := pw_mnd (S := S) (i := i) (f := 0) (by omega) (by omega)
    have e1 := pw_mnd (S := S) (i := i) (f := 1) (by omega) (by omega)
    have e2 := pw_mnd (S := S) (i := i) (f := 2) (by omega) (by omega)
    rw [show 119 + 3 * i = 118 + 3 * i + 1 by omega, show 120 + 3 * i = 118 + 3 * i + 2 by omega]
    exact ⟨e0.trans b1, e1.trans b2, e2.trans b3⟩
  · obtain ⟨b1, b2, b3⟩ := t2 i hi
    have h7 := (hT.2.2 i hi).2.2.2
    have e0 := pw_ltr (S := S) (i := i) (f := 0) (by omega)
    have e1 := pw_ltr (S := S) (i := i) (f := 1) (by omega)
    have e2 := pw_ltr (S := S) (i := i) (f := 2) (by omega)
    rw [show 146 + 3 * i = 145 + 3 * i + 1 by omega, show 147 + 3 * i = 145 + 3 * i + 2 by omega]
    refine ⟨e0.trans b1, e1.trans b2, e2.trans ?_⟩
    show n01 (S.2.2.1 34 i) = _
    rw [b3, n01_b h7]
theorem m_image {S : wd_W} {st : Sta} {p1 : Int32} (h : MW S st) : Ok (f_X12_image S p1) (fun o => o.1 = imgA st.1 p1 ∧ MW (wd_o S [(80, o.2.1)] [] [(46, o.2.2.1), (47, o.2.2.2)] [] []) (st.1, st.2.1, st.2.2.1, imgI st.1 st.2.1 st.2.2.2.1 p1, st.2.2.2.2)) := by
  obtain ⟨L, T, M, I, t⟩ := st
  obtain ⟨h1, h2, h3, h4, h5⟩ := h
  dsimp only at h1 h2 h3 h4 h5 ⊢
  unfold imgA imgI
  cases hin : inB 0 3 p1 with
  | false =>
    unfold f_X12_image
    rw [lN_0, show (3 : Int64) = lN 3 from rfl, bd_s (m_inN (by omega) (by omega))]
    refine ok_b (fun z => ok_some ⟨rfl, h1, h2, h3, h4, h5⟩) (fun z => ?_)
    have z : inB 0 3 p1 = true := z
    rw [hin] at z; cases z
  | true =>
    obtain ⟨p, hp, rfl, n1, n2⟩ := inB_t (by omega) hin
    rw [if_pos rfl, if_pos rfl, nI_clamp hp]
    refine ok_mono (m_imageW (S := S) (p := p) (by omega)) ?_
    rintro ⟨v, x, a, b⟩ ⟨e1, ⟨y, _, w2, w3⟩, e3⟩
    dsimp only at e1 w2 w3 e3 ⊢
    subst e3
    refine ⟨e1.trans h1.2.1.1.2.2.2.2.1, h1, h2, h3, fun i hi => ?_, h5⟩
    show upd (S.2.2.1 47) p 1 i = nI (b2n (upI I p (some (L, T)) i).isSome) ∧ ∀ L' T', upI I p (some (L, T)) i = some (L', T') → lnOk L' T' ∧ mPic L' T' (fun j => a (200 * i + j))
    by_cases e : i = p
    · subst e
      rw [pk_us, upI_s]
      refine ⟨rfl, fun L' T' hE => ?_⟩
      cases hE
      exact ⟨h1.1, mPic_eq h1.1 (fun j hj => w2 j hj) (pic_ok h1)⟩
    · rw [pk_un e, upI_n e]
      refine ⟨(h4 i hi).1, fun L' T' hE => ?_⟩
      obtain ⟨g1, g2⟩ := (h4 i hi).2 L' T' hE
      exact ⟨g1, mPic_eq g1 (fun j hj => w3 _ (by omega)) g2⟩
