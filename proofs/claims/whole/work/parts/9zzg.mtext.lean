/-! the reference's text, whole -/
theorem m_rtext {S : wd_W} {n : Nat} {t : Nat → Nat} (ht : MTa S n t) (h17 : S.1 17 = nI 0) (h18 : S.1 18 = nI 0) : Ok (f_X12_text S) (fun o => match pLand t n with
    | .ok L => o.1 = nI 1 ∧ ∃ d, mTr (wd_o S [(3, o.2.1), (6, o.2.2.1), (10, o.2.2.2.1), (11, o.2.2.2.2.1), (12, o.2.2.2.2.2.1), (13, o.2.2.2.2.2.2.1), (14, o.2.2.2.2.2.2.2.1), (15, o.2.2.2.2.2.2.2.2.1), (16, o.2.2.2.2.2.2.2.2.2.1)] [] [(2, o.2.2.2.2.2.2.2.2.2.2.2.2.2.1), (3, o.2.2.2.2.2.2.2.2.2.2.2.2.2.2.1), (4, o.2.2.2.2.2.2.2.2.2.2.2.2.2.2.2.1), (5, o.2.2.2.2.2.2.2.2.2.2.2.2.2.2.2.2.1), (6, o.2.2.2.2.2.2.2.2.2.2.2.2.2.2.2.2.2.1), (7, o.2.2.2.2.2.2.2.2.2.2.2.2.2.2.2.2.2.2)] [] []) L d
    | .error f => o.1 = nI 0 ∧ o.2.2.2.2.2.2.2.2.2.2.2.1 = nI f) := by
  have h4 := ht.2.1
  have h0 : (0 : Nat) ≤ n := Nat.zero_le n
  have hq := wB_le (t := t) h0
  have hqe := wE_le (t := t) h0
  have eu : uw t n (wB t n 0) = uw t n 0 := uw_wB t n 0
  have eEE : wE t n (wB t n 0) = wE t n 0 := wE_wB t n 0
  unfold f_X12_text f_X12_clears
  rw [bd_some]
  dsimp only
  generalize hP : pLand t n = P
  unfold pLand at hP
  by_cases c0 : uw t n 0 = kw0
  · rw [if_pos c0] at hP
    rw [bd_s (m_uwT (S := wd_o S [(3, (0 : Int32)), (6, (0 : Int32)), (10, (0 : Int32)), (11, (2 : Int32)), (12, (1 : Int32)), (13, (0 : Int32)), (14, (0 : Int32)), (15, (0 : Int32)), (16, (0 : Int32)), (17, (S.1 17)), (18, (S.1 18)), (19, (S.1 19))] [] [(2, (S.2.2.1 2)), (3, (S.2.2.1 3)), (4, (S.2.2.1 4)), (5, (S.2.2.1 5)), (6, (S.2.2.1 6)), (7, (S.2.2.1 7))] [] []) kw0 kq0 kz0 ky0 ht h17 h0 c0)]
    dsimp only
    rw [ite_1]
    rw [bd_s (m_tkT (S := wd_o S [(3, (0 : Int32)), (6, (0 : Int32)), (10, (0 : Int32)), (11, (2 : Int32)), (12, (1 : Int32)), (13, (0 : Int32)), (14, (0 : Int32)), (15, (0 : Int32)), (16, (0 : Int32)), (17, nI (wB t n 0)), (18, (S.1 18)), (19, (S.1 19))] [] [(2, (S.2.2.1 2)), (3, (S.2.2.1 3)), (4, (S.2.2.1 4)), (5, (S.2.2.1 5)), (6, (S.2.2.1 6)), (7, (S.2.2.1 7))] [] []) kw0 kq0 kz0 ky0 ht rfl hq (by rw [eu]; exact c0)), eEE]
    dsimp only
    refine ok_bd (m_number (S := wd_o S [(3, (0 : Int32)), (6, (0 : Int32)), (10, (0 : Int32)), (11, (2 : Int32)), (12, (1 : Int32)), (13, (0 : Int32)), (14, (0 : Int32)), (15, (0 : Int32)), (16, (0 : Int32)), (17, nI (wE t n 0)), (18, (S.1 18)), (19, (S.1 19))] [] [(2, (S.2.2.1 2)), (3, (S.2.2.1 3)), (4, (S.2.2.1 4)), (5, (S.2.2.1 5)), (6, (S.2.2.1 6)), (7, (S.2.2.1 7))] [] []) ht rfl hqe h18 (lo := 2) rfl (by omega) (le_lit (N := 10) (by omega) rfl)) ?_
    rintro o ho
    cases hC : pNum t n (wE t n 0) 2 11 with
    | error f =>
      rw [hC] at ho hP
      rw [pb_er] at hP
      have ho1 : o.1 = nI 0 := ho.1
      rw [ho1, ite_0, ← hP]
      exact ok_some ⟨rfl, ho.2⟩
    | ok y =>
    obtain ⟨e, N⟩ := y
    rw [hC] at ho hP
    rw [pb_ok] at hP
    have ho : o = (nI 1, nI e, nI 0, nI N) := ho
    subst ho
    have kC := pNum_inv hC
    have en := pNum_le hqe hC
    dsimp only
    rw [ite_1]
    refine ok_lk17 (fun x5 x6 x7 x8 x9 x10 x11 x12 x13 x14 x15 a16 a17 a18 a19 a20 a21 => mKI t n (nI 1, nI e, nI 0, nI N) P x5 x6 x7 x8 x9 x10 x11 x12 x13 x14 a16 a17 a18 a19 a20 a21) (fun K hK => ?_) ?_
    · refine m_clauses (o4 := (nI 1, nI e, nI 0, nI N)) ht (wd_o S [(3, (0 : Int32)), (6, (0 : Int32)), (10, (0 : Int32)), (11, nI N), (12, (1 : Int32)), (13, (0 : Int32)), (14, (0 : Int32)), (15, (0 : Int32)), (16, (0 : Int32))] [] [] [] []) en rfl hP.symm ?_ K hK (fun f x3 x6 x10 x12 x13 x14 x15 x16 x17 x19 a2 a3 a4 a5 a6 a7 hf => ?_)
      · exact ⟨L0_ok (by omega) (by omega), ⟨⟨rfl, rfl, rfl, rfl, rfl, rfl, rfl, rfl, rfl⟩, fun j hj => absurd hj (Nat.not_lt_zero j), fun j hj => absurd hj (Nat.not_lt_zero j), fun j hj => absurd hj (Nat.not_lt_zero j)⟩, Nat.zero_le _, fun _ => ⟨rfl, rfl, rfl⟩⟩
      · rw [hf]
        exact ok_some ⟨rfl, rfl⟩
    · rintro _ _ _ _ _ _ _ _ _ _ x15 _ _ _ _ _ _ ⟨U, e2, d, L, ⟨rfl, rfl, rfl, rfl, rfl, rfl, rfl, rfl, rfl, rfl, rfl, rfl, rfl, rfl⟩, hU, rfl, rfl, e2n, hI⟩
      have hs := m_see59 (t := t) (n := n) (q := wB t n e2) (fun z => (ht.2.2 _ z).1)
      rw [bd_s (m_see (S := wd_o S [(3, U.1 3), (6, U.1 6), (10, U.1 10), (11, nI N), (12, U.1 12), (13, U.1 13), (14, U.1 14), (15, U.1 15), (16, U.1 16), (17, nI e2), (18, nI 0), (19, x15)] [] [(2, U.2.2.1 2), (3, U.2.2.1 3), (4, U.2.2.1 4), (5, U.2.2.1 5), (6, U.2.2.1 6), (7, U.2.2.1 7)] [] []) ht rfl e2n)]
      dsimp only
      refine ok_ite (fun c => ?_) (fun c => ?_)
      · rcases hI with ⟨_, i2, i3⟩ | ⟨i1, _⟩
        · rw [i2]
          refine ok_some ⟨rfl, d, i3.1, ?_, i3.2.2⟩
          obtain ⟨⟨m1, m2, m3, m4, m5⟩, mk⟩ := i3.2.1
          exact ⟨⟨m1, m2, m3, hU.symm.trans m4, m5⟩, mk⟩
        · have := hs.2.mp c
          have := i1.1
          omega
      · rcases hI with ⟨i1, _⟩ | ⟨_, i2⟩
        · exact absurd (hs.2.mpr i1) c
        · rw [bd_s (m_fails (S := wd_o S [(3, U.1 3), (6, U.1 6), (10, U.1 10), (11, nI N), (12, U.1 12), (13, U.1 13), (14, U.1 14), (15, U.1 15), (16, U.1 16), (17, nI (wB t n e2)), (18, nI 0), (19, x15)] [] [(2, U.2.2.1 2), (3, U.2.2.1 3), (4, U.2.2.1 4), (5, U.2.2.1 5), (6, U.2.2.1 6), (7, U.2.2.1 7)] [] []) (q := wB t n e2) (k := 0) (p1 := (0 : Int32)) rfl rfl)]
          dsimp only
          rw [if_pos rfl, i2]
          exact ok_some ⟨rfl, rfl⟩
  · rw [if_neg c0] at hP
    rw [bd_s (m_uwF (S := wd_o S [(3, (0 : Int32)), (6, (0 : Int32)), (10, (0 : Int32)), (11, (2 : Int32)), (12, (1 : Int32)), (13, (0 : Int32)), (14, (0 : Int32)), (15, (0 : Int32)), (16, (0 : Int32)), (17, (S.1 17)), (18, (S.1 18)), (19, (S.1 19))] [] [(2, (S.2.2.1 2)), (3, (S.2.2.1 3)), (4, (S.2.2.1 4)), (5, (S.2.2.1 5)), (6, (S.2.2.1 6)), (7, (S.2.2.1 7))] [] []) kw0 kq0 kz0 ky0 ht h17 h0 c0)]
    dsimp only
    rw [ite_0]
    rw [bd_s (m_fails (S := wd_o S [(3, (0 : Int32)), (6, (0 : Int32)), (10, (0 : Int32)), (11, (2 : Int32)), (12, (1 : Int32)), (13, (0 : Int32)), (14, (0 : Int32)), (15, (0 : Int32)), (16, (0 : Int32)), (17, nI (wB t n 0)), (18, (S.1 18)), (19, (S.1 19))] [] [(2, (S.2.2.1 2)), (3, (S.2.2.1 3)), (4, (S.2.2.1 4)), (5, (S.2.2.1 5)), (6, (S.2.2.1 6)), (7, (S.2.2.1 7))] [] []) (q := wB t n 0) (k := 0) (p1 := (0 : Int32)) rfl h18)]
    dsimp only
    rw [gd_t okz_0, ← hP]
    exact ok_some ⟨rfl, rfl⟩
