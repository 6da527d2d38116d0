/-! joined: the reference, whole -/
theorem m_areEnds {S : wd_W} {N a b : Nat} (h20 : S.1 20 = nI N) (hN : 2 ≤ N) (hN2 : N ≤ 10) (ha : a < N) (hb : b < N) (hab : a ≠ b) : f_X12_areEnds S (nI a) (nI b) = some 1 := by
  unfold f_X12_areEnds
  have nb : ¬ nI (b2n true) = 0 := n1_ne
  have e : (nI N - (1 : Int32)).toInt64 = lN (N - 1) := by rw [li_1, oI_sub1 (by omega), nI_l (by omega)]
  have d1 : decide (0 ≤ a ∧ a ≤ N - 1) = true := by simp; omega
  have d2 : decide (0 ≤ b ∧ b ≤ N - 1) = true := by simp; omega
  rw [h20, e, show (0 : Int64) = lN 0 from rfl, bd_s (m_in_n (by omega) (by omega) (by omega)), bd_s (m_in_n (by omega) (by omega) (by omega)), d1, d2, if_neg nb, if_neg nb, if_neg (by rw [nI_eq (by omega) (by omega)]; exact hab)]
theorem m_joined {S : wd_W} {L : Ld} {a b : Nat} (hL : lOk L) (hl : mL S L) (ha : a < l_N L) (hb : b < l_N L) (hab : a ≠ b) :
    Ok (f_X12_joined S (nI a) (nI b)) (fun o => ∃ k y n, jS a b (l_N L) k (jL (l_A L) (l_B L) (l_n L)) y ∧ jN a b (l_N L) y ∧ o.1 = nI n ∧ jT y (l_N L) = 2 * n) := by
  obtain ⟨⟨g1, g2, g3, g4, g5, g6⟩, gk, gj, gu, gc, gw⟩ := hL
  obtain ⟨⟨h20, h21, _⟩, hk, _, _⟩ := hl
  unfold f_X12_joined
  rw [bd_s (m_areEnds (S := wd_o S [(67, (S.1 67))] [] [(37, (S.2.2.1 37)), (38, (S.2.2.1 38))] [] []) h20 g1 g2 ha hb hab), if_neg (show ¬ (1 : Int32) = 0 by decide), lz_eq]
  refine ok_lk ?_
  rw [li_0]
  refine ok_for0 (W := fun m i (x : (Nat → Int32) × (Nat → Int32)) => it3 (f_X12_joined_L21 S _) m (nI i) x.1 x.2) (I := fun i x => ∀ j, j < i → x.1 j = nI (l_A L j) ∧ x.2 j = nI (l_B L j)) (e := l_n L) (s := (S.2.2.1 37, S.2.2.1 38)) (by omega) (fun j hj => by omega) ?_ ?_
  · rintro m ⟨a3, a4⟩ hI
    dsimp only at hI
    show Ok (f_X12_joined_L21 S _ _ (nI (l_n L)) a3 a4) _
    unfold f_X12_joined_L21
    rw [h21, if_pos (nI_le (Nat.le_refl _) (by omega))]
    refine ok_lk ?_
    refine ok_while (W := fun m (x : Nat × Nat × (Nat → Int32) × (Nat → Int32)) => it4 (f_X12_joined_L61 S (nI a) (nI b) _) m (nI x.1) (nI x.2.1) x.2.2.1 x.2.2.2)
      (I := fun x => x.1 ≤ 1 ∧ x.2.1 ≤ 12 ∧ ∃ (A B : Nat → Nat) (k : Nat), (∀ j, j < x.2.1 → x.2.2.1 j = nI (A j) ∧ x.2.2.2 j = nI (B j)) ∧ (∀ j, j < x.2.1 → A j < l_N L ∧ B j < l_N L) ∧ jS a b (l_N L) k (jL (l_A L) (l_B L) (l_n L)) (jL A B x.2.1) ∧ (x.1 = 0 → jSim A B x.2.1 ∧ jN a b (l_N L) (jL A B x.2.1)))
      (μ := fun x => 2 * x.2.1 + x.1) (s := (1, l_n L, a3, a4)) ⟨Nat.le_refl 1, g3, l_A L, l_B L, 0, hI, fun j hj => ⟨(gk j hj).1, (gk j hj).2.1⟩, rfl, fun z => by cases z⟩ (by dsimp only; omega) ?_
    rintro m ⟨mo, n, aa, ab⟩ ⟨i1, i2, A, B, k, i3, i4, i5, i6⟩ ih
    dsimp only at i1 i2 i3 i4 i5 i6 ih
    show Ok (f_X12_joined_L61 S (nI a) (nI b) _ (it4 (f_X12_joined_L61 S (nI a) (nI b) _) m) (nI mo) (nI n) aa ab) _
    generalize it4 (f_X12_joined_L61 S (nI a) (nI b) _) m = r at ih
    unfold f_X12_joined_L61
    refine ok_ite (fun z => ?_) (fun z => ?_)
    · have z : mo = 0 := (oI_z (by omega)).mp z
      obtain ⟨q1, q2⟩ := i6 z
      exact ok_some ⟨k, _, n, i5, q2, rfl, jT_sim n i4 q1⟩
    · have hmo : mo = 1 := by
        have : ¬ mo = 0 := fun w => z ((oI_z (by omega)).mpr w)
        omega
      subst hmo
      refine ok_bd (m_dropsOne (S := wd_o S [(67, nI n)] [] [(37, aa), (38, ab)] [] []) (n := n) i2 ⟨rfl, i3⟩ (fun j hj => by have := i4 j hj; exact ⟨by omega, by omega⟩)) ?_
      rintro ⟨o1, o2, o3, o4⟩ ho
      dsimp only at ho ⊢
      refine ok_lk ?_
      rcases ho with ⟨w1, w2, w3, w4⟩ | ⟨w1, w0, A', B', w3, w4, w5, w6⟩
      · subst w1; subst w3
        rw [li_0]
        refine ok_while (W := fun m (x : Nat × Nat × Nat × (Nat → Int32) × (Nat → Int32)) => it5 (f_X12_joined_L73 S (nI a) (nI b) _) m (nI x.1) (nI x.2.1) (nI x.2.2.1) x.2.2.2.1 x.2.2.2.2)
          (I := fun x => x.2.1 ≤ l_N L ∧ ((x.1 = 0 ∧ x.2.2.1 = n ∧ (∀ j, j < n → x.2.2.2.1 j = nI (A j) ∧ x.2.2.2.2 j = nI (B j)) ∧ ∀ q, q < x.2.1 → q ≠ a → q ≠ b → (fb_ct (fun k => A k == q || B k == q) n = 0 ∨ 3 ≤ fb_ct (fun k => A k == q || B k == q) n)) ∨
            (x.1 = 1 ∧ 0 < n ∧ x.2.2.1 = n - 1 ∧ ∃ (A' B' : Nat → Nat) (k' : Nat), (∀ j, j < n - 1 → x.2.2.2.1 j = nI (A' j) ∧ x.2.2.2.2 j = nI (B' j)) ∧ (∀ j, j < n - 1 → A' j < l_N L ∧ B' j < l_N L) ∧ jS a b (l_N L) k' (jL (l_A L) (l_B L) (l_n L)) (jL A' B' (n - 1)))))
          (μ := fun x => l_N L - x.2.1) (s := (0, 0, n, o3, o4)) ⟨Nat.zero_le _, Or.inl ⟨rfl, rfl, w4, fun q hq => by cases hq⟩⟩ (by dsimp only; omega) ?_
        rintro m2 ⟨fl, p, n', ca, cb⟩ ⟨j1, j2⟩ ih2
        dsimp only at j1 j2 ih2
        show Ok (f_X12_joined_L73 S (nI a) (nI b) _ (it5 (f_X12_joined_L73 S (nI a) (nI b) _) m2) (nI fl) (nI p) (nI n') ca cb) _
        generalize it5 (f_X12_joined_L73 S (nI a) (nI b) _) m2 = r2 at ih2
        unfold f_X12_joined_L73
        rw [h20]
        have out1 : (fl = 1 ∧ 0 < n ∧ n' = n - 1 ∧ ∃ (A' B' : Nat → Nat) (k' : Nat), (∀ j, j < n - 1 → ca j = nI (A' j) ∧ cb j = nI (B' j)) ∧ (∀ j, j < n - 1 → A' j < l_N L ∧ B' j < l_N L) ∧ jS a b (l_N L) k' (jL (l_A L) (l_B L) (l_n L)) (jL A' B' (n - 1))) → Ok (r (nI fl) (nI n') ca cb) (fun o => ∃ k y n, jS a b (l_N L) k (jL (l_A L) (l_B L) (l_n L)) y ∧ jN a b (l_N L) y ∧ o.1 = nI n ∧ jT y (l_N L) = 2 * n) := by
          rintro ⟨u1, u2, u3, A', B', k', u4, u5, u6⟩
          subst u1; subst u3
          exact ih (1, n - 1, ca, cb) ⟨Nat.le_refl 1, by dsimp only; omega, A', B', k', u4, u5, u6, fun z => by cases z⟩ (by dsimp only; omega)
        refine ok_ite (fun z => ?_) (fun z => ?_)
        · rw [nI_leI (by omega) (by omega)] at z
          rcases j2 with ⟨u1, u2, u3, u4⟩ | u
          · subst u1; subst u2
            refine ih (0, n', ca, cb) ⟨by dsimp only; omega, i2, A, B, k, u3, i4, i5, fun _ => ⟨w2, fun p' hp' => ?_⟩⟩ (by dsimp only; omega)
            have hdeg := jSim_deg (p := p') n' i4 w2
            have hd := hp'.2.2.2
            rw [hdeg] at hd
            have hu := u4 p' (by have := hp'.1; omega) hp'.2.1 hp'.2.2.1
            exact jE_none (jL_good i4) (by rw [hdeg]; omega)
          · exact out1 u
        · rw [nI_leI (by omega) (by omega)] at z
          rcases j2 with ⟨u1, u2, u3, u4⟩ | u
          · subst u1; subst u2
            refine ok_ite (fun _ => ?_) (fun y => absurd rfl y)
            rw [nI_1]
            refine ok_lk (ok_lk ?_)
            have skip : (∀ q, q < p + 1 → q ≠ a → q ≠ b → (fb_ct (fun k => A k == q || B k == q) n' = 0 ∨ 3 ≤ fb_ct (fun k => A k == q || B k == q) n')) → ∀ ca' cb' : Nat → Int32, (∀ j, j < n' → ca' j = nI (A j) ∧ cb' j = nI (B j)) → Ok (r2 (nI 0) (nI (p + 1)) (nI n') ca' cb') (fun o => ∃ k y n, jS a b (l_N L) k (jL (l_A L) (l_B L) (l_n L)) y ∧ jN a b (l_N L) y ∧ o.1 = nI n ∧ jT y (l_N L) = 2 * n) := by
              intro hq ca' cb' hr
              exact ih2 (0, p + 1, n', ca', cb') ⟨by dsimp only; omega, Or.inl ⟨rfl, rfl, hr, hq⟩⟩ (by dsimp only; omega)
            have ext : (p ≠ a → p ≠ b → (fb_ct (fun k => A k == p || B k == p) n' = 0 ∨ 3 ≤ fb_ct (fun k => A k == p || B k == p) n')) → ∀ q, q < p + 1 → q ≠ a → q ≠ b → (fb_ct (fun k => A k == q || B k == q) n' = 0 ∨ 3 ≤ fb_ct (fun k => A k == q || B k == q) n') := by
              intro hh q hq h1 h2
              by_cases e : q = p
              · subst e; exact hh h1 h2
              · exact u4 q (by omega) h1 h2
            refine ok_ite (fun c => ?_) (fun c => ok_ite (fun d => ?_) (fun d => ?_))
            · rw [nI_eq (by omega) (by omega)] at c
              exact skip (ext (fun h1 _ => absurd c h1)) ca cb u3
            · rw [nI_eq (by omega) (by omega)] at d
              exact skip (ext (fun _ h2 => absurd d h2)) ca cb u3
            · rw [nI_eq (by omega) (by omega)] at c d
              refine ok_bd (m_joinsAt (S := wd_o S [(67, nI n')] [] [(37, ca), (38, cb)] [] []) (n := n') (N := l_N L) i2 g2 ⟨rfl, u3⟩ i4 (by omega) w2) ?_
              rintro ⟨q1, q2, q3, q4⟩ hq
              dsimp only at hq ⊢
              rcases hq with ⟨v1, v2, v3, v4⟩ | ⟨v1, v0, v2, A', B', v3, v4, v5, v6⟩
              · subst v1; subst v3
                refine ok_ite (fun _ => ?_) (fun y => absurd rfl y)
                exact skip (ext (fun _ _ => v2)) q3 q4 v4
              · subst v1; subst v3
                refine ok_ite (fun y => absurd y n1_ne) (fun _ => ?_)
                have hdeg := jSim_deg (p := p) n' i4 w2
                have hstep : jS a b (l_N L) (k + 1) (jL (l_A L) (l_B L) (l_n L)) (jL A' B' (n' - 1)) := by
                  rw [v5]
                  exact jS_snoc k _ _ p i5 ⟨by omega, c, d, by rw [hdeg]; exact v2⟩
                exact ih2 (1, p + 1, n' - 1, q3, q4) ⟨by dsimp only; omega, Or.inr ⟨rfl, v0, rfl, A', B', k + 1, v4, v6, hstep⟩⟩ (by dsimp only; omega)
          · have hfl : fl = 1 := u.1
            refine ok_ite (fun y => ?_) (fun _ => out1 u)
            have : fl = 0 := (oI_z (by omega)).mp y
            omega
      · subst w1; subst w3
        obtain ⟨m2, hm2⟩ : ∃ m2, fuel = m2 + 1 := ⟨999999999999, rfl⟩
        rw [hm2]
        show Ok (f_X12_joined_L73 S (nI a) (nI b) _ _ (nI 1) 0 (nI (n - 1)) o3 o4) _
        unfold f_X12_joined_L73
        rw [h20, li_0, if_neg (nI_ge (by omega) (by omega))]
        refine ok_ite (fun y => absurd y n1_ne) (fun _ => ?_)
        refine ih (1, n - 1, o3, o4) ⟨Nat.le_refl 1, by dsimp only; omega, A', B', k, w4, fun j hj => ?_, by rw [w5]; exact i5, fun z => by cases z⟩ (by dsimp only; omega)
        obtain ⟨i, e1, e2, e3⟩ := w6 j hj
        rw [e2, e3]; exact i4 i e1
  · rintro m i ⟨a3, a4⟩ hi hI ih
    dsimp only at hI
    show Ok (f_X12_joined_L21 S _ (it3 (f_X12_joined_L21 S _) m) (nI i) a3 a4) _
    generalize it3 (f_X12_joined_L21 S _) m = r at ih
    unfold f_X12_joined_L21
    obtain ⟨k1, k2, _⟩ := hk i hi
    rw [h21, if_neg (nI_ge hi (by omega)), gd_in (by omega) (by omega), lz_eq, gd_in (by omega) (by omega), lz_eq, gd_in (by omega) (by omega), lz_eq, gd_in (by omega) (by omega), lz_eq, nI_clamp (by omega), k1, k2, nI_1]
    refine ih (upd a3 i (nI (l_A L i)), upd a4 i (nI (l_B L i))) (fun j hj => ?_)
    dsimp only
    by_cases e : j = i
    · subst e; rw [pk_us, pk_us]; exact ⟨rfl, rfl⟩
    · rw [pk_un e, pk_un e]; exact hI j (by omega)
/-- both sides answer the same -/
theorem joined_same {L : Ld} {a b k1 k2 n : Nat} {y1 y2 : Adj} (hG : jG (l_N L) (jL (l_A L) (l_B L) (l_n L))) (h1 : jS a b (l_N L) k1 (jL (l_A L) (l_B L) (l_n L)) y1) (n1 : jN a b (l_N L) y1) (h2 : jS a b (l_N L) k2 (jL (l_A L) (l_B L) (l_n L)) y2) (n2 : jN a b (l_N L) y2) (hT : jT y1 (l_N L) = 2 * n) : jT y2 (l_N L) / 2 = n := by
  have := jS_one k1 _ y1 hG h1 n1 k2 y2 h2 n2
  subst this
  omega
