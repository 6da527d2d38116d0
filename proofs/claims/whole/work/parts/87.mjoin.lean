/-! joined: the reference joins at a place, whole -/
theorem m_joinsAt {S : wd_W} {n p N : Nat} {A B : Nat → Nat} (hn : n ≤ 12) (hN : N ≤ 10) (h : mPc S n A B) (hA : ∀ k, k < n → A k < N ∧ B k < N) (hp : p < 10) (hsim : jSim A B n) :
    Ok (f_X12_joinsAt S (nI p)) (fun o => (o.1 = nI 0 ∧ (fb_ct (fun k => A k == p || B k == p) n = 0 ∨ 3 ≤ fb_ct (fun k => A k == p || B k == p) n) ∧ o.2.1 = nI n ∧ ∀ j, j < n → o.2.2.1 j = nI (A j) ∧ o.2.2.2 j = nI (B j)) ∨
      (o.1 = nI 1 ∧ 0 < n ∧ fb_ct (fun k => A k == p || B k == p) n ≤ 2 ∧ ∃ A' B' : Nat → Nat, o.2.1 = nI (n - 1) ∧ (∀ j, j < n - 1 → o.2.2.1 j = nI (A' j) ∧ o.2.2.2 j = nI (B' j)) ∧ jL A' B' (n - 1) = jE p (jL A B n) ∧ ∀ j, j < n - 1 → A' j < N ∧ B' j < N)) := by
  have h2 := h.2
  have h1 := h.1
  have hA10 : ∀ k, k < n → A k < 10 ∧ B k < 10 := fun k hk => by
    have := hA k hk
    exact ⟨by omega, by omega⟩
  unfold f_X12_joinsAt
  refine ok_lk ?_
  rw [li_0]
  refine m_found hn h hA10 hp _ _ ?_
  intro mm one two hf
  have hmm : mm ≤ 12 := by
    have := fb_ct_le (fun k => A k == p || B k == p) n
    have := hf.1
    omega
  obtain ⟨hc, hf⟩ := hf
  rw [← hc]
  have bnd : ∀ (A1 B1 : Nat → Nat) (k : Nat), k < n → (∀ j, j < n → A1 j < N ∧ B1 j < N) → ∀ j, j < n - 1 → upN A1 k (A1 (n - 1)) j < N ∧ upN B1 k (B1 (n - 1)) j < N := by
    intro A1 B1 k hk hb j hj
    by_cases e : j = k
    · subst e; rw [upN_s, upN_s]; exact hb (n - 1) (by omega)
    · rw [upN_n e, upN_n e]; exact hb j (by omega)
  refine ok_lk ?_
  have c1 : (nI mm = (1 : Int32)) ↔ mm = 1 := nI_eq (b := 1) (by omega) (by omega)
  have c2 : (nI mm = (2 : Int32)) ↔ mm = 2 := nI_eq (b := 2) (by omega) (by omega)
  by_cases e1 : mm = 1
  · obtain ⟨k1, a1, a2, a3, a4, a5⟩ := hf (by rw [e1]; exact Nat.le_refl 1)
    clear hf a5
    rw [if_pos (c1.mpr e1), if_neg (fun z => by have := c2.mp z; omega), a2]
    refine ok_bd (m_drops (S := wd_o S [(67, (S.1 67))] [] [(37, (S.2.2.1 37)), (38, (S.2.2.1 38))] [] []) hn h a1) ?_
    rintro ⟨o1, o2, o3⟩ ⟨w1, w2⟩
    exact ok_some (Or.inr ⟨rfl, by omega, by omega, _, _, w1, w2, jE_one a1 a3 (a4 e1), bnd A B k1 a1 hA⟩)
  · by_cases e2 : mm = 2
    · obtain ⟨k1, a1, a2, a3, _, a5⟩ := hf (by rw [e2]; exact Nat.le_succ 1)
      clear hf
      obtain ⟨k2, b1, b2, b3, b4, b5⟩ := a5 (by rw [e2]; exact Nat.le_refl 2)
      clear a5
      have b5 := b5 e2
      rw [if_neg (fun z => e1 (c1.mp z)), if_pos (c2.mpr e2), if_pos (c2.mpr e2), a2, b2]
      obtain ⟨d1, d2⟩ := h2 k1 a1
      obtain ⟨d3, d4⟩ := h2 k2 b1
      obtain ⟨r1, r2⟩ := hA k1 a1
      obtain ⟨r3, r4⟩ := hA k2 b1
      obtain ⟨s1, _⟩ := hsim k1 a1
      obtain ⟨s2, _⟩ := hsim k2 b1
      rw [gd_in (by omega) (by omega)]
      refine ok_lk ?_
      have q3 : ((S.2.2.1 37) (nI k2).toNatClampNeg = nI p) ↔ A k2 = p := by rw [nI_clamp (by omega), d3]; exact nI_eq (by omega) (by omega)
      have q1 : ((S.2.2.1 37) (nI k1).toNatClampNeg = nI p) ↔ A k1 = p := by rw [nI_clamp (by omega), d1]; exact nI_eq (by omega) (by omega)
      have fin : ∀ (c2v : Nat) (x8 : Int32), x8 = nI c2v → ((A k2 = p ∧ B k2 = c2v) ∨ (A k2 = c2v ∧ B k2 = p)) → Ok (gd (okx (nI k1) 12) <| lk (fun a11 a12 => bd (f_X12_drops (wd_o S [(67, (S.1 67))] [] [(37, a11), (38, a12)] [] []) (nI k2)) fun o14 => some ((1 : Int32), o14.1, o14.2.1, o14.2.2)) fun k143_13 => if ((S.2.2.1 37) (nI k1).toNatClampNeg) = nI p then (gd (okx (nI k1) 12) <| lz (upd (S.2.2.1 37) (nI k1).toNatClampNeg x8) fun a18 => k143_13 a18 (S.2.2.1 38)) else (gd (okx (nI k1) 12) <| lz (upd (S.2.2.1 38) (nI k1).toNatClampNeg x8) fun a16 => k143_13 (S.2.2.1 37) a16))
        (fun (o : o_X12_joinsAt) => (o.1 = nI 0 ∧ (mm = 0 ∨ 3 ≤ mm) ∧ o.2.1 = nI n ∧ ∀ j, j < n → o.2.2.1 j = nI (A j) ∧ o.2.2.2 j = nI (B j)) ∨
      (o.1 = nI 1 ∧ 0 < n ∧ mm ≤ 2 ∧ ∃ A' B' : Nat → Nat, o.2.1 = nI (n - 1) ∧ (∀ j, j < n - 1 → o.2.2.1 j = nI (A' j) ∧ o.2.2.2 j = nI (B' j)) ∧ jL A' B' (n - 1) = jE p (jL A B n) ∧ ∀ j, j < n - 1 → A' j < N ∧ B' j < N)) := by
        intro c2v x8 hx hk2
        subst hx
        have n2 : c2v ≠ p := by
          intro e; subst e
          rcases hk2 with ⟨u1, u2⟩ | ⟨u1, u2⟩ <;> exact s2 (u1.trans u2.symm)
        have c2N : c2v < N := by
          rcases hk2 with ⟨u1, u2⟩ | ⟨u1, u2⟩
          · rw [← u2]; exact r4
          · rw [← u1]; exact r3
        rw [gd_in (by omega) (by omega)]
        refine ok_lk ?_
        have last : ∀ (A1 B1 : Nat → Nat) (a11 a12 : Nat → Int32) (c1v : Nat), (∀ k, k < n → a11 k = nI (A1 k) ∧ a12 k = nI (B1 k)) → ((A k1 = p ∧ B k1 = c1v) ∨ (A k1 = c1v ∧ B k1 = p)) → ((A1 k1 = c1v ∧ B1 k1 = c2v) ∨ (A1 k1 = c2v ∧ B1 k1 = c1v)) → (∀ j, j ≠ k1 → A1 j = A j ∧ B1 j = B j) → Ok (bd (f_X12_drops (wd_o S [(67, (S.1 67))] [] [(37, a11), (38, a12)] [] []) (nI k2)) fun o14 => some ((1 : Int32), o14.1, o14.2.1, o14.2.2))
          (fun (o : o_X12_joinsAt) => (o.1 = nI 0 ∧ (mm = 0 ∨ 3 ≤ mm) ∧ o.2.1 = nI n ∧ ∀ j, j < n → o.2.2.1 j = nI (A j) ∧ o.2.2.2 j = nI (B j)) ∨
      (o.1 = nI 1 ∧ 0 < n ∧ mm ≤ 2 ∧ ∃ A' B' : Nat → Nat, o.2.1 = nI (n - 1) ∧ (∀ j, j < n - 1 → o.2.2.1 j = nI (A' j) ∧ o.2.2.2 j = nI (B' j)) ∧ jL A' B' (n - 1) = jE p (jL A B n) ∧ ∀ j, j < n - 1 → A' j < N ∧ B' j < N)) := by
          intro A1 B1 a11 a12 c1v hrow hk1 hA1 hoth
          have n1 : c1v ≠ p := by
            intro e; subst e
            rcases hk1 with ⟨u1, u2⟩ | ⟨u1, u2⟩ <;> exact s1 (u1.trans u2.symm)
          have c1N : c1v < N := by
            rcases hk1 with ⟨u1, u2⟩ | ⟨u1, u2⟩
            · rw [← u2]; exact r2
            · rw [← u1]; exact r1
          refine ok_bd (m_drops (S := wd_o S [(67, (S.1 67))] [] [(37, a11), (38, a12)] [] []) hn ⟨h1, hrow⟩ b1) ?_
          rintro ⟨o1, o2, o3⟩ ⟨w1, w2⟩
          refine ok_some (Or.inr ⟨rfl, by omega, by omega, _, _, w1, w2, jE_two a1 b1 b3 hk1 hk2 n1 n2 b5 hA1 hoth, bnd A1 B1 k2 b1 (fun j hj => ?_)⟩)
          by_cases e : j = k1
          · subst e
            rcases hA1 with ⟨u1, u2⟩ | ⟨u1, u2⟩
            · rw [u1, u2]; exact ⟨c1N, c2N⟩
            · rw [u1, u2]; exact ⟨c2N, c1N⟩
          · obtain ⟨o1, o2⟩ := hoth j e
            rw [o1, o2]; exact hA j hj
        refine ok_ite (fun z => ?_) (fun z => ?_)
        · have z := q1.mp z
          rw [gd_in (by omega) (by omega), nI_clamp (by omega)]
          refine ok_lz (last (upN A k1 c2v) B (upd (S.2.2.1 37) k1 (nI c2v)) (S.2.2.1 38) (B k1) (fun k hk => ?_) (Or.inl ⟨z, rfl⟩) (Or.inr ⟨upN_s _ _ _, rfl⟩) (fun j hj => ⟨upN_n hj, rfl⟩))
          by_cases e : k = k1
          · subst e; rw [pk_us, upN_s]; exact ⟨rfl, d2⟩
          · rw [pk_un e, upN_n e]; exact h2 k hk
        · have z : ¬ A k1 = p := fun w => z (q1.mpr w)
          have zb : B k1 = p := by
            rcases a3 with w | w
            · exact absurd w z
            · exact w
          rw [gd_in (by omega) (by omega), nI_clamp (by omega)]
          refine ok_lz (last A (upN B k1 c2v) (S.2.2.1 37) (upd (S.2.2.1 38) k1 (nI c2v)) (A k1) (fun k hk => ?_) (Or.inr ⟨rfl, zb⟩) (Or.inl ⟨rfl, upN_s _ _ _⟩) (fun j hj => ⟨rfl, upN_n hj⟩))
          by_cases e : k = k1
          · subst e; rw [pk_us, upN_s]; exact ⟨d1, rfl⟩
          · rw [pk_un e, upN_n e]; exact h2 k hk
      refine ok_ite (fun z => ?_) (fun z => ?_)
      · have z := q3.mp z
        rw [gd_in (by omega) (by omega)]
        exact fin (B k2) _ (by rw [nI_clamp (by omega), d4]) (Or.inl ⟨z, rfl⟩)
      · have z : ¬ A k2 = p := fun w => z (q3.mpr w)
        have zb : B k2 = p := by
          rcases b4 with w | w
          · exact absurd w z
          · exact w
        rw [gd_in (by omega) (by omega)]
        exact fin (A k2) _ (by rw [nI_clamp (by omega), d3]) (Or.inr ⟨rfl, zb⟩)
    · clear hf
      rw [if_neg (fun z => e1 (c1.mp z)), if_neg (fun z => e2 (c2.mp z))]
      exact ok_some (Or.inl ⟨rfl, by omega, h1, h2⟩)
