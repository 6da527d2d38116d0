/-! the developers' land, whole -/
theorem cpL_16_3 (S : wd_W) : f_X2_copyOf_q16_q3 S = some (S.1 300, S.1 301, S.1 307, S.1 310, S.1 314, S.1 315, S.1 316, S.1 317, va_cpy (S.2.2.1 4) (S.2.2.1 17) 0 0 13, va_cpy (S.2.2.1 5) (S.2.2.1 18) 0 0 13, va_cpy (S.2.2.1 6) (S.2.2.1 19) 0 0 13, va_cpy (S.2.2.1 7) (S.2.2.1 20) 0 0 13, va_cpy (S.2.2.1 8) (S.2.2.1 21) 0 0 13, va_cpy (S.2.2.1 9) (S.2.2.1 22) 0 0 10, va_cpy (S.2.2.1 10) (S.2.2.1 23) 0 0 10, va_cpy (S.2.2.1 11) (S.2.2.1 24) 0 0 3, va_cpy (S.2.2.1 12) (S.2.2.1 25) 0 0 3, va_cpy (S.2.2.1 13) (S.2.2.1 26) 0 0 3) := rfl
def lanA (t : Nat × (Nat → Nat)) : Int32 := match pLand t.2 t.1 with
  | .ok L => nI (l_M L)
  | .error f => -2 - nI f
def lanS (st : Sta) : Sta := match pLand st.2.2.2.2.2 st.2.2.2.2.1 with
  | .ok K => (K, fun _ _ => 0, (-1, -1), st.2.2.2.1, (0, st.2.2.2.2.2))
  | .error _ => (st.1, st.2.1, st.2.2.1, st.2.2.2.1, (0, st.2.2.2.2.2))
theorem x_land {S : wd_W} {st : Sta} (h : XW S st) : Ok (f_X11_land S) (fun o => o.1 = lanA st.2.2.2.2 ∧ xW S (lanS st) o.2 0 0) := by
  obtain ⟨L, T, M, I, n, t⟩ := st
  have h0 := h
  obtain ⟨⟨hC, k, hk, h7, hn⟩, hm, hi, ht1, ht2, ht3⟩ := h
  dsimp only at hC hn hm hi ht1 ht2 ht3 ⊢
  unfold f_X11_land lanA lanS
  dsimp only
  refine ok_bd (x_readLand (S := wd_o S [(300, (S.1 300)), (301, (S.1 301)), (307, (S.1 307)), (310, (S.1 310)), (314, (S.1 314)), (315, (S.1 315)), (316, (S.1 316)), (317, (S.1 317)), (1402, (S.1 1402)), (1403, (S.1 1403)), (1404, (S.1 1404)), (1405, (S.1 1405))] [] [(4, (S.2.2.1 4)), (5, (S.2.2.1 5)), (6, (S.2.2.1 6)), (7, (S.2.2.1 7)), (8, (S.2.2.1 8)), (9, (S.2.2.1 9)), (10, (S.2.2.1 10)), (11, (S.2.2.1 11)), (12, (S.2.2.1 12)), (13, (S.2.2.1 13))] [] []) (n := n) (t := t) ⟨ht1, ht2, ht3⟩) ?_
  rintro ⟨x0, y0, y1, y7, y10, y14, y15, y16, y17, z2, z3, z4, z5, A4, A5, A6, A7, A8, A9, A10, A11, A12, A13⟩ ⟨g, K, e0, hR, hg⟩
  dsimp only at e0 hg ⊢
  subst e0
  have hg16 : g < 2 ^ 16 := hR.1
  refine ok_lz ?_
  refine ok_ite (fun z => ?_) (fun z => ?_)
  · rw [oI_z (by omega)] at z
    subst z
    rw [ct_0 hR]
    obtain ⟨hK, hx⟩ := hg rfl
    refine ok_lz ?_
    rw [bd_s (cpL_16_3 _)]
    refine ok_lz ?_
    unfold f_X6_clear_q27 f_X11_forget
    rw [bd_some]
    refine ok_lz ?_
    rw [bd_some]
    have hx16 : ∀ U : wd_W, U.1 1600 = y0 → U.1 1601 = y1 → U.1 1607 = y7 → U.1 1610 = y10 → U.1 1614 = y14 → U.1 1615 = y15 → U.1 1616 = y16 → U.1 1617 = y17 → (∀ k, k < 13 → U.2.2.1 17 k = A4 k) → (∀ k, k < 13 → U.2.2.1 18 k = A5 k) → (∀ k, k < 13 → U.2.2.1 19 k = A6 k) → (∀ k, k < 13 → U.2.2.1 20 k = A7 k) → (∀ k, k < 13 → U.2.2.1 21 k = A8 k) → (∀ k, k < 10 → U.2.2.1 22 k = A9 k) → (∀ k, k < 10 → U.2.2.1 23 k = A10 k) → (∀ k, k < 3 → U.2.2.1 24 k = A11 k) → (∀ k, k < 3 → U.2.2.1 25 k = A12 k) → (∀ k, k < 3 → U.2.2.1 26 k = A13 k) → xL U 16 K := by
      intro U u0 u1 u7 u10 u14 u15 u16 u17 v0 v1 v2 v3 v4 v5 v6 v7 v8 v9
      refine xL_cp (c0 := 3) hK.1 hK.2 hx u0 u1 u7 u10 u14 u15 u16 u17 v0 v1 v2 v3 v4 v5 v6 v7 v8 v9
    refine ok_bd (P := fun o => o = nI (l_M K)) (ok_eq (x_things ?_)) ?_
    · exact hx16 _ rfl rfl rfl rfl rfl rfl rfl rfl (fun k hk => (cpy_in hk : va_cpy A4 (S.2.2.1 17) 0 0 13 k = A4 k)) (fun k hk => (cpy_in hk : va_cpy A5 (S.2.2.1 18) 0 0 13 k = A5 k)) (fun k hk => (cpy_in hk : va_cpy A6 (S.2.2.1 19) 0 0 13 k = A6 k)) (fun k hk => (cpy_in hk : va_cpy A7 (S.2.2.1 20) 0 0 13 k = A7 k)) (fun k hk => (cpy_in hk : va_cpy A8 (S.2.2.1 21) 0 0 13 k = A8 k)) (fun k hk => (cpy_in hk : va_cpy A9 (S.2.2.1 22) 0 0 10 k = A9 k)) (fun k hk => (cpy_in hk : va_cpy A10 (S.2.2.1 23) 0 0 10 k = A10 k)) (fun k hk => (cpy_in hk : va_cpy A11 (S.2.2.1 24) 0 0 3 k = A11 k)) (fun k hk => (cpy_in hk : va_cpy A12 (S.2.2.1 25) 0 0 3 k = A12 k)) (fun k hk => (cpy_in hk : va_cpy A13 (S.2.2.1 26) 0 0 3 k = A13 k))
    rintro _ rfl
    refine ok_some ⟨rfl, ⟨⟨⟨⟨hK.1, hK.2, ⟨⟨Nat.zero_le _, fun j hj => absurd hj (Nat.not_lt_zero j)⟩, Nat.zero_le _, fun j hj => absurd hj (Nat.not_lt_zero j)⟩⟩, hx16 _ rfl rfl rfl rfl rfl rfl rfl rfl (fun k hk => (cpy_in hk : va_cpy A4 (S.2.2.1 17) 0 0 13 k = A4 k)) (fun k hk => (cpy_in hk : va_cpy A5 (S.2.2.1 18) 0 0 13 k = A5 k)) (fun k hk => (cpy_in hk : va_cpy A6 (S.2.2.1 19) 0 0 13 k = A6 k)) (fun k hk => (cpy_in hk : va_cpy A7 (S.2.2.1 20) 0 0 13 k = A7 k)) (fun k hk => (cpy_in hk : va_cpy A8 (S.2.2.1 21) 0 0 13 k = A8 k)) (fun k hk => (cpy_in hk : va_cpy A9 (S.2.2.1 22) 0 0 10 k = A9 k)) (fun k hk => (cpy_in hk : va_cpy A10 (S.2.2.1 23) 0 0 10 k = A10 k)) (fun k hk => (cpy_in hk : va_cpy A11 (S.2.2.1 24) 0 0 3 k = A11 k)) (fun k hk => (cpy_in hk : va_cpy A12 (S.2.2.1 25) 0 0 3 k = A12 k)) (fun k hk => (cpy_in hk : va_cpy A13 (S.2.2.1 26) 0 0 3 k = A13 k)), ⟨rfl, rfl, fun j hj => absurd hj (Nat.not_lt_zero j), fun j hj => absurd hj (Nat.not_lt_zero j)⟩, hC.2.2.2.1, hC.2.2.2.2⟩, 0, by omega, rfl, fun b _ hbt => ?_⟩, ⟨rfl, rfl⟩, ?_, rfl, Nat.zero_le _, fun i hi => absurd hi (Nat.not_lt_zero i)⟩, Nat.zero_le _, Nat.le_of_eq (Nat.zero_add _)⟩
    · rw [Nat.zero_testBit] at hbt
      cases hbt
    · exact XIm_o (XIm_o (XIm_o (XIm_o (XIm_o hi rfl rfl) rfl rfl) rfl rfl) rfl rfl) rfl rfl
  · rw [oI_z (by omega)] at z
    have hE : pLand t n = .error g := by
      rcases hR.2 with w | w
      · exact absurd w.1 z
      · exact w.2
    rw [hE]
    refine ok_some ⟨rfl, ⟨⟨hC, k, hk, h7, fun b hb hbt => ?_⟩, hm, ?_, rfl, Nat.zero_le _, fun i hi => absurd hi (Nat.not_lt_zero i)⟩, Nat.zero_le _, Nat.le_of_eq (Nat.zero_add _)⟩
    · have hp := hn b hb hbt
      match b, hp with
      | 0, hp => exact hp
      | 1, hp => exact hp
      | 2, hp => exact hp
      | 3, hp => exact hp
      | 4, hp => exact hp
      | 5, hp => exact hp
      | 6, hp => exact hp
      | 7, hp => exact hp
      | _ + 8, hp => exact hp
    · exact XIm_o (XIm_o hi rfl rfl) rfl rfl
