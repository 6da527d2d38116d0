/-! restore, the reference's -/
theorem m_gets {S : wd_W} {q : Nat} {v : Int32} (h : S.1 80 = nI q) (hq : q < 800) (hv : S.2.2.1 46 q = v) : f_X12_gets S = some (v, nI (q + 1)) := by
  unfold f_X12_gets
  have e : nI (q + 1) - (1 : Int32) = nI q := by rw [li_1, pk_sub (by omega), Nat.add_sub_cancel]
  rw [h, nI_1, lz_eq, e, gd_in hq (by omega), nI_clamp (by omega), hv]
/-- what restore leaves as it is -/
def FRs (S S' : wd_W) : Prop := (S'.2.2.1 46 = S.2.2.1 46 ∧ S'.2.2.1 47 = S.2.2.1 47) ∧ S'.1 1 = S.1 1 ∧ S'.2.2.1 1 = S.2.2.1 1
def b01 (x : Int32) : Int32 := if x = 1 then 1 else 0
def HDs (f : Nat → Int32) (S' : wd_W) : Prop := S'.1 20 = f 0 ∧ S'.1 21 = f 1 ∧ S'.1 30 = f 2 ∧ S'.1 31 = f 3 ∧ S'.1 32 = f 4 ∧ S'.1 34 = f 5 ∧ S'.1 35 = f 6 ∧ S'.1 36 = f 7 ∧ S'.1 37 = f 8 ∧ S'.1 51 = f 9 ∧ S'.1 60 = f 10
def LNs (f : Nat → Int32) (n : Nat) (S' : wd_W) : Prop := ∀ i, i < n → S'.2.2.1 8 i = f (11 + 6 * i) ∧ S'.2.2.1 9 i = f (12 + 6 * i) ∧ S'.2.2.1 10 i = f (13 + 6 * i) ∧ S'.2.2.1 11 i = b01 (f (14 + 6 * i)) ∧ S'.2.2.1 12 i = f (15 + 6 * i) ∧ S'.2.2.1 13 i = f (16 + 6 * i)
def PLs (f : Nat → Int32) (n : Nat) (S' : wd_W) : Prop := ∀ i, i < n → S'.2.2.1 14 i = f (83 + 2 * i) ∧ S'.2.2.1 15 i = f (84 + 2 * i)
def CHs (f : Nat → Int32) (n : Nat) (S' : wd_W) : Prop := ∀ i, i < n → S'.2.2.1 16 i = f (103 + i)
def MNs (f : Nat → Int32) (n : Nat) (S' : wd_W) : Prop := ∀ i, i < n → S'.2.2.1 27 i = f (118 + 3 * i) ∧ S'.2.2.1 28 i = f (119 + 3 * i) ∧ S'.2.2.1 29 i = f (120 + 3 * i)
def LTs (f : Nat → Int32) (n : Nat) (S' : wd_W) : Prop := ∀ i, i < n → S'.2.2.1 32 i = f (145 + 3 * i) ∧ S'.2.2.1 33 i = f (146 + 3 * i) ∧ S'.2.2.1 34 i = b01 (f (147 + 3 * i))
theorem m_restoreW {S : wd_W} {p : Nat} {f : Nat → Int32} (hp : p < 4) (h47 : S.2.2.1 47 p = 1) (hf : ∀ j, f j = S.2.2.1 46 (200 * p + j)) :
    Ok (f_X12_restore S (nI p)) (fun o => o.1 = f 4 ∧ FRs S o.2 ∧ HDs f o.2 ∧ LNs f 12 o.2 ∧ PLs f 10 o.2 ∧ CHs f 15 o.2 ∧ MNs f 9 o.2 ∧ LTs f 6 o.2 ∧ o.2.1 55 = 0 ∧ o.2.1 44 = 0) := by
  have hf' : ∀ (S' : wd_W) (j q : Nat), FRs S S' → q = 200 * p + j → S'.2.2.1 46 q = f j := by
    intro S' j q hF hq
    rw [hF.1.1, hq, hf]
  unfold f_X12_restore
  rw [lN_0, show (3 : Int64) = lN 3 from rfl, bd_s (m_inN (by omega) (by omega))]
  have hin : inB ((0 : Nat) : Int) ((3 : Nat) : Int) (nI p) = true := by rw [inB_n (by omega)]; exact decide_eq_true (by omega)
  rw [hin, if_neg (show ¬ nI (b2n true) = 0 from n1_ne), gd_in (by omega) (by omega), nI_clamp (by omega), h47, if_neg (show ¬ (1 : Int32) = 0 by decide), li_200, nI_mulR]
  refine ok_lz ?_
  refine ok_bd (P := fun o => o = (f 0, nI (200 * p + 0 + 1))) (ok_eq (m_gets (q := 200 * p + 0) (v := f 0) ?_ (by omega) ?_)) ?_
  · exact rfl
  · exact hf' _ _ _ ⟨⟨rfl, rfl⟩, rfl, rfl⟩ rfl
  rintro _ rfl
  dsimp only
  refine ok_lz (ok_lz ?_)
  refine ok_bd (P := fun o => o = (f 1, nI (200 * p + 1 + 1))) (ok_eq (m_gets (q := 200 * p + 1) (v := f 1) ?_ (by omega) ?_)) ?_
  · exact rfl
  · exact hf' _ _ _ ⟨⟨rfl, rfl⟩, rfl, rfl⟩ rfl
  rintro _ rfl
  dsimp only
  refine ok_lz (ok_lz ?_)
  refine ok_bd (P := fun o => o = (f 2, nI (200 * p + 2 + 1))) (ok_eq (m_gets (q := 200 * p + 2) (v := f 2) ?_ (by omega) ?_)) ?_
  · exact rfl
  · exact hf' _ _ _ ⟨⟨rfl, rfl⟩, rfl, rfl⟩ rfl
  rintro _ rfl
  dsimp only
  refine ok_lz (ok_lz ?_)
  refine ok_bd (P := fun o => o = (f 3, nI (200 * p + 3 + 1))) (ok_eq (m_gets (q := 200 * p + 3) (v := f 3) ?_ (by omega) ?_)) ?_
  · exact rfl
  · exact hf' _ _ _ ⟨⟨rfl, rfl⟩, rfl, rfl⟩ rfl
  rintro _ rfl
  dsimp only
  refine ok_lz (ok_lz ?_)
  refine ok_bd (P := fun o => o = (f 4, nI (200 * p + 4 + 1))) (ok_eq (m_gets (q := 200 * p + 4) (v := f 4) ?_ (by omega) ?_)) ?_
  · exact rfl
  · exact hf' _ _ _ ⟨⟨rfl, rfl⟩, rfl, rfl⟩ rfl
  rintro _ rfl
  dsimp only
  refine ok_lz (ok_lz ?_)
  refine ok_bd (P := fun o => o = (f 5, nI (200 * p + 5 + 1))) (ok_eq (m_gets (q := 200 * p + 5) (v := f 5) ?_ (by omega) ?_)) ?_
  · exact rfl
  · exact hf' _ _ _ ⟨⟨rfl, rfl⟩, rfl, rfl⟩ rfl
  rintro _ rfl
  dsimp only
  refine ok_lz (ok_lz ?_)
  refine ok_bd (P := fun o => o = (f 6, nI (200 * p + 6 + 1))) (ok_eq (m_gets (q := 200 * p + 6) (v := f 6) ?_ (by omega) ?_)) ?_
  · exact rfl
  · exact hf' _ _ _ ⟨⟨rfl, rfl⟩, rfl, rfl⟩ rfl
  rintro _ rfl
  dsimp only
  refine ok_lz (ok_lz ?_)
  refine ok_bd (P := fun o => o = (f 7, nI (200 * p + 7 + 1))) (ok_eq (m_gets (q := 200 * p + 7) (v := f 7) ?_ (by omega) ?_)) ?_
  · exact rfl
  · exact hf' _ _ _ ⟨⟨rfl, rfl⟩, rfl, rfl⟩ rfl
  rintro _ rfl
  dsimp only
  refine ok_lz (ok_lz ?_)
  refine ok_bd (P := fun o => o = (f 8, nI (200 * p + 8 + 1))) (ok_eq (m_gets (q := 200 * p + 8) (v := f 8) ?_ (by omega) ?_)) ?_
  · exact rfl
  · exact hf' _ _ _ ⟨⟨rfl, rfl⟩, rfl, rfl⟩ rfl
  rintro _ rfl
  dsimp only
  refine ok_lz (ok_lz ?_)
  refine ok_bd (P := fun o => o = (f 9, nI (200 * p + 9 + 1))) (ok_eq (m_gets (q := 200 * p + 9) (v := f 9) ?_ (by omega) ?_)) ?_
  · exact rfl
  · exact hf' _ _ _ ⟨⟨rfl, rfl⟩, rfl, rfl⟩ rfl
  rintro _ rfl
  dsimp only
  refine ok_lz (ok_lz ?_)
  refine ok_bd (P := fun o => o = (f 10, nI (200 * p + 10 + 1))) (ok_eq (m_gets (q := 200 * p + 10) (v := f 10) ?_ (by omega) ?_)) ?_
  · exact rfl
  · exact hf' _ _ _ ⟨⟨rfl, rfl⟩, rfl, rfl⟩ rfl
  rintro _ rfl
  dsimp only
  refine ok_lz ?_
  rw [li_0]
  refine ok_lk1 (fun S' => S'.1 80 = nI (200 * p + 83) ∧ FRs S S' ∧ HDs f S' ∧ LNs f 12 S') (fun K hK => ?_) (fun S36 h36 => ok_lk1 (fun S' => S'.1 80 = nI (200 * p + 103) ∧ FRs S S' ∧ HDs f S' ∧ LNs f 12 S' ∧ PLs f 10 S') (fun K hK => ?_) (fun S38 h38 => ok_lk1 (fun S' => S'.1 80 = nI (200 * p + 118) ∧ FRs S S' ∧ HDs f S' ∧ LNs f 12 S' ∧ PLs f 10 S' ∧ CHs f 15 S') (fun K hK => ?_) (fun S40 h40 => ok_lk1 (fun S' => S'.1 80 = nI (200 * p + 145) ∧ FRs S S' ∧ HDs f S' ∧ LNs f 12 S' ∧ PLs f 10 S' ∧ CHs f 15 S' ∧ MNs f 9 S') (fun K hK => ?_) (fun S42 h42 => ok_lk1 (fun S' => FRs S S' ∧ HDs f S' ∧ LNs f 12 S' ∧ PLs f 10 S' ∧ CHs f 15 S' ∧ MNs f 9 S' ∧ LTs f 6 S') (fun K hK => ?_) (fun S44 h44 => ?_)))))
  · refine ok_for0 (W := fun m i (S' : wd_W) => it2 (f_X12_restore_L122 K) m (nI i) S') (I := fun i S' => S'.1 80 = nI (200 * p + (11 + 6 * i)) ∧ FRs S S' ∧ HDs f S' ∧ LNs f i S') (e := 12) (by omega) ⟨rfl, ⟨⟨rfl, rfl⟩, rfl, rfl⟩, ⟨rfl, rfl, rfl, rfl, rfl, rfl, rfl, rfl, rfl, rfl, rfl⟩, fun j hj => absurd hj (Nat.not_lt_zero j)⟩ ?_ ?_
    · intro m S' hI
      show Ok (f_X12_restore_L122 K _ (nI 12) S') _
      unfold f_X12_restore_L122
      rw [if_pos (show (12 : Int32) ≤ nI 12 by decide)]
      exact hK _ hI
    · rintro m i S' hi ⟨i0, i1, c0, i3⟩ ih
      show Ok (f_X12_restore_L122 K (it2 _ m) (nI i) S') _
      generalize it2 (f_X12_restore_L122 K) m = r at ih
      unfold f_X12_restore_L122
      rw [li_12, if_neg (nI_ge hi (by omega))]
      refine ok_bd (P := fun o => o = (f (11 + 6 * i), nI (200 * p + (11 + 6 * i) + 0 + 1))) (ok_eq (m_gets (q := 200 * p + (11 + 6 * i) + 0) (v := f (11 + 6 * i)) ?_ (by omega) ?_)) ?_
      · exact i0
      · exact hf' _ _ _ i1 (by omega)
      rintro _ rfl
      dsimp only
      refine ok_lz ?_
      rw [gd_in (by omega) (by omega)]
      refine ok_lz ?_
      refine ok_lz ?_
      refine ok_bd (P := fun o => o = (f (12 + 6 * i), nI (200 * p + (11 + 6 * i) + 1 + 1))) (ok_eq (m_gets (q := 200 * p + (11 + 6 * i) + 1) (v := f (12 + 6 * i)) ?_ (by omega) ?_)) ?_
      · exact rfl
      · exact hf' _ _ _ i1 (by omega)
      rintro _ rfl
      dsimp only
      refine ok_lz ?_
      rw [gd_in (by omega) (by omega)]
      refine ok_lz ?_
      refine ok_lz ?_
      refine ok_bd (P := fun o => o = (f (13 + 6 * i), nI (200 * p + (11 + 6 * i) + 2 + 1))) (ok_eq (m_gets (q := 200 * p + (11 + 6 * i) + 2) (v := f (13 + 6 * i)) ?_ (by omega) ?_)) ?_
      · exact rfl
      · exact hf' _ _ _ i1 (by omega)
      rintro _ rfl
      dsimp only
      refine ok_lz ?_
      rw [gd_in (by omega) (by omega)]
      refine ok_lz ?_
      refine ok_lz ?_
      refine ok_bd (P := fun o => o = (f (14 + 6 * i), nI (200 * p + (11 + 6 * i) + 3 + 1))) (ok_eq (m_gets (q := 200 * p + (11 + 6 * i) + 3) (v := f (14 + 6 * i)) ?_ (by omega) ?_)) ?_
      · exact rfl
      · exact hf' _ _ _ i1 (by omega)
      rintro _ rfl
      dsimp only
      refine ok_lk2 (fun a b => a = b01 (f (14 + 6 * i)) ∧ b = nI i) (fun K2 hK2 => ?_) ?_
      · refine ok_ite (fun c => hK2 _ _ ⟨?_, rfl⟩) (fun c => hK2 _ _ ⟨?_, rfl⟩)
        · unfold b01; rw [if_pos c]
        · unfold b01; rw [if_neg c]
      rintro _ _ ⟨rfl, rfl⟩
      refine ok_lz ?_
      rw [gd_in (by omega) (by omega)]
      refine ok_lz ?_
      refine ok_lz ?_
      refine ok_bd (P := fun o => o = (f (15 + 6 * i), nI (200 * p + (11 + 6 * i) + 4 + 1))) (ok_eq (m_gets (q := 200 * p + (11 + 6 * i) + 4) (v := f (15 + 6 * i)) ?_ (by omega) ?_)) ?_
      · exact rfl
      · exact hf' _ _ _ i1 (by omega)
      rintro _ rfl
      dsimp only
      refine ok_lz ?_
      rw [gd_in (by omega) (by omega)]
      refine ok_lz ?_
      refine ok_lz ?_
      refine ok_bd (P := fun o => o = (f (16 + 6 * i), nI (200 * p + (11 + 6 * i) + 5 + 1))) (ok_eq (m_gets (q := 200 * p + (11 + 6 * i) + 5) (v := f (16 + 6 * i)) ?_ (by omega) ?_)) ?_
      · exact rfl
      · exact hf' _ _ _ i1 (by omega)
      rintro _ rfl
      dsimp only
      refine ok_lz ?_
      rw [gd_in (by omega) (by omega)]
      refine ok_lz ?_
      rw [nI_1, nI_clamp (by omega)]
      have eb : vp_nar .boolean (b01 (f (14 + 6 * i))) = b01 (f (14 + 6 * i)) := by unfold b01; split <;> rfl
      rw [eb]
      refine ih _ ⟨congrArg nI (by omega), i1, c0, fun j hj => ?_⟩
      show upd (S'.2.2.1 8) i (f (11 + 6 * i)) j = f (11 + 6 * j) ∧ upd (S'.2.2.1 9) i (f (12 + 6 * i)) j = f (12 + 6 * j) ∧ upd (S'.2.2.1 10) i (f (13 + 6 * i)) j = f (13 + 6 * j) ∧ upd (S'.2.2.1 11) i (b01 (f (14 + 6 * i))) j = b01 (f (14 + 6 * j)) ∧ upd (S'.2.2.1 12) i (f (15 + 6 * i)) j = f (15 + 6 * j) ∧ upd (S'.2.2.1 13) i (f (16 + 6 * i)) j = f (16 + 6 * j)
      by_cases e : j = i
      · subst e; rw [pk_us, pk_us, pk_us, pk_us, pk_us, pk_us]; exact ⟨rfl, rfl, rfl, rfl, rfl, rfl⟩
      · rw [pk_un e, pk_un e, pk_un e, pk_un e, pk_un e, pk_un e]; exact i3 j (by omega)
  · refine ok_for0 (W := fun m i (S' : wd_W) => it2 (f_X12_restore_L205 K) m (nI i) S') (I := fun i S' => S'.1 80 = nI (200 * p + (83 + 2 * i)) ∧ FRs S S' ∧ HDs f S' ∧ LNs f 12 S' ∧ PLs f i S') (e := 10) (s := S36) (by omega) ⟨h36.1, h36.2.1, h36.2.2.1, h36.2.2.2, fun j hj => absurd hj (Nat.not_lt_zero j)⟩ ?_ ?_
    · intro m S' hI
      show Ok (f_X12_restore_L205 K _ (nI 10) S') _
      unfold f_X12_restore_L205
      rw [if_pos (show (10 : Int32) ≤ nI 10 by decide)]
      exact hK _ hI
    · rintro m i S' hi ⟨i0, i1, c0, c1, i3⟩ ih
      show Ok (f_X12_restore_L205 K (it2 _ m) (nI i) S') _
      generalize it2 (f_X12_restore_L205 K) m = r at ih
      unfold f_X12_restore_L205
      rw [li_10, if_neg (nI_ge hi (by omega))]
      refine ok_bd (P := fun o => o = (f (83 + 2 * i), nI (200 * p + (83 + 2 * i) + 0 + 1))) (ok_eq (m_gets (q := 200 * p + (83 + 2 * i) + 0) (v := f (83 + 2 * i)) ?_ (by omega) ?_)) ?_
      · exact i0
      · exact hf' _ _ _ i1 (by omega)
      rintro _ rfl
      dsimp only
      refine ok_lz ?_
      rw [gd_in (by omega) (by omega)]
      refine ok_lz ?_
      refine ok_lz ?_
      refine ok_bd (P := fun o => o = (f (84 + 2 * i), nI (200 * p + (83 + 2 * i) + 1 + 1))) (ok_eq (m_gets (q := 200 * p + (83 + 2 * i) + 1) (v := f (84 + 2 * i)) ?_ (by omega) ?_)) ?_
      · exact rfl
      · exact hf' _ _ _ i1 (by omega)
      rintro _ rfl
      dsimp only
      refine ok_lz ?_
      rw [gd_in (by omega) (by omega)]
      refine ok_lz ?_
      rw [nI_1, nI_clamp (by omega)]
      refine ih _ ⟨congrArg nI (by omega), i1, c0, c1, fun j hj => ?_⟩
      show upd (S'.2.2.1 14) i (f (83 + 2 * i)) j = f (83 + 2 * j) ∧ upd (S'.2.2.1 15) i (f (84 + 2 * i)) j = f (84 + 2 * j)
      by_cases e : j = i
      · subst e; rw [pk_us, pk_us]; exact ⟨rfl, rfl⟩
      · rw [pk_un e, pk_un e]; exact i3 j (by omega)
  · refine ok_for0 (W := fun m i (S' : wd_W) => it2 (f_X12_restore_L239 K) m (nI i) S') (I := fun i S' => S'.1 80 = nI (200 * p + (103 + i)) ∧ FRs S S' ∧ HDs f S' ∧ LNs f 12 S' ∧ PLs f 10 S' ∧ CHs f i S') (e := 15) (s := S38) (by omega) ⟨h38.1, h38.2.1, h38.2.2.1, h38.2.2.2.1, h38.2.2.2.2, fun j hj => absurd hj (Nat.not_lt_zero j)⟩ ?_ ?_
    · intro m S' hI
      show Ok (f_X12_restore_L239 K _ (nI 15) S') _
      unfold f_X12_restore_L239
      rw [if_pos (show (15 : Int32) ≤ nI 15 by decide)]
      exact hK _ hI
    · rintro m i S' hi ⟨i0, i1, c0, c1, c2, i3⟩ ih
      show Ok (f_X12_restore_L239 K (it2 _ m) (nI i) S') _
      generalize it2 (f_X12_restore_L239 K) m = r at ih
      unfold f_X12_restore_L239
      rw [li_15, if_neg (nI_ge hi (by omega))]
      refine ok_bd (P := fun o => o = (f (103 + i), nI (200 * p + (103 + i) + 0 + 1))) (ok_eq (m_gets (q := 200 * p + (103 + i) + 0) (v := f (103 + i)) ?_ (by omega) ?_)) ?_
      · exact i0
      · exact hf' _ _ _ i1 (by omega)
      rintro _ rfl
      dsimp only
      refine ok_lz ?_
      rw [gd_in (by omega) (by omega)]
      refine ok_lz ?_
      rw [nI_1, nI_clamp (by omega)]
      refine ih _ ⟨congrArg nI (by omega), i1, c0, c1, c2, fun j hj => ?_⟩
      show upd (S'.2.2.1 16) i (f (103 + i)) j = f (103 + j)
      by_cases e : j = i
      · subst e; rw [pk_us]
      · rw [pk_un e]; exact i3 j (by omega)
  · refine ok_for0 (W := fun m i (S' : wd_W) => it2 (f_X12_restore_L263 K) m (nI i) S') (I := fun i S' => S'.1 80 = nI (200 * p + (118 + 3 * i)) ∧ FRs S S' ∧ HDs f S' ∧ LNs f 12 S' ∧ PLs f 10 S' ∧ CHs f 15 S' ∧ MNs f i S') (e := 9) (s := S40) (by omega) ⟨h40.1, h40.2.1, h40.2.2.1, h40.2.2.2.1, h40.2.2.2.2.1, h40.2.2.2.2.2, fun j hj => absurd hj (Nat.not_lt_zero j)⟩ ?_ ?_
    · intro m S' hI
      show Ok (f_X12_restore_L263 K _ (nI 9) S') _
      unfold f_X12_restore_L263
      rw [if_pos (show (9 : Int32) ≤ nI 9 by decide)]
      exact hK _ hI
    · rintro m i S' hi ⟨i0, i1, c0, c1, c2, c3, i3⟩ ih
      show Ok (f_X12_restore_L263 K (it2 _ m) (nI i) S') _
      generalize it2 (f_X12_restore_L263 K) m = r at ih
      unfold f_X12_restore_L263
      rw [li_9, if_neg (nI_ge hi (by omega))]
      refine ok_bd (P := fun o => o = (f (118 + 3 * i), nI (200 * p + (118 + 3 * i) + 0 + 1))) (ok_eq (m_gets (q := 200 * p + (118 + 3 * i) + 0) (v := f (118 + 3 * i)) ?_ (by omega) ?_)) ?_
      · exact i0
      · exact hf' _ _ _ i1 (by omega)
      rintro _ rfl
      dsimp only
      refine ok_lz ?_
      rw [gd_in (by omega) (by omega)]
      refine ok_lz ?_
      refine ok_lz ?_
      refine ok_bd (P := fun o => o = (f (119 + 3 * i), nI (200 * p + (118 + 3 * i) + 1 + 1))) (ok_eq (m_gets (q := 200 * p + (118 + 3 * i) + 1) (v := f (119 + 3 * i)) ?_ (by omega) ?_)) ?_
      · exact rfl
      · exact hf' _ _ _ i1 (by omega)
      rintro _ rfl
      dsimp only
      refine ok_lz ?_
      rw [gd_in (by omega) (by omega)]
      refine ok_lz ?_
      refine ok_lz ?_
      refine ok_bd (P := fun o => o = (f (120 + 3 * i), nI (200 * p + (118 + 3 * i) + 2 + 1))) (ok_eq (m_gets (q := 200 * p + (118 + 3 * i) + 2) (v := f (120 + 3 * i)) ?_ (by omega) ?_)) ?_
      · exact rfl
      · exact hf' _ _ _ i1 (by omega)
      rintro _ rfl
      dsimp only
      refine ok_lz ?_
      rw [gd_in (by omega) (by omega)]
      refine ok_lz ?_
      rw [nI_1, nI_clamp (by omega)]
      refine ih _ ⟨congrArg nI (by omega), i1, c0, c1, c2, c3, fun j hj => ?_⟩
      show upd (S'.2.2.1 27) i (f (118 + 3 * i)) j = f (118 + 3 * j) ∧ upd (S'.2.2.1 28) i (f (119 + 3 * i)) j = f (119 + 3 * j) ∧ upd (S'.2.2.1 29) i (f (120 + 3 * i)) j = f (120 + 3 * j)
      by_cases e : j = i
      · subst e; rw [pk_us, pk_us, pk_us]; exact ⟨rfl, rfl, rfl⟩
      · rw [pk_un e, pk_un e, pk_un e]; exact i3 j (by omega)
  · refine ok_for0 (W := fun m i (S' : wd_W) => it2 (f_X12_restore_L307 K) m (nI i) S') (I := fun i S' => S'.1 80 = nI (200 * p + (145 + 3 * i)) ∧ FRs S S' ∧ HDs f S' ∧ LNs f 12 S' ∧ PLs f 10 S' ∧ CHs f 15 S' ∧ MNs f 9 S' ∧ LTs f i S') (e := 6) (s := S42) (by omega) ⟨h42.1, h42.2.1, h42.2.2.1, h42.2.2.2.1, h42.2.2.2.2.1, h42.2.2.2.2.2.1, h42.2.2.2.2.2.2, fun j hj => absurd hj (Nat.not_lt_zero j)⟩ ?_ ?_
    · intro m S' hI
      show Ok (f_X12_restore_L307 K _ (nI 6) S') _
      unfold f_X12_restore_L307
      rw [if_pos (show (6 : Int32) ≤ nI 6 by decide)]
      exact hK _ hI.2
    · rintro m i S' hi ⟨i0, i1, c0, c1, c2, c3, c4, i3⟩ ih
      show Ok (f_X12_restore_L307 K (it2 _ m) (nI i) S') _
      generalize it2 (f_X12_restore_L307 K) m = r at ih
      unfold f_X12_restore_L307
      rw [li_6, if_neg (nI_ge hi (by omega))]
      refine ok_bd (P := fun o => o = (f (145 + 3 * i), nI (200 * p + (145 + 3 * i) + 0 + 1))) (ok_eq (m_gets (q := 200 * p + (145 + 3 * i) + 0) (v := f (145 + 3 * i)) ?_ (by omega) ?_)) ?_
      · exact i0
      · exact hf' _ _ _ i1 (by omega)
      rintro _ rfl
      dsimp only
      refine ok_lz ?_
      rw [gd_in (by omega) (by omega)]
      refine ok_lz ?_
      refine ok_lz ?_
      refine ok_bd (P := fun o => o = (f (146 + 3 * i), nI (200 * p + (145 + 3 * i) + 1 + 1))) (ok_eq (m_gets (q := 200 * p + (145 + 3 * i) + 1) (v := f (146 + 3 * i)) ?_ (by omega) ?_)) ?_
      · exact rfl
      · exact hf' _ _ _ i1 (by omega)
      rintro _ rfl
      dsimp only
      refine ok_lz ?_
      rw [gd_in (by omega) (by omega)]
      refine ok_lz ?_
      refine ok_lz ?_
      refine ok_bd (P := fun o => o = (f (147 + 3 * i), nI (200 * p + (145 + 3 * i) + 2 + 1))) (ok_eq (m_gets (q := 200 * p + (145 + 3 * i) + 2) (v := f (147 + 3 * i)) ?_ (by omega) ?_)) ?_
      · exact rfl
      · exact hf' _ _ _ i1 (by omega)
      rintro _ rfl
      dsimp only
      refine ok_lk2 (fun a b => a = b01 (f (147 + 3 * i)) ∧ b = nI i) (fun K2 hK2 => ?_) ?_
      · refine ok_ite (fun c => hK2 _ _ ⟨?_, rfl⟩) (fun c => hK2 _ _ ⟨?_, rfl⟩)
        · unfold b01; rw [if_pos c]
        · unfold b01; rw [if_neg c]
      rintro _ _ ⟨rfl, rfl⟩
      refine ok_lz ?_
      rw [gd_in (by omega) (by omega)]
      refine ok_lz ?_
      rw [nI_1, nI_clamp (by omega)]
      have eb : vp_nar .boolean (b01 (f (147 + 3 * i))) = b01 (f (147 + 3 * i)) := by unfold b01; split <;> rfl
      rw [eb]
      refine ih _ ⟨congrArg nI (by omega), i1, c0, c1, c2, c3, c4, fun j hj => ?_⟩
      show upd (S'.2.2.1 32) i (f (145 + 3 * i)) j = f (145 + 3 * j) ∧ upd (S'.2.2.1 33) i (f (146 + 3 * i)) j = f (146 + 3 * j) ∧ upd (S'.2.2.1 34) i (b01 (f (147 + 3 * i))) j = b01 (f (147 + 3 * j))
      by_cases e : j = i
      · subst e; rw [pk_us, pk_us, pk_us]; exact ⟨rfl, rfl, rfl⟩
      · rw [pk_un e, pk_un e, pk_un e]; exact i3 j (by omega)
  · obtain ⟨a1, a2, a3, a4, a5, a6, a7⟩ := h44
    exact ok_some ⟨a2.2.2.2.2.1, a1, a2, a3, a4, a5, a6, a7, rfl, rfl⟩
