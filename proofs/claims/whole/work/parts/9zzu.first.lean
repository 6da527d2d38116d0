/-! the first states of both sides -/
def st00 : Sta := (L0 2, fun _ _ => 0, (-1, -1), fun _ => none, (0, fun _ => 0))
theorem xw_first : XW S0X st00 := by
  have h0 : ld3 (L0 2) := L0_ok (Nat.le_refl _) (by omega)
  have no : ∀ {P : Nat → Prop} (k : Nat), k < 0 → P k := fun k hk => absurd hk (Nat.not_lt_zero k)
  refine ⟨⟨⟨⟨h0.1, h0.2, ⟨⟨Nat.zero_le _, no⟩, Nat.zero_le _, no⟩⟩, ⟨⟨rfl, rfl, rfl, rfl, rfl, rfl, rfl, rfl⟩, no, no, no⟩, ⟨rfl, rfl, no, no⟩, ⟨rfl, rfl⟩, ?_⟩, 0, by omega, rfl, fun b _ h => ?_⟩, ⟨rfl, rfl⟩, ⟨0, by omega, rfl, fun i _ => ⟨Nat.zero_testBit i, fun L T h => by cases h⟩⟩, rfl, Nat.zero_le _, no⟩
  · exact ⟨⟨0, 0, by omega, by omega, rfl, rfl, rfl, rfl⟩, ⟨0, by omega, rfl⟩, ⟨0, by omega, rfl, rfl, rfl, rfl⟩, ⟨0, by omega, rfl⟩, ⟨0, by omega, rfl⟩, ⟨0, by omega, rfl⟩⟩
  · rw [Nat.zero_testBit] at h; cases h
theorem mw_first : ∃ o : o_X12_takes, f_X12_takes S1M = some o ∧ MW (S2M o) st00 := by
  have h0 : ld3 (L0 2) := L0_ok (Nat.le_refl _) (by omega)
  have no : ∀ {P : Nat → Prop} (k : Nat), k < 0 → P k := fun k hk => absurd hk (Nat.not_lt_zero k)
  have hm : mRd S1M (L0 2) 0 := ⟨⟨rfl, rfl, rfl, rfl, rfl, rfl, rfl, rfl, rfl⟩, no, no, no⟩
  obtain ⟨o, ho, r1, r2, r3, r4, r5, r6, r7⟩ := m_rtakes h0 hm
  exact ⟨o, ho, ⟨⟨h0.1, h0.2, ⟨Nat.zero_le _, no⟩, Nat.zero_le _, no⟩, r1, r2, ⟨r5, r7, no, no⟩⟩, Or.inl r4, Or.inl ⟨r6, rfl⟩, fun i _ => ⟨rfl, fun L T h => by cases h⟩, rfl, no⟩
theorem first : ∃ o : o_X12_takes, f_X12_takes S1M = some o ∧ RW S0X (S2M o) := by
  obtain ⟨o, ho, h⟩ := mw_first
  exact ⟨o, ho, st00, xw_first, h⟩
