/-! the reference: two ways, and whether it is through -/
theorem flow_z {A B bo us : Nat → Nat} {op K a : Nat} (h : ∀ k, k < K → us k = 0) : flow A B bo op K us a a := by
  refine ⟨fun k hk => by rw [h k hk]; omega, fun k hk q => absurd (h k hk) q, fun k hk q => by rw [h k hk] at q; omega, fun X => ?_⟩
  have : fb_si (crs A B us X) K = fb_si (fun _ => 0) K := fb_si_cong (fun k hk => by simp [crs, h k hk])
  rw [this]
  have h2 := fb_si_mul 0 (fun _ => 0) K
  simp only [Int.zero_mul] at h2
  rw [h2]; omega
/-- what the way back does to a line -/
def trW (B : Nat → Nat) (us : Nat → Nat) (k p : Nat) : Nat := if us k = 0 then (if B k = p then 1 else 2) else 0
theorem m_trace {S : wd_W} {N nl op m a b : Nat} {A B bo dy us : Nat → Nat} {ar g : Nat → Int32} (hG : mG S N nl op A B bo dy) (hm : m < 2 ^ N) (ha : a < N) (hb : m.testBit b = true)
    (hus : ∀ k, k < nl + 1 → us k ≤ 2) {rk pv : Nat → Nat} (hT : oT A B bo us op a (m, ar) rk pv) (hrk : ∀ v, rk v < 1000000) :
    Ok (it2 (f_X12_oneMore_L274 S (nI a) ar) fuel (nI b) (awN us g (nl + 1))) (fun o => o.1 = nI 1 ∧ ∃ us' : Nat → Nat, (∀ k, k < nl + 1 → o.2.2 k = nI (us' k) ∧ us' k ≤ 2) ∧ ((∀ k, k < nl + 1 → us k = 0) → flow A B bo op (nl + 1) us' a b)) := by
  obtain ⟨h20, h21, h39, hN, hnl, hop, hk⟩ := hG
  refine ok_while (W := fun n (s : Nat × (Nat → Nat)) => it2 (f_X12_oneMore_L274 S (nI a) ar) n (nI s.1) (awN s.2 g (nl + 1)))
    (I := fun s => m.testBit s.1 = true ∧ (∀ k, k < nl + 1 → s.2 k ≤ 2) ∧ ((∀ k, k < nl + 1 → us k = 0) → flow A B bo op (nl + 1) s.2 s.1 b ∧ ∀ k, k < nl + 1 → s.2 k ≠ 0 → ∃ q, m.testBit q = true ∧ q ≠ a ∧ ar q = nI k ∧ rk s.1 < rk q))
    (μ := fun s => rk s.1) (s := (b, us)) ⟨hb, hus, fun h0 => ⟨flow_z h0, fun k hk' q => absurd (h0 k hk') q⟩⟩ (by have := hrk b; dsimp only; omega) ?_
  intro n s hI ih
  obtain ⟨p, u⟩ := s
  obtain ⟨i1, i2, i3⟩ := hI
  dsimp only at i1 i2 i3 ih
  have hpN := tb_in hm i1
  show Ok (f_X12_oneMore_L274 S (nI a) ar (it2 _ n) (nI p) (awN u g (nl + 1))) _
  generalize it2 (f_X12_oneMore_L274 S (nI a) ar) n = r at ih
  unfold f_X12_oneMore_L274
  simp (disch := omega) only [nI_eq]
  refine ok_ite (fun hpa => ?_) (fun hpa => ?_)
  · subst hpa
    refine ok_some ⟨rfl, u, fun k hk' => ⟨awN_at hk', i2 k hk'⟩, fun h0 => (i3 h0).1⟩
  · obtain ⟨k, k1, k2, k3, k4, k5⟩ := hT p i1 hpa
    dsimp only at k1 k3
    have hkK := tb_in hop k2
    obtain ⟨k8, k9, k11, k12, hAN, hBN, hAB, hbo, _, _⟩ := hk k k2
    have hu2 := i2 k hkK
    have hnext : Ok (r (nI (pv p)) (awN (upN u k (trW B u k p)) g (nl + 1))) (fun o => o.1 = nI 1 ∧ ∃ us' : Nat → Nat, (∀ k, k < nl + 1 → o.2.2 k = nI (us' k) ∧ us' k ≤ 2) ∧ ((∀ k, k < nl + 1 → us k = 0) → flow A B bo op (nl + 1) us' a b)) := by
      refine ih (pv p, upN u k (trW B u k p)) ⟨k3, fun j hj => ?_, fun h0 => ?_⟩ k4
      · by_cases e : j = k
        · subst e; dsimp only; rw [upN_s]; unfold trW; split
          · split <;> omega
          · omega
        · dsimp only; rw [upN_n e]; exact i2 j hj
      · obtain ⟨f1, f2⟩ := i3 h0
        have hz : u k = 0 := by
          apply Classical.byContradiction
          intro hne
          obtain ⟨q, q1, q2, q3, q4⟩ := f2 k hkK hne
          obtain ⟨k', e1, e2, e3, e4, e5⟩ := hT q q1 q2
          dsimp only at e1 e3
          rw [q3] at e1
          have hk'K := tb_in hop e2
          rw [nI_eq (by omega) (by omega)] at e1
          subst e1
          have hqp : q ≠ p := by intro z; subst z; omega
          have : pv p = q := by
            rcases k5 with ⟨_, x1, x2⟩ | ⟨_, x1, x2⟩ <;> rcases e5 with ⟨_, y1, y2⟩ | ⟨_, y1, y2⟩
            · exact absurd (by rw [← y2, x2]) hqp
            · rw [← x1, y2]
            · rw [← x1, y2]
            · exact absurd (by rw [← y2, x2]) hqp
          rw [this] at k4
          omega
        have huk := h0 k hkK
        refine ⟨?_, ?_⟩
        · dsimp only
          refine flow_step f1 hkK k2 hz ?_
          unfold trW
          rw [if_pos hz]
          rcases k5 with ⟨_, x1, x2⟩ | ⟨x0, x1, x2⟩
          · left; rw [if_pos x2]; exact ⟨rfl, x1, x2⟩
          · right
            have hb0 : bo k ≠ 0 := by
              rcases x0 with x0 | ⟨_, x0⟩
              · omega
              · exact x0
            rw [if_neg (by intro z; apply hAB; omega)]
            exact ⟨rfl, hb0, x1, x2⟩
        · intro j hj hne
          dsimp only at hne ⊢
          by_cases e : j = k
          · subst e; exact ⟨p, i1, hpa, k1, k4⟩
          · rw [upN_n e] at hne
            obtain ⟨q, q1, q2, q3, q4⟩ := f2 j hj hne
            exact ⟨q, q1, q2, q3, by omega⟩
    rw [← awN_upd hkK] at hnext
    rw [gd_in (by omega) (by omega)]
    refine ok_lz ?_
    rw [nI_clamp (by omega), k1, gd_in (by omega) (by omega)]
    simp (disch := omega) only [nI_clamp, k8, k9, nI_eq, awN_at, gd_in, oI_le0]
    have n1 : ¬ nI 1 = nI 0 := by decide
    unfold trW at hnext
    rcases k5 with ⟨_, x1, x2⟩ | ⟨_, x1, x2⟩
    · rw [if_pos x2] at hnext
      rw [← x1] at hnext
      by_cases c0 : u k = 0
      · rw [if_pos c0] at hnext
        simp (disch := omega) only [lk, lz, x2, c0, li_1, li_0, li_2, if_pos, if_neg, n1, gd_in, nI_clamp, k8, k9]
        simpa using hnext
      · rw [if_neg c0] at hnext
        simp (disch := omega) only [lk, lz, x2, c0, li_1, li_0, li_2, if_pos, if_neg, n1, gd_in, nI_clamp, k8, k9]
        simpa using hnext
    · have x3 : ¬ B k = p := by intro z; apply hAB; omega
      rw [if_neg x3] at hnext
      rw [← x1] at hnext
      by_cases c0 : u k = 0
      · rw [if_pos c0] at hnext
        simp (disch := omega) only [lk, lz, x3, c0, li_1, li_0, li_2, if_pos, if_neg, n1, gd_in, nI_clamp, k8, k9]
        simpa using hnext
      · rw [if_neg c0] at hnext
        simp (disch := omega) only [lk, lz, x3, c0, li_1, li_0, li_2, if_pos, if_neg, n1, gd_in, nI_clamp, k8, k9]
        simpa using hnext
