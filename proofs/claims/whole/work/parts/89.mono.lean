/-! with more that holds it stays through -/
def sub (a b : Nat) : Prop := ∀ i, a.testBit i = true → b.testBit i = true
theorem alls_mono {f g : Nat → Bool} {n : Nat} (h : ∀ i, i < n → f i = true → g i = true) (hf : alls f n = true) : alls g n = true :=
  alls_iff.mpr (fun i hi => h i hi (alls_iff.mp hf i hi))
theorem stB_mono {L : Ld} {s s' p : Nat} (h : sub s s') (hs : stB L s p = true) : stB L s' p = true := by
  unfold stB at hs ⊢
  rw [Bool.and_eq_true] at hs ⊢
  refine ⟨alls_mono (fun i _ q => ?_) hs.1, alls_mono (fun i _ q => ?_) hs.2⟩
  · rw [Bool.or_eq_true] at q ⊢
    rcases q with q | q
    · exact Or.inl q
    · exact Or.inr (h _ q)
  · rw [Bool.or_eq_true] at q ⊢
    rcases q with q | q
    · exact Or.inl q
    · exact Or.inr (h _ q)
theorem opB_mono {L : Ld} {s s' k : Nat} (h : sub s s') (hs : opB L s k = true) : opB L s' k = true := by
  unfold opB at hs ⊢
  simp only [Bool.and_eq_true] at hs ⊢
  obtain ⟨⟨q1, q2⟩, q3, q4⟩ := hs
  refine ⟨⟨h _ q1, alls_mono (fun i _ q => ?_) q2⟩, stB_mono h q3, stB_mono h q4⟩
  rw [Bool.or_eq_true] at q ⊢
  rcases q with q | q
  · exact Or.inl q
  · exact Or.inr (h _ q)
theorem opM_mono {L : Ld} {s s' : Nat} {mo mo' : Bool} (h : sub s s') (hm : mo = true → mo' = true) : sub (opM L s mo) (opM L s' mo') := by
  intro k hk
  rw [opM_bit] at hk ⊢
  rcases hk with ⟨q1, q2⟩ | ⟨q1, q2, q3, q4⟩
  · exact Or.inl ⟨q1, opB_mono h q2⟩
  · exact Or.inr ⟨q1, hm q2, stB_mono h q3, stB_mono h q4⟩
theorem ned_mono {L : Ld} {s s' : Nat} (h : sub s s') (hs : ned L s) : ned L s' := by
  obtain ⟨q1, q2, q3⟩ := hs
  exact ⟨fun z p hp => stB_mono h (q1 z p hp), fun z => stB_mono h (q2 z), fun z1 z2 => ⟨stB_mono h (q3 z1 z2).1, stB_mono h (q3 z1 z2).2⟩⟩
theorem rch_in_N {A B bo dy : Nat → Nat} {op N a p : Nat} (hV : dG A B dy op N) (ha : a < N) (h : rch (gE A B bo op) a p) : p < N := by
  refine h (fun x => x < N) ha ?_
  rintro u v ⟨k, hk, ⟨_, q⟩ | ⟨_, _, q⟩⟩ _
  · rw [← q]; exact (hV k hk).2.1
  · rw [← q]; exact (hV k hk).1
theorem car_mono {L : Ld} {op op' : Nat} (hV : dG (l_A L) (l_B L) (l_D L) op' (l_N L)) (h13 : op' < 2 ^ 13) (ha : l_a L < l_N L) (h : sub op op') (hc : car L op) : car L op' := by
  have hm := fun {u v : Nat} (e : l_E L op u v) => gE_mono (A := l_A L) (B := l_B L) (bo := l_O L) h e
  unfold car at hc ⊢
  rcases hc with ⟨w, q⟩ | ⟨w, q⟩ | ⟨w, m, m1, m2, m3⟩ | ⟨w, D, d1, d2⟩ | ⟨w, q1, q2⟩
  · exact Or.inl ⟨w, rch_mono (fun u v e => hm e) q⟩
  · exact Or.inr (Or.inl ⟨w, fun p hp => ⟨rch_mono (fun u v e => hm e) (q p hp).1, rch_mono (fun u v e => hm e) (q p hp).2⟩⟩)
  · refine Or.inr (Or.inr (Or.inl ⟨w, mk (fun p => @decide (rch (l_E L op') (l_a L) p) (Classical.propDecidable _)) (l_N L), mk_lt _ _, fun p => ?_, ?_⟩))
    · rw [mk_bit, Bool.and_eq_true, decide_eq_true_eq]
      constructor
      · rintro ⟨_, q⟩; exact (@decide_eq_true_iff _ (Classical.propDecidable _)).mp q
      · intro q; exact ⟨rch_in_N hV ha q, (@decide_eq_true_iff _ (Classical.propDecidable _)).mpr q⟩
    · refine Nat.le_trans m3 (cnt_mono (fun p hp => ?_))
      have hr := rch_mono (fun u v e => hm e) ((m2 p).mp hp)
      rw [mk_bit, Bool.and_eq_true, decide_eq_true_eq]
      exact ⟨rch_in_N hV ha hr, (@decide_eq_true_iff _ (Classical.propDecidable _)).mpr hr⟩
  · obtain ⟨n, hn⟩ := dP_rest (bo := l_O L) (K := 13) hV (far0 (l_a L))
    have hD' : isD L op' (l_a L) (repF (dP (l_A L) (l_B L) (l_O L) (l_D L) op' 13) (far0 (l_a L)) n) := ⟨n, rfl, hn⟩
    have hV0 : dG (l_A L) (l_B L) (l_D L) op (l_N L) := fun k hk => hV k (h k hk)
    have h0 := (isD_sup hV hD').1
    have hle := dP_mono (bo := l_O L) hV0 h13 h (isD_sup hV0 d1) hn h0 (isD_le hD')
    exact Or.inr (Or.inr (Or.inr (Or.inl ⟨w, _, hD', Nat.le_trans (hle _) d2⟩)))
  · refine Or.inr (Or.inr (Or.inr (Or.inr ⟨w, rch_mono (fun u v e => hm e) q1, fun i hi => ?_⟩)))
    by_cases ho : op.testBit i = true
    · refine rch_mono (fun u v e => gE_mono (fun k hk => ?_) e) (q2 i ho)
      rw [xor_bit ho] at hk
      exact (xor_bit hi k).mpr ⟨h k hk.1, hk.2⟩
    · refine rch_mono (fun u v e => gE_mono (fun k hk => ?_) e) q1
      exact (xor_bit hi k).mpr ⟨h k hk, fun e2 => ho (by rw [← e2]; exact hk)⟩
theorem thr_mono {L : Ld} {s s' : Nat} (hL : lOk L) (h : sub s s') (ht : thr L s false) : thr L s' false := by
  obtain ⟨q1, q2⟩ := ht
  have hR := lOk_r hL
  have ho := opM_lt0 L s'
  refine ⟨ned_mono h q1, car_mono (l_dG hR ho) (Nat.lt_of_lt_of_le ho (pow_le_k (by have := hL.1.2.2.1; omega))) hR.2.2.2.2.1 (opM_mono h (fun z => z)) q2⟩
theorem thB_mono {L : Ld} {s s' : Nat} (hL : lOk L) (h : sub s s') (ht : thB L s = true) : thB L s' = true := (thB_iff L s').mpr (thr_mono hL h ((thB_iff L s).mp ht))
