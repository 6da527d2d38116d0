/-! calls one after another: the sets are worked out once -/
theorem wd7 {S : wd_W} {x : Int32} (h : S.1 7 = x) : wd_o S [(7, x)] [] [] [] [] = S := by
  have e : (wd_o S [(7, x)] [] [] [] []).1 = S.1 := by
    funext i
    show wd_ov S.1 [(7, x)] i = S.1 i
    unfold wd_ov wd_lk
    cases q : Nat.beq i 7 with
    | true => rw [Nat.eq_of_beq_eq_true q]; exact h.symm
    | false => rfl
  exact Prod.ext e rfl
theorem or_same {k b : Nat} (h : k.testBit b = true) : k ||| 2 ^ b = k := by
  apply Nat.eq_of_testBit_eq
  intro i
  rw [or_pow_bit]
  by_cases z : b = i
  · subst z; rw [h]; rfl
  · rw [decide_eq_false z, Bool.or_false]
theorem x_lacks1 {S : wd_W} {k b : Nat} {p2 : Int32} (h : S.1 7 = nI k) (hk : k < 512) (hb : b < 9) (hp : p2 = nI (2 ^ b)) (h1 : Nat.testBit 1 b = false) : f_X11_lacks S (1 : Int32) p2 = some (nI 0, nI k) := by
  have := x_lacks (q := 1) h hk (by omega) hb hp
  rw [h1] at this
  exact this
theorem x_know1 {S : wd_W} {k : Nat} (h : S.1 7 = nI k) (hk : k < 512) (h0 : k.testBit 0 = true) : f_X11_know S (1 : Int32) = some (S, 0, 0) := by
  apply ok_e
  unfold f_X11_know
  rw [bd_s (x_isNew (S := wd_o S [(7, (S.1 7))] [] [] [] []) (p := (1 : Int32)) (k := k) (b := 0) h hk (by omega) rfl)]
  have e : wd_o S [(7, nI k)] [] [] [] [] = S := wd7 h
  refine ok_lk3 (fun S' nc ns => S' = S ∧ nc = 0 ∧ ns = 0) (fun K hK => ?_) ?_
  · dsimp only
    rw [h0]
    refine ok_b (fun _ => hK _ _ _ ⟨?_, rfl, rfl⟩) (fun z => by cases z)
    rw [or_same h0]; exact e
  · rintro S2 n3 n4 ⟨rfl, rfl, rfl⟩
    rw [gd_t (okr_in (by omega) (by omega)), bd_s (x_lacks1 (S := wd_o S2 [(7, (S2.1 7))] [] [] [] []) (p2 := (2 : Int32)) (k := k) (b := 1) h hk (by omega) rfl (by decide))]
    refine ok_lk1 (fun S' => S' = S2) (fun K hK => ?_) ?_
    · dsimp only
      rw [if_pos (show nI 0 = 0 from rfl)]
      exact hK _ e
    · rintro S3 rfl
      rw [gd_t (okr_in (by omega) (by omega)), bd_s (x_lacks1 (S := wd_o S3 [(7, (S3.1 7))] [] [] [] []) (p2 := (4 : Int32)) (k := k) (b := 2) h hk (by omega) rfl (by decide))]
      refine ok_lk1 (fun S' => S' = S3) (fun K hK => ?_) ?_
      · dsimp only
        rw [if_pos (show nI 0 = 0 from rfl)]
        exact hK _ e
      · rintro S4 rfl
        rw [gd_t (okr_in (by omega) (by omega)), bd_s (x_lacks1 (S := wd_o S4 [(7, (S4.1 7))] [] [] [] []) (p2 := (8 : Int32)) (k := k) (b := 3) h hk (by omega) rfl (by decide))]
        refine ok_lk3 (fun S' nc ns => S' = S4 ∧ nc = 0 ∧ ns = 0) (fun K hK => ?_) ?_
        · dsimp only
          rw [if_pos (show nI 0 = 0 from rfl)]
          exact hK _ _ _ ⟨e, rfl, rfl⟩
        · rintro S5 n5 n6 ⟨rfl, rfl, rfl⟩
          rw [gd_t (okr_in (by omega) (by omega)), bd_s (x_lacks1 (S := wd_o S5 [(7, (S5.1 7))] [] [] [] []) (p2 := (16 : Int32)) (k := k) (b := 4) h hk (by omega) rfl (by decide))]
          refine ok_lk3 (fun S' nc ns => S' = S5 ∧ nc = 0 ∧ ns = 0) (fun K hK => ?_) ?_
          · dsimp only
            rw [if_pos (show nI 0 = 0 from rfl)]
            exact hK _ _ _ ⟨e, rfl, rfl⟩
          · rintro S6 n7 n8 ⟨rfl, rfl, rfl⟩
            rw [gd_t (okr_in (by omega) (by omega)), bd_s (x_lacks1 (S := wd_o S6 [(7, (S6.1 7))] [] [] [] []) (p2 := (32 : Int32)) (k := k) (b := 5) h hk (by omega) rfl (by decide))]
            refine ok_lk3 (fun S' nc ns => S' = S6 ∧ nc = 0 ∧ ns = 0) (fun K hK => ?_) ?_
            · dsimp only
              rw [if_pos (show nI 0 = 0 from rfl)]
              exact hK _ _ _ ⟨e, rfl, rfl⟩
            · rintro S7 n9 n10 ⟨rfl, rfl, rfl⟩
              rw [gd_t (okr_in (by omega) (by omega)), bd_s (x_lacks1 (S := wd_o S7 [(7, (S7.1 7))] [] [] [] []) (p2 := (128 : Int32)) (k := k) (b := 7) h hk (by omega) rfl (by decide))]
              dsimp only
              rw [if_pos (show nI 0 = 0 from rfl)]
              refine ok_some ?_
              rw [e]
def xKS (S : wd_W) (L : Ld) (T : Nt) (S' : wd_W) (nc ns : Nat) : Prop := xE S L T S' nc ns ∧ ((nc = 0 ∧ ns = 0) ∨ (nc ≤ 11 ∧ ns ≤ 120675 ∧ ∃ k, k < 512 ∧ S'.1 7 = nI k ∧ k.testBit 0 = true))
theorem xKS_refl {S : wd_W} {L : Ld} {T : Nt} (h : XI S L T) : xKS S L T S 0 0 := ⟨xE_refl h, Or.inl ⟨rfl, rfl⟩⟩
theorem xE_trans {S S' S'' : wd_W} {L : Ld} {T : Nt} {a b c d : Nat} (h : xE S L T S' a b) (h2 : xE S' L T S'' c d) (hc : a + c ≤ 40) : xE S L T S'' (a + c) (b + d) := by
  obtain ⟨h1, h3, h4, h5⟩ := h
  obtain ⟨g1, g3, g4, g5⟩ := h2
  exact ⟨g1, xFr_trans h3 g3, hc, by omega⟩
theorem xKS_S {S S' : wd_W} {L : Ld} {T : Nt} {a b : Nat} (h : xE S L T S' a b) (k : Nat) (hk : k < 512) (h7 : S'.1 7 = nI k) (h0 : k.testBit 0 = true) : xS S' L := by
  obtain ⟨⟨_, k2, hk2, h72, hn⟩, _⟩ := h
  have : k2 = k := (nI_eq (by omega) (by omega)).mp (h72.symm.trans h7)
  subst this
  exact hn 0 (by omega) h0
theorem x_ksL {S S' : wd_W} {L : Ld} {T : Nt} {nc ns : Nat} (h : xKS S L T S' nc ns) : Ok (f_X11_knownSets S') (fun o => xKS S L T o.1 (nc + o.2.1) (ns + o.2.2) ∧ (nc + o.2.1 ≤ 11 ∧ ns + o.2.2 ≤ 120675) ∧ xS o.1 L ∧ xN o.1 ∧ xL o.1 16 L) := by
  obtain ⟨hE, hk⟩ := h
  unfold f_X11_knownSets
  rcases hk with ⟨rfl, rfl⟩ | ⟨h1, h2, k, hk, h7, h0⟩
  · refine ok_bd (x_know (S := wd_o S' [] [] [] [] []) (q := 1) hE.1 (by omega) (by decide) (fun z => absurd z (by decide))) ?_
    rintro ⟨S2, nc, ns⟩ hI
    have e := xE_trans hE (xKI_E hI) (by have := hI.2.2.2.1; omega)
    refine ok_some ⟨⟨?_, Or.inr ?_⟩, ?_, xKI_P hI (b := 0) (by omega) rfl, e.1.1.2.2.2.2.1, e.1.1.2.1⟩
    · dsimp only at e ⊢
      rw [Nat.zero_add, Nat.zero_add, Nat.zero_add, Nat.zero_add]
      rw [Nat.zero_add, Nat.zero_add] at e
      exact e
    · obtain ⟨_, ⟨k, a1, a2, _, a3⟩, _, h4, h5, _⟩ := hI
      exact ⟨by dsimp only at h4 ⊢; omega, by dsimp only at h5 ⊢; omega, k, a1, a2, a3 0 rfl⟩
    · obtain ⟨_, _, _, h4, h5, _⟩ := hI
      dsimp only at h4 h5 ⊢
      omega
  · rw [bd_s (x_know1 (S := wd_o S' [] [] [] [] []) h7 hk h0)]
    refine ok_some ⟨⟨hE, Or.inr ⟨h1, h2, k, hk, h7, h0⟩⟩, ⟨h1, h2⟩, xKS_S hE k hk h7 h0, hE.1.1.2.2.2.2.1, hE.1.1.2.1⟩
