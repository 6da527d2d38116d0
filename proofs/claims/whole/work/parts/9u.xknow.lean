/-! what the developers' object knows -/
def xF (S : wd_W) (b : Nat) (c : Bool) (L : Ld) : Prop :=
  S.1 (100 * b) = nI (lsF L c (2 ^ l_M L)).1 ∧ S.1 (100 * b + 1) = nI (lsF L c (2 ^ l_M L)).2.1 ∧ xTo L c (lsF L c (2 ^ l_M L)).2.1 (lsF L c (2 ^ l_M L)).2.2 (S.2.2.1 (b + 1)) (S.2.2.2.1 (b + 2)) ∧ ∀ k, k < (lsF L c (2 ^ l_M L)).2.1 → S.2.2.2.1 (b + 3) k = lN (shaF L c k (2 ^ l_M L))
def xDd (S : wd_W) (L : Ld) : Prop := ∃ a b, a < l_N L ∧ b < l_N L ∧ S.1 13703 = nI a ∧ S.1 13704 = nI b ∧ xDy S L a b
def xP (S : wd_W) (L : Ld) (T : Nt) : Nat → Prop
  | 0 => xS S L
  | 1 => xF S 123 false L
  | 2 => xF S 127 true L
  | 3 => xBu S L
  | 4 => xMe S L T
  | 5 => xAg S L T
  | 6 => xNw S L
  | 7 => xLk S L
  | _ => xDd S L
def xKn (S : wd_W) (L : Ld) (T : Nt) (k : Nat) : Prop := ∀ b, b < 9 → k.testBit b = true → xP S L T b
theorem xKn_set {S S' : wd_W} {L : Ld} {T : Nt} {k b : Nat} (hk : xKn S L T k) (hb : xP S' L T b) (h : ∀ c, c < 9 → c ≠ b → xP S L T c → xP S' L T c) : xKn S' L T (k ||| 2 ^ b) := by
  intro c hc ht
  by_cases e : c = b
  · subst e; exact hb
  · refine h c hc e (hk c hc ?_)
    rw [or_pow_bit, decide_eq_false (fun z => e z.symm), Bool.or_false] at ht
    exact ht
def xLens (S : wd_W) : Prop := xN S ∧ xN3 S ∧ xN4 S ∧ xN5 S ∧ xN6 S ∧ xN8 S
def lenS (S : wd_W) : Nat := (S.2.2.2.2 107 + S.2.2.2.2 109 + S.2.2.2.2 108 + S.2.2.2.2 110) + (S.2.2.2.2 132 + S.2.2.2.2 134 + S.2.2.2.2 135 + S.2.2.2.2 136) + S.2.2.2.2 133 + S.2.2.2.2 138 + S.2.2.2.2 141 + S.2.2.2.2 160
def XC (S : wd_W) (L : Ld) (T : Nt) : Prop := (lOk L ∧ l_c L ≤ 3 ∧ nOk L T) ∧ xL S 16 L ∧ xT S 27 T ∧ (S.1 12303 = nI 0 ∧ S.1 12703 = nI 1) ∧ xLens S
def XI (S : wd_W) (L : Ld) (T : Nt) : Prop := XC S L T ∧ ∃ k, k < 512 ∧ S.1 7 = nI k ∧ xKn S L T k
def xFr (S S' : wd_W) : Prop := (∀ i, (i < 10600 ∧ i ≠ 7) ∨ i = 12303 ∨ i = 12703 → S'.1 i = S.1 i) ∧ ∀ c, c < 106 → S'.2.2.1 c = S.2.2.1 c
theorem xFr_refl (S : wd_W) : xFr S S := ⟨fun _ _ => rfl, fun _ _ => rfl⟩
theorem xFr_trans {S S' S'' : wd_W} (h : xFr S S') (h2 : xFr S' S'') : xFr S S'' := ⟨fun i hi => (h2.1 i hi).trans (h.1 i hi), fun c hc => (h2.2 c hc).trans (h.2 c hc)⟩
def kfr {α : Type} (L : List (Nat × α)) : Bool := L.all (fun p => Nat.beq p.1 7 || (Nat.ble 10600 p.1 && !(Nat.beq p.1 12303) && !(Nat.beq p.1 12703)))
theorem lk_fr {α : Type} {i : Nat} (hi : (i < 10600 ∧ i ≠ 7) ∨ i = 12303 ∨ i = 12703) : ∀ L : List (Nat × α), kfr L = true → wd_lk L i = none
  | [], _ => rfl
  | e :: t, h => by
    unfold kfr at h
    rw [List.all_cons, Bool.and_eq_true] at h
    obtain ⟨h1, h3⟩ := h
    have hne : Nat.beq i e.1 = false := by
      cases q : Nat.beq i e.1 with
      | false => rfl
      | true =>
        have q := Nat.eq_of_beq_eq_true q
        rw [← q] at h1
        rcases hi with ⟨z1, z2⟩ | z | z
        · have a1 : Nat.beq i 7 = false := by
            cases w : Nat.beq i 7 with
            | false => rfl
            | true => exact absurd (Nat.eq_of_beq_eq_true w) z2
          have a2 : Nat.ble 10600 i = false := by
            cases w : Nat.ble 10600 i with
            | false => rfl
            | true => have := Nat.le_of_ble_eq_true w; omega
          rw [a1, a2] at h1
          cases h1
        · subst z; cases h1
        · subst z; cases h1
    rw [wd_lk, hne]
    exact lk_fr hi t h3
theorem ov_fr {α : Type} {i : Nat} {f : Nat → α} {L : List (Nat × α)} (h : kfr L = true) (hi : (i < 10600 ∧ i ≠ 7) ∨ i = 12303 ∨ i = 12703) : wd_ov f L i = f i := by
  unfold wd_ov
  rw [lk_fr hi L h]
theorem xFr_o {S : wd_W} {L1 : List (Nat × Int32)} {L2 : List (Nat × Int64)} {L3 : List (Nat × (Nat → Int32))} {L4 : List (Nat × (Nat → Int64))} {L5 : List (Nat × Nat)} (h1 : kfr L1 = true) (h3 : kin 106 1000 L3 = true) : xFr S (wd_o S L1 L2 L3 L4 L5) :=
  ⟨fun i hi => ov_fr h1 hi, fun c hc => ov_out h3 (Or.inl hc)⟩
theorem xFr_L {S S' : wd_W} {L : Ld} {c : Nat} (hk : xFr S S') (h1 : 1 ≤ c) (hc : c ≤ 80) (h : xL S c L) : xL S' c L := by
  obtain ⟨⟨h0, h1, h2, h3, h4, h5, h6, h7⟩, k1, k2, k3⟩ := h
  obtain ⟨e1, e2⟩ := hk
  have a := fun (i : Nat) (hi : i < 10600 ∧ i ≠ 7) => e1 i (Or.inl hi)
  refine ⟨⟨?_, ?_, ?_, ?_, ?_, ?_, ?_, ?_⟩, fun k hk => ?_, fun k hk => ?_, fun k hk => ?_⟩
  · rw [a _ (by omega)]; exact h0
  · rw [a _ (by omega)]; exact h1
  · rw [a _ (by omega)]; exact h2
  · rw [a _ (by omega)]; exact h3
  · rw [a _ (by omega)]; exact h4
  · rw [a _ (by omega)]; exact h5
  · rw [a _ (by omega)]; exact h6
  · rw [a _ (by omega)]; exact h7
  · rw [e2 _ (by omega), e2 _ (by omega), e2 _ (by omega), e2 _ (by omega), e2 _ (by omega)]; exact k1 k hk
  · rw [e2 _ (by omega), e2 _ (by omega)]; exact k2 k hk
  · rw [e2 _ (by omega), e2 _ (by omega), e2 _ (by omega)]; exact k3 k hk
theorem xFr_T {S S' : wd_W} {T : Nt} {c : Nat} (hk : xFr S S') (h1 : 1 ≤ c) (hc : c ≤ 99) (h : xT S c T) : xT S' c T := by
  obtain ⟨h0, h4, k1, k2⟩ := h
  obtain ⟨e1, e2⟩ := hk
  have a := fun (i : Nat) (hi : i < 10600 ∧ i ≠ 7) => e1 i (Or.inl hi)
  refine ⟨?_, ?_, fun k hk => ?_, fun k hk => ?_⟩
  · rw [a _ (by omega)]; exact h0
  · rw [a _ (by omega)]; exact h4
  · rw [e2 _ (by omega), e2 _ (by omega), e2 _ (by omega)]; exact k1 k hk
  · rw [e2 _ (by omega), e2 _ (by omega), e2 _ (by omega)]; exact k2 k hk
theorem XC_fr {S S' : wd_W} {L : Ld} {T : Nt} (h : XC S L T) (hf : xFr S S') (hl : xLens S') : XC S' L T := by
  obtain ⟨g, h1, h2, ⟨h3, h4⟩, _⟩ := h
  exact ⟨g, xFr_L hf (by omega) (by omega) h1, xFr_T hf (by omega) (by omega) h2, ⟨(hf.1 _ (Or.inr (Or.inl rfl))).trans h3, (hf.1 _ (Or.inr (Or.inr rfl))).trans h4⟩, hl⟩
theorem x_isNew {S : wd_W} {k b : Nat} {p : Int32} (h : S.1 7 = nI k) (hk : k < 512) (hb : b < 9) (hp : p = nI (2 ^ b)) : f_X11_isNew S p = some (nI (b2n (!k.testBit b)), nI (k ||| 2 ^ b)) := by
  have hkb : k &&& 2 ^ b < 2 ^ 31 := Nat.lt_of_le_of_lt Nat.and_le_left (by omega)
  apply ok_e
  unfold f_X11_isNew
  rw [h, hp, oI_and, oI_or]
  refine ok_lk (ok_ite (fun z => ?_) (fun z => ?_))
  · rw [oI_z hkb, and_pow0] at z
    rw [z]
    exact ok_some rfl
  · rw [oI_z hkb, and_pow0] at z
    have z : k.testBit b = true := by cases w : k.testBit b with
      | false => exact absurd w z
      | true => rfl
    rw [z]
    exact ok_some rfl
theorem x_lacks {S : wd_W} {k b q : Nat} {p2 : Int32} (h : S.1 7 = nI k) (hk : k < 512) (hq : q < 512) (hb : b < 9) (hp : p2 = nI (2 ^ b)) : f_X11_lacks S (nI q) p2 = some (nI (b2n (q.testBit b && !k.testBit b)), nI (if q.testBit b = true then k ||| 2 ^ b else k)) := by
  have hkb : q &&& 2 ^ b < 2 ^ 31 := Nat.lt_of_le_of_lt Nat.and_le_left (by omega)
  apply ok_e
  unfold f_X11_lacks
  rw [hp, oI_and]
  refine ok_ite (fun z => ?_) (fun z => ?_)
  · rw [oI_z hkb, and_pow0] at z
    rw [z, h]
    exact ok_some rfl
  · rw [oI_z hkb, and_pow0] at z
    have z : q.testBit b = true := by cases w : q.testBit b with
      | false => exact absurd w z
      | true => rfl
    rw [bd_s (x_isNew (S := wd_o S [(7, (S.1 7))] [] [] [] []) (k := k) (b := b) h hk hb rfl), z]
    refine ok_b (fun w => ?_) (fun w => ?_)
    · rw [w]; exact ok_some rfl
    · rw [w]; exact ok_some rfl
/-- one thing more is known, or not -/
def xKI (S0 : wd_W) (L : Ld) (T : Nt) (m : Nat → Bool) (C N : Nat) (S' : wd_W) (nc ns : Nat) : Prop :=
  XC S' L T ∧ (∃ k, k < 512 ∧ S'.1 7 = nI k ∧ xKn S' L T k ∧ ∀ b, m b = true → k.testBit b = true) ∧ xFr S0 S' ∧ nc ≤ C ∧ ns ≤ N ∧ ns + 2 * lenS S0 ≤ 2 * lenS S'
theorem xP_7 {S : wd_W} {L : Ld} {T : Nt} {x : Int32} : ∀ c, xP S L T c → xP (wd_o S [(7, x)] [] [] [] []) L T c
  | 0, h => h
  | 1, h => h
  | 2, h => h
  | 3, h => h
  | 4, h => h
  | 5, h => h
  | 6, h => h
  | 7, h => h
  | _ + 8, h => h
theorem xKI_stay {S0 S' : wd_W} {L : Ld} {T : Nt} {m m' : Nat → Bool} {C N nc ns k b q : Nat} (h : xKI S0 L T m C N S' nc ns) (hk : k < 512) (h7 : S'.1 7 = nI k) (hn : xKn S' L T k) (hm : ∀ b, m b = true → k.testBit b = true) (hb : b < 9) (hz : (q.testBit b && !k.testBit b) = false) (hm' : ∀ c, m' c = true → m c = true ∨ (c = b ∧ q.testBit b = true)) :
    xKI S0 L T m' C N (wd_o S' [(7, nI (if q.testBit b = true then k ||| 2 ^ b else k))] [] [] [] []) nc ns := by
  obtain ⟨h1, _, h3, h4, h5, h6⟩ := h
  have hf : xFr S' (wd_o S' [(7, nI (if q.testBit b = true then k ||| 2 ^ b else k))] [] [] [] []) := xFr_o rfl rfl
  have e : (if q.testBit b = true then k ||| 2 ^ b else k) = k := by
    cases hq : q.testBit b with
    | false => rfl
    | true =>
      rw [hq] at hz
      have hz : k.testBit b = true := by
        cases w : k.testBit b with
        | true => rfl
        | false => rw [w] at hz; cases hz
      rw [if_pos rfl]
      apply Nat.eq_of_testBit_eq
      intro i
      rw [or_pow_bit]
      by_cases z : b = i
      · subst z; rw [hz]; rfl
      · rw [decide_eq_false z, Bool.or_false]
  refine ⟨XC_fr h1 hf h1.2.2.2.2, ⟨k, hk, ?_, fun c hc hcb => xP_7 c (hn c hc hcb), fun c hc => ?_⟩, xFr_trans h3 hf, h4, h5, h6⟩
  · rw [e]; rfl
  · rcases hm' c hc with z | ⟨z, z2⟩
    · exact hm c z
    · subst z
      rw [z2] at hz
      cases w : k.testBit c with
      | true => rfl
      | false => rw [w] at hz; cases hz
theorem xKI_set {S0 S' S'' : wd_W} {L : Ld} {T : Nt} {m m' : Nat → Bool} {C N nc ns C' N' nc' ns' k b : Nat} (h : xKI S0 L T m C N S' nc ns) (hk : k < 512) (hn : xKn S' L T k) (hm : ∀ b, m b = true → k.testBit b = true) (hb : b < 9) (hm' : ∀ c, m' c = true → m c = true ∨ c = b)
    (hf : xFr S' S'') (hl : xLens S'') (h7 : S''.1 7 = nI (k ||| 2 ^ b)) (hp : xP S'' L T b) (hc : ∀ c, c < 9 → c ≠ b → xP S' L T c → xP S'' L T c) (hC : nc' ≤ C') (hN : ns' ≤ N') (hs : ns' + 2 * lenS S' ≤ ns + 2 * lenS S'') : xKI S0 L T m' C' N' S'' nc' ns' := by
  obtain ⟨h1, _, h3, h4, h5, h6⟩ := h
  refine ⟨XC_fr h1 hf hl, ⟨k ||| 2 ^ b, or_pow_lt (n := 9) hk hb, h7, xKn_set hn hp hc, fun c hcc => ?_⟩, xFr_trans h3 hf, hC, hN, by omega⟩
  rw [or_pow_bit]
  rcases hm' c hcc with z | z
  · rw [hm c z]; rfl
  · subst z; rw [decide_eq_true rfl, Bool.or_true]
theorem ok_lk3 {ρ α β γ : Type} {B : α → β → γ → Option ρ} {R : (α → β → γ → Option ρ) → Option ρ} {Q : ρ → Prop} (I : α → β → γ → Prop) (hR : ∀ K, (∀ a b c, I a b c → Ok (K a b c) Q) → Ok (R K) Q) (hB : ∀ a b c, I a b c → Ok (B a b c) Q) : Ok (lk B R) Q := hR B hB
theorem ok_lk1 {ρ α : Type} {B : α → Option ρ} {R : (α → Option ρ) → Option ρ} {Q : ρ → Prop} (I : α → Prop) (hR : ∀ K, (∀ a, I a → Ok (K a) Q) → Ok (R K) Q) (hB : ∀ a, I a → Ok (B a) Q) : Ok (lk B R) Q := hR B hB
