/-! the developers' whole state: land, notes, what was mended, images, tape -/
def XTp (S : wd_W) (t : Nat × (Nat → Nat)) : Prop := S.1 1400 = nI t.1 ∧ t.1 ≤ 400 ∧ ∀ i, i < t.1 → t.2 i < 256 ∧ S.2.2.1 15 i = nI (t.2 i)
def lnOk (L : Ld) (T : Nt) : Prop := lOk L ∧ l_c L ≤ 3 ∧ nOk L T
def XIm (S : wd_W) (I : Nat → Option (Ld × Nt)) : Prop := ∃ m, m < 16 ∧ S.1 6 = nI m ∧ ∀ i, i < 4 → m.testBit i = (I i).isSome ∧ ∀ L T, I i = some (L, T) → lnOk L T ∧ xL S (34 + 11 * i) L ∧ xT S (78 + 7 * i) T
abbrev Sta : Type := Ld × Nt × (Int32 × Int32) × (Nat → Option (Ld × Nt)) × (Nat × (Nat → Nat))
def XW (S : wd_W) (st : Sta) : Prop := XI S st.1 st.2.1 ∧ (S.1 8 = st.2.2.1.1 ∧ S.1 9 = st.2.2.1.2) ∧ XIm S st.2.2.2.1 ∧ XTp S st.2.2.2.2
def xW (S : wd_W) (st : Sta) (S' : wd_W) (nc ns : Nat) : Prop := XW S' st ∧ nc ≤ 40 ∧ ns + 2 * lenS S ≤ 2 * lenS S'
theorem xW_E {S S' : wd_W} {st : Sta} {nc ns : Nat} (h : XW S st) (e : xE S st.1 st.2.1 S' nc ns) : xW S st S' nc ns := by
  obtain ⟨_, ⟨h8, h9⟩, ⟨m, m1, m2, m3⟩, t1, t2, t3⟩ := h
  obtain ⟨e1, e2, e3, e4⟩ := e
  have a := fun (i : Nat) (hi : i < 10600 ∧ i ≠ 7) => e2.1 i (Or.inl hi)
  refine ⟨⟨e1, ⟨(a _ (by omega)).trans h8, (a _ (by omega)).trans h9⟩, ⟨m, m1, (a _ (by omega)).trans m2, fun i hi => ⟨(m3 i hi).1, fun L T hI => ?_⟩⟩, (a _ (by omega)).trans t1, t2, fun i hi => ?_⟩, e3, e4⟩
  · obtain ⟨g1, g2, g3⟩ := (m3 i hi).2 L T hI
    exact ⟨g1, xFr_L e2 (by omega) (by omega) g2, xFr_T e2 (by omega) (by omega) g3⟩
  · rw [e2.2 15 (by omega)]; exact t3 i hi
theorem lk_nin {α : Type} {i : Nat} (P : Nat → Bool) (hi : P i = false) : ∀ L : List (Nat × α), L.all (fun p => P p.1) = true → wd_lk L i = none
  | [], _ => rfl
  | e :: t, h => by
    rw [List.all_cons, Bool.and_eq_true] at h
    have hne : Nat.beq i e.1 = false := by
      cases q : Nat.beq i e.1 with
      | false => rfl
      | true =>
        have q := Nat.eq_of_beq_eq_true q
        have h1 := h.1
        rw [← q, hi] at h1
        cases h1
    rw [wd_lk, hne]
    exact lk_nin P hi t h.2
theorem ov_nin {α : Type} {i : Nat} {f : Nat → α} {L : List (Nat × α)} (P : Nat → Bool) (hi : P i = false) (h : L.all (fun p => P p.1) = true) : wd_ov f L i = f i := by
  unfold wd_ov
  rw [lk_nin P hi L h]
theorem xL_eq {S S' : wd_W} {L : Ld} {c : Nat} (e1 : ∀ i, 100 * c ≤ i → i < 100 * c + 18 → S'.1 i = S.1 i) (e2 : ∀ r, c < r → r ≤ c + 10 → S'.2.2.1 r = S.2.2.1 r) (h : xL S c L) : xL S' c L := by
  obtain ⟨⟨h0, h1, h2, h3, h4, h5, h6, h7⟩, k1, k2, k3⟩ := h
  refine ⟨⟨?_, ?_, ?_, ?_, ?_, ?_, ?_, ?_⟩, fun k hk => ?_, fun k hk => ?_, fun k hk => ?_⟩
  · rw [e1 _ (by omega) (by omega)]; exact h0
  · rw [e1 _ (by omega) (by omega)]; exact h1
  · rw [e1 _ (by omega) (by omega)]; exact h2
  · rw [e1 _ (by omega) (by omega)]; exact h3
  · rw [e1 _ (by omega) (by omega)]; exact h4
  · rw [e1 _ (by omega) (by omega)]; exact h5
  · rw [e1 _ (by omega) (by omega)]; exact h6
  · rw [e1 _ (by omega) (by omega)]; exact h7
  · rw [e2 _ (by omega) (by omega), e2 _ (by omega) (by omega), e2 _ (by omega) (by omega), e2 _ (by omega) (by omega), e2 _ (by omega) (by omega)]; exact k1 k hk
  · rw [e2 _ (by omega) (by omega), e2 _ (by omega) (by omega)]; exact k2 k hk
  · rw [e2 _ (by omega) (by omega), e2 _ (by omega) (by omega), e2 _ (by omega) (by omega)]; exact k3 k hk
theorem xT_eq {S S' : wd_W} {T : Nt} {c : Nat} (e1 : ∀ i, 100 * c ≤ i → i < 100 * c + 5 → S'.1 i = S.1 i) (e2 : ∀ r, c < r → r ≤ c + 6 → S'.2.2.1 r = S.2.2.1 r) (h : xT S c T) : xT S' c T := by
  obtain ⟨h0, h4, k1, k2⟩ := h
  refine ⟨?_, ?_, fun k hk => ?_, fun k hk => ?_⟩
  · rw [e1 _ (by omega) (by omega)]; exact h0
  · rw [e1 _ (by omega) (by omega)]; exact h4
  · rw [e2 _ (by omega) (by omega), e2 _ (by omega) (by omega), e2 _ (by omega) (by omega)]; exact k1 k hk
  · rw [e2 _ (by omega) (by omega), e2 _ (by omega) (by omega), e2 _ (by omega) (by omega)]; exact k2 k hk
def pI1 (i : Nat) : Bool := !(Nat.beq i 6) && (Nat.ble i 3399 || Nat.ble 10600 i)
def pI3 (i : Nat) : Bool := Nat.ble i 33 || Nat.ble 106 i
theorem pI1_in {i : Nat} (h : 3400 ≤ i) (h2 : i < 10600) : pI1 i = false := by
  have a : Nat.ble i 3399 = false := by
    cases w : Nat.ble i 3399 with
    | false => rfl
    | true => have := Nat.le_of_ble_eq_true w; omega
  have b : Nat.ble 10600 i = false := by
    cases w : Nat.ble 10600 i with
    | false => rfl
    | true => have := Nat.le_of_ble_eq_true w; omega
  unfold pI1
  rw [a, b]
  exact Bool.and_false _
theorem pI3_in {i : Nat} (h : 34 ≤ i) (h2 : i < 106) : pI3 i = false := by
  have a : Nat.ble i 33 = false := by
    cases w : Nat.ble i 33 with
    | false => rfl
    | true => have := Nat.le_of_ble_eq_true w; omega
  have b : Nat.ble 106 i = false := by
    cases w : Nat.ble 106 i with
    | false => rfl
    | true => have := Nat.le_of_ble_eq_true w; omega
  unfold pI3
  rw [a, b]
  rfl
theorem XIm_o {S : wd_W} {I : Nat → Option (Ld × Nt)} {L1 : List (Nat × Int32)} {L2 : List (Nat × Int64)} {L3 : List (Nat × (Nat → Int32))} {L4 : List (Nat × (Nat → Int64))} {L5 : List (Nat × Nat)} (h : XIm S I) (h1 : L1.all (fun p => pI1 p.1) = true) (h3 : L3.all (fun p => pI3 p.1) = true) : XIm (wd_o S L1 L2 L3 L4 L5) I := by
  obtain ⟨m, m1, m2, m3⟩ := h
  have e1 : ∀ i, 3400 ≤ i → i < 10600 → (wd_o S L1 L2 L3 L4 L5).1 i = S.1 i := fun i hi hi2 => ov_nin pI1 (pI1_in hi hi2) h1
  have e2 : ∀ i, 34 ≤ i → i < 106 → (wd_o S L1 L2 L3 L4 L5).2.2.1 i = S.2.2.1 i := fun i hi hi2 => ov_nin pI3 (pI3_in hi hi2) h3
  refine ⟨m, m1, (ov_nin pI1 rfl h1).trans m2, fun i hi => ⟨(m3 i hi).1, fun L T hI => ?_⟩⟩
  obtain ⟨g1, g2, g3⟩ := (m3 i hi).2 L T hI
  exact ⟨g1, xL_eq (fun j hj hj2 => e1 j (by omega) (by omega)) (fun j hj hj2 => e2 j (by omega) (by omega)) g2, xT_eq (fun j hj hj2 => e1 j (by omega) (by omega)) (fun j hj hj2 => e2 j (by omega) (by omega)) g3⟩
/-- mendings and letters told -/
def mendT (T : Nt) (l c v : Nat) : Nt := fun g => match g with
  | 0 => upN (T 0) 0 (T 0 0 + 1)
  | 1 => upN (T 1) (T 0 0) l
  | 2 => upN (T 2) (T 0 0) c
  | 3 => upN (T 3) (T 0 0) v
  | n => T n
def lettT (T : Nt) (a b v : Nat) : Nt := fun g => match g with
  | 4 => upN (T 4) 0 (T 4 0 + 1)
  | 5 => upN (T 5) (T 4 0) a
  | 6 => upN (T 6) (T 4 0) b
  | 7 => upN (T 7) (T 4 0) v
  | n => T n
def mngB (L : Ld) (T : Nt) (p1 p2 p3 : Int32) : Bool := decide (T 0 0 < 9) && (inB 0 ((l_n L : Int) - 1) p1 && (inB 1 999 p2 && inB ((l_C L p1.toNatClampNeg : Int) + 1) 16 p3))
def mngT (L : Ld) (T : Nt) (p1 p2 p3 : Int32) : Nt := if mngB L T p1 p2 p3 = true then mendT T p1.toNatClampNeg p2.toNatClampNeg p3.toNatClampNeg else T
def mngA (L : Ld) (T : Nt) (p1 p2 p3 : Int32) : Int32 := if mngB L T p1 p2 p3 = true then nI (T 0 0) else -1
theorem mendT_ok {L : Ld} {T : Nt} {l c v : Nat} (h : nOk L T) (h9 : T 0 0 < 9) (hl : l < l_n L) (hc : c ≤ 999) (hv : v ≤ 16) (hlv : l_C L l < v) : nOk L (mendT T l c v) := by
  obtain ⟨⟨h1, h2⟩, h3, h4⟩ := h
  refine ⟨⟨?_, fun i hi => ?_⟩, h3, h4⟩
  · show T 0 0 + 1 ≤ 9
    omega
  · have hi : i < T 0 0 + 1 := hi
    show upN (T 1) (T 0 0) l i < l_n L ∧ upN (T 2) (T 0 0) c i ≤ 999 ∧ upN (T 3) (T 0 0) v i ≤ 16 ∧ l_C L (upN (T 1) (T 0 0) l i) < upN (T 3) (T 0 0) v i
    by_cases e : i = T 0 0
    · subst e; rw [upN_s, upN_s, upN_s]; exact ⟨hl, hc, hv, hlv⟩
    · rw [upN_n e, upN_n e, upN_n e]; exact h2 i (by omega)
theorem lettT_ok {L : Ld} {T : Nt} {a b v : Nat} (h : nOk L T) (h6 : T 4 0 < 6) (ha : a < l_N L) (hb : b < l_N L) (hab : a ≠ b) (hv : v ≤ 1) : nOk L (lettT T a b v) := by
  obtain ⟨h1, h3, h4⟩ := h
  refine ⟨h1, ?_, fun i hi => ?_⟩
  · show T 4 0 + 1 ≤ 6
    omega
  · have hi : i < T 4 0 + 1 := hi
    show upN (T 5) (T 4 0) a i < l_N L ∧ upN (T 6) (T 4 0) b i < l_N L ∧ upN (T 5) (T 4 0) a i ≠ upN (T 6) (T 4 0) b i ∧ upN (T 7) (T 4 0) v i ≤ 1
    by_cases e : i = T 4 0
    · subst e; rw [upN_s, upN_s, upN_s]; exact ⟨ha, hb, hab, hv⟩
    · rw [upN_n e, upN_n e, upN_n e]; exact h4 i (by omega)
theorem and_m17 : ∀ k, k < 512 → nI k &&& (-17 : Int32) = nI (k &&& 495) := by decide +kernel
theorem and_m33 : ∀ k, k < 512 → nI k &&& (-33 : Int32) = nI (k &&& 479) := by decide +kernel
theorem chance_lt {c : Nat} {p q : Int32} (hq : q = nI c) (hc : c ≤ 16) {ρ : Type} {A B : ρ} : (if p ≤ q then A else if (16 : Int32) < p then A else B) = if inB ((c : Int) + 1) 16 p = true then B else A := by
  subst hq
  rw [li_16]
  unfold inB
  by_cases c1 : p ≤ nI c
  · rw [if_pos c1, decide_eq_false (by rw [pI_leP (by omega)] at c1; omega), if_neg (by decide)]
  · rw [if_neg c1]
    by_cases c2 : nI 16 < p
    · rw [if_pos c2, decide_eq_false (by rw [pI_ltN (by omega)] at c2; omega), if_neg (by decide)]
    · rw [if_neg c2, decide_eq_true (by rw [pI_leP (by omega)] at c1; rw [pI_ltN (by omega)] at c2; omega), if_pos rfl]
theorem x_mending {S : wd_W} {st : Sta} {p1 p2 p3 : Int32} (h : XW S st) : Ok (f_X11_mending S p1 p2 p3) (fun o => o.1 = mngA st.1 st.2.1 p1 p2 p3 ∧ xW S (st.1, mngT st.1 st.2.1 p1 p2 p3, st.2.2) (wd_o S [(7, o.2.1), (2700, o.2.2.1)] [] [(28, o.2.2.2.1), (29, o.2.2.2.2.1), (30, o.2.2.2.2.2)] [] []) 0 0) := by
  obtain ⟨L, T, M, I, tp⟩ := st
  obtain ⟨⟨⟨⟨hL, hc3, hT⟩, hl, hxT, hcc, hlens⟩, k, hk, h7, hn⟩, hm, hi, ht⟩ := h
  dsimp only at hL hc3 hT hl hxT hn hm hi ht ⊢
  have g3 := hL.1.2.2.1
  have h00 := hT.1.1
  have t0 : S.1 2700 = nI (T 0 0) := hxT.1
  have h1 : S.1 1601 = nI (l_n L) := hl.1.2.1
  have e999 : inB 1 ((999 : Nat) : Int) p2 = inB 1 999 p2 := rfl
  have stay : mngB L T p1 p2 p3 = false → Ok (some ((-1 : Int32), (S.1 7), (S.1 2700), (S.2.2.1 28), (S.2.2.1 29), (S.2.2.1 30))) (fun o : o_X11_mending => o.1 = mngA L T p1 p2 p3 ∧ xW S (L, mngT L T p1 p2 p3, M, I, tp) (wd_o S [(7, o.2.1), (2700, o.2.2.1)] [] [(28, o.2.2.2.1), (29, o.2.2.2.2.1), (30, o.2.2.2.2.2)] [] []) 0 0) := by
    intro z
    unfold mngA mngT
    rw [z]
    refine ok_some ⟨rfl, ⟨⟨⟨⟨hL, hc3, hT⟩, hl, hxT, hcc, hlens⟩, k, hk, h7, fun b hb hbt => ?_⟩, hm, XIm_o hi rfl rfl, ht⟩, by omega, Nat.le_of_eq (Nat.zero_add _)⟩
    have hp := hn b hb hbt
    match b, hp with
    | 0, hp => exact hp
    | 1, hp => exact hp
    | 2, hp => exact hp
    | 3, hp => exact hp
    | 4, hp => exact hp
    | 5, hp => exact hp
    | 6, hp => exact hp
    | 7, hp => exact hp
    | _ + 8, hp => exact hp
  unfold f_X11_mending
  rw [tst_ge (q := S.1 1601) (k := l_n L) h1 (by omega)]
  cases hin1 : inB 0 ((l_n L : Int) - 1) p1 with
  | false => exact stay (by unfold mngB; rw [hin1, Bool.false_and, Bool.and_false])
  | true =>
    obtain ⟨l, hll, rfl, n1, n2⟩ := inB_t (by omega) hin1
    rw [if_pos rfl, tst_1 (q := (999 : Int32)) (k := 999) rfl (by omega), e999]
    cases hin2 : inB 1 999 p2 with
    | false => exact stay (by unfold mngB; rw [hin2, Bool.false_and, Bool.and_false, Bool.and_false])
    | true =>
      obtain ⟨c, hcl, rfl, c1, c2⟩ := inB_t (by omega) hin2
      have hC := (hL.2.1 l (by omega)).2.2.2.1
      rw [if_pos rfl, gd_in (by omega) (by omega), nI_clamp hll, chance_lt (q := S.2.2.1 19 l) (c := l_C L l) (hl.2.1 l (by omega)).2.2.1 hC]
      cases hin3 : inB ((l_C L l : Int) + 1) 16 p3 with
      | false => exact stay (by unfold mngB; rw [nI_clamp hll, hin3, Bool.and_false, Bool.and_false, Bool.and_false])
      | true =>
        obtain ⟨v, hv, rfl, v1, v2⟩ := inB_t (by omega) hin3
        rw [if_pos rfl, t0, li_9]
        refine ok_ite (fun z => ?_) (fun z => ?_)
        · rw [nI_ltI (by omega) (by omega)] at z
          have hB : mngB L T (nI l) (nI c) (nI v) = true := by unfold mngB; rw [nI_clamp hll, hin1, hin2, hin3, decide_eq_true z]; rfl
          unfold mngA mngT
          rw [hB, if_pos rfl, if_pos rfl, nI_clamp hll, nI_clamp hcl, nI_clamp hv, h7, and_m17 k hk, lz_eq]
          refine ok_bd (P := fun o => o = (nI (T 0 0), nI (T 0 0 + 1), upd (S.2.2.1 28) (T 0 0) (nI l), upd (S.2.2.1 29) (T 0 0) (nI c), upd (S.2.2.1 30) (T 0 0) (nI v))) ?_ ?_
          · unfold f_X6_addMending_q27
            show Ok (if nI (T 0 0) < (9 : Int32) then gd (okx (nI (T 0 0)) 9) <| lz (upd (S.2.2.1 28) (nI (T 0 0)).toNatClampNeg (nI l)) fun a2 => gd (okx (nI (T 0 0)) 9) <| lz (upd (S.2.2.1 29) (nI (T 0 0)).toNatClampNeg (nI c)) fun a4 => gd (okx (nI (T 0 0)) 9) <| lz (upd (S.2.2.1 30) (nI (T 0 0)).toNatClampNeg (nI v)) fun a6 => lz (nI (T 0 0) + (1 : Int32)) fun x7 => some (x7 - (1 : Int32), x7, a2, a4, a6) else some ((-1 : Int32), nI (T 0 0), S.2.2.1 28, S.2.2.1 29, S.2.2.1 30)) _
            rw [li_9, if_pos (nI_lt z (by omega)), gd_in z (by omega), lz_eq, gd_in z (by omega), lz_eq, gd_in z (by omega), lz_eq, nI_clamp (by omega), lz_eq, nI_1, li_1, pk_sub (by omega), Nat.add_sub_cancel]
            exact ok_some rfl
          · rintro _ rfl
            have hT2 : nOk L (mendT T l c v) := mendT_ok hT z (by omega) (by omega) (by omega) (by omega)
            refine ok_some ⟨rfl, ⟨⟨⟨⟨hL, hc3, hT2⟩, hl, ⟨rfl, hxT.2.1, fun i hi => ?_, hxT.2.2.2⟩, hcc, hlens⟩, k &&& 495, Nat.lt_of_le_of_lt Nat.and_le_left hk, rfl, fun b hb hbt => ?_⟩, hm, XIm_o hi rfl rfl, ht⟩, by omega, Nat.le_of_eq (Nat.zero_add _)⟩
            · have hi : i < T 0 0 + 1 := hi
              show upd (S.2.2.1 28) (T 0 0) (nI l) i = nI (upN (T 1) (T 0 0) l i) ∧ upd (S.2.2.1 29) (T 0 0) (nI c) i = nI (upN (T 2) (T 0 0) c i) ∧ upd (S.2.2.1 30) (T 0 0) (nI v) i = nI (upN (T 3) (T 0 0) v i)
              by_cases e : i = T 0 0
              · subst e; rw [pk_us, pk_us, pk_us, upN_s, upN_s, upN_s]; exact ⟨rfl, rfl, rfl⟩
              · rw [pk_un e, pk_un e, pk_un e, upN_n e, upN_n e, upN_n e]; exact hxT.2.2.1 i (by omega)
            · rw [Nat.testBit_and, Bool.and_eq_true] at hbt
              have hp := hn b hb hbt.1
              match b, hbt, hp with
              | 0, _, hp => exact hp
              | 1, _, hp => exact hp
              | 2, _, hp => exact hp
              | 3, _, hp => exact hp
              | 4, hbt, _ => exact absurd hbt.2 (by decide)
              | 5, _, hp => exact hp
              | 6, _, hp => exact hp
              | 7, _, hp => exact hp
              | _ + 8, _, hp => exact hp
        · rw [nI_ltI (by omega) (by omega)] at z
          have := stay (by unfold mngB; rw [decide_eq_false z]; rfl)
          rw [t0] at this
          exact this
def letB (L : Ld) (T : Nt) (p1 p2 : Int32) : Bool := decide (T 4 0 < 6) && prB (l_N L) p1 p2
def letT (L : Ld) (T : Nt) (p1 p2 : Int32) (v : Bool) : Nt := if letB L T p1 p2 = true then lettT T p1.toNatClampNeg p2.toNatClampNeg (b2n v) else T
def letA (L : Ld) (T : Nt) (p1 p2 : Int32) : Int32 := if letB L T p1 p2 = true then nI (T 4 0) else -1
theorem x_letter {S : wd_W} {st : Sta} {p1 p2 : Int32} {v : Bool} (h : XW S st) : Ok (f_X11_letter S p1 p2 (nI (b2n v))) (fun o => o.1 = letA st.1 st.2.1 p1 p2 ∧ xW S (st.1, letT st.1 st.2.1 p1 p2 v, st.2.2) (wd_o S [(7, o.2.1), (2704, o.2.2.1)] [] [(31, o.2.2.2.1), (32, o.2.2.2.2.1), (33, o.2.2.2.2.2)] [] []) 0 0) := by
  obtain ⟨L, T, M, I, tp⟩ := st
  obtain ⟨⟨⟨⟨hL, hc3, hT⟩, hl, hxT, hcc, hlens⟩, k, hk, h7, hn⟩, hm, hi, ht⟩ := h
  dsimp only at hL hc3 hT hl hxT hn hm hi ht ⊢
  have g2 := hL.1.2.1
  have h04 := hT.2.1
  have t4 : S.1 2704 = nI (T 4 0) := hxT.2.1
  have stay : letB L T p1 p2 = false → Ok (some ((-1 : Int32), (S.1 7), (S.1 2704), (S.2.2.1 31), (S.2.2.1 32), (S.2.2.1 33))) (fun o : o_X11_letter => o.1 = letA L T p1 p2 ∧ xW S (L, letT L T p1 p2 v, M, I, tp) (wd_o S [(7, o.2.1), (2704, o.2.2.1)] [] [(31, o.2.2.2.1), (32, o.2.2.2.2.1), (33, o.2.2.2.2.2)] [] []) 0 0) := by
    intro z
    unfold letA letT
    rw [z]
    refine ok_some ⟨rfl, ⟨⟨⟨⟨hL, hc3, hT⟩, hl, hxT, hcc, hlens⟩, k, hk, h7, fun b hb hbt => ?_⟩, hm, XIm_o hi rfl rfl, ht⟩, by omega, Nat.le_of_eq (Nat.zero_add _)⟩
    have hp := hn b hb hbt
    match b, hp with
    | 0, hp => exact hp
    | 1, hp => exact hp
    | 2, hp => exact hp
    | 3, hp => exact hp
    | 4, hp => exact hp
    | 5, hp => exact hp
    | 6, hp => exact hp
    | 7, hp => exact hp
    | _ + 8, hp => exact hp
  unfold f_X11_letter
  rw [bd_s (x_isPair (S := wd_o S [(7, (S.1 7)), (2704, (S.1 2704))] [] [(31, (S.2.2.1 31)), (32, (S.2.2.1 32)), (33, (S.2.2.1 33))] [] []) (N := l_N L) (p1 := p1) (p2 := p2) hl.1.1 (by omega))]
  refine ok_b (fun z => stay (by unfold letB; rw [z, Bool.and_false])) (fun z => ?_)
  have hpr := z
  obtain ⟨a, b, rfl, rfl, ha, hb, hab⟩ := prB_t z
  rw [t4, li_6]
  refine ok_ite (fun z => ?_) (fun z => ?_)
  · rw [nI_ltI (by omega) (by omega)] at z
    have hB : letB L T (nI a) (nI b) = true := by unfold letB; rw [hpr, decide_eq_true z]; rfl
    unfold letA letT
    rw [hB, if_pos rfl, if_pos rfl, nI_clamp (by omega), nI_clamp (by omega), h7, and_m33 k hk, lz_eq]
    refine ok_bd (P := fun o => o = (nI (T 4 0), nI (T 4 0 + 1), upd (S.2.2.1 31) (T 4 0) (nI a), upd (S.2.2.1 32) (T 4 0) (nI b), upd (S.2.2.1 33) (T 4 0) (nI (b2n v)))) ?_ ?_
    · unfold f_X6_addLetter_q27
      show Ok (if nI (T 4 0) < (6 : Int32) then gd (okx (nI (T 4 0)) 6) <| lz (upd (S.2.2.1 31) (nI (T 4 0)).toNatClampNeg (nI a)) fun a2 => gd (okx (nI (T 4 0)) 6) <| lz (upd (S.2.2.1 32) (nI (T 4 0)).toNatClampNeg (nI b)) fun a4 => lk (fun (x5 : Int32) (x6 : Int32) => gd (okx x6 6) <| lz (upd (S.2.2.1 33) x6.toNatClampNeg x5) fun a9 => lz (nI (T 4 0) + (1 : Int32)) fun x10 => some (x10 - (1 : Int32), x10, a2, a4, a9)) fun k51_7 => if nI (b2n v) = 0 then k51_7 (0 : Int32) (nI (T 4 0)) else k51_7 (1 : Int32) (nI (T 4 0)) else some ((-1 : Int32), nI (T 4 0), S.2.2.1 31, S.2.2.1 32, S.2.2.1 33)) _
      rw [li_6, if_pos (nI_lt z (by omega)), gd_in z (by omega), lz_eq, gd_in z (by omega), lz_eq, nI_clamp (by omega)]
      refine ok_lk ?_
      have fin : ∀ w : Bool, Ok (gd (okx (nI (T 4 0)) 6) <| lz (upd (S.2.2.1 33) (nI (T 4 0)).toNatClampNeg (nI (b2n w))) fun a9 => lz (nI (T 4 0) + (1 : Int32)) fun x10 => some (x10 - (1 : Int32), x10, upd (S.2.2.1 31) (T 4 0) (nI a), upd (S.2.2.1 32) (T 4 0) (nI b), a9)) (fun o => o = (nI (T 4 0), nI (T 4 0 + 1), upd (S.2.2.1 31) (T 4 0) (nI a), upd (S.2.2.1 32) (T 4 0) (nI b), upd (S.2.2.1 33) (T 4 0) (nI (b2n w)))) := by
        intro w
        rw [gd_in z (by omega), lz_eq, nI_clamp (by omega), lz_eq, nI_1, li_1, pk_sub (by omega), Nat.add_sub_cancel]
        exact ok_some rfl
      refine ok_b (fun y => ?_) (fun y => ?_)
      · rw [y]; exact fin false
      · rw [y]; exact fin true
    · rintro _ rfl
      have hT2 : nOk L (lettT T a b (b2n v)) := lettT_ok hT z ha hb hab (b2n_le v)
      refine ok_some ⟨rfl, ⟨⟨⟨⟨hL, hc3, hT2⟩, hl, ⟨hxT.1, rfl, hxT.2.2.1, fun i hi => ?_⟩, hcc, hlens⟩, k &&& 479, Nat.lt_of_le_of_lt Nat.and_le_left hk, rfl, fun b hb hbt => ?_⟩, hm, XIm_o hi rfl rfl, ht⟩, by omega, Nat.le_of_eq (Nat.zero_add _)⟩
      · have hi : i < T 4 0 + 1 := hi
        show upd (S.2.2.1 31) (T 4 0) (nI a) i = nI (upN (T 5) (T 4 0) a i) ∧ upd (S.2.2.1 32) (T 4 0) (nI b) i = nI (upN (T 6) (T 4 0) b i) ∧ upd (S.2.2.1 33) (T 4 0) (nI (b2n v)) i = nI (upN (T 7) (T 4 0) (b2n v) i)
        by_cases e : i = T 4 0
        · subst e; rw [pk_us, pk_us, pk_us, upN_s, upN_s, upN_s]; exact ⟨rfl, rfl, rfl⟩
        · rw [pk_un e, pk_un e, pk_un e, upN_n e, upN_n e, upN_n e]; exact hxT.2.2.2 i (by omega)
      · rw [Nat.testBit_and, Bool.and_eq_true] at hbt
        have hp := hn b hb hbt.1
        match b, hbt, hp with
        | 0, _, hp => exact hp
        | 1, _, hp => exact hp
        | 2, _, hp => exact hp
        | 3, _, hp => exact hp
        | 4, _, hp => exact hp
        | 5, hbt, _ => exact absurd hbt.2 (by decide)
        | 6, _, hp => exact hp
        | 7, _, hp => exact hp
        | _ + 8, _, hp => exact hp
  · rw [nI_ltI (by omega) (by omega)] at z
    have := stay (by unfold letB; rw [decide_eq_false z]; rfl)
    rw [t4] at this
    exact this
def mdAns (M : Int32 × Int32) (p : Int32) : Int32 := if p = 0 then M.1 else if p = 1 then M.2 else -1
theorem x_mended {S : wd_W} {st : Sta} {p1 : Int32} (h : XW S st) : Ok (f_X11_mended S p1) (fun o => o = mdAns st.2.2.1 p1 ∧ xW S st (wd_o S [] [] [] [] []) 0 0) := by
  have h2 := h
  obtain ⟨_, ⟨m1, m2⟩, _⟩ := h
  unfold f_X11_mended mdAns
  rw [m1, m2]
  have hw : xW S st (wd_o S [] [] [] [] []) 0 0 := ⟨h2, by omega, Nat.le_of_eq (Nat.zero_add _)⟩
  refine ok_ite (fun c => ?_) (fun c => ?_)
  · exact ok_some ⟨by rw [if_pos c], hw⟩
  · rw [if_neg c]
    refine ok_ite (fun c => ?_) (fun c => ?_)
    · exact ok_some ⟨by rw [if_pos c], hw⟩
    · exact ok_some ⟨by rw [if_neg c], hw⟩
noncomputable def menM (L : Ld) (T : Nt) (M : Int32 × Int32) (p : Int32) : Int32 × Int32 := if inB 0 99999 p = true then (nI (bst L T p.toNatClampNeg), nI (coiF T (bst L T p.toNatClampNeg))) else M
theorem x_mend {S : wd_W} {st : Sta} {p1 : Int32} (h : XW S st) : Ok (f_X11_mend S p1) (fun o => o.1 = menA st.1 st.2.1 p1 ∧ xW S (st.1, st.2.1, menM st.1 st.2.1 st.2.2.1 p1, st.2.2.2) o.2.1 o.2.2.1 o.2.2.2) := by
  obtain ⟨L, T, M, I, tp⟩ := st
  have hL := h.1.1.1.1
  have hT := h.1.1.1.2.2
  have e16 : inB 0 ((99999 : Nat) : Int) p1 = inB 0 99999 p1 := rfl
  dsimp only at hL hT ⊢
  unfold f_X11_mend menA menM
  rw [tst_le (q := (99999 : Int32)) (k := 99999) rfl (by omega), e16]
  cases hin : inB 0 99999 p1 with
  | false => exact ok_some ⟨rfl, h, Nat.zero_le _, Nat.le_of_eq (Nat.zero_add _)⟩
  | true =>
    obtain ⟨p, hp, rfl, n1, n2⟩ := inB_t (by omega) hin
    rw [if_pos rfl, if_pos rfl, if_pos rfl, nI_clamp hp]
    refine ok_bd (x_know (S := wd_o S [] [] [] [] []) (q := 24) h.1 (by omega) (by decide) (fun z => absurd z (by decide))) ?_
    rintro ⟨S', nc, ns⟩ hI
    have e := xKI_E hI
    have hMe : xMe S' L T := xKI_P hI (b := 4) (by omega) rfl
    obtain ⟨hW, hnc, hns⟩ := xW_E h (xE_0 e)
    have hN5 := e.1.1.2.2.2.2.2.2.2.1
    have hxT := e.1.1.2.2.1
    obtain ⟨_, _, _, h4, h5, _⟩ := hI
    dsimp only at e h4 h5 hW hnc hns hN5 hxT ⊢
    have hb : bst L T p ≤ 2 ^ T 0 0 - 1 := bmF_le L T p _
    have n0 := hT.1.1
    have pT : 2 ^ T 0 0 ≤ 512 := pow_le_k (n := 9) n0
    have pT0 := Nat.two_pow_pos (T 0 0)
    rw [gd_t (okr_in (by omega) (by omega)), bd_s (x_bestMended (S := wd_o S' [] [] [] [] []) (c := p) hL hxT hT hMe hN5 hp), gd_t (okr_in (by omega) (by omega)), bd_s (x_coinsOf (S := wd_o S' [(8, nI (bst L T p))] [] [] [] []) (T := T) (s := bst L T p) hxT hT (by omega))]
    refine ok_lz ?_
    obtain ⟨m1, m2⟩ := hMe
    obtain ⟨e5, he5, n133⟩ := hN5
    have p5 : 2 ^ e5 ≤ 512 := pow_le_k (n := 9) he5
    show Ok (gd (okx (nI (bst L T p)) (S'.2.2.2.2 133)) <| some ((S'.2.2.2.1 133) (nI (bst L T p)).toNatClampNeg, _, _, _)) _
    rw [gd_in (by omega) (by omega), nI_clamp (by omega)]
    refine ok_some ⟨m2 _ (by omega), ⟨?_, hnc, hns⟩⟩
    obtain ⟨⟨hC, k, hk, h7, hn⟩, hm, hi, ht⟩ := hW
    refine ⟨⟨hC, k, hk, h7, fun b hb hbt => ?_⟩, ⟨rfl, rfl⟩, XIm_o (XIm_o hi rfl rfl) rfl rfl, ht⟩
    have hp := hn b hb hbt
    match b, hp with
    | 0, hp => exact hp
    | 1, hp => exact hp
    | 2, hp => exact hp
    | 3, hp => exact hp
    | 4, hp => exact hp
    | 5, hp => exact hp
    | 6, hp => exact hp
    | 7, hp => exact hp
    | _ + 8, hp => exact hp
