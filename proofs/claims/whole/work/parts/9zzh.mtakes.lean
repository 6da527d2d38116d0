/-! the reference takes what it has read -/
theorem ok_lk7 {ρ : Type} {B : (Nat → Int32) → (Nat → Int32) → (Nat → Int32) → (Nat → Int32) → (Nat → Int32) → (Nat → Int32) → (Nat → Int32) → Option ρ} {R : ((Nat → Int32) → (Nat → Int32) → (Nat → Int32) → (Nat → Int32) → (Nat → Int32) → (Nat → Int32) → (Nat → Int32) → Option ρ) → Option ρ} {Q : ρ → Prop} (I : (Nat → Int32) → (Nat → Int32) → (Nat → Int32) → (Nat → Int32) → (Nat → Int32) → (Nat → Int32) → (Nat → Int32) → Prop) (hR : ∀ K, (∀ a b c d e f g, I a b c d e f g → Ok (K a b c d e f g) Q) → Ok (R K) Q) (hB : ∀ a b c d e f g, I a b c d e f g → Ok (B a b c d e f g) Q) : Ok (lk B R) Q := hR B hB
theorem tk_bit {x l s : Nat} (hx : x < 2 ^ 31) (hl : l < 32) (hs : s < 16) : (((nI x >>> (nI l &&& 31)) &&& (1 : Int32)) <<< (nI s &&& 31)) = nI (if x.testBit l = true then 2 ^ s else 0) := by
  have h2 : 2 ^ s ≤ 2 ^ 15 := Nat.pow_le_pow_right (by omega) (by omega)
  rw [li_1, oI_tb hx hl]
  cases x.testBit l with
  | false => rw [b2n_f, oI_shl (by omega) (by rw [Nat.zero_mul]; omega), Nat.zero_mul, if_neg (by decide)]
  | true => rw [b2n_t, oI_shl (by omega) (by rw [Nat.one_mul]; omega), Nat.one_mul, if_pos rfl]
theorem tk_both {x : Nat} (hx : x ≤ 1) : vp_nar .boolean (if nI x = nI 1 then nI 1 else nI 0) = nI x := by
  rcases (show x = 0 ∨ x = 1 by omega) with rfl | rfl
  · rw [if_neg (by decide)]; rfl
  · rw [if_pos rfl]; rfl
/-- the causes' loops: a row takes one bit more -/
theorem m_tkLines {S : wd_W} {n c s x : Nat} {a0 : Nat → Int32} {f0 : Nat → Nat} {Q : o_X12_takes → Prop} (hn : n ≤ 12) (hc : c < 3) (hs : s < 16) (h6 : S.2.2.1 6 c = nI x) (hx : x < 2 ^ 31) (h0 : ∀ l, l < n → a0 l = nI (f0 l)) (K : (Nat → Int32) → Option o_X12_takes) (hK : ∀ a, (∀ l, l < n → a l = nI (f0 l ||| (if x.testBit l = true then 2 ^ s else 0))) → Ok (K a) Q) :
    Ok (it2 (f_X12_takes_L308 S (nI n) (nI c) (nI s) K) fuel (nI 0) a0) Q := by
  refine ok_for0 (W := fun m i (a : Nat → Int32) => it2 (f_X12_takes_L308 S (nI n) (nI c) (nI s) K) m (nI i) a) (I := fun i a => (∀ l, l < i → a l = nI (f0 l ||| (if x.testBit l = true then 2 ^ s else 0))) ∧ ∀ l, i ≤ l → a l = a0 l) (e := n) (s := a0) (by omega) ⟨fun l hl => absurd hl (Nat.not_lt_zero l), fun _ _ => rfl⟩ ?_ ?_
  · intro m a hI
    show Ok (f_X12_takes_L308 S (nI n) (nI c) (nI s) K _ (nI n) a) Q
    unfold f_X12_takes_L308
    rw [if_pos (nI_le (Nat.le_refl _) (by omega))]
    exact hK a hI.1
  · intro m i a hi hI ih
    show Ok (f_X12_takes_L308 S (nI n) (nI c) (nI s) K (it2 _ m) (nI i) a) Q
    generalize it2 (f_X12_takes_L308 S (nI n) (nI c) (nI s) K) m = r at ih
    unfold f_X12_takes_L308
    rw [if_neg (nI_ge hi (by omega)), gd_in (by omega) (by omega), gd_in (by omega) (by omega), nI_clamp (by omega), nI_clamp (by omega), h6, tk_bit hx (by omega) hs, hI.2 i (Nat.le_refl _), h0 i hi, oI_or, lz_eq, gd_in (by omega) (by omega), lz_eq, nI_1]
    refine ih _ ⟨fun l hl => ?_, fun l hl => ?_⟩
    · by_cases e : l = i
      · subst e; rw [pk_us]
      · rw [pk_un e]; exact hI.1 l (by omega)
    · rw [pk_un (by omega)]; exact hI.2 l (by omega)
theorem m_tkPlaces {S : wd_W} {n c s x : Nat} {a0 : Nat → Int32} {f0 : Nat → Nat} {Q : o_X12_takes → Prop} (hn : n ≤ 10) (hc : c < 3) (hs : s < 16) (h7 : S.2.2.1 7 c = nI x) (hx : x < 2 ^ n) (h0 : ∀ l, l < 10 → a0 l = nI (f0 l)) (K : (Nat → Int32) → Option o_X12_takes) (hK : ∀ a, (∀ l, l < 10 → a l = nI (f0 l ||| (if x.testBit l = true then 2 ^ s else 0))) → Ok (K a) Q) :
    Ok (it2 (f_X12_takes_L345 S (nI n) (nI c) (nI s) K) fuel (nI 0) a0) Q := by
  have hx31 : x < 2 ^ 31 := Nat.lt_of_lt_of_le hx (Nat.pow_le_pow_right (by omega) (by omega))
  refine ok_for0 (W := fun m i (a : Nat → Int32) => it2 (f_X12_takes_L345 S (nI n) (nI c) (nI s) K) m (nI i) a) (I := fun i a => (∀ l, l < i → a l = nI (f0 l ||| (if x.testBit l = true then 2 ^ s else 0))) ∧ ∀ l, i ≤ l → a l = a0 l) (e := n) (s := a0) (by omega) ⟨fun l hl => absurd hl (Nat.not_lt_zero l), fun _ _ => rfl⟩ ?_ ?_
  · intro m a hI
    show Ok (f_X12_takes_L345 S (nI n) (nI c) (nI s) K _ (nI n) a) Q
    unfold f_X12_takes_L345
    rw [if_pos (nI_le (Nat.le_refl _) (by omega))]
    refine hK a (fun l hl => ?_)
    by_cases e : l < n
    · exact hI.1 l e
    · rw [hI.2 l (by omega), h0 l hl, tb_lt hx (by omega), if_neg (by decide), Nat.or_zero]
  · intro m i a hi hI ih
    show Ok (f_X12_takes_L345 S (nI n) (nI c) (nI s) K (it2 _ m) (nI i) a) Q
    generalize it2 (f_X12_takes_L345 S (nI n) (nI c) (nI s) K) m = r at ih
    unfold f_X12_takes_L345
    rw [if_neg (nI_ge hi (by omega)), gd_in (by omega) (by omega), gd_in (by omega) (by omega), nI_clamp (by omega), nI_clamp (by omega), h7, tk_bit hx31 (by omega) hs, hI.2 i (Nat.le_refl _), h0 i (by omega), oI_or, lz_eq, gd_in (by omega) (by omega), lz_eq, nI_1]
    refine ih _ ⟨fun l hl => ?_, fun l hl => ?_⟩
    · by_cases e : l = i
      · subst e; rw [pk_us]
      · rw [pk_un e]; exact hI.1 l (by omega)
    · rw [pk_un (by omega)]; exact hI.2 l (by omega)
theorem m_rtakes {S : wd_W} {L : Ld} {d : Nat} (hL : ld3 L) (hm : mRd S L d) :
    Ok (f_X12_takes S) (fun o => mL (wd_o S [(20, o.1), (21, o.2.1), (30, o.2.2.1), (31, o.2.2.2.1), (32, o.2.2.2.2.1), (34, o.2.2.2.2.2.1), (35, o.2.2.2.2.2.2.1), (36, o.2.2.2.2.2.2.2.1), (37, o.2.2.2.2.2.2.2.2.1), (44, o.2.2.2.2.2.2.2.2.2.1), (51, o.2.2.2.2.2.2.2.2.2.2.1), (55, o.2.2.2.2.2.2.2.2.2.2.2.1), (60, o.2.2.2.2.2.2.2.2.2.2.2.2.1)] [] [(8, o.2.2.2.2.2.2.2.2.2.2.2.2.2.1), (9, o.2.2.2.2.2.2.2.2.2.2.2.2.2.2.1), (10, o.2.2.2.2.2.2.2.2.2.2.2.2.2.2.2.1), (11, o.2.2.2.2.2.2.2.2.2.2.2.2.2.2.2.2.1), (12, o.2.2.2.2.2.2.2.2.2.2.2.2.2.2.2.2.2.1), (13, o.2.2.2.2.2.2.2.2.2.2.2.2.2.2.2.2.2.2.1), (14, o.2.2.2.2.2.2.2.2.2.2.2.2.2.2.2.2.2.2.2.1), (15, o.2.2.2.2.2.2.2.2.2.2.2.2.2.2.2.2.2.2.2.2.1), (16, o.2.2.2.2.2.2.2.2.2.2.2.2.2.2.2.2.2.2.2.2.2)] [] []) L ∧ o.2.2.2.1 = nI (l_c L) ∧ o.2.2.2.2.1 = nI (l_M L) ∧ o.2.2.2.2.2.2.2.2.2.1 = nI 0 ∧ o.2.2.2.2.2.2.2.2.2.2.1 = nI 0 ∧ o.2.2.2.2.2.2.2.2.2.2.2.1 = nI 0 ∧ o.2.2.2.2.2.2.2.2.2.2.2.2.1 = nI 0) := by
  obtain ⟨c1, c2, c3, c4, c5⟩ := lOk_cnt hL.1
  have hc3 := hL.2
  have hMd : l_M L = l_n L + l_k L + l_c L := rfl
  obtain ⟨⟨m3, m6, m10, m11, m12, m13, m14, m15, m16⟩, mk, mj, mc⟩ := hm
  unfold f_X12_takes
  rw [m3, m6, m10, m11, m12, m13, m14, m15, lz_eq, lz_eq, lz_eq, lz_eq]
  rw [bd_s (m_things (S := wd_o S [(20, nI (l_N L)), (21, nI (l_n L)), (30, nI (l_k L)), (31, nI (l_c L)), (32, (S.1 32)), (34, (S.1 34)), (35, (S.1 35)), (36, (S.1 36)), (37, (S.1 37)), (44, (S.1 44)), (51, (S.1 51)), (55, (S.1 55)), (60, (S.1 60))] [] [(8, (S.2.2.1 8)), (9, (S.2.2.1 9)), (10, (S.2.2.1 10)), (11, (S.2.2.1 11)), (12, (S.2.2.1 12)), (13, (S.2.2.1 13)), (14, (S.2.2.1 14)), (15, (S.2.2.1 15)), (16, (S.2.2.1 16))] [] []) (L := L) m3 m6 m10)]
  rw [lz_eq, lz_eq, lz_eq, lz_eq]
  refine ok_lk2 (fun a10 a11 => ∀ p, p < 10 → a10 p = nI 0 ∧ a11 p = -1) (fun K hK => ?_) ?_
  · rw [li_0]
    refine ok_for0 (W := fun m i (s : (Nat → Int32) × (Nat → Int32)) => it3 (f_X12_takes_L74 K) m (nI i) s.1 s.2) (I := fun i s => ∀ p, p < i → s.1 p = nI 0 ∧ s.2 p = -1) (e := 10) (s := (S.2.2.1 14, S.2.2.1 15)) (by omega) (fun p hp => absurd hp (Nat.not_lt_zero p)) ?_ ?_
    · rintro m ⟨a, b⟩ hI
      show Ok (f_X12_takes_L74 K _ (nI 10) a b) _
      unfold f_X12_takes_L74
      rw [if_pos (show (10 : Int32) ≤ nI 10 by decide)]
      exact hK a b hI
    · rintro m i ⟨a, b⟩ hi hI ih
      show Ok (f_X12_takes_L74 K (it3 _ m) (nI i) a b) _
      generalize it3 (f_X12_takes_L74 K) m = r at ih
      dsimp only at hI
      unfold f_X12_takes_L74
      rw [li_10, if_neg (nI_ge hi (by omega)), gd_in (by omega) (by omega), lz_eq, gd_in (by omega) (by omega), lz_eq, nI_clamp (by omega), nI_1]
      refine ih (_, _) (fun p hp => ?_)
      by_cases e : p = i
      · subst e; exact ⟨pk_us, pk_us⟩
      · show upd a i (0 : Int32) p = nI 0 ∧ upd b i (-1 : Int32) p = -1
        rw [pk_un e, pk_un e]; exact hI p (by omega)
  intro a10 a11 hz
  refine ok_lk7 (fun a13 a14 a15 a16 a17 a18 a19 => ∀ k, k < l_n L → a13 k = nI (l_A L k) ∧ a14 k = nI (l_B L k) ∧ a15 k = nI (l_C L k) ∧ a16 k = nI (l_O L k) ∧ a17 k = nI (l_D L k) ∧ a18 k = nI 0 ∧ a19 k = nI (l_C L k)) (fun K hK => ?_) ?_
  · rw [li_0]
    refine ok_for0 (W := fun m i (s : (Nat → Int32) × (Nat → Int32) × (Nat → Int32) × (Nat → Int32) × (Nat → Int32) × (Nat → Int32) × (Nat → Int32)) => it8 (f_X12_takes_L102 S (nI (l_n L)) K) m (nI i) s.1 s.2.1 s.2.2.1 s.2.2.2.1 s.2.2.2.2.1 s.2.2.2.2.2.1 s.2.2.2.2.2.2) (I := fun i s => ∀ k, k < i → s.1 k = nI (l_A L k) ∧ s.2.1 k = nI (l_B L k) ∧ s.2.2.1 k = nI (l_C L k) ∧ s.2.2.2.1 k = nI (l_O L k) ∧ s.2.2.2.2.1 k = nI (l_D L k) ∧ s.2.2.2.2.2.1 k = nI 0 ∧ s.2.2.2.2.2.2 k = nI (l_C L k)) (e := l_n L) (s := (S.2.2.1 8, S.2.2.1 9, S.2.2.1 10, S.2.2.1 11, S.2.2.1 12, S.2.2.1 13, S.2.2.1 16)) (by omega) (fun p hp => absurd hp (Nat.not_lt_zero p)) ?_ ?_
    · rintro m ⟨a, b, c, d', e, f, g⟩ hI
      show Ok (f_X12_takes_L102 S (nI (l_n L)) K _ (nI (l_n L)) a b c d' e f g) _
      unfold f_X12_takes_L102
      rw [if_pos (nI_le (Nat.le_refl _) (by omega))]
      exact hK _ _ _ _ _ _ _ hI
    · rintro m i ⟨a, b, c, d', e, f, g⟩ hi hI ih
      show Ok (f_X12_takes_L102 S (nI (l_n L)) K (it8 _ m) (nI i) a b c d' e f g) _
      generalize it8 (f_X12_takes_L102 S (nI (l_n L)) K) m = r at ih
      dsimp only at hI
      obtain ⟨k1, k2, k3, k4, k5⟩ := mk i hi
      have hO := (hL.1.2.1 i hi).2.2.2.2.1
      have e5 : (5 : Int32) * nI i = nI (5 * i) := by rw [li_5, nI_mulR, Nat.mul_comm]
      unfold f_X12_takes_L102
      rw [if_neg (nI_ge hi (by omega)), e5, li_1, li_2, li_3, li_4, nI_add, nI_add, nI_add, nI_add, nI_add, gd_in (by omega) (by omega), lz_eq, gd_in (by omega) (by omega), lz_eq, gd_in (by omega) (by omega), lz_eq, gd_in (by omega) (by omega), lz_eq, gd_in (by omega) (by omega), lz_eq, gd_in (by omega) (by omega), lz_eq, gd_in (by omega) (by omega)]
      rw [nI_clamp (show 5 * i < 2 ^ 31 by omega), nI_clamp (show 5 * i + 1 < 2 ^ 31 by omega), nI_clamp (show 5 * i + 2 < 2 ^ 31 by omega), nI_clamp (show 5 * i + 3 < 2 ^ 31 by omega), nI_clamp (show 5 * i + 4 < 2 ^ 31 by omega), nI_clamp (show i < 2 ^ 31 by omega), k1, k2, k3, k4, k5]
      refine ok_lk2 (fun x100 x101 => x100 = (if nI (l_O L i) = nI 1 then nI 1 else nI 0) ∧ x101 = nI i) (fun K2 hK2 => ?_) ?_
      · refine ok_ite (fun z => ?_) (fun z => ?_)
        · exact hK2 _ _ ⟨by rw [if_pos z], rfl⟩
        · exact hK2 _ _ ⟨by rw [if_neg z]; rfl, rfl⟩
      · rintro _ _ ⟨rfl, rfl⟩
        rw [gd_in (by omega) (by omega), lz_eq, gd_in (by omega) (by omega), lz_eq, gd_in (by omega) (by omega), lz_eq, gd_in (by omega) (by omega), lz_eq, gd_in (by omega) (by omega), lz_eq, gd_in (by omega) (by omega), lz_eq, nI_clamp (show i < 2 ^ 31 by omega), pk_us, tk_both hO]
        refine ih (_, _, _, _, _, _, _) (fun k hk => ?_)
        show upd a i (nI (l_A L i)) k = nI (l_A L k) ∧ upd b i (nI (l_B L i)) k = nI (l_B L k) ∧ upd c i (nI (l_C L i)) k = nI (l_C L k) ∧ upd d' i (nI (l_O L i)) k = nI (l_O L k) ∧ upd e i (nI (l_D L i)) k = nI (l_D L k) ∧ upd f i (0 : Int32) k = nI 0 ∧ upd g i (nI (l_C L i)) k = nI (l_C L k)
        by_cases ek : k = i
        · subst ek; rw [pk_us, pk_us, pk_us, pk_us, pk_us, pk_us, pk_us]; exact ⟨rfl, rfl, rfl, rfl, rfl, rfl, rfl⟩
        · rw [pk_un ek, pk_un ek, pk_un ek, pk_un ek, pk_un ek, pk_un ek, pk_un ek]; exact hI k (by omega)
  intro a13 a14 a15 a16 a17 a18 a19 h8
  refine ok_lk2 (fun a21 a22 => (∀ p, p < 10 → a21 p = kpr L p) ∧ (∀ k, k < l_n L → a22 k = nI (l_C L k)) ∧ ∀ j, j < l_k L → a22 (l_n L + j) = nI (l_Q L j)) (fun K hK => ?_) ?_
  · rw [li_0]
    refine ok_for0 (W := fun m i (s : (Nat → Int32) × (Nat → Int32)) => it3 (f_X12_takes_L224 S (nI (l_n L)) (nI (l_k L)) K) m (nI i) s.1 s.2) (I := fun i s => (∀ p, p < 10 → s.1 p = kpF (l_P L) (l_n L) p i) ∧ (∀ k, k < l_n L → s.2 k = nI (l_C L k)) ∧ ∀ j, j < i → s.2 (l_n L + j) = nI (l_Q L j)) (e := l_k L) (s := (a11, a19)) (by omega) ⟨fun p hp => (hz p hp).2, fun k hk => (h8 k hk).2.2.2.2.2.2, fun j hj => absurd hj (Nat.not_lt_zero j)⟩ ?_ ?_
    · rintro m ⟨a, b⟩ hI
      show Ok (f_X12_takes_L224 S (nI (l_n L)) (nI (l_k L)) K _ (nI (l_k L)) a b) _
      unfold f_X12_takes_L224
      rw [if_pos (nI_le (Nat.le_refl _) (by omega))]
      exact hK _ _ hI
    · rintro m i ⟨a, b⟩ hi hI ih
      show Ok (f_X12_takes_L224 S (nI (l_n L)) (nI (l_k L)) K (it3 _ m) (nI i) a b) _
      generalize it3 (f_X12_takes_L224 S (nI (l_n L)) (nI (l_k L)) K) m = r at ih
      dsimp only at hI
      obtain ⟨k1, k2⟩ := mj i hi
      have hP := (hL.1.2.2.1 i hi).1
      unfold f_X12_takes_L224
      rw [if_neg (nI_ge hi (by omega)), gd_in (by omega) (by omega), nI_clamp (show i < 2 ^ 31 by omega), k1, k2, nI_add, nI_1, lz_eq, gd_in (by omega) (by omega), lz_eq, gd_in (by omega) (by omega), lz_eq, gd_in (by omega) (by omega), lz_eq, nI_clamp (show l_P L i < 2 ^ 31 by omega), nI_clamp (show l_n L + i < 2 ^ 31 by omega)]
      refine ih (_, _) ⟨fun p hp => ?_, fun k hk => ?_, fun j hj => ?_⟩
      · show upd a (l_P L i) (nI (l_n L + i)) p = (if l_P L i = p then nI (l_n L + i) else kpF (l_P L) (l_n L) p i)
        by_cases e : l_P L i = p
        · rw [if_pos e, ← e, pk_us]
        · rw [if_neg e, pk_un (fun z => e z.symm)]; exact hI.1 p hp
      · show upd b (l_n L + i) (nI (l_Q L i)) k = nI (l_C L k)
        rw [pk_un (by omega)]; exact hI.2.1 k hk
      · show upd b (l_n L + i) (nI (l_Q L i)) (l_n L + j) = nI (l_Q L j)
        by_cases e : j = i
        · subst e; rw [pk_us]
        · rw [pk_un (by omega)]; exact hI.2.2 j (by omega)
  rintro a21 a22 ⟨hk1, hk2, hk3⟩
  refine ok_lk3 (fun a24 a25 a26 => (∀ l, l < l_n L → a24 l = nI (lcm L l)) ∧ (∀ p, p < 10 → a25 p = nI (pcm L p)) ∧ ∀ t, t < l_M L → a26 t = nI (cha L t)) (fun K hK => ?_) ?_
  · rw [li_0]
    refine ok_for0 (W := fun m i (s : (Nat → Int32) × (Nat → Int32) × (Nat → Int32)) => it4 (f_X12_takes_L274 S (nI (l_N L)) (nI (l_n L)) (nI (l_k L)) (nI (l_c L)) K) m (nI i) s.1 s.2.1 s.2.2) (I := fun i s => (∀ l, l < l_n L → s.1 l = nI (orF (fun c => if (l_X L c).testBit l = true then 2 ^ (l_n L + l_k L + c) else 0) i)) ∧ (∀ p, p < 10 → s.2.1 p = nI (orF (fun c => if (l_Y L c).testBit p = true then 2 ^ (l_n L + l_k L + c) else 0) i)) ∧ ∀ t, t < l_n L + l_k L + i → s.2.2 t = nI (cha L t)) (e := l_c L) (s := (a18, a10, a22)) (by omega) ⟨fun l hl => (h8 l hl).2.2.2.2.2.1, fun p hp => (hz p hp).1, fun t ht => ?_⟩ ?_ ?_
    · have ht : t < l_n L + l_k L + 0 := ht
      show a22 t = nI (cha L t)
      unfold cha
      by_cases e : t < l_n L
      · rw [if_pos e]; exact hk2 t e
      · rw [if_neg e, if_pos (by omega)]
        have := hk3 (t - l_n L) (by omega)
        rw [show l_n L + (t - l_n L) = t by omega] at this
        exact this
    · rintro m ⟨a, b, c⟩ hI
      show Ok (f_X12_takes_L274 S (nI (l_N L)) (nI (l_n L)) (nI (l_k L)) (nI (l_c L)) K _ (nI (l_c L)) a b c) _
      unfold f_X12_takes_L274
      rw [if_pos (nI_le (Nat.le_refl _) (by omega))]
      exact hK _ _ _ hI
    · rintro m i ⟨a, b, c⟩ hi hI ih
      show Ok (f_X12_takes_L274 S (nI (l_N L)) (nI (l_n L)) (nI (l_k L)) (nI (l_c L)) K (it4 _ m) (nI i) a b c) _
      generalize it4 (f_X12_takes_L274 S (nI (l_N L)) (nI (l_n L)) (nI (l_k L)) (nI (l_c L)) K) m = r at ih
      dsimp only at hI
      obtain ⟨k1, k2, k3⟩ := mc i hi
      obtain ⟨x1, x2, x3⟩ := hL.1.2.2.2.2.1 i hi
      have hx31 : l_X L i < 2 ^ 31 := Nat.lt_of_lt_of_le x2 (Nat.pow_le_pow_right (by omega) (by omega))
      unfold f_X12_takes_L274
      rw [if_neg (nI_ge hi (by omega)), nI_add, nI_add, lz_eq, gd_in (by omega) (by omega), lz_eq, gd_in (by omega) (by omega), lz_eq, nI_clamp (show i < 2 ^ 31 by omega), nI_clamp (show l_n L + l_k L + i < 2 ^ 31 by omega), k1, nI_1]
      refine ok_lk1 (fun a38 => ∀ l, l < l_n L → a38 l = nI (orF (fun c => if (l_X L c).testBit l = true then 2 ^ (l_n L + l_k L + c) else 0) (i + 1))) (fun K2 hK2 => ?_) ?_
      · rw [li_0]
        exact m_tkLines (f0 := fun l => orF (fun c => if (l_X L c).testBit l = true then 2 ^ (l_n L + l_k L + c) else 0) i) c2 (by omega) (by omega) k2 hx31 hI.1 K2 hK2
      · intro a38 h38
        refine ok_lk1 (fun a40 => ∀ p, p < 10 → a40 p = nI (orF (fun c => if (l_Y L c).testBit p = true then 2 ^ (l_n L + l_k L + c) else 0) (i + 1))) (fun K2 hK2 => ?_) ?_
        · rw [li_0]
          exact m_tkPlaces (f0 := fun p => orF (fun c => if (l_Y L c).testBit p = true then 2 ^ (l_n L + l_k L + c) else 0) i) c1 (by omega) (by omega) k3 x3 hI.2.1 K2 hK2
        · intro a40 h40
          refine ih (a38, a40, _) ⟨h38, h40, fun t ht => ?_⟩
          have ht : t < l_n L + l_k L + (i + 1) := ht
          show upd c (l_n L + l_k L + i) (nI (l_R L i)) t = nI (cha L t)
          by_cases e : t = l_n L + l_k L + i
          · rw [e, pk_us]
            unfold cha
            rw [if_neg (by omega), if_neg (by omega), show l_n L + l_k L + i - l_n L - l_k L = i by omega]
          · rw [pk_un e]; exact hI.2.2 t (by omega)
  rintro a24 a25 a26 ⟨q1, q2, q3⟩
  refine ok_some ⟨⟨⟨rfl, rfl, rfl, trivial, rfl, rfl, rfl, rfl, rfl⟩, fun k hk => ?_, fun p hp => ⟨q2 p hp, hk1 p hp⟩, q3⟩, rfl, rfl, rfl, rfl, rfl, rfl⟩
  obtain ⟨w1, w2, w3, w4, w5, _, _⟩ := h8 k hk
  exact ⟨w1, w2, w3, w4, w5, q1 k hk⟩
theorem m_land {S : wd_W} {st : Sta} (h : MW S st) (h400 : st.2.2.2.2.1 ≤ 400) (hb : ∀ i, i < st.2.2.2.2.1 → st.2.2.2.2.2 i < 256) : Ok (f_X12_land S) (fun o => o.1 = lanA st.2.2.2.2 ∧ MW o.2 (lanS st)) := by
  obtain ⟨L, T, M, I, n, t⟩ := st
  obtain ⟨h1, h2, h3, h4, ht1, ht2⟩ := h
  dsimp only at h1 h2 h3 h4 ht1 ht2 h400 hb ⊢
  unfold f_X12_land lanA lanS
  dsimp only
  refine ok_lz (ok_lz ?_)
  refine ok_bd (m_rtext (n := n) (t := t) ⟨ht1, h400, fun i hi => ⟨hb i hi, ht2 i hi⟩⟩ rfl rfl) ?_
  rintro ⟨x0, y3, y6, y10, y11, y12, y13, y14, y15, y16, y17, y18, y19, a2, a3, a4, a5, a6, a7⟩ ho
  refine ok_lz ?_
  cases hP : pLand t n with
  | error f =>
    rw [hP] at ho
    obtain ⟨e0, e18⟩ := ho
    dsimp only at e0 e18 ⊢
    subst e0; subst e18
    rw [ite_0]
    exact ok_some ⟨rfl, h1, h2, h3, h4, rfl, fun i hi => absurd hi (Nat.not_lt_zero i)⟩
  | ok K =>
    rw [hP] at ho
    obtain ⟨e0, d, hK, hm, _⟩ := ho
    dsimp only at e0 ⊢
    subst e0
    rw [ite_1]
    refine ok_lz ?_
    refine ok_bd (m_rtakes (L := K) (d := d) hK ?_) ?_
    · exact hm
    rintro o5 ⟨r1, r2, r3, r4, r5, r6, r7⟩
    refine ok_some ⟨r3, ⟨⟨hK.1, hK.2, ⟨Nat.zero_le _, fun j hj => absurd hj (Nat.not_lt_zero j)⟩, Nat.zero_le _, fun j hj => absurd hj (Nat.not_lt_zero j)⟩, r1, r2, ⟨r5, r7, fun j hj => absurd hj (Nat.not_lt_zero j), fun j hj => absurd hj (Nat.not_lt_zero j)⟩⟩, Or.inl r4, Or.inl ⟨r6, rfl⟩, h4, rfl, fun i hi => absurd hi (Nat.not_lt_zero i)⟩
