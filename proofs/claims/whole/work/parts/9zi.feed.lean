/-! feed and end, on both sides -/
theorem joined_same2 {L : Ld} {a b : Nat} {v w : Int32} (hL : lOk L) (ha : a < l_N L) (hb : b < l_N L) (h1 : joM L a b v) (h2 : joX L a b w) (hG : jG (l_N L) (jL (l_A L) (l_B L) (l_n L))) : w = v := by
  obtain ⟨k1, y1, n, j1, n1, rfl, hT⟩ := h1
  obtain ⟨k2, y2, g2, j2, n2, rfl⟩ := h2
  rw [joined_same hG j1 n1 j2 n2 hT]
def byN (p : Int32) (k : Nat) : Nat := (p.toBitVec.toNat >>> k) % 256
theorem byN_lt (p : Int32) (k : Nat) : byN p k < 256 := Nat.mod_lt _ (by decide)
theorem byN_bit (p : Int32) (k i : Nat) : (byN p k).testBit i = (decide (i < 8) && p.toBitVec.getLsbD (k + i)) := by
  unfold byN
  rw [show (256 : Nat) = 2 ^ 8 from rfl, Nat.testBit_mod_two_pow, Nat.testBit_shiftRight]
  rfl
theorem by_ref {p : Int32} {k : Nat} (hk : k ≤ 24) : (p >>> (nI k &&& 31)).toInt8.toInt32 = sby (byN p k) := by
  unfold sby
  congr 1
  apply Int8.toBitVec_inj.1
  apply BitVec.eq_of_getLsbD_eq
  intro i hi
  rw [Int32.toBitVec_toInt8, Int32.toBitVec_toInt8, BitVec.getLsbD_signExtend, BitVec.getLsbD_signExtend, Int32.toBitVec_shiftRight, BitVec.getLsbD_sshiftRight', s_l k (by omega), if_pos (show i < 32 by omega), if_pos (show i < 32 by omega), if_pos (show k + i < 32 by omega)]
  show (decide (i < 8) && (!decide (32 ≤ i) && p.toBitVec.getLsbD (k + i))) = (decide (i < 8) && (BitVec.ofNat 32 (byN p k)).getLsbD i)
  rw [BitVec.getLsbD_ofNat, byN_bit, decide_eq_true hi, decide_eq_true (show i < 32 by omega), decide_eq_false (show ¬ 32 ≤ i by omega)]
  rfl
theorem s_u : ∀ n, n < 32 → (((nI n).toUInt32 &&& Int32.toUInt32 31).toBitVec % 32).toNat = n := by decide +kernel
theorem by_dev {p : Int32} {k : Nat} (hk : k ≤ 24) : ((p.toUInt32 >>> ((nI k).toUInt32 &&& Int32.toUInt32 31)).toInt32) &&& (255 : Int32) = nI (byN p k) := by
  apply Int32.toBitVec_inj.1
  apply BitVec.eq_of_getLsbD_eq
  intro i hi
  have e255 : (255 : Int32) = nI 255 := rfl
  rw [e255, Int32.toBitVec_and, BitVec.getLsbD_and, UInt32.toBitVec_toInt32, UInt32.toBitVec_shiftRight, BitVec.ushiftRight_eq', BitVec.getLsbD_ushiftRight]
  show (p.toBitVec.getLsbD ((((nI k).toUInt32 &&& Int32.toUInt32 31).toBitVec % 32).toNat + i) && (BitVec.ofNat 32 255).getLsbD i) = (BitVec.ofNat 32 (byN p k)).getLsbD i
  rw [s_u k (by omega), BitVec.getLsbD_ofNat, BitVec.getLsbD_ofNat, byN_bit, decide_eq_true hi, show (255 : Nat) = 2 ^ 8 - 1 from rfl, Nat.testBit_two_pow_sub_one, Bool.true_and, Bool.true_and, Bool.and_comm]
/-- a byte behind the others -/
def appB (t : Nat × (Nat → Nat)) (b : Nat) : Nat × (Nat → Nat) := (t.1 + 1, upN t.2 t.1 b)
def putT (t : Nat × (Nat → Nat)) (p : Int32) : Nat × (Nat → Nat) := appB (appB (appB (appB t (byN p 24)) (byN p 16)) (byN p 8)) (byN p 0)
def TD (t : Nat × (Nat → Nat)) (x : Int32) (a : Nat → Int32) : Prop := x = nI t.1 ∧ ∀ i, i < t.1 → t.2 i < 256 ∧ a i = nI (t.2 i)
def TM (t : Nat × (Nat → Nat)) (x : Int32) (a : Nat → Int32) : Prop := x = nI t.1 ∧ ∀ i, i < t.1 → a i = sby (t.2 i)
theorem TD_app {t : Nat × (Nat → Nat)} {x : Int32} {a : Nat → Int32} {b : Nat} (h : TD t x a) (hb : b < 256) : TD (appB t b) (nI (t.1 + 1)) (upd a t.1 (nI b)) := by
  refine ⟨rfl, fun i hi => ?_⟩
  have hi : i < t.1 + 1 := hi
  show upN t.2 t.1 b i < 256 ∧ upd a t.1 (nI b) i = nI (upN t.2 t.1 b i)
  by_cases e : i = t.1
  · subst e; rw [pk_us, upN_s]; exact ⟨hb, rfl⟩
  · rw [pk_un e, upN_n e]; exact h.2 i (by omega)
theorem TM_app {t : Nat × (Nat → Nat)} {x : Int32} {a : Nat → Int32} {b : Nat} (h : TM t x a) : TM (appB t b) (nI (t.1 + 1)) (upd a t.1 (sby b)) := by
  refine ⟨rfl, fun i hi => ?_⟩
  have hi : i < t.1 + 1 := hi
  show upd a t.1 (sby b) i = sby (upN t.2 t.1 b i)
  by_cases e : i = t.1
  · subst e; rw [pk_us, upN_s]
  · rw [pk_un e, upN_n e]; exact h.2 i (by omega)
def shV (i : Nat) : Int32 := if i = 4 then -8 else nI (24 - 8 * i)
def puI (t : Nat × (Nat → Nat)) (p : Int32) : Nat → Nat × (Nat → Nat)
  | 0 => t
  | i + 1 => appB (puI t p i) (byN p (24 - 8 * i))
theorem puI_1 (t : Nat × (Nat → Nat)) (p : Int32) : ∀ i, (puI t p i).1 = t.1 + i
  | 0 => rfl
  | i + 1 => by
    show (puI t p i).1 + 1 = t.1 + (i + 1)
    rw [puI_1 t p i]; omega
theorem x_put4 {S : wd_W} {t : Nat × (Nat → Nat)} {p : Int32} (h : TD t (S.1 1400) (S.2.2.1 15)) (ht : t.1 + 4 ≤ 400) : Ok (f_X9_put_q14 S p) (fun o => TD (putT t p) o.1 o.2) := by
  unfold f_X9_put_q14
  refine ok_for0 (W := fun m i (s : Int32 × (Nat → Int32)) => it3 (f_X9_put_q14_L3 p) m (shV i) s.1 s.2) (I := fun i s => TD (puI t p i) s.1 s.2) (e := 4) (s := (S.1 1400, S.2.2.1 15)) (by omega) h ?_ ?_
  · rintro m ⟨x2, a3⟩ hI
    show Ok (f_X9_put_q14_L3 p _ (-8 : Int32) x2 a3) _
    unfold f_X9_put_q14_L3
    rw [if_pos (by decide)]
    exact ok_some hI
  · rintro m i ⟨x2, a3⟩ hi hI ih
    dsimp only at hI
    show Ok (f_X9_put_q14_L3 p (it3 _ m) (shV i) x2 a3) _
    generalize it3 (f_X9_put_q14_L3 p) m = r at ih
    have e0 : shV i = nI (24 - 8 * i) := by unfold shV; rw [if_neg (by omega)]
    have e1 : nI (24 - 8 * i) + (-8 : Int32) = shV (i + 1) := by
      rcases (show i = 0 ∨ i = 1 ∨ i = 2 ∨ i = 3 by omega) with rfl | rfl | rfl | rfl <;> rfl
    have hx := hI.1
    have h1 := puI_1 t p i
    unfold f_X9_put_q14_L3
    rw [e0, if_neg (fun q => (oI_neg (by omega)).mp q), e1]
    refine ok_lk2 (fun x5 a6 => TD (puI t p (i + 1)) x5 a6) (fun K hK => ?_) (fun x5 a6 h56 => ih (x5, a6) h56)
    rw [hx, h1, if_neg (show ¬ (400 : Int32) ≤ nI (t.1 + i) by rw [li_400, nI_leI (by omega) (by omega)]; omega), by_dev (by omega), lz_eq, gd_in (by omega) (by omega), lz_eq, nI_clamp (by omega), nI_1]
    refine ok_lz (hK _ _ ?_)
    have := TD_app hI (byN_lt p (24 - 8 * i))
    rw [h1] at this
    exact this
theorem m_put4 {S : wd_W} {t : Nat × (Nat → Nat)} {p : Int32} (h : TM t (S.1 1) (S.2.2.1 1)) (ht : t.1 + 4 ≤ 400) : Ok (f_X12_four S p) (fun o => TM (putT t p) o.1 o.2) := by
  unfold f_X12_four
  refine ok_for0 (W := fun m i (s : Int32 × (Nat → Int32)) => it3 (f_X12_four_L3 p) m (shV i) s.1 s.2) (I := fun i s => TM (puI t p i) s.1 s.2) (e := 4) (s := (S.1 1, S.2.2.1 1)) (by omega) h ?_ ?_
  · rintro m ⟨x2, a3⟩ hI
    show Ok (f_X12_four_L3 p _ (-8 : Int32) x2 a3) _
    unfold f_X12_four_L3
    rw [if_pos (by decide)]
    exact ok_some hI
  · rintro m i ⟨x2, a3⟩ hi hI ih
    dsimp only at hI
    show Ok (f_X12_four_L3 p (it3 _ m) (shV i) x2 a3) _
    generalize it3 (f_X12_four_L3 p) m = r at ih
    have e0 : shV i = nI (24 - 8 * i) := by unfold shV; rw [if_neg (by omega)]
    have e1 : nI (24 - 8 * i) + (-8 : Int32) = shV (i + 1) := by
      rcases (show i = 0 ∨ i = 1 ∨ i = 2 ∨ i = 3 by omega) with rfl | rfl | rfl | rfl <;> rfl
    have hx := hI.1
    have h1 := puI_1 t p i
    have eb : vp_nar .byte (sby (byN p (24 - 8 * i))) = sby (byN p (24 - 8 * i)) := by
      unfold sby
      generalize (nI (byN p (24 - 8 * i))).toInt8 = z
      exact congrArg Int8.toInt32 (Int8.toInt8_toInt32 z)
    unfold f_X12_four_L3
    rw [e0, if_neg (fun q => (oI_neg (by omega)).mp q), e1, hx, h1, by_ref (by omega), lz_eq, gd_in (by omega) (by omega), lz_eq, nI_clamp (by omega), nI_1, eb]
    refine ok_lz (ih (nI (t.1 + i + 1), upd a3 (t.1 + i) (sby (byN p (24 - 8 * i)))) ?_)
    have := TM_app (b := byN p (24 - 8 * i)) hI
    rw [h1] at this
    exact this
def feeT (t : Nat × (Nat → Nat)) (p1 p2 p3 p4 p5 : Int32) : Nat × (Nat → Nat) := if t.1 + 20 ≤ 400 then putT (putT (putT (putT (putT t p1) p2) p3) p4) p5 else t
def feeA (t : Nat × (Nat → Nat)) : Int32 := if t.1 + 20 ≤ 400 then nI (t.1 + 20) else -1
theorem putT_1 (t : Nat × (Nat → Nat)) (p : Int32) : (putT t p).1 = t.1 + 4 := rfl
theorem x_feed {S : wd_W} {st : Sta} {p1 p2 p3 p4 p5 : Int32} (h : XW S st) : Ok (f_X11_feed S p1 p2 p3 p4 p5) (fun o => o.1 = feeA st.2.2.2.2 ∧ xW S (st.1, st.2.1, st.2.2.1, st.2.2.2.1, feeT st.2.2.2.2 p1 p2 p3 p4 p5) (wd_o S [(1400, o.2.1)] [] [(15, o.2.2)] [] []) 0 0) := by
  obtain ⟨L, T, M, I, t⟩ := st
  obtain ⟨⟨hC, k, hk, h7, hn⟩, hm, hi, ht1, ht2, ht3⟩ := h
  dsimp only at hC hn hm hi ht1 ht2 ht3 ⊢
  have fin : ∀ t' : Nat × (Nat → Nat), ∀ x a, TD t' x a → t'.1 ≤ 400 → xW S (L, T, M, I, t') (wd_o S [(1400, x)] [] [(15, a)] [] []) 0 0 := by
    intro t' x a hT h4
    refine ⟨⟨⟨hC, k, hk, h7, fun b hb hbt => ?_⟩, hm, XIm_o hi rfl rfl, hT.1, h4, hT.2⟩, by omega, Nat.le_of_eq (Nat.zero_add _)⟩
    have hp := hn b hb hbt
    match b, hp with
    | 0, hp => exact hp
    | 1, hp => exact hp
    | 2, hp => exact hp
    | 3, hp => exact hp
    | 4, hp => exact hp
    | 5, hp => exact hp
    | 6, hp => exact hp
    | 7, hp => exact hp
    | _ + 8, hp => exact hp
  unfold f_X11_feed feeA feeT
  refine ok_bd (P := fun o => o = nI (b2n (decide (t.1 + 20 ≤ 400)))) ?_ ?_
  · unfold f_X9_hasRoom_q14
    rw [show (wd_o S [(1400, S.1 1400)] [] [(15, S.2.2.1 15)] [] []).1 1400 = nI t.1 from ht1, li_20, li_400, nI_add]
    refine ok_ite (fun c => ?_) (fun c => ?_)
    · rw [nI_ltI (by omega) (by omega)] at c
      rw [decide_eq_false (by omega)]; exact ok_some rfl
    · rw [nI_ltI (by omega) (by omega)] at c
      rw [decide_eq_true (by omega)]; exact ok_some rfl
  rintro _ rfl
  refine ok_b (fun c => ?_) (fun c => ?_)
  · have c := of_decide_eq_false c
    rw [if_neg c, if_neg c]
    exact ok_some ⟨rfl, fin t _ _ ⟨ht1, ht3⟩ ht2⟩
  · have c := of_decide_eq_true c
    rw [if_pos c, if_pos c]
    refine ok_bd (x_put4 (S := wd_o S [(1400, (S.1 1400))] [] [(15, (S.2.2.1 15))] [] []) (t := t) ⟨ht1, ht3⟩ (by omega)) ?_
    rintro ⟨x1, a1⟩ h1
    refine ok_bd (x_put4 (S := wd_o S [(1400, x1)] [] [(15, a1)] [] []) (t := putT t p1) h1 (by rw [putT_1]; omega)) ?_
    rintro ⟨x2, a2⟩ h2
    refine ok_bd (x_put4 (S := wd_o S [(1400, x2)] [] [(15, a2)] [] []) (t := putT (putT t p1) p2) h2 (by rw [putT_1, putT_1]; omega)) ?_
    rintro ⟨x3, a3⟩ h3
    refine ok_bd (x_put4 (S := wd_o S [(1400, x3)] [] [(15, a3)] [] []) (t := putT (putT (putT t p1) p2) p3) h3 (by rw [putT_1, putT_1, putT_1]; omega)) ?_
    rintro ⟨x4, a4⟩ h4
    refine ok_bd (x_put4 (S := wd_o S [(1400, x4)] [] [(15, a4)] [] []) (t := putT (putT (putT (putT t p1) p2) p3) p4) h4 (by rw [putT_1, putT_1, putT_1, putT_1]; omega)) ?_
    rintro ⟨x5, a5⟩ h5
    exact ok_some ⟨h5.1, fin _ _ _ h5 (by rw [putT_1, putT_1, putT_1, putT_1, putT_1]; omega)⟩
theorem m_feed {S : wd_W} {st : Sta} {p1 p2 p3 p4 p5 : Int32} (h : MW S st) (h400 : st.2.2.2.2.1 ≤ 400) : Ok (f_X12_feed S p1 p2 p3 p4 p5) (fun o => o.1 = feeA st.2.2.2.2 ∧ MW (wd_o S [(1, o.2.1)] [] [(1, o.2.2)] [] []) (st.1, st.2.1, st.2.2.1, st.2.2.2.1, feeT st.2.2.2.2 p1 p2 p3 p4 p5)) := by
  obtain ⟨L, T, M, I, t⟩ := st
  obtain ⟨h1, h2, h3, h4, ht1, ht2⟩ := h
  dsimp only at h1 h2 h3 h4 ht1 ht2 h400 ⊢
  unfold f_X12_feed feeA feeT
  rw [ht1, li_20, li_400, nI_add]
  refine ok_ite (fun c => ?_) (fun c => ?_)
  · rw [nI_leI (by omega) (by omega)] at c
    rw [if_pos c, if_pos c]
    refine ok_bd (m_put4 (S := wd_o S [(1, nI t.1)] [] [(1, (S.2.2.1 1))] [] []) (t := t) ⟨rfl, ht2⟩ (by omega)) ?_
    rintro ⟨x1, a1⟩ g1
    refine ok_bd (m_put4 (S := wd_o S [(1, x1)] [] [(1, a1)] [] []) (t := putT t p1) g1 (by rw [putT_1]; omega)) ?_
    rintro ⟨x2, a2⟩ g2
    refine ok_bd (m_put4 (S := wd_o S [(1, x2)] [] [(1, a2)] [] []) (t := putT (putT t p1) p2) g2 (by rw [putT_1, putT_1]; omega)) ?_
    rintro ⟨x3, a3⟩ g3
    refine ok_bd (m_put4 (S := wd_o S [(1, x3)] [] [(1, a3)] [] []) (t := putT (putT (putT t p1) p2) p3) g3 (by rw [putT_1, putT_1, putT_1]; omega)) ?_
    rintro ⟨x4, a4⟩ g4
    refine ok_bd (m_put4 (S := wd_o S [(1, x4)] [] [(1, a4)] [] []) (t := putT (putT (putT (putT t p1) p2) p3) p4) g4 (by rw [putT_1, putT_1, putT_1, putT_1]; omega)) ?_
    rintro ⟨x5, a5⟩ g5
    exact ok_some ⟨g5.1, h1, h2, h3, h4, g5⟩
  · rw [nI_leI (by omega) (by omega)] at c
    rw [if_neg c, if_neg c]
    exact ok_some ⟨rfl, h1, h2, h3, h4, rfl, ht2⟩
def endT (t : Nat × (Nat → Nat)) (p : Int32) : Nat × (Nat → Nat) := if inB 0 t.1 p = true then (p.toNatClampNeg, t.2) else t
def enA (t : Nat × (Nat → Nat)) (p : Int32) : Int32 := if inB 0 t.1 p = true then p else -1
theorem x_end {S : wd_W} {st : Sta} {p1 : Int32} (h : XW S st) : Ok (f_X11_end S p1) (fun o => o.1 = enA st.2.2.2.2 p1 ∧ xW S (st.1, st.2.1, st.2.2.1, st.2.2.2.1, endT st.2.2.2.2 p1) (wd_o S [(1400, o.2)] [] [] [] []) 0 0) := by
  obtain ⟨L, T, M, I, t⟩ := st
  obtain ⟨⟨hC, k, hk, h7, hn⟩, hm, hi, ht1, ht2, ht3⟩ := h
  dsimp only at hC hn hm hi ht1 ht2 ht3 ⊢
  have fin : ∀ n, n ≤ t.1 → xW S (L, T, M, I, (n, t.2)) (wd_o S [(1400, nI n)] [] [] [] []) 0 0 := by
    intro n hnt
    refine ⟨⟨⟨hC, k, hk, h7, fun b hb hbt => ?_⟩, hm, XIm_o hi rfl rfl, rfl, by show n ≤ 400; omega, fun i hi => ht3 i (by have hi : i < n := hi; omega)⟩, by omega, Nat.le_of_eq (Nat.zero_add _)⟩
    have hp := hn b hb hbt
    match b, hp with
    | 0, hp => exact hp
    | 1, hp => exact hp
    | 2, hp => exact hp
    | 3, hp => exact hp
    | 4, hp => exact hp
    | 5, hp => exact hp
    | 6, hp => exact hp
    | 7, hp => exact hp
    | _ + 8, hp => exact hp
  unfold f_X11_end enA endT
  rw [tst_le (q := S.1 1400) (k := t.1) ht1 (by omega)]
  cases hin : inB 0 t.1 p1 with
  | false => exact ok_some ⟨rfl, by rw [ht1]; exact fin t.1 (Nat.le_refl _)⟩
  | true =>
    obtain ⟨n, hn, rfl, n1, n2⟩ := inB_t (by omega) hin
    rw [if_pos rfl, if_pos rfl, if_pos rfl, nI_clamp hn]
    exact ok_some ⟨rfl, fin n (by omega)⟩
theorem m_end {S : wd_W} {st : Sta} {p1 : Int32} (h : MW S st) (h400 : st.2.2.2.2.1 ≤ 400) : Ok (f_X12_end S p1) (fun o => o.1 = enA st.2.2.2.2 p1 ∧ MW (wd_o S [(1, o.2)] [] [] [] []) (st.1, st.2.1, st.2.2.1, st.2.2.2.1, endT st.2.2.2.2 p1)) := by
  obtain ⟨L, T, M, I, t⟩ := st
  obtain ⟨h1, h2, h3, h4, ht1, ht2⟩ := h
  dsimp only at h1 h2 h3 h4 ht1 ht2 h400 ⊢
  unfold f_X12_end enA endT
  rw [tst_le (q := S.1 1) (k := t.1) ht1 (by omega)]
  cases hin : inB 0 t.1 p1 with
  | false => exact ok_some ⟨rfl, h1, h2, h3, h4, ht1, ht2⟩
  | true =>
    obtain ⟨n, hn, rfl, n1, n2⟩ := inB_t (by omega) hin
    rw [if_pos rfl, if_pos rfl, if_pos rfl, nI_clamp hn]
    exact ok_some ⟨rfl, h1, h2, h3, h4, rfl, fun i hi => ht2 i (by have hi : i < n := hi; omega)⟩
