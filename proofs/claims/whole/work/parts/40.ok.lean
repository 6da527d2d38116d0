/-! what a plain run gives: rules for the functions of part 06 -/
def Ok {ρ : Type} (e : Option ρ) (Q : ρ → Prop) : Prop := ∃ o, e = some o ∧ Q o
theorem ok_some {ρ : Type} {o : ρ} {Q : ρ → Prop} (h : Q o) : Ok (some o) Q := ⟨o, rfl, h⟩
theorem ok_e {ρ : Type} {e : Option ρ} {v : ρ} (h : Ok e (fun o => o = v)) : e = some v := by
  obtain ⟨o, h1, h2⟩ := h; rw [h1, h2]
theorem ok_of {ρ : Type} {e : Option ρ} {v : ρ} {Q : ρ → Prop} (h : e = some v) (hq : Q v) : Ok e Q := ⟨v, h, hq⟩
theorem ok_eq {ρ : Type} {e : Option ρ} {v : ρ} (h : e = some v) : Ok e (fun o => o = v) := ⟨v, h, rfl⟩
theorem ok_mono {ρ : Type} {e : Option ρ} {P Q : ρ → Prop} (h : Ok e P) (hq : ∀ o, P o → Q o) : Ok e Q := by
  obtain ⟨o, h1, h2⟩ := h; exact ⟨o, h1, hq o h2⟩
theorem ok_bd {α ρ : Type} {a : Option α} {k : α → Option ρ} {P : α → Prop} {Q : ρ → Prop} (h : Ok a P) (hk : ∀ x, P x → Ok (k x) Q) : Ok (bd a k) Q := by
  obtain ⟨o, h1, h2⟩ := h
  subst h1
  exact hk o h2
theorem bd_s {α ρ : Type} {a : Option α} {v : α} {k : α → Option ρ} (h : a = some v) : bd a k = k v := by subst h; rfl
theorem bd_some {α ρ : Type} (v : α) (k : α → Option ρ) : bd (some v) k = k v := rfl
theorem gd_t {ρ : Type} {b : Bool} {k : Option ρ} (h : b = true) : gd b k = k := by subst h; rfl
theorem ok_gd {ρ : Type} {b : Bool} {k : Option ρ} {Q : ρ → Prop} (h : b = true) (hk : Ok k Q) : Ok (gd b k) Q := by rw [gd_t h]; exact hk
theorem ok_ite {ρ : Type} {c : Prop} {inst : Decidable c} {a b : Option ρ} {Q : ρ → Prop} (h1 : c → Ok a Q) (h2 : ¬ c → Ok b Q) : Ok (@ite _ c inst a b) Q := by
  by_cases h : c
  · rw [if_pos h]; exact h1 h
  · rw [if_neg h]; exact h2 h
theorem ok_lz {α ρ : Type} {v : α} {k : α → Option ρ} {Q : ρ → Prop} (h : Ok (k v) Q) : Ok (lz v k) Q := h
theorem ok_lk {κ ρ : Type} {B : κ} {R : κ → Option ρ} {Q : ρ → Prop} (h : Ok (R B) Q) : Ok (lk B R) Q := h
theorem okx_nI {i n : Nat} (h : i < n) (hn : n < 2 ^ 31) : okx (nI i) n = true := by
  simp only [okx, Bool.and_eq_true, decide_eq_true_eq]
  rw [nI_toInt (by omega)]
  omega
theorem gd_in {ρ : Type} {i n : Nat} {k : Option ρ} (h : i < n) (hn : n < 2 ^ 31) : gd (okx (nI i) n) k = k := gd_t (okx_nI h hn)
theorem okz_0 : okz 0 = true := rfl
theorem okz_1 : okz 1 = true := rfl
/-! loops -/
theorem ok_loop {σ ρ : Type} (W : Nat → σ → Option ρ) (I : σ → Prop) (μ : σ → Nat) {Q : ρ → Prop}
    (hs : ∀ n s, I s → (∀ s', I s' → μ s' < μ s → Ok (W n s') Q) → Ok (W (n + 1) s) Q) : ∀ m s, I s → μ s < m → Ok (W m s) Q := by
  intro m
  induction m with
  | zero => intro s _ h; omega
  | succ m ih => intro s hI h; exact hs m s hI (fun s' h1 h2 => ih s' h1 (by omega))
theorem ok_up {σ ρ : Type} (W : Nat → Nat → σ → Option ρ) (I : Nat → σ → Prop) (e : Nat) {Q : ρ → Prop}
    (hx : ∀ n s, I e s → Ok (W (n + 1) e s) Q)
    (hs : ∀ n i s, i < e → I i s → (∀ s', I (i + 1) s' → Ok (W n (i + 1) s') Q) → Ok (W (n + 1) i s) Q) : ∀ m i s, i ≤ e → I i s → e - i < m → Ok (W m i s) Q := by
  intro m
  induction m with
  | zero => intro i s _ _ h; omega
  | succ m ih =>
    intro i s hi hI h
    by_cases hie : i = e
    · subst hie; exact hx m s hI
    · exact hs m i s (by omega) hI (fun s' h1 => ih (i + 1) s' (by omega) h1 (by omega))
theorem eq_for {ρ : Type} (W : Nat → Nat → Option ρ) (e : Nat) {x : Option ρ} (hx : ∀ n, W (n + 1) e = x) (hs : ∀ n i, i < e → W (n + 1) i = W n (i + 1)) : ∀ m i, i ≤ e → e - i < m → W m i = x := by
  intro m
  induction m with
  | zero => intro i _ h; omega
  | succ m ih =>
    intro i hi h
    by_cases hie : i = e
    · subst hie; exact hx m
    · rw [hs m i (by omega)]; exact ih (i + 1) (by omega) (by omega)
theorem eq_for0 {ρ : Type} (W : Nat → Nat → Option ρ) (e : Nat) {x : Option ρ} (he : e < 1000000000000) (hx : ∀ n, W (n + 1) e = x) (hs : ∀ n i, i < e → W (n + 1) i = W n (i + 1)) : W fuel 0 = x :=
  eq_for W e hx hs fuel 0 (Nat.zero_le _) (by unfold fuel; omega)
theorem ok_for0 {σ ρ : Type} (W : Nat → Nat → σ → Option ρ) (I : Nat → σ → Prop) (e : Nat) {Q : ρ → Prop} {s : σ} (he : e < 1000000000000) (h0 : I 0 s)
    (hx : ∀ n s, I e s → Ok (W (n + 1) e s) Q)
    (hs : ∀ n i s, i < e → I i s → (∀ s', I (i + 1) s' → Ok (W n (i + 1) s') Q) → Ok (W (n + 1) i s) Q) : Ok (W fuel 0 s) Q :=
  ok_up W I e hx hs fuel 0 s (Nat.zero_le _) h0 (by unfold fuel; omega)
theorem ok_while {σ ρ : Type} (W : Nat → σ → Option ρ) (I : σ → Prop) (μ : σ → Nat) {Q : ρ → Prop} {s : σ} (h0 : I s) (hm : μ s < 1000000000000)
    (hs : ∀ n s, I s → (∀ s', I s' → μ s' < μ s → Ok (W n s') Q) → Ok (W (n + 1) s) Q) : Ok (W fuel s) Q :=
  ok_loop W I μ hs fuel s h0 (by unfold fuel; omega)
/-! rows partly filled -/
def fil {α : Type} (f g : Nat → α) (i : Nat) : Nat → α := fun k => if k < i then f k else g k
theorem fil_0 {α : Type} (f g : Nat → α) : fil f g 0 = g := by funext k; simp [fil]
theorem fil_in {α : Type} {f g : Nat → α} {i k : Nat} (h : k < i) : fil f g i k = f k := by simp [fil, h]
theorem fil_out {α : Type} {f g : Nat → α} {i k : Nat} (h : i ≤ k) : fil f g i k = g k := by simp [fil, Nat.not_lt.mpr h]
theorem fil_upd (f g : Nat → Int32) (i : Nat) : upd (fil f g i) i (f i) = fil f g (i + 1) := by
  funext k
  simp only [upd, fil]
  by_cases h : k = i
  · subst h; simp
  · by_cases h2 : k < i
    · rw [if_neg h, if_pos h2, if_pos (by omega)]
    · rw [if_neg h, if_neg h2, if_neg (by omega)]
theorem fil_updL (f g : Nat → Int64) (i : Nat) : vp_updL (fil f g i) i (f i) = fil f g (i + 1) := by
  funext k
  simp only [vp_updL, fil]
  by_cases h : k = i
  · subst h; simp
  · by_cases h2 : k < i
    · rw [if_neg h, if_pos h2, if_pos (by omega)]
    · rw [if_neg h, if_neg h2, if_neg (by omega)]
/-! numbers -/
theorem oI_and (a b : Nat) : nI a &&& nI b = nI (a &&& b) := by
  apply Int32.toBitVec_inj.1
  show BitVec.ofNat 32 a &&& BitVec.ofNat 32 b = BitVec.ofNat 32 (a &&& b)
  apply BitVec.eq_of_getLsbD_eq
  intro i hi
  simp [hi]
theorem oI_or (a b : Nat) : nI a ||| nI b = nI (a ||| b) := by
  apply Int32.toBitVec_inj.1
  show BitVec.ofNat 32 a ||| BitVec.ofNat 32 b = BitVec.ofNat 32 (a ||| b)
  apply BitVec.eq_of_getLsbD_eq
  intro i hi
  simp [hi]
theorem oI_xor (a b : Nat) : nI a ^^^ nI b = nI (a ^^^ b) := by
  apply Int32.toBitVec_inj.1
  show BitVec.ofNat 32 a ^^^ BitVec.ofNat 32 b = BitVec.ofNat 32 (a ^^^ b)
  apply BitVec.eq_of_getLsbD_eq
  intro i hi
  simp [hi]
/-- a without b -/
def ndn (a b : Nat) : Nat := a ^^^ (a &&& b)
theorem ndn_bit (a b i : Nat) : (ndn a b).testBit i = (a.testBit i && !b.testBit i) := by
  unfold ndn
  rw [Nat.testBit_xor, Nat.testBit_and]
  cases a.testBit i <;> cases b.testBit i <;> rfl
theorem oI_ndn (a b : Nat) : nI a &&& (nI b ^^^ (-1)) = nI (ndn a b) := by
  apply Int32.toBitVec_inj.1
  show BitVec.ofNat 32 a &&& (BitVec.ofNat 32 b ^^^ BitVec.allOnes 32) = BitVec.ofNat 32 (ndn a b)
  apply BitVec.eq_of_getLsbD_eq
  intro i hi
  rw [BitVec.getLsbD_and, BitVec.getLsbD_xor, BitVec.getLsbD_allOnes, BitVec.getLsbD_ofNat, BitVec.getLsbD_ofNat, BitVec.getLsbD_ofNat, ndn_bit]
  simp [hi]
theorem s_l : ∀ n, n < 32 → ((nI n &&& 31).toBitVec.smod 32).toNat = n := by decide +kernel
theorem oI_shr {n k : Nat} (h : n < 2 ^ 31) (hk : k < 32) : nI n >>> (nI k &&& 31) = nI (n >>> k) := by
  rw [pk_shrN h _ k (s_l k hk), Nat.shiftRight_eq_div_pow]
theorem oI_pow {k : Nat} (hk : k < 31) : (1 : Int32) <<< (nI k &&& 31) = nI (2 ^ k) := by
  have h2 : (2 : Nat) ^ k < 2 ^ 31 := Nat.pow_lt_pow_right (by decide) hk
  have := pk_shlN (n := 1) (nI k &&& 31) k (s_l k (by omega)) (by omega)
  rw [Nat.one_mul] at this
  exact this
theorem oI_shl {n k : Nat} (hk : k < 32) (h : n * 2 ^ k < 2 ^ 32) : nI n <<< (nI k &&& 31) = nI (n * 2 ^ k) := pk_shlN (nI k &&& 31) k (s_l k hk) h
theorem bit_01 (n k : Nat) : n >>> k &&& 1 = if n.testBit k then 1 else 0 := by
  rw [Nat.and_one_is_mod, Nat.testBit_eq_decide_div_mod_eq, Nat.shiftRight_eq_div_pow]
  by_cases h : n / 2 ^ k % 2 = 1
  · simp [h]
  · simp [h]; omega
/-- one bit, as the methods look at it -/
theorem oI_bit {n k : Nat} (h : n < 2 ^ 31) (hk : k < 32) : (nI n >>> (nI k &&& 31)) &&& 1 = if n.testBit k then 1 else 0 := by
  rw [oI_shr h hk]
  show nI _ &&& nI 1 = _
  rw [oI_and, bit_01]
  split <;> rfl
theorem oI_bit0 {n k : Nat} (h : n < 2 ^ 31) (hk : k < 32) : (nI n >>> (nI k &&& 31)) &&& 1 = 0 ↔ n.testBit k = false := by
  rw [oI_bit h hk]
  cases n.testBit k <;> simp
theorem oI_bit1 {n k : Nat} (h : n < 2 ^ 31) (hk : k < 32) : (nI n >>> (nI k &&& 31)) &&& 1 = 1 ↔ n.testBit k = true := by
  rw [oI_bit h hk]
  cases n.testBit k <;> simp
theorem oI_z {n : Nat} (h : n < 2 ^ 31) : nI n = 0 ↔ n = 0 := by
  have := nI_eq (a := n) (b := 0) h (by omega)
  rw [nI_0] at this
  exact this
theorem oI_neg {n : Nat} (h : n < 2 ^ 31) : nI n < 0 ↔ False := by
  simp [nI_pos h]
theorem oI_le0 {n : Nat} (h : n < 2 ^ 31) : nI n ≤ 0 ↔ n = 0 := by
  have := nI_leI (a := n) (b := 0) h (by omega)
  rw [nI_0] at this
  rw [this]; omega
theorem oI_ge0 {n : Nat} (h : n < 2 ^ 31) : 0 ≤ nI n ↔ True := by
  simp [nI_pos' h]
theorem oI_gt0 {n : Nat} (h : n < 2 ^ 31) : 0 < nI n ↔ 0 < n := by
  have := nI_ltI (a := 0) (b := n) (by omega) h
  rw [nI_0] at this
  exact this
theorem oI_m1 {n : Nat} (h : n < 2 ^ 31) : nI n = -1 ↔ False := by
  constructor
  · intro e
    have := congrArg Int32.toInt e
    rw [nI_toInt h] at this
    have h2 : (-1 : Int32).toInt = -1 := rfl
    omega
  · intro h; cases h
theorem lt_two_pow {n i : Nat} (h : ∀ j, i ≤ j → n.testBit j = false) : n < 2 ^ i := Nat.lt_pow_two_of_testBit n (fun j hj => h j hj)
theorem tb_or (a b i : Nat) : (a ||| b).testBit i = (a.testBit i || b.testBit i) := Nat.testBit_or a b i
theorem tb_pow (k i : Nat) : (2 ^ k).testBit i = decide (k = i) := Nat.testBit_two_pow
theorem or_lt {a b k : Nat} (ha : a < 2 ^ k) (hb : b < 2 ^ k) : a ||| b < 2 ^ k := Nat.or_lt_two_pow ha hb
theorem pow_lt31 {k : Nat} (h : k < 31) : (2 : Nat) ^ k < 2 ^ 31 := Nat.pow_lt_pow_right (by decide) h
theorem pow_le_k {k n : Nat} (h : k ≤ n) : (2 : Nat) ^ k ≤ 2 ^ n := Nat.pow_le_pow_right (by decide) h
theorem pow_lt_k {k n : Nat} (h : k < n) : (2 : Nat) ^ k < 2 ^ n := Nat.pow_lt_pow_right (by decide) h
theorem li_2 : (2 : Int32) = nI 2 := rfl
theorem li_3 : (3 : Int32) = nI 3 := rfl
theorem li_4 : (4 : Int32) = nI 4 := rfl
theorem li_5 : (5 : Int32) = nI 5 := rfl
theorem li_6 : (6 : Int32) = nI 6 := rfl
theorem li_7 : (7 : Int32) = nI 7 := rfl
theorem li_8 : (8 : Int32) = nI 8 := rfl
theorem li_9 : (9 : Int32) = nI 9 := rfl
theorem li_10 : (10 : Int32) = nI 10 := rfl
theorem li_12 : (12 : Int32) = nI 12 := rfl
theorem li_13 : (13 : Int32) = nI 13 := rfl
theorem li_15 : (15 : Int32) = nI 15 := rfl
theorem li_16 : (16 : Int32) = nI 16 := rfl
theorem li_20 : (20 : Int32) = nI 20 := rfl
theorem li_24 : (24 : Int32) = nI 24 := rfl
theorem li_32 : (32 : Int32) = nI 32 := rfl
theorem li_48 : (48 : Int32) = nI 48 := rfl
theorem li_57 : (57 : Int32) = nI 57 := rfl
theorem li_59 : (59 : Int32) = nI 59 := rfl
theorem li_60 : (60 : Int32) = nI 60 := rfl
theorem li_63 : (63 : Int32) = nI 63 := rfl
theorem li_64 : (64 : Int32) = nI 64 := rfl
theorem li_97 : (97 : Int32) = nI 97 := rfl
theorem li_99 : (99 : Int32) = nI 99 := rfl
theorem li_100 : (100 : Int32) = nI 100 := rfl
theorem li_122 : (122 : Int32) = nI 122 := rfl
theorem li_128 : (128 : Int32) = nI 128 := rfl
theorem li_200 : (200 : Int32) = nI 200 := rfl
theorem li_255 : (255 : Int32) = nI 255 := rfl
theorem li_256 : (256 : Int32) = nI 256 := rfl
theorem li_400 : (400 : Int32) = nI 400 := rfl
theorem li_999 : (999 : Int32) = nI 999 := rfl
theorem li_1000 : (1000 : Int32) = nI 1000 := rfl
theorem li_99999 : (99999 : Int32) = nI 99999 := rfl
theorem li_252645135 : (252645135 : Int32) = nI 252645135 := rfl
theorem li_858993459 : (858993459 : Int32) = nI 858993459 := rfl
theorem li_1431655765 : (1431655765 : Int32) = nI 1431655765 := rfl
theorem li_0 : (0 : Int32) = nI 0 := rfl
theorem li_1 : (1 : Int32) = nI 1 := rfl
def b2n (b : Bool) : Nat := bif b then 1 else 0
theorem oI_tb {n k : Nat} (h : n < 2 ^ 31) (hk : k < 32) : (nI n >>> (nI k &&& 31)) &&& nI 1 = nI (b2n (n.testBit k)) := by
  have := oI_bit h hk
  cases hb : n.testBit k <;> rw [hb] at this <;> exact this
theorem oI_b0 (b : Bool) : nI (b2n b) = nI 0 ↔ b = false := by cases b <;> decide
theorem oI_b1 (b : Bool) : nI (b2n b) = nI 1 ↔ b = true := by cases b <;> decide
theorem oI_p2 {k : Nat} (hk : k < 31) : nI 1 <<< (nI k &&& 31) = nI (2 ^ k) := oI_pow hk
theorem oI_sub1 {n : Nat} (h : 0 < n) : nI n - nI 1 = nI (n - 1) := pk_sub h
theorem b2n_t : b2n true = 1 := rfl
theorem b2n_f : b2n false = 0 := rfl
theorem ok_if {ρ : Type} {b : Bool} {x y : Option ρ} {Q : ρ → Prop} (h1 : b = true → Ok x Q) (h2 : b = false → Ok y Q) : Ok (if b = true then x else y) Q := by
  cases b with
  | true => simpa using h1 rfl
  | false => simpa using h2 rfl
theorem ok_if0 {ρ : Type} {b : Bool} {x y : Option ρ} {Q : ρ → Prop} (h1 : b = false → Ok x Q) (h2 : b = true → Ok y Q) : Ok (if b = false then x else y) Q := by
  cases b with
  | true => simpa using h2 rfl
  | false => simpa using h1 rfl
theorem or_pow_bit (m k i : Nat) : (m ||| 2 ^ k).testBit i = (m.testBit i || decide (k = i)) := by rw [Nat.testBit_or, Nat.testBit_two_pow]
theorem or_pow_lt {m k n : Nat} (hm : m < 2 ^ n) (hk : k < n) : m ||| 2 ^ k < 2 ^ n := Nat.or_lt_two_pow hm (Nat.pow_lt_pow_right (by decide) hk)
theorem lt31_10 {m n : Nat} (hm : m < 2 ^ n) (hn : n ≤ 15) : m < 32768 := Nat.lt_of_lt_of_le hm (Nat.pow_le_pow_right (n := 2) (by decide) hn)
