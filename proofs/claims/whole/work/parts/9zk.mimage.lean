/-! image, the reference's -/
def hdrW (S : wd_W) : Nat → Int32
  | 0 => S.1 20
  | 1 => S.1 21
  | 2 => S.1 30
  | 3 => S.1 31
  | 4 => S.1 32
  | 5 => S.1 34
  | 6 => S.1 35
  | 7 => S.1 36
  | 8 => S.1 37
  | 9 => S.1 51
  | _ => S.1 60
def n01 (x : Int32) : Int32 := if x = 0 then 0 else 1
def linW (S : wd_W) (f i : Nat) : Int32 := match f with
  | 0 => S.2.2.1 8 i
  | 1 => S.2.2.1 9 i
  | 2 => S.2.2.1 10 i
  | 3 => n01 (S.2.2.1 11 i)
  | 4 => S.2.2.1 12 i
  | _ => S.2.2.1 13 i
def plcW (S : wd_W) (f i : Nat) : Int32 := match f with
  | 0 => S.2.2.1 14 i
  | _ => S.2.2.1 15 i
def mndW (S : wd_W) (f i : Nat) : Int32 := match f with
  | 0 => S.2.2.1 27 i
  | 1 => S.2.2.1 28 i
  | _ => S.2.2.1 29 i
def ltrW (S : wd_W) (f i : Nat) : Int32 := match f with
  | 0 => S.2.2.1 32 i
  | 1 => S.2.2.1 33 i
  | _ => n01 (S.2.2.1 34 i)
def picW (S : wd_W) (j : Nat) : Int32 := if j < 11 then hdrW S j else if j < 83 then linW S ((j - 11) % 6) ((j - 11) / 6) else if j < 103 then plcW S ((j - 83) % 2) ((j - 83) / 2) else if j < 118 then S.2.2.1 16 (j - 103) else if j < 145 then mndW S ((j - 118) % 3) ((j - 118) / 3) else ltrW S ((j - 145) % 3) ((j - 145) / 3)
theorem pw_hdr {S : wd_W} {j : Nat} (h : j < 11) : picW S j = hdrW S j := by unfold picW; rw [if_pos h]
theorem pw_lin {S : wd_W} {i f : Nat} (hi : i < 12) (hf : f < 6) : picW S (11 + 6 * i + f) = linW S f i := by
  unfold picW
  rw [if_neg (by omega), if_pos (by omega), show (11 + 6 * i + f - 11) % 6 = f by omega, show (11 + 6 * i + f - 11) / 6 = i by omega]
theorem pw_plc {S : wd_W} {i f : Nat} (hi : i < 10) (hf : f < 2) : picW S (83 + 2 * i + f) = plcW S f i := by
  unfold picW
  rw [if_neg (by omega), if_neg (by omega), if_pos (by omega), show (83 + 2 * i + f - 83) % 2 = f by omega, show (83 + 2 * i + f - 83) / 2 = i by omega]
theorem pw_cha {S : wd_W} {i : Nat} (hi : i < 15) : picW S (103 + i) = S.2.2.1 16 i := by
  unfold picW
  rw [if_neg (by omega), if_neg (by omega), if_neg (by omega), if_pos (by omega), show 103 + i - 103 = i by omega]
theorem pw_mnd {S : wd_W} {i f : Nat} (hi : i < 9) (hf : f < 3) : picW S (118 + 3 * i + f) = mndW S f i := by
  unfold picW
  rw [if_neg (by omega), if_neg (by omega), if_neg (by omega), if_neg (by omega), if_pos (by omega), show (118 + 3 * i + f - 118) % 3 = f by omega, show (118 + 3 * i + f - 118) / 3 = i by omega]
theorem pw_ltr {S : wd_W} {i f : Nat} (hf : f < 3) : picW S (145 + 3 * i + f) = ltrW S f i := by
  unfold picW
  rw [if_neg (by omega), if_neg (by omega), if_neg (by omega), if_neg (by omega), if_neg (by omega), show (145 + 3 * i + f - 145) % 3 = f by omega, show (145 + 3 * i + f - 145) / 3 = i by omega]
def WR (S : wd_W) (p n : Nat) (x : Int32) (a : Nat → Int32) : Prop := x = nI (200 * p + n) ∧ (∀ j, j < n → a (200 * p + j) = picW S j) ∧ ∀ j, (j < 200 * p ∨ 200 * p + 200 ≤ j) → a j = S.2.2.1 46 j
theorem m_puts {S S' : wd_W} {p n : Nat} {v : Int32} (h : WR S p n (S'.1 80) (S'.2.2.1 46)) (hp : p < 4) (hn : n < 200) (hv : v = picW S n) : Ok (f_X12_puts S' v) (fun o => WR S p (n + 1) o.1 o.2) := by
  obtain ⟨h1, h2, h3⟩ := h
  unfold f_X12_puts
  rw [h1, gd_in (by omega) (by omega), lz_eq, nI_clamp (by omega), nI_1, lz_eq]
  refine ok_some ⟨rfl, fun j hj => ?_, fun j hj => ?_⟩
  · dsimp only
    by_cases e : j = n
    · subst e; rw [pk_us, hv]
    · rw [pk_un (show 200 * p + j ≠ 200 * p + n by omega)]; exact h2 j (by omega)
  · dsimp only
    rw [pk_un (show j ≠ 200 * p + n by omega)]; exact h3 j hj
theorem m_imageW {S : wd_W} {p : Nat} (hp : p < 4) : Ok (f_X12_image S (nI p)) (fun o => o.1 = S.1 32 ∧ (∃ x, WR S p 163 x o.2.2.1) ∧ o.2.2.2 = upd (S.2.2.1 47) p 1) := by
  unfold f_X12_image
  rw [lN_0, show (3 : Int64) = lN 3 from rfl, bd_s (m_inN (by omega) (by omega))]
  have hin : inB ((0 : Nat) : Int) ((3 : Nat) : Int) (nI p) = true := by rw [inB_n (by omega)]; exact decide_eq_true (by omega)
  rw [hin, if_neg (show ¬ nI (b2n true) = 0 from n1_ne), gd_in (by omega) (by omega), nI_clamp (by omega), li_200, nI_mulR, show vp_nar .boolean (1 : Int32) = 1 from rfl]
  refine ok_lz (ok_lz ?_)
  refine ok_bd (m_puts (S := S) (p := p) (n := 0) ⟨rfl, fun j hj => absurd hj (Nat.not_lt_zero j), fun _ _ => rfl⟩ hp (by omega) rfl) ?_
  rintro ⟨x1, a1⟩ h1
  refine ok_bd (m_puts (S := S) (p := p) (n := 1) h1 hp (by omega) rfl) ?_
  rintro ⟨x2, a2⟩ h2
  refine ok_bd (m_puts (S := S) (p := p) (n := 2) h2 hp (by omega) rfl) ?_
  rintro ⟨x3, a3⟩ h3
  refine ok_bd (m_puts (S := S) (p := p) (n := 3) h3 hp (by omega) rfl) ?_
  rintro ⟨x4, a4⟩ h4
  refine ok_bd (m_puts (S := S) (p := p) (n := 4) h4 hp (by omega) rfl) ?_
  rintro ⟨x5, a5⟩ h5
  refine ok_bd (m_puts (S := S) (p := p) (n := 5) h5 hp (by omega) rfl) ?_
  rintro ⟨x6, a6⟩ h6
  refine ok_bd (m_puts (S := S) (p := p) (n := 6) h6 hp (by omega) rfl) ?_
  rintro ⟨x7, a7⟩ h7
  refine ok_bd (m_puts (S := S) (p := p) (n := 7) h7 hp (by omega) rfl) ?_
  rintro ⟨x8, a8⟩ h8
  refine ok_bd (m_puts (S := S) (p := p) (n := 8) h8 hp (by omega) rfl) ?_
  rintro ⟨x9, a9⟩ h9
  refine ok_bd (m_puts (S := S) (p := p) (n := 9) h9 hp (by omega) rfl) ?_
  rintro ⟨x10, a10⟩ h10
  refine ok_bd (m_puts (S := S) (p := p) (n := 10) h10 hp (by omega) rfl) ?_
  rintro ⟨x11, a11⟩ h11
  dsimp only
  generalize upd (S.2.2.1 47) p 1 = a47
  rw [li_0]
  refine ok_lk2 (fun x a => WR S p 83 x a) (fun K hK => ?_) (fun x16 a17 h17 => ok_lk2 (fun x a => WR S p 103 x a) (fun K hK => ?_) (fun x19 a20 h20 => ok_lk2 (fun x a => WR S p 118 x a) (fun K hK => ?_) (fun x22 a23 h23 => ok_lk2 (fun x a => WR S p 145 x a) (fun K hK => ?_) (fun x25 a26 h26 => ok_lk2 (fun x a => WR S p 163 x a) (fun K hK => ?_) (fun x28 a29 h29 => ok_some ⟨rfl, ⟨x28, h29⟩, rfl⟩)))))
  · refine ok_for0 (W := fun m i (s : Int32 × (Nat → Int32)) => it3 (f_X12_image_L120 S a47 K) m (nI i) s.1 s.2) (I := fun i s => WR S p (11 + 6 * i) s.1 s.2) (e := 12) (s := (x11, a11)) (by omega) h11 ?_ ?_
    · rintro m ⟨x, a⟩ hI
      show Ok (f_X12_image_L120 S a47 K _ (nI 12) x a) _
      unfold f_X12_image_L120
      rw [if_pos (show (12 : Int32) ≤ nI 12 by decide)]
      exact hK _ _ hI
    · rintro m i ⟨x, a⟩ hi hI ih
      dsimp only at hI
      show Ok (f_X12_image_L120 S a47 K (it3 _ m) (nI i) x a) _
      generalize it3 (f_X12_image_L120 S a47 K) m = r at ih
      unfold f_X12_image_L120
      rw [li_12, if_neg (nI_ge hi (by omega)), gd_in (by omega) (by omega), nI_clamp (by omega)]
      refine ok_bd (m_puts (S := S) (p := p) (n := 11 + 6 * i) hI hp (by omega) (pw_lin (f := 0) hi (by omega)).symm) ?_
      rintro ⟨y1, b1⟩ g1
      rw [gd_in (by omega) (by omega)]
      refine ok_bd (m_puts (S := S) (p := p) (n := 11 + 6 * i + 1) g1 hp (by omega) (pw_lin (f := 1) hi (by omega)).symm) ?_
      rintro ⟨y2, b2⟩ g2
      rw [gd_in (by omega) (by omega)]
      refine ok_bd (m_puts (S := S) (p := p) (n := 11 + 6 * i + 2) g2 hp (by omega) (pw_lin (f := 2) hi (by omega)).symm) ?_
      rintro ⟨y3, b3⟩ g3
      rw [gd_in (by omega) (by omega)]
      refine ok_lk1 (fun v => v = n01 (S.2.2.1 11 i)) (fun K2 hK2 => ?_) ?_
      · refine ok_ite (fun c => hK2 _ ?_) (fun c => hK2 _ ?_)
        · unfold n01; rw [if_pos c]
        · unfold n01; rw [if_neg c]
      · rintro _ rfl
        refine ok_bd (m_puts (S := S) (p := p) (n := 11 + 6 * i + 3) g3 hp (by omega) (pw_lin (f := 3) hi (by omega)).symm) ?_
        rintro ⟨y4, b4⟩ g4
        rw [gd_in (by omega) (by omega)]
        refine ok_bd (m_puts (S := S) (p := p) (n := 11 + 6 * i + 4) g4 hp (by omega) (pw_lin (f := 4) hi (by omega)).symm) ?_
        rintro ⟨y5, b5⟩ g5
        rw [gd_in (by omega) (by omega)]
        refine ok_bd (m_puts (S := S) (p := p) (n := 11 + 6 * i + 5) g5 hp (by omega) (pw_lin (f := 5) hi (by omega)).symm) ?_
        rintro ⟨y6, b6⟩ g6
        rw [nI_1]
        exact ih (y6, b6) g6
  · refine ok_for0 (W := fun m i (s : Int32 × (Nat → Int32)) => it3 (f_X12_image_L202 S a47 K) m (nI i) s.1 s.2) (I := fun i s => WR S p (83 + 2 * i) s.1 s.2) (e := 10) (s := (x16, a17)) (by omega) h17 ?_ ?_
    · rintro m ⟨x, a⟩ hI
      show Ok (f_X12_image_L202 S a47 K _ (nI 10) x a) _
      unfold f_X12_image_L202
      rw [if_pos (show (10 : Int32) ≤ nI 10 by decide)]
      exact hK _ _ hI
    · rintro m i ⟨x, a⟩ hi hI ih
      dsimp only at hI
      show Ok (f_X12_image_L202 S a47 K (it3 _ m) (nI i) x a) _
      generalize it3 (f_X12_image_L202 S a47 K) m = r at ih
      unfold f_X12_image_L202
      rw [li_10, if_neg (nI_ge hi (by omega)), gd_in (by omega) (by omega), nI_clamp (by omega)]
      refine ok_bd (m_puts (S := S) (p := p) (n := 83 + 2 * i) hI hp (by omega) (pw_plc (f := 0) hi (by omega)).symm) ?_
      rintro ⟨y1, b1⟩ g1
      rw [gd_in (by omega) (by omega)]
      refine ok_bd (m_puts (S := S) (p := p) (n := 83 + 2 * i + 1) g1 hp (by omega) (pw_plc (f := 1) hi (by omega)).symm) ?_
      rintro ⟨y2, b2⟩ g2
      rw [nI_1]
      exact ih (y2, b2) g2
  · refine ok_for0 (W := fun m i (s : Int32 × (Nat → Int32)) => it3 (f_X12_image_L236 S a47 K) m (nI i) s.1 s.2) (I := fun i s => WR S p (103 + i) s.1 s.2) (e := 15) (s := (x19, a20)) (by omega) h20 ?_ ?_
    · rintro m ⟨x, a⟩ hI
      show Ok (f_X12_image_L236 S a47 K _ (nI 15) x a) _
      unfold f_X12_image_L236
      rw [if_pos (show (15 : Int32) ≤ nI 15 by decide)]
      exact hK _ _ hI
    · rintro m i ⟨x, a⟩ hi hI ih
      dsimp only at hI
      show Ok (f_X12_image_L236 S a47 K (it3 _ m) (nI i) x a) _
      generalize it3 (f_X12_image_L236 S a47 K) m = r at ih
      unfold f_X12_image_L236
      rw [li_15, if_neg (nI_ge hi (by omega)), gd_in (by omega) (by omega), nI_clamp (by omega)]
      refine ok_bd (m_puts (S := S) (p := p) (n := 103 + i) hI hp (by omega) (pw_cha hi).symm) ?_
      rintro ⟨y1, b1⟩ g1
      rw [nI_1]
      exact ih (y1, b1) g1
  · refine ok_for0 (W := fun m i (s : Int32 × (Nat → Int32)) => it3 (f_X12_image_L260 S a47 K) m (nI i) s.1 s.2) (I := fun i s => WR S p (118 + 3 * i) s.1 s.2) (e := 9) (s := (x22, a23)) (by omega) h23 ?_ ?_
    · rintro m ⟨x, a⟩ hI
      show Ok (f_X12_image_L260 S a47 K _ (nI 9) x a) _
      unfold f_X12_image_L260
      rw [if_pos (show (9 : Int32) ≤ nI 9 by decide)]
      exact hK _ _ hI
    · rintro m i ⟨x, a⟩ hi hI ih
      dsimp only at hI
      show Ok (f_X12_image_L260 S a47 K (it3 _ m) (nI i) x a) _
      generalize it3 (f_X12_image_L260 S a47 K) m = r at ih
      unfold f_X12_image_L260
      rw [li_9, if_neg (nI_ge hi (by omega)), gd_in (by omega) (by omega), nI_clamp (by omega)]
      refine ok_bd (m_puts (S := S) (p := p) (n := 118 + 3 * i) hI hp (by omega) (pw_mnd (f := 0) hi (by omega)).symm) ?_
      rintro ⟨y1, b1⟩ g1
      rw [gd_in (by omega) (by omega)]
      refine ok_bd (m_puts (S := S) (p := p) (n := 118 + 3 * i + 1) g1 hp (by omega) (pw_mnd (f := 1) hi (by omega)).symm) ?_
      rintro ⟨y2, b2⟩ g2
      rw [gd_in (by omega) (by omega)]
      refine ok_bd (m_puts (S := S) (p := p) (n := 118 + 3 * i + 2) g2 hp (by omega) (pw_mnd (f := 2) hi (by omega)).symm) ?_
      rintro ⟨y3, b3⟩ g3
      rw [nI_1]
      exact ih (y3, b3) g3
  · refine ok_for0 (W := fun m i (s : Int32 × (Nat → Int32)) => it3 (f_X12_image_L304 S a47 K) m (nI i) s.1 s.2) (I := fun i s => WR S p (145 + 3 * i) s.1 s.2) (e := 6) (s := (x25, a26)) (by omega) h26 ?_ ?_
    · rintro m ⟨x, a⟩ hI
      show Ok (f_X12_image_L304 S a47 K _ (nI 6) x a) _
      unfold f_X12_image_L304
      rw [if_pos (show (6 : Int32) ≤ nI 6 by decide)]
      exact hK _ _ hI
    · rintro m i ⟨x, a⟩ hi hI ih
      dsimp only at hI
      show Ok (f_X12_image_L304 S a47 K (it3 _ m) (nI i) x a) _
      generalize it3 (f_X12_image_L304 S a47 K) m = r at ih
      unfold f_X12_image_L304
      rw [li_6, if_neg (nI_ge hi (by omega)), gd_in (by omega) (by omega), nI_clamp (by omega)]
      refine ok_bd (m_puts (S := S) (p := p) (n := 145 + 3 * i) hI hp (by omega) (pw_ltr (f := 0) (by omega)).symm) ?_
      rintro ⟨y1, b1⟩ g1
      rw [gd_in (by omega) (by omega)]
      refine ok_bd (m_puts (S := S) (p := p) (n := 145 + 3 * i + 1) g1 hp (by omega) (pw_ltr (f := 1) (by omega)).symm) ?_
      rintro ⟨y2, b2⟩ g2
      rw [gd_in (by omega) (by omega)]
      refine ok_lk1 (fun v => v = n01 (S.2.2.1 34 i)) (fun K2 hK2 => ?_) ?_
      · refine ok_ite (fun c => hK2 _ ?_) (fun c => hK2 _ ?_)
        · unfold n01; rw [if_pos c]
        · unfold n01; rw [if_neg c]
      · rintro _ rfl
        refine ok_bd (m_puts (S := S) (p := p) (n := 145 + 3 * i + 2) g2 hp (by omega) (pw_ltr (f := 2) (by omega)).symm) ?_
        rintro ⟨y3, b3⟩ g3
        rw [nI_1]
        exact ih (y3, b3) g3
