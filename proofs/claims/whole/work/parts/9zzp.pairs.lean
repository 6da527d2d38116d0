/-! both sides of each method: the same answer, and the same state behind it -/
def RW (SX SM : wd_W) : Prop := ∃ st : Sta, XW SX st ∧ MW SM st
theorem xW_nil {S : wd_W} {st : Sta} (h : XW S st) : xW S st (wd_o S [] [] [] [] []) 0 0 := by
  obtain ⟨_, _, _, w⟩ := x_mended (p1 := 0) h
  exact w
theorem MW_nil {S : wd_W} {st : Sta} (h : MW S st) : MW (wd_o S [] [] [] [] []) st := h
theorem XW_tp {S : wd_W} {st : Sta} (h : XW S st) : st.2.2.2.2.1 ≤ 400 ∧ ∀ i, i < st.2.2.2.2.1 → st.2.2.2.2.2 i < 256 := ⟨h.2.2.2.2.1, fun i hi => (h.2.2.2.2.2 i hi).1⟩
theorem lenS_le {S : wd_W} {st : Sta} (h : XW S st) : lenS S ≤ 120000 := by
  obtain ⟨⟨⟨_, _, _, _, n0, n3, n4, n5, n6, n8⟩, _⟩, _⟩ := h
  obtain ⟨e, f, he, hf, a1, a2, a3, a4⟩ := n0
  obtain ⟨e3, h3, b3⟩ := n3
  obtain ⟨e4, h4, c1, c2, c3, c4⟩ := n4
  obtain ⟨e5, h5, b5⟩ := n5
  obtain ⟨e6, h6, b6⟩ := n6
  obtain ⟨e8, h8, b8⟩ := n8
  have p15 : 2 ^ e ≤ 2 ^ 15 := Nat.pow_le_pow_right (by omega) he
  have pf : 2 ^ f ≤ 2 ^ 12 := Nat.pow_le_pow_right (by omega) hf
  have p3 : 3 ^ e3 ≤ 3 ^ 9 := Nat.pow_le_pow_right (by omega) h3
  have p4 : 2 ^ e4 ≤ 2 ^ 12 := Nat.pow_le_pow_right (by omega) h4
  have p5 : 2 ^ e5 ≤ 2 ^ 9 := Nat.pow_le_pow_right (by omega) h5
  have p6 : 2 ^ e6 ≤ 2 ^ 12 := Nat.pow_le_pow_right (by omega) h6
  have p8 : 2 ^ e8 ≤ 2 ^ 12 := Nat.pow_le_pow_right (by omega) h8
  unfold lenS
  rw [a1, a2, a3, a4, b3, c1, c2, c3, c4, b5, b6, b8]
  omega
theorem p_feed (l : Launch) (D : va_G) (qx gx qm gm : Nat → Nat) (cy : Nat → ClassId) (z : (Nat → Nat) × (Nat → Nat) × Nat) {SX SM : wd_W} (h : RW SX SM) (p1 : Int32) (p2 : Int32) (p3 : Int32) (p4 : Int32) (p5 : Int32) : ∃ (v : Int32) (SX' SM' : wd_W) (nc ns : Nat), MX layX l yX11_feed cX11_feed 6 (some .int) ({ frames := 1, cells := 0, slots := 0, locals := 22 } : Room) D qx gx cy z [.ref (qx 0), .int p1, .int p2, .int p3, .int p4, .int p5] SX false (some (.int v)) SX' nc ns ∧ MX layM l yX12_feed cX12_feed 6 (some .int) ({ frames := 1, cells := 0, slots := 0, locals := 22 } : Room) D qm gm cy z [.ref (qm 0), .int p1, .int p2, .int p3, .int p4, .int p5] SM false (some (.int v)) SM' 0 0 ∧ RW SX' SM' ∧ nc ≤ 40 ∧ ns + 2 * lenS SX ≤ 2 * lenS SX' := by
  obtain ⟨st, hX, hM⟩ := h
  have hM0 := hM
  obtain ⟨⟨⟨hL, hc3, hT⟩, hl, h31, hmT⟩, hla, h6, h7, h8⟩ := hM
  obtain ⟨oX, eX, aX, w⟩ := x_feed (p1 := p1) (p2 := p2) (p3 := p3) (p4 := p4) (p5 := p5) hX
  obtain ⟨oM, eM, aM, mM⟩ := m_feed (p1 := p1) (p2 := p2) (p3 := p3) (p4 := p4) (p5 := p5) hM0 (XW_tp hX).1
  have cM := c_X12_feed l D qm gm cy z SM p1 p2 p3 p4 p5 _ eM
  rw [← aX.trans aM.symm] at cM
  exact ⟨oX.1, _, _, _, _, c_X11_feed l D qx gx cy z SX p1 p2 p3 p4 p5 _ eX, cM, ⟨_, w.1, mM⟩, w.2.1, w.2.2⟩
theorem p_end (l : Launch) (D : va_G) (qx gx qm gm : Nat → Nat) (cy : Nat → ClassId) (z : (Nat → Nat) × (Nat → Nat) × Nat) {SX SM : wd_W} (h : RW SX SM) (p1 : Int32) : ∃ (v : Int32) (SX' SM' : wd_W) (nc ns : Nat), MX layX l yX11_end cX11_end 2 (some .int) ({ frames := 0, cells := 0, slots := 0, locals := 0 } : Room) D qx gx cy z [.ref (qx 0), .int p1] SX false (some (.int v)) SX' nc ns ∧ MX layM l yX12_end cX12_end 2 (some .int) ({ frames := 0, cells := 0, slots := 0, locals := 0 } : Room) D qm gm cy z [.ref (qm 0), .int p1] SM false (some (.int v)) SM' 0 0 ∧ RW SX' SM' ∧ nc ≤ 40 ∧ ns + 2 * lenS SX ≤ 2 * lenS SX' := by
  obtain ⟨st, hX, hM⟩ := h
  have hM0 := hM
  obtain ⟨⟨⟨hL, hc3, hT⟩, hl, h31, hmT⟩, hla, h6, h7, h8⟩ := hM
  obtain ⟨oX, eX, aX, w⟩ := x_end (p1 := p1) hX
  obtain ⟨oM, eM, aM, mM⟩ := m_end (p1 := p1) hM0 (XW_tp hX).1
  have cM := c_X12_end l D qm gm cy z SM p1 _ eM
  rw [← aX.trans aM.symm] at cM
  exact ⟨oX.1, _, _, _, _, c_X11_end l D qx gx cy z SX p1 _ eX, cM, ⟨_, w.1, mM⟩, w.2.1, w.2.2⟩
theorem p_land (l : Launch) (D : va_G) (qx gx qm gm : Nat → Nat) (cy : Nat → ClassId) (z : (Nat → Nat) × (Nat → Nat) × Nat) {SX SM : wd_W} (h : RW SX SM) : ∃ (v : Int32) (SX' SM' : wd_W) (nc ns : Nat), MX layX l yX11_land cX11_land 2 (some .int) ({ frames := 9, cells := 0, slots := 0, locals := 192 } : Room) D qx gx cy z [.ref (qx 0)] SX false (some (.int v)) SX' nc ns ∧ MX layM l yX12_land cX12_land 2 (some .int) ({ frames := 6, cells := 0, slots := 0, locals := 137 } : Room) D qm gm cy z [.ref (qm 0)] SM false (some (.int v)) SM' 0 0 ∧ RW SX' SM' ∧ nc ≤ 40 ∧ ns + 2 * lenS SX ≤ 2 * lenS SX' := by
  obtain ⟨st, hX, hM⟩ := h
  have hM0 := hM
  obtain ⟨⟨⟨hL, hc3, hT⟩, hl, h31, hmT⟩, hla, h6, h7, h8⟩ := hM
  obtain ⟨oX, eX, aX, w⟩ := x_land  hX
  obtain ⟨oM, eM, aM, mM⟩ := m_land hM0 (XW_tp hX).1 (XW_tp hX).2
  have cM := c_X12_land l D qm gm cy z SM  _ eM
  rw [← aX.trans aM.symm] at cM
  exact ⟨oX.1, _, _, _, _, c_X11_land l D qx gx cy z SX  _ eX, cM, ⟨_, w.1, mM⟩, w.2.1, w.2.2⟩
theorem p_line (l : Launch) (D : va_G) (qx gx qm gm : Nat → Nat) (cy : Nat → ClassId) (z : (Nat → Nat) × (Nat → Nat) × Nat) {SX SM : wd_W} (h : RW SX SM) (p1 : Int32) (p2 : Int32) : ∃ (v : Int32) (SX' SM' : wd_W) (nc ns : Nat), MX layX l yX11_line cX11_line 3 (some .int) ({ frames := 1, cells := 0, slots := 0, locals := 24 } : Room) D qx gx cy z [.ref (qx 0), .int p1, .int p2] SX false (some (.int v)) SX' nc ns ∧ MX layM l yX12_line cX12_line 3 (some .int) ({ frames := 1, cells := 0, slots := 0, locals := 25 } : Room) D qm gm cy z [.ref (qm 0), .int p1, .int p2] SM false (some (.int v)) SM' 0 0 ∧ RW SX' SM' ∧ nc ≤ 40 ∧ ns + 2 * lenS SX ≤ 2 * lenS SX' := by
  obtain ⟨st, hX, hM⟩ := h
  have hM0 := hM
  obtain ⟨⟨⟨hL, hc3, hT⟩, hl, h31, hmT⟩, hla, h6, h7, h8⟩ := hM
  have eX := x_line (p1 := p1) (p2 := p2) hL hc3 hX.1.1.2.1
  have w := xW_nil hX
  have eM := m_line (p1 := p1) (p2 := p2) hL hl
  have cM := c_X12_line l D qm gm cy z SM p1 p2 _ eM
  exact ⟨_, _, _, _, _, c_X11_line l D qx gx cy z SX p1 p2 _ eX, cM, ⟨_, w.1, (MW_nil hM0)⟩, w.2.1, w.2.2⟩
theorem p_place (l : Launch) (D : va_G) (qx gx qm gm : Nat → Nat) (cy : Nat → ClassId) (z : (Nat → Nat) × (Nat → Nat) × Nat) {SX SM : wd_W} (h : RW SX SM) (p1 : Int32) (p2 : Int32) : ∃ (v : Int32) (SX' SM' : wd_W) (nc ns : Nat), MX layX l yX11_place cX11_place 4 (some .int) ({ frames := 1, cells := 0, slots := 0, locals := 24 } : Room) D qx gx cy z [.ref (qx 0), .int p1, .int p2] SX false (some (.int v)) SX' nc ns ∧ MX layM l yX12_place cX12_place 3 (some .int) ({ frames := 1, cells := 0, slots := 0, locals := 25 } : Room) D qm gm cy z [.ref (qm 0), .int p1, .int p2] SM false (some (.int v)) SM' 0 0 ∧ RW SX' SM' ∧ nc ≤ 40 ∧ ns + 2 * lenS SX ≤ 2 * lenS SX' := by
  obtain ⟨st, hX, hM⟩ := h
  have hM0 := hM
  obtain ⟨⟨⟨hL, hc3, hT⟩, hl, h31, hmT⟩, hla, h6, h7, h8⟩ := hM
  have eX := x_place (p1 := p1) (p2 := p2) hL hc3 hX.1.1.2.1
  have w := xW_nil hX
  have eM := m_place (p1 := p1) (p2 := p2) hL hl
  have cM := c_X12_place l D qm gm cy z SM p1 p2 _ eM
  exact ⟨_, _, _, _, _, c_X11_place l D qx gx cy z SX p1 p2 _ eX, cM, ⟨_, w.1, (MW_nil hM0)⟩, w.2.1, w.2.2⟩
theorem p_so (l : Launch) (D : va_G) (qx gx qm gm : Nat → Nat) (cy : Nat → ClassId) (z : (Nat → Nat) × (Nat → Nat) × Nat) {SX SM : wd_W} (h : RW SX SM) (p1 : Int32) : ∃ (v : Int32) (SX' SM' : wd_W) (nc ns : Nat), MX layX l yX11_so cX11_so 2 (some .int) ({ frames := 6, cells := 40, slots := 500000, locals := 147 } : Room) D qx gx cy z [.ref (qx 0), .int p1] SX true (some (.int v)) SX' nc ns ∧ MX layM l yX12_so cX12_so 2 (some .int) ({ frames := 5, cells := 0, slots := 0, locals := 115 } : Room) D qm gm cy z [.ref (qm 0), .int p1] SM false (some (.int v)) SM' 0 0 ∧ RW SX' SM' ∧ nc ≤ 40 ∧ ns + 2 * lenS SX ≤ 2 * lenS SX' := by
  obtain ⟨st, hX, hM⟩ := h
  have hM0 := hM
  obtain ⟨⟨⟨hL, hc3, hT⟩, hl, h31, hmT⟩, hla, h6, h7, h8⟩ := hM
  obtain ⟨oX, eX, aX, xX⟩ := x_so (p1 := p1) hX.1
  have w := xW_E hX xX
  obtain ⟨oM, eM, aM, mM⟩ := m_soT (p1 := p1) hL hl hla
  have cM := c_X12_so l D qm gm cy z SM p1 _ eM
  rw [← aX.trans aM.symm] at cM
  exact ⟨oX.1, _, _, _, _, c_X11_so l D qx gx cy z SX p1 _ eX, cM, ⟨_, w.1, (⟨⟨⟨hL, hc3, hT⟩, hl, h31, hmT⟩, mM, h6, h7, h8⟩)⟩, w.2.1, w.2.2⟩
theorem p_chance (l : Launch) (D : va_G) (qx gx qm gm : Nat → Nat) (cy : Nat → ClassId) (z : (Nat → Nat) × (Nat → Nat) × Nat) {SX SM : wd_W} (h : RW SX SM) (p1 : Int32) : ∃ (v : Int64) (SX' SM' : wd_W) (nc ns : Nat), MX layX l yX11_chance cX11_chance 2 (some .long) ({ frames := 6, cells := 40, slots := 500000, locals := 147 } : Room) D qx gx cy z [.ref (qx 0), .int p1] SX true (some (.long v)) SX' nc ns ∧ MX layM l yX12_chance cX12_chance 2 (some .long) ({ frames := 6, cells := 0, slots := 0, locals := 138 } : Room) D qm gm cy z [.ref (qm 0), .int p1] SM false (some (.long v)) SM' 0 0 ∧ RW SX' SM' ∧ nc ≤ 40 ∧ ns + 2 * lenS SX ≤ 2 * lenS SX' := by
  obtain ⟨st, hX, hM⟩ := h
  have hM0 := hM
  obtain ⟨⟨⟨hL, hc3, hT⟩, hl, h31, hmT⟩, hla, h6, h7, h8⟩ := hM
  obtain ⟨oX, eX, aX, xX⟩ := x_chance (p1 := p1) hX.1
  have w := xW_E hX xX
  obtain ⟨oM, eM, aM, mM⟩ := m_chanceT (p1 := p1) hL hl hla
  have cM := c_X12_chance l D qm gm cy z SM p1 _ eM
  rw [← aX.trans aM.symm] at cM
  exact ⟨oX.1, _, _, _, _, c_X11_chance l D qx gx cy z SX p1 _ eX, cM, ⟨_, w.1, (⟨⟨⟨hL, hc3, hT⟩, hl, h31, hmT⟩, mM, h6, h7, h8⟩)⟩, w.2.1, w.2.2⟩
theorem p_sure (l : Launch) (D : va_G) (qx gx qm gm : Nat → Nat) (cy : Nat → ClassId) (z : (Nat → Nat) × (Nat → Nat) × Nat) {SX SM : wd_W} (h : RW SX SM) (p1 : Int32) (p2 : Int32) : ∃ (v : Int64) (SX' SM' : wd_W) (nc ns : Nat), MX layX l yX11_sure cX11_sure 3 (some .long) ({ frames := 6, cells := 40, slots := 500000, locals := 147 } : Room) D qx gx cy z [.ref (qx 0), .int p1, .int p2] SX true (some (.long v)) SX' nc ns ∧ MX layM l yX12_sure cX12_sure 3 (some .long) ({ frames := 7, cells := 0, slots := 0, locals := 160 } : Room) D qm gm cy z [.ref (qm 0), .int p1, .int p2] SM false (some (.long v)) SM' 0 0 ∧ RW SX' SM' ∧ nc ≤ 40 ∧ ns + 2 * lenS SX ≤ 2 * lenS SX' := by
  obtain ⟨st, hX, hM⟩ := h
  have hM0 := hM
  obtain ⟨⟨⟨hL, hc3, hT⟩, hl, h31, hmT⟩, hla, h6, h7, h8⟩ := hM
  obtain ⟨oX, eX, aX, xX⟩ := x_sure (p1 := p1) (p2 := p2) hX.1
  have w := xW_E hX xX
  obtain ⟨oM, eM, aM, mM⟩ := m_sureT (p1 := p1) (p2 := p2) hL hl hla
  have cM := c_X12_sure l D qm gm cy z SM p1 p2 _ eM
  rw [← aX.trans aM.symm] at cM
  exact ⟨oX.1, _, _, _, _, c_X11_sure l D qx gx cy z SX p1 p2 _ eX, cM, ⟨_, w.1, (⟨⟨⟨hL, hc3, hT⟩, hl, h31, hmT⟩, mM, h6, h7, h8⟩)⟩, w.2.1, w.2.2⟩
theorem p_matters (l : Launch) (D : va_G) (qx gx qm gm : Nat → Nat) (cy : Nat → ClassId) (z : (Nat → Nat) × (Nat → Nat) × Nat) {SX SM : wd_W} (h : RW SX SM) (p1 : Int32) (p2 : Int32) : ∃ (v : Int64) (SX' SM' : wd_W) (nc ns : Nat), MX layX l yX11_matters cX11_matters 3 (some .long) ({ frames := 6, cells := 40, slots := 500000, locals := 147 } : Room) D qx gx cy z [.ref (qx 0), .int p1, .int p2] SX true (some (.long v)) SX' nc ns ∧ MX layM l yX12_matters cX12_matters 3 (some .long) ({ frames := 8, cells := 0, slots := 0, locals := 181 } : Room) D qm gm cy z [.ref (qm 0), .int p1, .int p2] SM false (some (.long v)) SM' 0 0 ∧ RW SX' SM' ∧ nc ≤ 40 ∧ ns + 2 * lenS SX ≤ 2 * lenS SX' := by
  obtain ⟨st, hX, hM⟩ := h
  have hM0 := hM
  obtain ⟨⟨⟨hL, hc3, hT⟩, hl, h31, hmT⟩, hla, h6, h7, h8⟩ := hM
  obtain ⟨oX, eX, aX, xX⟩ := x_matters (p1 := p1) (p2 := p2) hX.1
  have w := xW_E hX xX
  obtain ⟨oM, eM, aM, mM⟩ := m_mattersT (p1 := p1) (p2 := p2) hL hl hla
  have cM := c_X12_matters l D qm gm cy z SM p1 p2 _ eM
  rw [← aX.trans aM.symm] at cM
  exact ⟨oX.1, _, _, _, _, c_X11_matters l D qx gx cy z SX p1 p2 _ eX, cM, ⟨_, w.1, (⟨⟨⟨hL, hc3, hT⟩, hl, h31, hmT⟩, mM, h6, h7, h8⟩)⟩, w.2.1, w.2.2⟩
theorem p_most (l : Launch) (D : va_G) (qx gx qm gm : Nat → Nat) (cy : Nat → ClassId) (z : (Nat → Nat) × (Nat → Nat) × Nat) {SX SM : wd_W} (h : RW SX SM) : ∃ (v : Int32) (SX' SM' : wd_W) (nc ns : Nat), MX layX l yX11_most cX11_most 7 (some .int) ({ frames := 6, cells := 40, slots := 500000, locals := 147 } : Room) D qx gx cy z [.ref (qx 0)] SX true (some (.int v)) SX' nc ns ∧ MX layM l yX12_most cX12_most 7 (some .int) ({ frames := 8, cells := 0, slots := 0, locals := 181 } : Room) D qm gm cy z [.ref (qm 0)] SM false (some (.int v)) SM' 0 0 ∧ RW SX' SM' ∧ nc ≤ 40 ∧ ns + 2 * lenS SX ≤ 2 * lenS SX' := by
  obtain ⟨st, hX, hM⟩ := h
  have hM0 := hM
  obtain ⟨⟨⟨hL, hc3, hT⟩, hl, h31, hmT⟩, hla, h6, h7, h8⟩ := hM
  obtain ⟨oX, eX, aX, xX⟩ := x_most  hX.1
  have w := xW_E hX xX
  obtain ⟨oM, eM, aM, mM⟩ := m_mostT  hL hl hla
  have cM := c_X12_most l D qm gm cy z SM  _ eM
  rw [← aX.trans aM.symm] at cM
  exact ⟨oX.1, _, _, _, _, c_X11_most l D qx gx cy z SX  _ eX, cM, ⟨_, w.1, (⟨⟨⟨hL, hc3, hT⟩, hl, h31, hmT⟩, mM, h6, h7, h8⟩)⟩, w.2.1, w.2.2⟩
theorem p_useless (l : Launch) (D : va_G) (qx gx qm gm : Nat → Nat) (cy : Nat → ClassId) (z : (Nat → Nat) × (Nat → Nat) × Nat) {SX SM : wd_W} (h : RW SX SM) : ∃ (v : Int32) (SX' SM' : wd_W) (nc ns : Nat), MX layX l yX11_useless cX11_useless 3 (some .int) ({ frames := 6, cells := 40, slots := 500000, locals := 147 } : Room) D qx gx cy z [.ref (qx 0)] SX true (some (.int v)) SX' nc ns ∧ MX layM l yX12_useless cX12_useless 3 (some .int) ({ frames := 6, cells := 0, slots := 0, locals := 138 } : Room) D qm gm cy z [.ref (qm 0)] SM false (some (.int v)) SM' 0 0 ∧ RW SX' SM' ∧ nc ≤ 40 ∧ ns + 2 * lenS SX ≤ 2 * lenS SX' := by
  obtain ⟨st, hX, hM⟩ := h
  have hM0 := hM
  obtain ⟨⟨⟨hL, hc3, hT⟩, hl, h31, hmT⟩, hla, h6, h7, h8⟩ := hM
  obtain ⟨oX, eX, aX, xX⟩ := x_useless  hX.1
  have w := xW_E hX xX
  obtain ⟨oM, eM, aM, mM⟩ := m_uselessT  hL hl hla
  have cM := c_X12_useless l D qm gm cy z SM  _ eM
  rw [← aX.trans aM.symm] at cM
  exact ⟨oX.1, _, _, _, _, c_X11_useless l D qx gx cy z SX  _ eX, cM, ⟨_, w.1, (⟨⟨⟨hL, hc3, hT⟩, hl, h31, hmT⟩, mM, h6, h7, h8⟩)⟩, w.2.1, w.2.2⟩
theorem p_ways (l : Launch) (D : va_G) (qx gx qm gm : Nat → Nat) (cy : Nat → ClassId) (z : (Nat → Nat) × (Nat → Nat) × Nat) {SX SM : wd_W} (h : RW SX SM) (p1 : Bool) : ∃ (v : Int32) (SX' SM' : wd_W) (nc ns : Nat), MX layX l yX11_ways cX11_ways 2 (some .int) ({ frames := 6, cells := 40, slots := 500000, locals := 148 } : Room) D qx gx cy z [.ref (qx 0), .int (nI (b2n p1))] SX true (some (.int v)) SX' nc ns ∧ MX layM l yX12_ways cX12_ways 2 (some .int) ({ frames := 6, cells := 0, slots := 0, locals := 143 } : Room) D qm gm cy z [.ref (qm 0), .int (nI (b2n p1))] SM false (some (.int v)) SM' 0 0 ∧ RW SX' SM' ∧ nc ≤ 40 ∧ ns + 2 * lenS SX ≤ 2 * lenS SX' := by
  obtain ⟨st, hX, hM⟩ := h
  have hM0 := hM
  obtain ⟨⟨⟨hL, hc3, hT⟩, hl, h31, hmT⟩, hla, h6, h7, h8⟩ := hM
  obtain ⟨oX, eX, aX, xX⟩ := x_ways  (c := p1) hX.1
  have w := xW_E hX xX
  obtain ⟨oM, eM, aM, mM⟩ := m_waysT  (c := p1) hL hl hla
  have cM := c_X12_ways l D qm gm cy z SM (nI (b2n p1)) _ eM
  rw [← aX.trans aM.symm] at cM
  exact ⟨oX.1, _, _, _, _, c_X11_ways l D qx gx cy z SX (nI (b2n p1)) _ eX, cM, ⟨_, w.1, (⟨⟨⟨hL, hc3, hT⟩, hl, h31, hmT⟩, mM, h6, h7, h8⟩)⟩, w.2.1, w.2.2⟩
theorem p_way (l : Launch) (D : va_G) (qx gx qm gm : Nat → Nat) (cy : Nat → ClassId) (z : (Nat → Nat) × (Nat → Nat) × Nat) {SX SM : wd_W} (h : RW SX SM) (p1 : Bool) (p2 : Int32) : ∃ (v : Int32) (SX' SM' : wd_W) (nc ns : Nat), MX layX l yX11_way cX11_way 4 (some .int) ({ frames := 6, cells := 40, slots := 500000, locals := 148 } : Room) D qx gx cy z [.ref (qx 0), .int (nI (b2n p1)), .int p2] SX true (some (.int v)) SX' nc ns ∧ MX layM l yX12_way cX12_way 4 (some .int) ({ frames := 6, cells := 0, slots := 0, locals := 143 } : Room) D qm gm cy z [.ref (qm 0), .int (nI (b2n p1)), .int p2] SM false (some (.int v)) SM' 0 0 ∧ RW SX' SM' ∧ nc ≤ 40 ∧ ns + 2 * lenS SX ≤ 2 * lenS SX' := by
  obtain ⟨st, hX, hM⟩ := h
  have hM0 := hM
  obtain ⟨⟨⟨hL, hc3, hT⟩, hl, h31, hmT⟩, hla, h6, h7, h8⟩ := hM
  obtain ⟨oX, eX, aX, xX⟩ := x_way (p2 := p2) (c := p1) hX.1
  have w := xW_E hX xX
  obtain ⟨oM, eM, aM, mM⟩ := m_wayT (p2 := p2) (c := p1) hL hl hla
  have cM := c_X12_way l D qm gm cy z SM (nI (b2n p1)) p2 _ eM
  rw [← aX.trans aM.symm] at cM
  exact ⟨oX.1, _, _, _, _, c_X11_way l D qx gx cy z SX (nI (b2n p1)) p2 _ eX, cM, ⟨_, w.1, (⟨⟨⟨hL, hc3, hT⟩, hl, h31, hmT⟩, mM, h6, h7, h8⟩)⟩, w.2.1, w.2.2⟩
theorem p_ends (l : Launch) (D : va_G) (qx gx qm gm : Nat → Nat) (cy : Nat → ClassId) (z : (Nat → Nat) × (Nat → Nat) × Nat) {SX SM : wd_W} (h : RW SX SM) (p1 : Int32) (p2 : Int32) : ∃ (v : Int64) (SX' SM' : wd_W) (nc ns : Nat), MX layX l yX11_ends cX11_ends 3 (some .long) ({ frames := 6, cells := 40, slots := 500000, locals := 148 } : Room) D qx gx cy z [.ref (qx 0), .int p1, .int p2] SX true (some (.long v)) SX' nc ns ∧ MX layM l yX12_ends cX12_ends 6 (some .long) ({ frames := 6, cells := 0, slots := 0, locals := 143 } : Room) D qm gm cy z [.ref (qm 0), .int p1, .int p2] SM false (some (.long v)) SM' 0 0 ∧ RW SX' SM' ∧ nc ≤ 40 ∧ ns + 2 * lenS SX ≤ 2 * lenS SX' := by
  obtain ⟨st, hX, hM⟩ := h
  have hM0 := hM
  obtain ⟨⟨⟨hL, hc3, hT⟩, hl, h31, hmT⟩, hla, h6, h7, h8⟩ := hM
  obtain ⟨oX, eX, aX, xX⟩ := x_ends (p1 := p1) (p2 := p2) hX.1
  have w := xW_E hX xX
  obtain ⟨oM, eM, aM, mM⟩ := m_endsT (p1 := p1) (p2 := p2) hL hl hla
  have cM := c_X12_ends l D qm gm cy z SM p1 p2 _ eM
  rw [← aX.trans aM.symm] at cM
  exact ⟨oX.1, _, _, _, _, c_X11_ends l D qx gx cy z SX p1 p2 _ eX, cM, ⟨_, w.1, (⟨⟨⟨hL, hc3, hT⟩, hl, h31, hmT⟩, mM, h6, h7, h8⟩)⟩, w.2.1, w.2.2⟩
theorem p_row (l : Launch) (D : va_G) (qx gx qm gm : Nat → Nat) (cy : Nat → ClassId) (z : (Nat → Nat) × (Nat → Nat) × Nat) {SX SM : wd_W} (h : RW SX SM) (p1 : Int32) : ∃ (v : Int32) (SX' SM' : wd_W) (nc ns : Nat), MX layX l yX11_row cX11_row 2 (some .int) ({ frames := 6, cells := 40, slots := 500000, locals := 147 } : Room) D qx gx cy z [.ref (qx 0), .int p1] SX true (some (.int v)) SX' nc ns ∧ MX layM l yX12_row cX12_row 5 (some .int) ({ frames := 5, cells := 0, slots := 0, locals := 115 } : Room) D qm gm cy z [.ref (qm 0), .int p1] SM false (some (.int v)) SM' 0 0 ∧ RW SX' SM' ∧ nc ≤ 40 ∧ ns + 2 * lenS SX ≤ 2 * lenS SX' := by
  obtain ⟨st, hX, hM⟩ := h
  have hM0 := hM
  obtain ⟨⟨⟨hL, hc3, hT⟩, hl, h31, hmT⟩, hla, h6, h7, h8⟩ := hM
  obtain ⟨oX, eX, aX, xX⟩ := x_row (p1 := p1) hX.1
  have w := xW_E hX xX
  obtain ⟨oM, eM, aM, mM⟩ := m_rowT (p1 := p1) hL hl hla
  have cM := c_X12_row l D qm gm cy z SM p1 _ eM
  rw [← aX.trans aM.symm] at cM
  exact ⟨oX.1, _, _, _, _, c_X11_row l D qx gx cy z SX p1 _ eX, cM, ⟨_, w.1, (⟨⟨⟨hL, hc3, hT⟩, hl, h31, hmT⟩, lai_Ld mM, h6, h7, h8⟩)⟩, w.2.1, w.2.2⟩
theorem p_mending (l : Launch) (D : va_G) (qx gx qm gm : Nat → Nat) (cy : Nat → ClassId) (z : (Nat → Nat) × (Nat → Nat) × Nat) {SX SM : wd_W} (h : RW SX SM) (p1 : Int32) (p2 : Int32) (p3 : Int32) : ∃ (v : Int32) (SX' SM' : wd_W) (nc ns : Nat), MX layX l yX11_mending cX11_mending 4 (some .int) ({ frames := 1, cells := 0, slots := 0, locals := 23 } : Room) D qx gx cy z [.ref (qx 0), .int p1, .int p2, .int p3] SX false (some (.int v)) SX' nc ns ∧ MX layM l yX12_mending cX12_mending 4 (some .int) ({ frames := 1, cells := 0, slots := 0, locals := 25 } : Room) D qm gm cy z [.ref (qm 0), .int p1, .int p2, .int p3] SM false (some (.int v)) SM' 0 0 ∧ RW SX' SM' ∧ nc ≤ 40 ∧ ns + 2 * lenS SX ≤ 2 * lenS SX' := by
  obtain ⟨st, hX, hM⟩ := h
  have hM0 := hM
  obtain ⟨⟨⟨hL, hc3, hT⟩, hl, h31, hmT⟩, hla, h6, h7, h8⟩ := hM
  obtain ⟨oX, eX, aX, w⟩ := x_mending (p1 := p1) (p2 := p2) (p3 := p3) hX
  obtain ⟨oM, eM, aM, mM⟩ := m_mendingT (p1 := p1) (p2 := p2) (p3 := p3) hM0
  have cM := c_X12_mending l D qm gm cy z SM p1 p2 p3 _ eM
  rw [← aX.trans aM.symm] at cM
  exact ⟨oX.1, _, _, _, _, c_X11_mending l D qx gx cy z SX p1 p2 p3 _ eX, cM, ⟨_, w.1, mM⟩, w.2.1, w.2.2⟩
theorem p_mend (l : Launch) (D : va_G) (qx gx qm gm : Nat → Nat) (cy : Nat → ClassId) (z : (Nat → Nat) × (Nat → Nat) × Nat) {SX SM : wd_W} (h : RW SX SM) (p1 : Int32) : ∃ (v : Int64) (SX' SM' : wd_W) (nc ns : Nat), MX layX l yX11_mend cX11_mend 2 (some .long) ({ frames := 5, cells := 40, slots := 500000, locals := 127 } : Room) D qx gx cy z [.ref (qx 0), .int p1] SX true (some (.long v)) SX' nc ns ∧ MX layM l yX12_mend cX12_mend 8 (some .long) ({ frames := 7, cells := 0, slots := 0, locals := 160 } : Room) D qm gm cy z [.ref (qm 0), .int p1] SM false (some (.long v)) SM' 0 0 ∧ RW SX' SM' ∧ nc ≤ 40 ∧ ns + 2 * lenS SX ≤ 2 * lenS SX' := by
  obtain ⟨st, hX, hM⟩ := h
  have hM0 := hM
  obtain ⟨⟨⟨hL, hc3, hT⟩, hl, h31, hmT⟩, hla, h6, h7, h8⟩ := hM
  obtain ⟨oX, eX, aX, w⟩ := x_mend (p1 := p1) hX
  obtain ⟨oM, eM, aM, mM, m5, m6, m7⟩ := m_mend (p1 := p1) hL hl hla hmT hT
  have hmd : (oM.2.2.2.2.1 = nI 0 ∧ menM st.1 st.2.1 st.2.2.1 p1 = (-1, -1)) ∨ (oM.2.2.2.2.1 = nI 1 ∧ oM.2.2.2.2.2.1 = (menM st.1 st.2.1 st.2.2.1 p1).1 ∧ oM.2.2.2.2.2.2.1 = (menM st.1 st.2.1 st.2.2.1 p1).2) := by
    unfold menM
    by_cases c : inB 0 99999 p1 = true
    · rw [if_pos c] at m5 m6 m7
      rw [if_pos c]
      exact Or.inr ⟨m5, m6, m7⟩
    · rw [if_neg c] at m5 m6 m7
      rw [if_neg c, m5, m6, m7]
      exact h6
  have cM := c_X12_mend l D qm gm cy z SM p1 _ eM
  rw [← aX.trans aM.symm] at cM
  exact ⟨oX.1, _, _, _, _, c_X11_mend l D qx gx cy z SX p1 _ eX, cM, ⟨_, w.1, (⟨⟨⟨hL, hc3, hT⟩, hl, h31, hmT⟩, mM, hmd, h7, h8⟩)⟩, w.2.1, w.2.2⟩
theorem p_mended (l : Launch) (D : va_G) (qx gx qm gm : Nat → Nat) (cy : Nat → ClassId) (z : (Nat → Nat) × (Nat → Nat) × Nat) {SX SM : wd_W} (h : RW SX SM) (p1 : Int32) : ∃ (v : Int32) (SX' SM' : wd_W) (nc ns : Nat), MX layX l yX11_mended cX11_mended 2 (some .int) ({ frames := 0, cells := 0, slots := 0, locals := 0 } : Room) D qx gx cy z [.ref (qx 0), .int p1] SX false (some (.int v)) SX' nc ns ∧ MX layM l yX12_mended cX12_mended 2 (some .int) ({ frames := 0, cells := 0, slots := 0, locals := 0 } : Room) D qm gm cy z [.ref (qm 0), .int p1] SM false (some (.int v)) SM' 0 0 ∧ RW SX' SM' ∧ nc ≤ 40 ∧ ns + 2 * lenS SX ≤ 2 * lenS SX' := by
  obtain ⟨st, hX, hM⟩ := h
  have hM0 := hM
  obtain ⟨⟨⟨hL, hc3, hT⟩, hl, h31, hmT⟩, hla, h6, h7, h8⟩ := hM
  obtain ⟨oX, eX, aX, w⟩ := x_mended (p1 := p1) hX
  have eM := m_mendedT (p1 := p1) hM0
  have cM := c_X12_mended l D qm gm cy z SM p1 _ eM
  rw [← aX] at cM
  exact ⟨oX, _, _, _, _, c_X11_mended l D qx gx cy z SX p1 _ eX, cM, ⟨_, w.1, (MW_nil hM0)⟩, w.2.1, w.2.2⟩
theorem p_add (l : Launch) (D : va_G) (qx gx qm gm : Nat → Nat) (cy : Nat → ClassId) (z : (Nat → Nat) × (Nat → Nat) × Nat) {SX SM : wd_W} (h : RW SX SM) (p1 : Int32) (p2 : Int32) : ∃ (v : Int64) (SX' SM' : wd_W) (nc ns : Nat), MX layX l yX11_add cX11_add 3 (some .long) ({ frames := 5, cells := 40, slots := 500000, locals := 151 } : Room) D qx gx cy z [.ref (qx 0), .int p1, .int p2] SX true (some (.long v)) SX' nc ns ∧ MX layM l yX12_add cX12_add 5 (some .long) ({ frames := 5, cells := 0, slots := 0, locals := 120 } : Room) D qm gm cy z [.ref (qm 0), .int p1, .int p2] SM false (some (.long v)) SM' 0 0 ∧ RW SX' SM' ∧ nc ≤ 40 ∧ ns + 2 * lenS SX ≤ 2 * lenS SX' := by
  obtain ⟨st, hX, hM⟩ := h
  have hM0 := hM
  obtain ⟨⟨⟨hL, hc3, hT⟩, hl, h31, hmT⟩, hla, h6, h7, h8⟩ := hM
  obtain ⟨oX, eX, aX, xX⟩ := x_add (p1 := p1) (p2 := p2) hX.1
  have w := xW_E hX xX
  obtain ⟨oM, eM, aM, mM, m2⟩ := m_add (p1 := p1) (p2 := p2) hL hl hla
  have hl2 := hl
  obtain ⟨k0, j1, j2, j3⟩ := hl2
  have cM := c_X12_add l D qm gm cy z SM p1 p2 _ eM
  rw [← aX.trans aM.symm] at cM
  exact ⟨oX.1, _, _, _, _, c_X11_add l D qx gx cy z SX p1 p2 _ eX, cM, ⟨_, w.1, (⟨⟨⟨hL, hc3, hT⟩, ⟨k0, fun k hk => ⟨(m2 k hk).1.trans (j1 k hk).1, (m2 k hk).2.1.trans (j1 k hk).2.1, (j1 k hk).2.2.1, (m2 k hk).2.2.1.trans (j1 k hk).2.2.2.1, (m2 k hk).2.2.2.trans (j1 k hk).2.2.2.2.1, (j1 k hk).2.2.2.2.2⟩, j2, j3⟩, h31, hmT⟩, mM, h6, h7, h8⟩)⟩, w.2.1, w.2.2⟩
theorem p_plan (l : Launch) (D : va_G) (qx gx qm gm : Nat → Nat) (cy : Nat → ClassId) (z : (Nat → Nat) × (Nat → Nat) × Nat) {SX SM : wd_W} (h : RW SX SM) (p1 : Int32) : ∃ (v : Int32) (SX' SM' : wd_W) (nc ns : Nat), MX layX l yX11_plan cX11_plan 2 (some .int) ({ frames := 5, cells := 40, slots := 500000, locals := 127 } : Room) D qx gx cy z [.ref (qx 0), .int p1] SX true (some (.int v)) SX' nc ns ∧ MX layM l yX12_plan cX12_plan 10 (some .int) ({ frames := 6, cells := 0, slots := 0, locals := 141 } : Room) D qm gm cy z [.ref (qm 0), .int p1] SM false (some (.int v)) SM' 0 0 ∧ RW SX' SM' ∧ nc ≤ 40 ∧ ns + 2 * lenS SX ≤ 2 * lenS SX' := by
  obtain ⟨st, hX, hM⟩ := h
  have hM0 := hM
  obtain ⟨⟨⟨hL, hc3, hT⟩, hl, h31, hmT⟩, hla, h6, h7, h8⟩ := hM
  obtain ⟨oX, eX, aX, xX⟩ := x_plan (p1 := p1) hX.1
  have w := xW_E hX xX
  obtain ⟨oM, eM, aM, mM⟩ := m_plan (p1 := p1) hL hl hla
  have cM := c_X12_plan l D qm gm cy z SM p1 _ eM
  rw [← aX.trans aM.symm] at cM
  exact ⟨oX.1, _, _, _, _, c_X11_plan l D qx gx cy z SX p1 _ eX, cM, ⟨_, w.1, (⟨⟨⟨hL, hc3, hT⟩, hl, h31, hmT⟩, mM, h6, h7, h8⟩)⟩, w.2.1, w.2.2⟩
theorem p_judge (l : Launch) (D : va_G) (qx gx qm gm : Nat → Nat) (cy : Nat → ClassId) (z : (Nat → Nat) × (Nat → Nat) × Nat) {SX SM : wd_W} (h : RW SX SM) (p1 : Int32) : ∃ (v : Int64) (SX' SM' : wd_W) (nc ns : Nat), MX layX l yX11_judge cX11_judge 2 (some .long) ({ frames := 5, cells := 40, slots := 500000, locals := 127 } : Room) D qx gx cy z [.ref (qx 0), .int p1] SX true (some (.long v)) SX' nc ns ∧ MX layM l yX12_judge cX12_judge 2 (some .long) ({ frames := 6, cells := 0, slots := 0, locals := 141 } : Room) D qm gm cy z [.ref (qm 0), .int p1] SM false (some (.long v)) SM' 0 0 ∧ RW SX' SM' ∧ nc ≤ 40 ∧ ns + 2 * lenS SX ≤ 2 * lenS SX' := by
  obtain ⟨st, hX, hM⟩ := h
  have hM0 := hM
  obtain ⟨⟨⟨hL, hc3, hT⟩, hl, h31, hmT⟩, hla, h6, h7, h8⟩ := hM
  obtain ⟨oX, eX, aX, xX⟩ := x_judge (p1 := p1) hX.1
  have w := xW_E hX xX
  obtain ⟨oM, eM, aM, mM⟩ := m_judge (p1 := p1) hL hl hla
  have cM := c_X12_judge l D qm gm cy z SM p1 _ eM
  rw [← aX.trans aM.symm] at cM
  exact ⟨oX.1, _, _, _, _, c_X11_judge l D qx gx cy z SX p1 _ eX, cM, ⟨_, w.1, (⟨⟨⟨hL, hc3, hT⟩, hl, h31, hmT⟩, mM, h6, h7, h8⟩)⟩, w.2.1, w.2.2⟩
theorem p_without (l : Launch) (D : va_G) (qx gx qm gm : Nat → Nat) (cy : Nat → ClassId) (z : (Nat → Nat) × (Nat → Nat) × Nat) {SX SM : wd_W} (h : RW SX SM) (p1 : Int32) : ∃ (v : Int64) (SX' SM' : wd_W) (nc ns : Nat), MX layX l yX11_without cX11_without 2 (some .long) ({ frames := 6, cells := 40, slots := 500000, locals := 147 } : Room) D qx gx cy z [.ref (qx 0), .int p1] SX true (some (.long v)) SX' nc ns ∧ MX layM l yX12_without cX12_without 2 (some .long) ({ frames := 7, cells := 0, slots := 0, locals := 160 } : Room) D qm gm cy z [.ref (qm 0), .int p1] SM false (some (.long v)) SM' 0 0 ∧ RW SX' SM' ∧ nc ≤ 40 ∧ ns + 2 * lenS SX ≤ 2 * lenS SX' := by
  obtain ⟨st, hX, hM⟩ := h
  have hM0 := hM
  obtain ⟨⟨⟨hL, hc3, hT⟩, hl, h31, hmT⟩, hla, h6, h7, h8⟩ := hM
  obtain ⟨oX, eX, aX, xX⟩ := x_without (p1 := p1) hX.1
  have w := xW_E hX xX
  obtain ⟨oM, eM, aM, mM⟩ := m_withoutT (p1 := p1) hL hl h31 hla
  have cM := c_X12_without l D qm gm cy z SM p1 _ eM
  rw [← aX.trans aM.symm] at cM
  exact ⟨oX.1, _, _, _, _, c_X11_without l D qx gx cy z SX p1 _ eX, cM, ⟨_, w.1, (⟨⟨⟨hL, hc3, hT⟩, hl, h31, hmT⟩, mM, h6, h7, h8⟩)⟩, w.2.1, w.2.2⟩
theorem p_letter (l : Launch) (D : va_G) (qx gx qm gm : Nat → Nat) (cy : Nat → ClassId) (z : (Nat → Nat) × (Nat → Nat) × Nat) {SX SM : wd_W} (h : RW SX SM) (p1 : Int32) (p2 : Int32) (p3 : Bool) : ∃ (v : Int32) (SX' SM' : wd_W) (nc ns : Nat), MX layX l yX11_letter cX11_letter 4 (some .int) ({ frames := 1, cells := 0, slots := 0, locals := 23 } : Room) D qx gx cy z [.ref (qx 0), .int p1, .int p2, .int (nI (b2n p3))] SX false (some (.int v)) SX' nc ns ∧ MX layM l yX12_letter cX12_letter 4 (some .int) ({ frames := 2, cells := 0, slots := 0, locals := 47 } : Room) D qm gm cy z [.ref (qm 0), .int p1, .int p2, .int (nI (b2n p3))] SM false (some (.int v)) SM' 0 0 ∧ RW SX' SM' ∧ nc ≤ 40 ∧ ns + 2 * lenS SX ≤ 2 * lenS SX' := by
  obtain ⟨st, hX, hM⟩ := h
  have hM0 := hM
  obtain ⟨⟨⟨hL, hc3, hT⟩, hl, h31, hmT⟩, hla, h6, h7, h8⟩ := hM
  obtain ⟨oX, eX, aX, w⟩ := x_letter (p1 := p1) (p2 := p2) (v := p3) hX
  obtain ⟨oM, eM, aM, mM⟩ := m_letterT (p1 := p1) (p2 := p2) (v := p3) hM0
  have cM := c_X12_letter l D qm gm cy z SM p1 p2 (nI (b2n p3)) _ eM
  rw [← aX.trans aM.symm] at cM
  exact ⟨oX.1, _, _, _, _, c_X11_letter l D qx gx cy z SX p1 p2 (nI (b2n p3)) _ eX, cM, ⟨_, w.1, mM⟩, w.2.1, w.2.2⟩
theorem p_thought (l : Launch) (D : va_G) (qx gx qm gm : Nat → Nat) (cy : Nat → ClassId) (z : (Nat → Nat) × (Nat → Nat) × Nat) {SX SM : wd_W} (h : RW SX SM) (p1 : Int32) (p2 : Int32) : ∃ (v : Int64) (SX' SM' : wd_W) (nc ns : Nat), MX layX l yX11_thought cX11_thought 3 (some .long) ({ frames := 6, cells := 40, slots := 500000, locals := 147 } : Room) D qx gx cy z [.ref (qx 0), .int p1, .int p2] SX true (some (.long v)) SX' nc ns ∧ MX layM l yX12_thought cX12_thought 3 (some .long) ({ frames := 5, cells := 0, slots := 0, locals := 111 } : Room) D qm gm cy z [.ref (qm 0), .int p1, .int p2] SM false (some (.long v)) SM' 0 0 ∧ RW SX' SM' ∧ nc ≤ 40 ∧ ns + 2 * lenS SX ≤ 2 * lenS SX' := by
  obtain ⟨st, hX, hM⟩ := h
  have hM0 := hM
  obtain ⟨⟨⟨hL, hc3, hT⟩, hl, h31, hmT⟩, hla, h6, h7, h8⟩ := hM
  obtain ⟨oX, eX, aX, xX⟩ := x_thought (p1 := p1) (p2 := p2) hX.1
  have w := xW_E hX xX
  obtain ⟨oM, eM, aM⟩ := m_thought (p1 := p1) (p2 := p2) hL hl hmT hT
  have cM := c_X12_thought l D qm gm cy z SM p1 p2 _ eM
  rw [← aX.trans aM.symm] at cM
  exact ⟨oX.1, _, _, _, _, c_X11_thought l D qx gx cy z SX p1 p2 _ eX, cM, ⟨_, w.1, (⟨⟨⟨hL, hc3, hT⟩, hl, h31, hmT⟩, hla, h6, h7, h8⟩)⟩, w.2.1, w.2.2⟩
theorem p_look (l : Launch) (D : va_G) (qx gx qm gm : Nat → Nat) (cy : Nat → ClassId) (z : (Nat → Nat) × (Nat → Nat) × Nat) {SX SM : wd_W} (h : RW SX SM) : ∃ (v : Int32) (SX' SM' : wd_W) (nc ns : Nat), MX layX l yX11_look cX11_look 1 (some .int) ({ frames := 6, cells := 40, slots := 500000, locals := 147 } : Room) D qx gx cy z [.ref (qx 0)] SX true (some (.int v)) SX' nc ns ∧ MX layM l yX12_look cX12_look 7 (some .int) ({ frames := 5, cells := 0, slots := 0, locals := 111 } : Room) D qm gm cy z [.ref (qm 0)] SM false (some (.int v)) SM' 0 0 ∧ RW SX' SM' ∧ nc ≤ 40 ∧ ns + 2 * lenS SX ≤ 2 * lenS SX' := by
  obtain ⟨st, hX, hM⟩ := h
  have hM0 := hM
  obtain ⟨⟨⟨hL, hc3, hT⟩, hl, h31, hmT⟩, hla, h6, h7, h8⟩ := hM
  obtain ⟨oX, eX, aX, xX⟩ := x_look  hX.1
  have w := xW_E hX xX
  obtain ⟨oM, eM, aM⟩ := m_look  hL hl hmT hT
  have cM := c_X12_look l D qm gm cy z SM  _ eM
  rw [← aX.trans aM.symm] at cM
  exact ⟨oX.1, _, _, _, _, c_X11_look l D qx gx cy z SX  _ eX, cM, ⟨_, w.1, (⟨⟨⟨hL, hc3, hT⟩, hl, h31, hmT⟩, hla, h6, h7, h8⟩)⟩, w.2.1, w.2.2⟩
theorem p_within (l : Launch) (D : va_G) (qx gx qm gm : Nat → Nat) (cy : Nat → ClassId) (z : (Nat → Nat) × (Nat → Nat) × Nat) {SX SM : wd_W} (h : RW SX SM) (p1 : Int32) (p2 : Int32) (p3 : Int32) : ∃ (v : Int64) (SX' SM' : wd_W) (nc ns : Nat), MX layX l yX11_within cX11_within 4 (some .long) ({ frames := 6, cells := 40, slots := 500000, locals := 149 } : Room) D qx gx cy z [.ref (qx 0), .int p1, .int p2, .int p3] SX true (some (.long v)) SX' nc ns ∧ MX layM l yX12_within cX12_within 7 (some .long) ({ frames := 3, cells := 0, slots := 0, locals := 69 } : Room) D qm gm cy z [.ref (qm 0), .int p1, .int p2, .int p3] SM false (some (.long v)) SM' 0 0 ∧ RW SX' SM' ∧ nc ≤ 40 ∧ ns + 2 * lenS SX ≤ 2 * lenS SX' := by
  obtain ⟨st, hX, hM⟩ := h
  have hM0 := hM
  obtain ⟨⟨⟨hL, hc3, hT⟩, hl, h31, hmT⟩, hla, h6, h7, h8⟩ := hM
  obtain ⟨oX, eX, aX, xX⟩ := x_within (p1 := p1) (p2 := p2) (p3 := p3) hX.1
  have w := xW_E hX xX
  obtain ⟨oM, eM, aM⟩ := m_within (p1 := p1) (p2 := p2) (p3 := p3) hL hl
  have cM := c_X12_within l D qm gm cy z SM p1 p2 p3 _ eM
  rw [← aX.trans aM.symm] at cM
  exact ⟨oX.1, _, _, _, _, c_X11_within l D qx gx cy z SX p1 p2 p3 _ eX, cM, ⟨_, w.1, (⟨⟨⟨hL, hc3, hT⟩, hl, h31, hmT⟩, hla, h6, h7, h8⟩)⟩, w.2.1, w.2.2⟩
theorem p_soon (l : Launch) (D : va_G) (qx gx qm gm : Nat → Nat) (cy : Nat → ClassId) (z : (Nat → Nat) × (Nat → Nat) × Nat) {SX SM : wd_W} (h : RW SX SM) (p1 : Int32) (p2 : Int32) (p3 : Int32) : ∃ (v : Int32) (SX' SM' : wd_W) (nc ns : Nat), MX layX l yX11_soon cX11_soon 6 (some .int) ({ frames := 6, cells := 40, slots := 500000, locals := 149 } : Room) D qx gx cy z [.ref (qx 0), .int p1, .int p2, .int p3] SX true (some (.int v)) SX' nc ns ∧ MX layM l yX12_soon cX12_soon 7 (some .int) ({ frames := 3, cells := 0, slots := 0, locals := 69 } : Room) D qm gm cy z [.ref (qm 0), .int p1, .int p2, .int p3] SM false (some (.int v)) SM' 0 0 ∧ RW SX' SM' ∧ nc ≤ 40 ∧ ns + 2 * lenS SX ≤ 2 * lenS SX' := by
  obtain ⟨st, hX, hM⟩ := h
  have hM0 := hM
  obtain ⟨⟨⟨hL, hc3, hT⟩, hl, h31, hmT⟩, hla, h6, h7, h8⟩ := hM
  obtain ⟨oX, eX, aX, xX⟩ := x_soon (p1 := p1) (p2 := p2) (p3 := p3) hX.1
  have w := xW_E hX xX
  obtain ⟨oM, eM, aM⟩ := m_soon (p1 := p1) (p2 := p2) (p3 := p3) hL hl
  have cM := c_X12_soon l D qm gm cy z SM p1 p2 p3 _ eM
  rw [← aX.trans aM.symm] at cM
  exact ⟨oX.1, _, _, _, _, c_X11_soon l D qx gx cy z SX p1 p2 p3 _ eX, cM, ⟨_, w.1, (⟨⟨⟨hL, hc3, hT⟩, hl, h31, hmT⟩, hla, h6, h7, h8⟩)⟩, w.2.1, w.2.2⟩
theorem p_draw (l : Launch) (D : va_G) (qx gx qm gm : Nat → Nat) (cy : Nat → ClassId) (z : (Nat → Nat) × (Nat → Nat) × Nat) {SX SM : wd_W} (h : RW SX SM) (p1 : Int32) (p2 : Int32) : ∃ (v : Int32) (SX' SM' : wd_W) (nc ns : Nat), MX layX l yX11_draw cX11_draw 3 (some .int) ({ frames := 6, cells := 40, slots := 500000, locals := 147 } : Room) D qx gx cy z [.ref (qx 0), .int p1, .int p2] SX true (some (.int v)) SX' nc ns ∧ MX layM l yX12_draw cX12_draw 9 (some .int) ({ frames := 5, cells := 0, slots := 0, locals := 115 } : Room) D qm gm cy z [.ref (qm 0), .int p1, .int p2] SM false (some (.int v)) SM' 0 0 ∧ RW SX' SM' ∧ nc ≤ 40 ∧ ns + 2 * lenS SX ≤ 2 * lenS SX' := by
  obtain ⟨st, hX, hM⟩ := h
  have hM0 := hM
  obtain ⟨⟨⟨hL, hc3, hT⟩, hl, h31, hmT⟩, hla, h6, h7, h8⟩ := hM
  obtain ⟨oX, eX, aX, xX⟩ := x_draw (p1 := p1) (p2 := p2) hX.1
  have w := xW_E hX xX
  obtain ⟨oM, eM, aM, mM⟩ := m_drawT (p1 := p1) (p2 := p2) hL hl hla
  have cM := c_X12_draw l D qm gm cy z SM p1 p2 _ eM
  rw [← aX.trans aM.symm] at cM
  exact ⟨oX.1, _, _, _, _, c_X11_draw l D qx gx cy z SX p1 p2 _ eX, cM, ⟨_, w.1, (⟨⟨⟨hL, hc3, hT⟩, hl, h31, hmT⟩, mM, h6, h7, h8⟩)⟩, w.2.1, w.2.2⟩
theorem p_joined (l : Launch) (D : va_G) (qx gx qm gm : Nat → Nat) (cy : Nat → ClassId) (z : (Nat → Nat) × (Nat → Nat) × Nat) {SX SM : wd_W} (h : RW SX SM) (p1 : Int32) (p2 : Int32) : ∃ (v : Int32) (SX' SM' : wd_W) (nc ns : Nat), MX layX l yX11_joined cX11_joined 3 (some .int) ({ frames := 6, cells := 40, slots := 500000, locals := 147 } : Room) D qx gx cy z [.ref (qx 0), .int p1, .int p2] SX true (some (.int v)) SX' nc ns ∧ MX layM l yX12_joined cX12_joined 5 (some .int) ({ frames := 2, cells := 0, slots := 0, locals := 47 } : Room) D qm gm cy z [.ref (qm 0), .int p1, .int p2] SM false (some (.int v)) SM' 0 0 ∧ RW SX' SM' ∧ nc ≤ 40 ∧ ns + 2 * lenS SX ≤ 2 * lenS SX' := by
  obtain ⟨st, hX, hM⟩ := h
  have hM0 := hM
  obtain ⟨⟨⟨hL, hc3, hT⟩, hl, h31, hmT⟩, hla, h6, h7, h8⟩ := hM
  obtain ⟨oX, eX, aX, xX⟩ := x_joinedT (p1 := p1) (p2 := p2) hX.1
  have w := xW_E hX xX
  obtain ⟨oM, eM, aM⟩ := m_joinedT (p1 := p1) (p2 := p2) hL hl
  have e : oX.1 = oM.1 := by
    by_cases c : prB (l_N st.1) p1 p2 = true
    · rw [if_pos c] at aX aM
      obtain ⟨a, b, rfl, rfl, ha, hb, hab⟩ := prB_t c
      rw [nI_clamp (by have := hL.1.2.1; omega), nI_clamp (by have := hL.1.2.1; omega)] at aX aM
      exact joined_same2 hL ha hb aM aX (jL_good (fun k hk => ⟨(hL.2.1 k hk).1, (hL.2.1 k hk).2.1⟩))
    · rw [if_neg c] at aX aM
      rw [aX, aM]
  have cM := c_X12_joined l D qm gm cy z SM p1 p2 _ eM
  rw [← e] at cM
  exact ⟨oX.1, _, _, _, _, c_X11_joined l D qx gx cy z SX p1 p2 _ eX, cM, ⟨_, w.1, (⟨⟨⟨hL, hc3, hT⟩, hl, h31, hmT⟩, hla, h6, h7, h8⟩)⟩, w.2.1, w.2.2⟩
theorem p_alone (l : Launch) (D : va_G) (qx gx qm gm : Nat → Nat) (cy : Nat → ClassId) (z : (Nat → Nat) × (Nat → Nat) × Nat) {SX SM : wd_W} (h : RW SX SM) (p1 : Int32) : ∃ (v : Int64) (SX' SM' : wd_W) (nc ns : Nat), MX layX l yX11_alone cX11_alone 3 (some .long) ({ frames := 6, cells := 40, slots := 500000, locals := 147 } : Room) D qx gx cy z [.ref (qx 0), .int p1] SX true (some (.long v)) SX' nc ns ∧ MX layM l yX12_alone cX12_alone 7 (some .long) ({ frames := 4, cells := 0, slots := 0, locals := 94 } : Room) D qm gm cy z [.ref (qm 0), .int p1] SM false (some (.long v)) SM' 0 0 ∧ RW SX' SM' ∧ nc ≤ 40 ∧ ns + 2 * lenS SX ≤ 2 * lenS SX' := by
  obtain ⟨st, hX, hM⟩ := h
  have hM0 := hM
  obtain ⟨⟨⟨hL, hc3, hT⟩, hl, h31, hmT⟩, hla, h6, h7, h8⟩ := hM
  obtain ⟨oX, eX, aX, xX⟩ := x_alone (p1 := p1) hX.1
  have w := xW_E hX xX
  obtain ⟨oM, eM, aM, m1, m2, m3, m4⟩ := m_alone (p1 := p1) hL hl h31 hc3
  have hl2 := hl
  obtain ⟨⟨k0, k1, k2, k3, k4, k5⟩, j1, j2, j3⟩ := hl2
  have cM := c_X12_alone l D qm gm cy z SM p1 _ eM
  rw [← aX.trans aM.symm] at cM
  exact ⟨oX.1, _, _, _, _, c_X11_alone l D qx gx cy z SX p1 _ eX, cM, ⟨_, w.1, (⟨⟨⟨hL, hc3, hT⟩, ⟨⟨k0, k1, k2, trivial, m1, k5⟩, fun k hk => ⟨(j1 k hk).1, (j1 k hk).2.1, (j1 k hk).2.2.1, (j1 k hk).2.2.2.1, (j1 k hk).2.2.2.2.1, m2 k hk⟩, fun p hp => ⟨m3 p hp, (j2 p hp).2⟩, m4⟩, h31, hmT⟩, hla, h6, h7, h8⟩)⟩, w.2.1, w.2.2⟩
theorem p_alike (l : Launch) (D : va_G) (qx gx qm gm : Nat → Nat) (cy : Nat → ClassId) (z : (Nat → Nat) × (Nat → Nat) × Nat) {SX SM : wd_W} (h : RW SX SM) (p1 : Int32) : ∃ (v : Int64) (SX' SM' : wd_W) (nc ns : Nat), MX layX l yX11_alike cX11_alike 5 (some .long) ({ frames := 6, cells := 40, slots := 500000, locals := 147 } : Room) D qx gx cy z [.ref (qx 0), .int p1] SX true (some (.long v)) SX' nc ns ∧ MX layM l yX12_alike cX12_alike 8 (some .long) ({ frames := 6, cells := 0, slots := 0, locals := 139 } : Room) D qm gm cy z [.ref (qm 0), .int p1] SM false (some (.long v)) SM' 0 0 ∧ RW SX' SM' ∧ nc ≤ 40 ∧ ns + 2 * lenS SX ≤ 2 * lenS SX' := by
  obtain ⟨st, hX, hM⟩ := h
  have hM0 := hM
  obtain ⟨⟨⟨hL, hc3, hT⟩, hl, h31, hmT⟩, hla, h6, h7, h8⟩ := hM
  obtain ⟨oX, eX, aX, xX⟩ := x_alike (p1 := p1) hX.1
  have w := xW_E hX xX
  obtain ⟨oM, eM, aM, mM⟩ := m_alikeT (p1 := p1) hL hl hla
  have cM := c_X12_alike l D qm gm cy z SM p1 _ eM
  rw [← aX.trans aM.symm] at cM
  exact ⟨oX.1, _, _, _, _, c_X11_alike l D qx gx cy z SX p1 _ eX, cM, ⟨_, w.1, (⟨⟨⟨hL, hc3, hT⟩, hl, h31, hmT⟩, mM, h6, h7, h8⟩)⟩, w.2.1, w.2.2⟩
theorem p_even (l : Launch) (D : va_G) (qx gx qm gm : Nat → Nat) (cy : Nat → ClassId) (z : (Nat → Nat) × (Nat → Nat) × Nat) {SX SM : wd_W} (h : RW SX SM) : ∃ (v : Int32) (SX' SM' : wd_W) (nc ns : Nat), MX layX l yX11_even cX11_even 3 (some .int) ({ frames := 6, cells := 40, slots := 500000, locals := 147 } : Room) D qx gx cy z [.ref (qx 0)] SX true (some (.int v)) SX' nc ns ∧ MX layM l yX12_even cX12_even 2 (some .int) ({ frames := 6, cells := 0, slots := 0, locals := 139 } : Room) D qm gm cy z [.ref (qm 0)] SM false (some (.int v)) SM' 0 0 ∧ RW SX' SM' ∧ nc ≤ 40 ∧ ns + 2 * lenS SX ≤ 2 * lenS SX' := by
  obtain ⟨st, hX, hM⟩ := h
  have hM0 := hM
  obtain ⟨⟨⟨hL, hc3, hT⟩, hl, h31, hmT⟩, hla, h6, h7, h8⟩ := hM
  obtain ⟨oX, eX, aX, xX⟩ := x_even  hX.1
  have w := xW_E hX xX
  obtain ⟨oM, eM, aM, mM⟩ := m_evenT  hL hl hla
  have cM := c_X12_even l D qm gm cy z SM  _ eM
  rw [← aX.trans aM.symm] at cM
  exact ⟨oX.1, _, _, _, _, c_X11_even l D qx gx cy z SX  _ eX, cM, ⟨_, w.1, (⟨⟨⟨hL, hc3, hT⟩, hl, h31, hmT⟩, mM, h6, h7, h8⟩)⟩, w.2.1, w.2.2⟩
theorem p_trees (l : Launch) (D : va_G) (qx gx qm gm : Nat → Nat) (cy : Nat → ClassId) (z : (Nat → Nat) × (Nat → Nat) × Nat) {SX SM : wd_W} (h : RW SX SM) : ∃ (v : Int32) (SX' SM' : wd_W) (nc ns : Nat), MX layX l yX11_trees cX11_trees 1 (some .int) ({ frames := 6, cells := 40, slots := 500000, locals := 147 } : Room) D qx gx cy z [.ref (qx 0)] SX true (some (.int v)) SX' nc ns ∧ MX layM l yX12_trees cX12_trees 3 (some .int) ({ frames := 1, cells := 0, slots := 0, locals := 24 } : Room) D qm gm cy z [.ref (qm 0)] SM false (some (.int v)) SM' 0 0 ∧ RW SX' SM' ∧ nc ≤ 40 ∧ ns + 2 * lenS SX ≤ 2 * lenS SX' := by
  obtain ⟨st, hX, hM⟩ := h
  have hM0 := hM
  obtain ⟨⟨⟨hL, hc3, hT⟩, hl, h31, hmT⟩, hla, h6, h7, h8⟩ := hM
  obtain ⟨oX, eX, aX, xX⟩ := x_treesT  hX.1
  have w := xW_E hX xX
  have eM := m_trees hL hl
  have cM := c_X12_trees l D qm gm cy z SM  _ eM
  rw [← aX] at cM
  exact ⟨oX.1, _, _, _, _, c_X11_trees l D qx gx cy z SX  _ eX, cM, ⟨_, w.1, (MW_nil hM0)⟩, w.2.1, w.2.2⟩
theorem p_looks (l : Launch) (D : va_G) (qx gx qm gm : Nat → Nat) (cy : Nat → ClassId) (z : (Nat → Nat) × (Nat → Nat) × Nat) {SX SM : wd_W} (h : RW SX SM) (p1 : Int32) : ∃ (v : Int32) (SX' SM' : wd_W) (nc ns : Nat), MX layX l yX11_looks cX11_looks 2 (some .int) ({ frames := 5, cells := 40, slots := 500000, locals := 127 } : Room) D qx gx cy z [.ref (qx 0), .int p1] SX true (some (.int v)) SX' nc ns ∧ MX layM l yX12_looks cX12_looks 2 (some .int) ({ frames := 6, cells := 0, slots := 0, locals := 143 } : Room) D qm gm cy z [.ref (qm 0), .int p1] SM false (some (.int v)) SM' 0 0 ∧ RW SX' SM' ∧ nc ≤ 40 ∧ ns + 2 * lenS SX ≤ 2 * lenS SX' := by
  obtain ⟨st, hX, hM⟩ := h
  have hM0 := hM
  obtain ⟨⟨⟨hL, hc3, hT⟩, hl, h31, hmT⟩, hla, h6, h7, h8⟩ := hM
  obtain ⟨oX, eX, aX, xX⟩ := x_looks (p1 := p1) hX.1
  have w := xW_E hX xX
  obtain ⟨oM, eM, aM, mM⟩ := m_looks (p1 := p1) hL hl hla
  have cM := c_X12_looks l D qm gm cy z SM p1 _ eM
  rw [← aX.trans aM.symm] at cM
  exact ⟨oX.1, _, _, _, _, c_X11_looks l D qx gx cy z SX p1 _ eX, cM, ⟨_, w.1, (⟨⟨⟨hL, hc3, hT⟩, hl, h31, hmT⟩, mM, h6, h7, h8⟩)⟩, w.2.1, w.2.2⟩
theorem p_mean (l : Launch) (D : va_G) (qx gx qm gm : Nat → Nat) (cy : Nat → ClassId) (z : (Nat → Nat) × (Nat → Nat) × Nat) {SX SM : wd_W} (h : RW SX SM) (p1 : Int32) (p2 : Int32) (p3 : Int32) : ∃ (v : Int64) (SX' SM' : wd_W) (nc ns : Nat), MX layX l yX11_mean cX11_mean 5 (some .long) ({ frames := 6, cells := 40, slots := 500000, locals := 149 } : Room) D qx gx cy z [.ref (qx 0), .int p1, .int p2, .int p3] SX true (some (.long v)) SX' nc ns ∧ MX layM l yX12_mean cX12_mean 7 (some .long) ({ frames := 3, cells := 0, slots := 0, locals := 69 } : Room) D qm gm cy z [.ref (qm 0), .int p1, .int p2, .int p3] SM false (some (.long v)) SM' 0 0 ∧ RW SX' SM' ∧ nc ≤ 40 ∧ ns + 2 * lenS SX ≤ 2 * lenS SX' := by
  obtain ⟨st, hX, hM⟩ := h
  have hM0 := hM
  obtain ⟨⟨⟨hL, hc3, hT⟩, hl, h31, hmT⟩, hla, h6, h7, h8⟩ := hM
  obtain ⟨oX, eX, aX, xX⟩ := x_mean (p1 := p1) (p2 := p2) (p3 := p3) hX.1
  have w := xW_E hX xX
  obtain ⟨oM, eM, aM⟩ := m_mean (p1 := p1) (p2 := p2) (p3 := p3) hL hl
  have cM := c_X12_mean l D qm gm cy z SM p1 p2 p3 _ eM
  rw [← aX.trans aM.symm] at cM
  exact ⟨oX.1, _, _, _, _, c_X11_mean l D qx gx cy z SX p1 p2 p3 _ eX, cM, ⟨_, w.1, (⟨⟨⟨hL, hc3, hT⟩, hl, h31, hmT⟩, hla, h6, h7, h8⟩)⟩, w.2.1, w.2.2⟩
theorem p_differ (l : Launch) (D : va_G) (qx gx qm gm : Nat → Nat) (cy : Nat → ClassId) (z : (Nat → Nat) × (Nat → Nat) × Nat) {SX SM : wd_W} (h : RW SX SM) (p1 : Int32) (p2 : Int32) (p3 : Int32) : ∃ (v : Int64) (SX' SM' : wd_W) (nc ns : Nat), MX layX l yX11_differ cX11_differ 6 (some .long) ({ frames := 6, cells := 40, slots := 500000, locals := 147 } : Room) D qx gx cy z [.ref (qx 0), .int p1, .int p2, .int p3] SX true (some (.long v)) SX' nc ns ∧ MX layM l yX12_differ cX12_differ 8 (some .long) ({ frames := 5, cells := 0, slots := 0, locals := 115 } : Room) D qm gm cy z [.ref (qm 0), .int p1, .int p2, .int p3] SM false (some (.long v)) SM' 0 0 ∧ RW SX' SM' ∧ nc ≤ 40 ∧ ns + 2 * lenS SX ≤ 2 * lenS SX' := by
  obtain ⟨st, hX, hM⟩ := h
  have hM0 := hM
  obtain ⟨⟨⟨hL, hc3, hT⟩, hl, h31, hmT⟩, hla, h6, h7, h8⟩ := hM
  obtain ⟨oX, eX, aX, xX⟩ := x_differ (p1 := p1) (p2 := p2) (p3 := p3) hX.1
  have w := xW_E hX xX
  obtain ⟨oM, eM, aM, mM⟩ := m_differT (p1 := p1) (p2 := p2) (p3 := p3) hL hl hla
  have cM := c_X12_differ l D qm gm cy z SM p1 p2 p3 _ eM
  rw [← aX.trans aM.symm] at cM
  exact ⟨oX.1, _, _, _, _, c_X11_differ l D qx gx cy z SX p1 p2 p3 _ eX, cM, ⟨_, w.1, (⟨⟨⟨hL, hc3, hT⟩, hl, h31, hmT⟩, mM, h6, h7, h8⟩)⟩, w.2.1, w.2.2⟩
theorem p_image (l : Launch) (D : va_G) (qx gx qm gm : Nat → Nat) (cy : Nat → ClassId) (z : (Nat → Nat) × (Nat → Nat) × Nat) {SX SM : wd_W} (h : RW SX SM) (p1 : Int32) : ∃ (v : Int32) (SX' SM' : wd_W) (nc ns : Nat), MX layX l yX11_image cX11_image 2 (some .int) ({ frames := 3, cells := 0, slots := 0, locals := 102 } : Room) D qx gx cy z [.ref (qx 0), .int p1] SX false (some (.int v)) SX' nc ns ∧ MX layM l yX12_image cX12_image 3 (some .int) ({ frames := 1, cells := 0, slots := 0, locals := 25 } : Room) D qm gm cy z [.ref (qm 0), .int p1] SM false (some (.int v)) SM' 0 0 ∧ RW SX' SM' ∧ nc ≤ 40 ∧ ns + 2 * lenS SX ≤ 2 * lenS SX' := by
  obtain ⟨st, hX, hM⟩ := h
  have hM0 := hM
  obtain ⟨⟨⟨hL, hc3, hT⟩, hl, h31, hmT⟩, hla, h6, h7, h8⟩ := hM
  obtain ⟨oX, eX, aX, w⟩ := x_image (p1 := p1) hX
  obtain ⟨oM, eM, aM, mM⟩ := m_image (p1 := p1) hM0
  have cM := c_X12_image l D qm gm cy z SM p1 _ eM
  rw [← aX.trans aM.symm] at cM
  exact ⟨oX.1, _, _, _, _, c_X11_image l D qx gx cy z SX p1 _ eX, cM, ⟨_, w.1, mM⟩, w.2.1, w.2.2⟩
theorem p_restore (l : Launch) (D : va_G) (qx gx qm gm : Nat → Nat) (cy : Nat → ClassId) (z : (Nat → Nat) × (Nat → Nat) × Nat) {SX SM : wd_W} (h : RW SX SM) (p1 : Int32) : ∃ (v : Int32) (SX' SM' : wd_W) (nc ns : Nat), MX layX l yX11_restore cX11_restore 2 (some .int) ({ frames := 3, cells := 0, slots := 0, locals := 102 } : Room) D qx gx cy z [.ref (qx 0), .int p1] SX false (some (.int v)) SX' nc ns ∧ MX layM l yX12_restore cX12_restore 3 (some .int) ({ frames := 1, cells := 0, slots := 0, locals := 25 } : Room) D qm gm cy z [.ref (qm 0), .int p1] SM false (some (.int v)) SM' 0 0 ∧ RW SX' SM' ∧ nc ≤ 40 ∧ ns + 2 * lenS SX ≤ 2 * lenS SX' := by
  obtain ⟨st, hX, hM⟩ := h
  have hM0 := hM
  obtain ⟨⟨⟨hL, hc3, hT⟩, hl, h31, hmT⟩, hla, h6, h7, h8⟩ := hM
  obtain ⟨oX, eX, aX, w⟩ := x_restore (p1 := p1) hX
  obtain ⟨oM, eM, aM, mM⟩ := m_restore (p1 := p1) hM0
  have cM := c_X12_restore l D qm gm cy z SM p1 _ eM
  rw [← aX.trans aM.symm] at cM
  exact ⟨oX.1, _, _, _, _, c_X11_restore l D qx gx cy z SX p1 _ eX, cM, ⟨_, w.1, mM⟩, w.2.1, w.2.2⟩
theorem p_count (l : Launch) (D : va_G) (qx gx qm gm : Nat → Nat) (cy : Nat → ClassId) (z : (Nat → Nat) × (Nat → Nat) × Nat) {SX SM : wd_W} (h : RW SX SM) (p1 : Int32) : ∃ (v : Int32) (SX' SM' : wd_W) (nc ns : Nat), MX layX l yX11_count cX11_count 2 (some .int) ({ frames := 0, cells := 0, slots := 0, locals := 0 } : Room) D qx gx cy z [.ref (qx 0), .int p1] SX false (some (.int v)) SX' nc ns ∧ MX layM l yX12_count cX12_count 2 (some .int) ({ frames := 0, cells := 0, slots := 0, locals := 0 } : Room) D qm gm cy z [.ref (qm 0), .int p1] SM false (some (.int v)) SM' 0 0 ∧ RW SX' SM' ∧ nc ≤ 40 ∧ ns + 2 * lenS SX ≤ 2 * lenS SX' := by
  obtain ⟨st, hX, hM⟩ := h
  have hM0 := hM
  obtain ⟨⟨⟨hL, hc3, hT⟩, hl, h31, hmT⟩, hla, h6, h7, h8⟩ := hM
  have eX := x_count (p1 := p1) hX
  have w := xW_nil hX
  have eM := m_countT (p1 := p1) hM0
  have cM := c_X12_count l D qm gm cy z SM p1 _ eM
  exact ⟨_, _, _, _, _, c_X11_count l D qx gx cy z SX p1 _ eX, cM, ⟨_, w.1, (MW_nil hM0)⟩, w.2.1, w.2.2⟩
