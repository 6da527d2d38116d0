/-! the developers' days, two ways, through -/
theorem x_leads_q111 {S : wd_W} {L : Ld} {op a b : Nat} (hL : lOr L) (h : xR S 111 L) (ha : a < l_N L) (hb : b < l_N L) (hop : op < 2 ^ l_n L) :
    f_X7_leads_q111 S (nI a) (nI b) (nI op) = some (nI (b2n ((rchM (ouM L) (tM L) op (l_n L) (l_N L) a).testBit b))) ∧ ((rchM (ouM L) (tM L) op (l_n L) (l_N L) a).testBit b = true ↔ rch (l_E L op) a b) := by
  have hL0 := hL
  obtain ⟨⟨g1, g2, g3⟩, gk, w1, w2, w3, w4⟩ := hL
  simp only [xR, Nat.reduceMul, Nat.reduceAdd] at h
  obtain ⟨⟨h0, h1, h2, h3⟩, hk⟩ := h
  have hr := rchM_ok (g := ouM L) (t := tM L) hop (fun k hk' => (tM_lt hL0 (tb_in hop hk')).1) ha
  constructor
  · unfold f_X7_leads_q111
    rw [bd_s (x_reached_q111_q113 (S := wd_o S [] [] [] [] []) (g := ouM L) (t := tM L) h0 h3 g2 g3 ha hop (fun k hk' => ⟨(hk k hk').2.1, (tM_lt hL0 hk').2.1, (hk k hk').1, (tM_lt hL0 hk').1⟩))]
    have hb2 := lt_1024 hr.1 g2
    generalize rchM (ouM L) (tM L) op (l_n L) (l_N L) a = m at hb2
    simp (disch := omega) only [li_1, li_0, oI_tb, oI_b0]
    cases m.testBit b <;> rfl
  · rw [hr.2, rch_out]
theorem x_goAlong_q111 {S : wd_W} {L : Ld} {k : Nat} {far : Nat → Nat} {g : Nat → Int32} (hL : lOr L) (h17 : S.2.2.1 17 k = nI (l_A L k)) (h18 : S.2.2.1 18 k = nI (l_B L k)) (h20 : S.2.2.1 20 k = nI (1 - l_O L k)) (h21 : S.2.2.1 21 k = nI (l_D L k)) (h115 : S.2.2.1 115 = awN far g 10) (hf : ∀ v, far v ≤ 1000) (hk : k < l_n L) {op : Nat} (ho : op.testBit k = true) :
    f_X7_goAlong_q111 S (nI k) = some (nI (dS2 (l_A L) (l_B L) (l_O L) (l_D L) op k (0, far)).1, awN (dS2 (l_A L) (l_B L) (l_O L) (l_D L) op k (0, far)).2 g 10) := by
  obtain ⟨⟨g1, g2, g3⟩, gk, w1, w2, w3, w4⟩ := hL
  obtain ⟨a1, a2, a3, a4, a5, a6⟩ := gk k hk
  have fA := hf (l_A L k)
  have fB := hf (l_B L k)
  unfold f_X7_goAlong_q111 dS2
  rw [if_pos ho]
  have hO : S.2.2.1 20 k = 0 ↔ l_O L k ≠ 0 := by
    rw [h20, oI_z (by omega)]; omega
  simp (disch := omega) only [lz, gd_in, nI_clamp, h17, h18, h21, h115, awN_at, awN_upd, nI_add, nI_leI, hO]
  by_cases c1 : far (l_A L k) + l_D L k < far (l_B L k)
  · have c1' : ¬ far (l_B L k) ≤ far (l_A L k) + l_D L k := by omega
    rw [if_neg c1', if_pos c1]; rfl
  · have c1' : far (l_B L k) ≤ far (l_A L k) + l_D L k := by omega
    rw [if_pos c1', if_neg c1]
    by_cases c2 : l_O L k = 0
    · rw [if_neg (fun z => z c2), if_neg (fun z => z.1 c2)]; rfl
    · rw [if_pos c2]
      by_cases c3 : far (l_B L k) + l_D L k < far (l_A L k)
      · rw [if_neg (by omega), if_pos ⟨c2, c3⟩]; rfl
      · rw [if_pos (by omega), if_neg (fun z => c3 z.2)]; rfl
theorem x_fill_q115 {S : wd_W} {v : Nat} : f_J7_fill_53178_q115 S (nI v) = some (awN (fun _ => v) (S.2.2.1 115) 10) := by
  unfold f_J7_fill_53178_q115
  refine Eq.trans ?_ (eq_for0 (W := fun n i => it2 (f_J7_fill_53178_q115_L5 (nI v)) n (nI i) (awN (fun _ => v) (S.2.2.1 115) i)) (e := 10) (by omega) ?_ ?_)
  · show it2 _ fuel (nI 0) _ = it2 _ fuel (nI 0) (fil _ _ 0)
    rw [fil_0]
  · intro n
    show f_J7_fill_53178_q115_L5 (nI v) _ (nI 10) _ = _
    unfold f_J7_fill_53178_q115_L5
    rw [if_pos (by decide)]
  · intro n i hi
    show f_J7_fill_53178_q115_L5 (nI v) (it2 _ n) (nI i) _ = _
    unfold f_J7_fill_53178_q115_L5
    rw [li_10, if_neg (nI_ge hi (by omega))]
    unfold awN
    rw [← fil_upd]
    simp (disch := omega) only [lz, nI_1, gd_in, nI_clamp]
theorem x_days_q111 {S : wd_W} {L : Ld} {op a b : Nat} (hL : lOr L) (hl : xL S 16 L) (h : xR S 111 L) (ha : a < l_N L) (hb : b < l_N L) (hop : op < 2 ^ l_n L) :
    f_X7_daysBetween_q111 S (nI a) (nI b) (nI op) = some (nI (repF (dP (l_A L) (l_B L) (l_O L) (l_D L) op (l_n L)) (far0 a) (l_N L - 1) b), awN (repF (dP (l_A L) (l_B L) (l_O L) (l_D L) op (l_n L)) (far0 a) (l_N L - 1)) (S.2.2.1 115) 10) := by
  have hL0 := hL
  have hdG := l_dG hL hop
  obtain ⟨⟨g1, g2, g3⟩, gk, w1, w2, w3, w4⟩ := hL
  simp only [xL, Nat.reduceMul, Nat.reduceAdd] at hl
  obtain ⟨_, hlk, _, _⟩ := hl
  simp only [xR, Nat.reduceMul, Nat.reduceAdd] at h
  obtain ⟨⟨h0, h1, h2, h3⟩, hk⟩ := h
  have hop2 := lt31_10 hop (by omega)
  unfold f_X7_daysBetween_q111
  rw [li_1000, bd_s x_fill_q115, gd_in (by omega) (by omega)]
  refine Eq.trans (b := it2 (f_X7_daysBetween_q111_L20 S (nI op) (fun a4 => gd (okx (nI b) 10) <| some (a4 (nI b).toNatClampNeg, a4)) (fun a7 => gd (okx (nI b) 10) <| some (a7 (nI b).toNatClampNeg, a7))) fuel (nI 1) (awN (far0 a) (S.2.2.1 115) 10)) ?_ ?_
  · have e : upd (awN (fun _ => 1000) (S.2.2.1 115) 10) (nI a).toNatClampNeg (0 : Int32) = awN (far0 a) (S.2.2.1 115) 10 := by
      rw [nI_clamp (by omega), li_0, awN_upd (by omega)]
      rfl
    show it2 _ fuel (nI 1) (upd (awN (fun _ => 1000) (S.2.2.1 115) 10) (nI a).toNatClampNeg (0 : Int32)) = _
    rw [e]
  generalize S.2.2.1 115 = g
  have hle : ∀ n v, repF (dP (l_A L) (l_B L) (l_O L) (l_D L) op (l_n L)) (far0 a) n v ≤ 1000 := by
    intro n v
    have := repF_le (A := l_A L) (B := l_B L) (bo := l_O L) (dy := l_D L) (op := op) (K := l_n L) (far0 a) v 0 n
    rw [Nat.zero_add] at this
    exact Nat.le_trans this (far0_le a v)
  have hK : ∀ far : Nat → Nat, (∀ v, far v ≤ 1000) → ∀ i v, (itf (dS2 (l_A L) (l_B L) (l_O L) (l_D L) op) (0, far) i).2 v ≤ 1000 := by
    intro far hf i v
    rw [dP2_2]
    exact Nat.le_trans (itf_dS_le (n := 0) far v i (Nat.zero_le _)) (hf v)
  have hfl1 : ∀ (far : Nat → Nat) i, (itf (dS2 (l_A L) (l_B L) (l_O L) (l_D L) op) (0, far) i).1 ≤ 1 := by
    intro far i
    rcases dP2_flag (bo := l_O L) hdG far i with ⟨q, _⟩ | ⟨q, _⟩ <;> omega
  have hpass : ∀ (k : Int32 → (Nat → Int32) → Option o_X7_daysBetween_q111) (far : Nat → Nat), (∀ v, far v ≤ 1000) → it3 (f_X7_daysBetween_q111_L35 S (nI op) k) fuel (nI 0) (nI 0) (awN far g 10) = k (nI (itf (dS2 (l_A L) (l_B L) (l_O L) (l_D L) op) (0, far) (l_n L)).1) (awN (dP (l_A L) (l_B L) (l_O L) (l_D L) op (l_n L) far) g 10) := by
    intro k far hf
    refine Eq.trans ?_ (eq_for0 (W := fun n i => it3 (f_X7_daysBetween_q111_L35 S (nI op) k) n (nI (itf (dS2 (l_A L) (l_B L) (l_O L) (l_D L) op) (0, far) i).1) (nI i) (awN (itf (dS2 (l_A L) (l_B L) (l_O L) (l_D L) op) (0, far) i).2 g 10)) (e := l_n L) (by omega) ?_ ?_)
    · rfl
    · intro n
      show f_X7_daysBetween_q111_L35 S (nI op) k _ _ (nI (l_n L)) _ = _
      unfold f_X7_daysBetween_q111_L35
      rw [h0, if_pos (nI_le (Nat.le_refl _) (by omega))]
      rw [show (itf (dS2 (l_A L) (l_B L) (l_O L) (l_D L) op) (0, far) (l_n L)).2 = dP (l_A L) (l_B L) (l_O L) (l_D L) op (l_n L) far from dP2_2 _ _ _ _ _ _ _]
    · intro n i hi
      have hfi := hK far hf i
      have hfl := hfl1 far i
      show f_X7_daysBetween_q111_L35 S (nI op) k (it3 _ n) (nI (itf (dS2 (l_A L) (l_B L) (l_O L) (l_D L) op) (0, far) i).1) (nI i) _ = it3 _ n (nI (dS2 (l_A L) (l_B L) (l_O L) (l_D L) op i (itf (dS2 (l_A L) (l_B L) (l_O L) (l_D L) op) (0, far) i)).1) (nI (i + 1)) (awN (dS2 (l_A L) (l_B L) (l_O L) (l_D L) op i (itf (dS2 (l_A L) (l_B L) (l_O L) (l_D L) op) (0, far) i)).2 g 10)
      generalize it3 (f_X7_daysBetween_q111_L35 S (nI op) k) n = r
      generalize itf (dS2 (l_A L) (l_B L) (l_O L) (l_D L) op) (0, far) i = s at hfi hfl
      obtain ⟨fl, f⟩ := s
      dsimp only at hfi hfl ⊢
      obtain ⟨k1, k2, k3, k4, k5⟩ := hlk i hi
      unfold f_X7_daysBetween_q111_L35
      rw [h0, if_neg (nI_ge hi (by omega))]
      refine Eq.trans (b := if op.testBit i = false then r (nI fl) (nI (i + 1)) (awN f g 10) else _) (by simp (disch := omega) only [lk, nI_1, oI_bit0]; rfl) ?_
      by_cases c : op.testBit i = true
      · rw [if_neg (by rw [c]; decide), bd_s (x_goAlong_q111 (S := wd_o S [] [] [(115, awN f g 10)] [] []) (far := f) (g := g) hL0 k1 k2 k4 k5 rfl hfi hi c)]
        simp only [lz]
        rw [oI_or]
        unfold dS2
        rw [if_pos c, if_pos c]
        dsimp only
        by_cases c1 : f (l_A L i) + l_D L i < f (l_B L i)
        · rw [if_pos c1, if_pos c1]
          have : fl ||| 1 = 1 := by rcases (show fl = 0 ∨ fl = 1 by omega) with e | e <;> subst e <;> rfl
          dsimp only
          rw [this]
        · rw [if_neg c1, if_neg c1]
          by_cases c2 : l_O L i ≠ 0 ∧ f (l_B L i) + l_D L i < f (l_A L i)
          · rw [if_pos c2, if_pos c2]
            have : fl ||| 1 = 1 := by rcases (show fl = 0 ∨ fl = 1 by omega) with e | e <;> subst e <;> rfl
            dsimp only
            rw [this]
          · rw [if_neg c2, if_neg c2]
            dsimp only
            rw [or_0]
      · have c' : op.testBit i = false := by simpa using c
        rw [if_pos c']
        unfold dS2
        rw [if_neg c]
  have hfin : ∀ f : Nat → Nat, (gd (okx (nI b) 10) <| some ((awN f g 10) (nI b).toNatClampNeg, awN f g 10)) = some (nI (f b), awN f g 10) := by
    intro f
    rw [gd_in (by omega) (by omega), nI_clamp (by omega), awN_at (by omega)]
  apply ok_e
  refine ok_up (W := fun n i (f : Nat → Nat) => it2 (f_X7_daysBetween_q111_L20 S (nI op) (fun a4 => gd (okx (nI b) 10) <| some (a4 (nI b).toNatClampNeg, a4)) (fun a7 => gd (okx (nI b) 10) <| some (a7 (nI b).toNatClampNeg, a7))) n (nI i) (awN f g 10)) (I := fun i f => 1 ≤ i ∧ f = repF (dP (l_A L) (l_B L) (l_O L) (l_D L) op (l_n L)) (far0 a) (i - 1)) (e := l_N L) ?_ ?_ fuel 1 (far0 a) (by omega) ⟨Nat.le_refl _, rfl⟩ (by unfold fuel; omega)
  · rintro n f ⟨hi1, hI⟩
    show Ok (f_X7_daysBetween_q111_L20 S (nI op) _ _ _ (nI (l_N L)) _) _
    unfold f_X7_daysBetween_q111_L20
    rw [h3, if_pos (nI_le (Nat.le_refl _) (by omega))]
    refine ok_of (hfin f) ?_
    rw [hI]
  · rintro n i f hi ⟨hi1, hI⟩ ih
    show Ok (f_X7_daysBetween_q111_L20 S (nI op) _ _ (it2 _ n) (nI i) _) _
    generalize it2 (f_X7_daysBetween_q111_L20 S (nI op) (fun a4 => gd (okx (nI b) 10) <| some (a4 (nI b).toNatClampNeg, a4)) (fun a7 => gd (okx (nI b) 10) <| some (a7 (nI b).toNatClampNeg, a7))) n = r at ih
    unfold f_X7_daysBetween_q111_L20
    rw [h3, if_neg (nI_ge hi (by omega))]
    refine ok_lk ?_
    rw [li_0, hpass _ f (fun v => by rw [hI]; exact hle _ v)]
    have hfl := hfl1 f (l_n L)
    have hfl2 := dP2_flag (bo := l_O L) hdG f (l_n L)
    rw [← li_0]
    simp (disch := omega) only [oI_z, nI_1]
    refine ok_ite (fun e => ?_) (fun e => ?_)
    · have hfx : dP (l_A L) (l_B L) (l_O L) (l_D L) op (l_n L) f = f := by
        rcases hfl2 with ⟨_, q⟩ | ⟨q, _⟩
        · exact q
        · omega
      rw [hfx]
      refine ok_of (hfin f) ?_
      obtain ⟨d, hd⟩ : ∃ d, l_N L - 1 = i - 1 + d := ⟨l_N L - i, by omega⟩
      rw [hd, repF_add, ← hI, repF_fix hfx]
    · refine ih _ ⟨by omega, ?_⟩
      rw [hI, show i + 1 - 1 = (i - 1) + 1 by omega]; rfl
