/-! the reference: two ways, and whether it is through -/
theorem m_fill18 {S : wd_W} {N : Nat} (h20 : S.1 20 = nI N) (hN : N ≤ 10) (k : (Nat → Int32) → Option o_X12_oneMore) :
    it2 (f_X12_oneMore_L2 S k) fuel 0 (S.2.2.1 18) = k (fil (fun _ => -1) (S.2.2.1 18) N) := by
  refine Eq.trans ?_ (eq_for0 (W := fun n i => it2 (f_X12_oneMore_L2 S k) n (nI i) (fil (fun _ => -1) (S.2.2.1 18) i)) (e := N) (x := k (fil (fun _ => -1) (S.2.2.1 18) N)) (by omega) ?_ ?_)
  · show _ = it2 (f_X12_oneMore_L2 S k) fuel 0 (fil (fun _ => -1) (S.2.2.1 18) 0)
    rw [fil_0]
  · intro n
    show f_X12_oneMore_L2 S k _ (nI N) _ = _
    unfold f_X12_oneMore_L2
    rw [h20, if_pos (nI_le (Nat.le_refl _) (by omega))]
  · intro n i hi
    show f_X12_oneMore_L2 S k (it2 _ n) (nI i) _ = _
    unfold f_X12_oneMore_L2
    rw [h20, if_neg (nI_ge hi (by omega)), ← fil_upd]
    simp (disch := omega) only [lz, nI_1, gd_in, nI_clamp]
theorem m_oneMore {S : wd_W} {N nl op a b : Nat} {A B bo dy us : Nat → Nat} (hG : mG S N nl op A B bo dy) (hU : mU S nl us) (ha : a < N) (hb : b < N) :
    Ok (f_X12_oneMore S (nI a) (nI b)) (fun o => (o.1 = nI 0 ∧ ¬ rch (rE A B bo op us) a b) ∨ (o.1 = nI 1 ∧ rch (rE A B bo op us) a b ∧ ∃ us' : Nat → Nat, (∀ k, k < nl + 1 → o.2.2 k = nI (us' k) ∧ us' k ≤ 2) ∧ ((∀ k, k < nl + 1 → us k = 0) → flow A B bo op (nl + 1) us' a b))) := by
  have hG0 := hG
  obtain ⟨h20, h21, h39, hN, hnl, hop, hk⟩ := hG
  have hop2 := op_lt hop hnl
  have hAB : ∀ k, op.testBit k = true → A k < N ∧ B k < N := fun k h => ⟨(hk k h).2.2.2.2.1, (hk k h).2.2.2.2.2.1⟩
  unfold f_X12_oneMore
  refine ok_lk ?_
  rw [m_fill18 h20 hN]
  refine ok_lz ?_
  rw [oI_pow (by omega)]
  refine ok_lk ?_
  rw [li_0]
  refine ok_while (W := fun n (s : Nat × Nat × (Nat → Int32)) => it3 (f_X12_oneMore_L30 S _) n (nI s.1) (nI s.2.1) s.2.2)
    (I := fun s => s.1 < 2 ^ N ∧ s.2.1 < 2 ^ N ∧ s.1.testBit a = true ∧ (∃ rk pv, oT A B bo us op a (s.1, s.2.2) rk pv ∧ ∀ v, rk v ≤ cnt s.1 N) ∧ (s.1 = s.2.1 → itf (oM A B bo us op) s.1 (nl + 1) = s.1))
    (μ := fun s => 2 * (32768 - s.1) + (if s.1 = s.2.1 then 0 else 1)) (s := (2 ^ a, 0, fil (fun _ => -1) (S.2.2.1 18) N)) ?_ ?_ ?_
  · refine ⟨Nat.pow_lt_pow_right (by decide) ha, Nat.two_pow_pos N, by rw [Nat.testBit_two_pow]; simp, ⟨fun _ => 0, fun _ => 0, ?_, fun _ => Nat.zero_le _⟩, ?_⟩
    · intro v hv hva
      dsimp only at hv
      rw [Nat.testBit_two_pow, decide_eq_true_eq] at hv
      exact absurd hv.symm hva
    · intro h
      dsimp only at h
      have := Nat.two_pow_pos a
      omega
  · dsimp only
    generalize 2 ^ a = z
    split <;> omega
  · intro n s hI ih
    obtain ⟨m, bf, ar⟩ := s
    obtain ⟨i1, i2, i3, i4, i5⟩ := hI
    dsimp only at i1 i2 i3 i4 i5 ih
    have hm2 := lt31_10 i1 (by omega)
    have hb2 := lt31_10 i2 (by omega)
    show Ok (f_X12_oneMore_L30 S _ (it3 _ n) (nI m) (nI bf) ar) _
    generalize it3 (f_X12_oneMore_L30 S _) n = r at ih
    unfold f_X12_oneMore_L30
    simp (disch := omega) only [nI_eq]
    refine ok_ite (fun hmb => ?_) (fun hmb => ?_)
    · obtain ⟨rk, pv, hT, hrk⟩ := i4
      have hcl := oM_closed hop (i5 hmb)
      have hiff : ∀ p, m.testBit p = true ↔ rch (rE A B bo op us) a p := led_of i3 hcl (fun p hp => oT_rch hT _ p (Nat.le_refl _) hp)
      simp (disch := omega) only [li_1, oI_tb, oI_b0]
      refine ok_if0 (fun h => ok_some (Or.inl ⟨rfl, fun q => ?_⟩)) (fun h => ?_)
      · rw [(hiff b).mpr q] at h; cases h
      · have e : S.2.2.1 19 = awN us (S.2.2.1 19) (nl + 1) := awN_of (fun k hk' => (hU k hk').1)
        rw [e]
        refine ok_mono (m_trace hG0 i1 ha h (fun k hk' => (hU k hk').2) hT (fun v => by have := hrk v; have := cnt_le m N; omega)) ?_
        intro o ho
        exact Or.inr ⟨ho.1, (hiff b).mp h, ho.2⟩
    · refine ok_lk ?_
      have hlt : ∀ i, (itf (oS A B bo us op) (m, ar) i).1 < 2 ^ N := fun i => by
        rw [oS_1]
        exact itf_ind (P := fun _ x => x < 2 ^ N) i1 (fun _ _ _ h => oM_lt hAB h)
      have hpass := eq_for0 (W := fun n i => it3 (f_X12_oneMore_L42 S (fun x36 a37 => r x36 (nI m) a37)) n (nI (itf (oS A B bo us op) (m, ar) i).1) (nI i) (itf (oS A B bo us op) (m, ar) i).2) (e := nl + 1) (x := r (nI (itf (oS A B bo us op) (m, ar) (nl + 1)).1) (nI m) (itf (oS A B bo us op) (m, ar) (nl + 1)).2) (by omega) (fun n => by
          show f_X12_oneMore_L42 S _ _ _ (nI (nl + 1)) _ = _
          unfold f_X12_oneMore_L42
          rw [h21, if_pos (nI_lt (by omega) (by omega))]) (fun n i hi => m_oS hG0 hU (hlt i) hi _ _)
      have hpass : it3 (f_X12_oneMore_L42 S (fun x36 a37 => r x36 (nI m) a37)) fuel (nI m) (nI 0) ar = r (nI (itf (oS A B bo us op) (m, ar) (nl + 1)).1) (nI m) (itf (oS A B bo us op) (m, ar) (nl + 1)).2 := hpass
      rw [li_0, hpass]
      have e1 := oS_1 A B bo us op (m, ar) (nl + 1)
      dsimp only at e1
      have hge := itf_le (oM_infl A B bo us op) m (nl + 1)
      have hlt' := lt31_10 (hlt (nl + 1)) (by omega)
      refine ih ((itf (oS A B bo us op) (m, ar) (nl + 1)).1, m, (itf (oS A B bo us op) (m, ar) (nl + 1)).2) ⟨hlt _, i1, ?_, ?_, ?_⟩ ?_
      · dsimp only
        rw [e1]
        exact itf_infl (oM_infl A B bo us op) (n := 0) (nl + 1) (Nat.zero_le _) a i3
      · exact itf_ind (P := fun j s => s.1 < 2 ^ N ∧ ∃ rk pv, oT A B bo us op a s rk pv ∧ ∀ v, rk v ≤ cnt s.1 N) ⟨i1, i4⟩ (fun i s _ h => ⟨oM_lt hAB h.1, oS_tree hAB h.1 h.2 i⟩) |>.2
      · intro he
        dsimp only at he ⊢
        rw [e1] at he ⊢
        rw [he, he]
      · dsimp only
        rw [e1] at hlt' ⊢
        rw [if_neg hmb]
        by_cases he : itf (oM A B bo us op) m (nl + 1) = m
        · rw [he, if_pos rfl]; omega
        · rw [if_neg he]; omega
theorem m_used0 {S : wd_W} {nl : Nat} (h21 : S.1 21 = nI nl) (hnl : nl ≤ 12) (k : (Nat → Int32) → Option o_X12_areTwo) :
    it2 (f_X12_areTwo_L2 S k) fuel 0 (S.2.2.1 19) = k (fil (fun _ => 0) (S.2.2.1 19) (nl + 1)) := by
  refine Eq.trans ?_ (eq_for0 (W := fun n i => it2 (f_X12_areTwo_L2 S k) n (nI i) (fil (fun _ => 0) (S.2.2.1 19) i)) (e := nl + 1) (x := k (fil (fun _ => 0) (S.2.2.1 19) (nl + 1))) (by omega) ?_ ?_)
  · show _ = it2 (f_X12_areTwo_L2 S k) fuel 0 (fil (fun _ => 0) (S.2.2.1 19) 0)
    rw [fil_0]
  · intro n
    show f_X12_areTwo_L2 S k _ (nI (nl + 1)) _ = _
    unfold f_X12_areTwo_L2
    rw [h21, if_pos (nI_lt (by omega) (by omega))]
  · intro n i hi
    show f_X12_areTwo_L2 S k (it2 _ n) (nI i) _ = _
    unfold f_X12_areTwo_L2
    rw [h21, if_neg (nI_nlt (by omega) (by omega)), ← fil_upd]
    simp (disch := omega) only [lz, nI_1, gd_in, nI_clamp]
theorem m_areTwo {S : wd_W} {N nl op st a b : Nat} {A B bo dy : Nat → Nat} (hG : mG S N nl op A B bo dy) (h38 : S.1 38 = nI st) (hst : st < 2 ^ N) (ha : a < N) (hb : b < N) :
    Ok (f_X12_areTwo S (nI a) (nI b)) (fun o => ∃ x : Bool, o.1 = nI (b2n x) ∧ (x = true ↔ st.testBit a = true ∧ st.testBit b = true ∧ rch (gE A B bo op) a b ∧ noCut A B bo op a b)) := by
  have hG0 := hG
  obtain ⟨h20, h21, h39, hN, hnl, hop, hk⟩ := hG
  have hst2 := lt31_10 hst (by omega)
  unfold f_X12_areTwo
  refine ok_lk ?_
  rw [m_used0 h21 hnl, h38]
  simp (disch := omega) only [oI_bit1]
  refine ok_if (fun hsa => ?_) (fun hsa => ok_some ⟨false, rfl, by simp [hsa]⟩)
  refine ok_if (fun hsb => ?_) (fun hsb => ok_some ⟨false, rfl, by simp [hsb]⟩)
  have hz : ∀ u v, rE A B bo op (fun _ => 0) u v ↔ gE A B bo op u v := fun u v => rE_0
  have hrz : rch (rE A B bo op (fun _ => 0)) a b ↔ rch (gE A B bo op) a b := ⟨fun h => rch_mono (fun u v e => (hz u v).mp e) h, fun h => rch_mono (fun u v e => (hz u v).mpr e) h⟩
  have e0 : ∀ k, k < nl + 1 → fil (fun _ => (0 : Int32)) (S.2.2.1 19) (nl + 1) k = nI 0 := fun k hk' => fil_in hk'
  refine ok_bd (m_oneMore (S := wd_o S [] [] [(18, (S.2.2.1 18)), (19, fil (fun _ => 0) (S.2.2.1 19) (nl + 1))] [] []) (us := fun _ => 0) hG0 (fun k hk' => ⟨e0 k hk', Nat.zero_le _⟩) ha hb) ?_
  intro o3 h3
  rcases h3 with ⟨e1, e2⟩ | ⟨e1, e2, us', e3, e4⟩
  · rw [e1, if_pos (by rfl)]
    refine ok_some ⟨false, rfl, ?_⟩
    constructor
    · intro h; cases h
    · rintro ⟨_, _, q, _⟩; exact absurd (hrz.mpr q) e2
  · rw [e1, if_neg (by decide)]
    have hfl := e4 (fun _ _ => rfl)
    refine ok_bd (m_oneMore (S := wd_o S [] [] [(18, o3.2.1), (19, o3.2.2)] [] []) (us := us') hG0 e3 ha hb) ?_
    intro o4 h4
    rcases h4 with ⟨d1, d2⟩ | ⟨d1, d2, _⟩
    · rw [d1, if_pos (by rfl)]
      refine ok_some ⟨false, rfl, ?_⟩
      constructor
      · intro h; cases h
      · rintro ⟨_, _, _, q⟩; exact absurd q (two_needed hfl hop d2)
    · rw [d1, if_neg (by decide)]
      exact ok_some ⟨true, rfl, by simp only [true_iff]; exact ⟨hsa, hsb, hrz.mp e2, two_enough hfl hop d2⟩⟩
theorem m_isThrough {S : wd_W} {L : Ld} {s : Nat} {mo : Bool} (hL : lOk L) (h : mL S L) (hn : mNew S L mo) (hs : s < 32768) :
    Ok (f_X12_isThrough S (nI s) (nI (b2n mo))) (fun o => ∃ x : Bool, o.1 = nI (b2n x) ∧ (x = true ↔ thr L s mo)) := by
  have h0 := h
  obtain ⟨⟨h20, h21, h30, h31, h32, h34, h35, h36, h37⟩, hk, hp, ht⟩ := h
  have hL0 := hL
  obtain ⟨⟨g1, g2, g3, g4, g5, g6⟩, gk, gj, gu, gc, gw1, gw2, gw3, gw4, gw5, gw6⟩ := hL
  unfold f_X12_isThrough
  rw [bd_s (m_opens (S := wd_o S [(38, (S.1 38)), (39, (S.1 39))] [] [(17, (S.2.2.1 17)), (18, (S.2.2.1 18)), (19, (S.2.2.1 19))] [] []) hL0 h0 hn hs)]
  have hst := stM_lt L s
  have hop := opM_lt L s mo
  have hst2 := lt31_10 hst (by omega)
  have hG : mG (wd_o S [(38, nI (stM L s)), (39, nI (opM L s mo))] [] [(17, (S.2.2.1 17)), (18, (S.2.2.1 18)), (19, (S.2.2.1 19))] [] []) (l_N L) (l_n L) (opM L s mo) (l_A L) (l_B L) (l_O L) (l_D L) := by
    refine ⟨h20, h21, rfl, g2, g3, hop, fun k hk' => ?_⟩
    rcases (opM_bit L s mo k).mp hk' with ⟨q1, q2⟩ | ⟨q1, q2, q3, q4⟩
    · obtain ⟨a1, a2, a3, a4, a5, a6, a7⟩ := gk k q1
      obtain ⟨b1, b2, b3, b4, b5, b6⟩ := hk k q1
      exact ⟨b1, b2, b4, b5, a1, a2, a3, a5, a6, a7⟩
    · obtain ⟨n1, n2, n3, n4, n5, n6, n7, n8, n9, n10, n11⟩ := hn q2
      rw [q1]
      exact ⟨n2, n3, n4, n5, n6, n7, n8, n9, n10, n11⟩
  -- an end that is led to stands
  have hends : ∀ u v, l_E L (opM L s mo) u v → stB L s u = true ∧ stB L s v = true := by
    intro u v ⟨k, hk', q⟩
    have : stB L s (l_A L k) = true ∧ stB L s (l_B L k) = true := by
      rcases (opM_bit L s mo k).mp hk' with ⟨q1, q2⟩ | ⟨q1, q2, q3, q4⟩
      · unfold opB at q2
        simp only [Bool.and_eq_true] at q2
        exact q2.2
      · exact ⟨q3, q4⟩
    rcases q with ⟨q1, q2⟩ | ⟨_, q1, q2⟩
    · subst q1; subst q2; exact this
    · subst q1; subst q2; exact ⟨this.2, this.1⟩
  have hled : ∀ a p, p ≠ a → rch (l_E L (opM L s mo)) a p → stB L s p = true := by
    intro a p hne hr
    obtain ⟨u, e⟩ := rch_last hr hne
    exact (hends u p e).2
  have hsb : ∀ p, p < l_N L → ((stM L s).testBit p = true ↔ stB L s p = true) := fun p hp' => by rw [stM_bit]; simp [hp']
  rw [h34]
  simp (disch := omega) only [li_0, li_1, li_2, li_3, nI_eq]
  refine ok_ite (fun w0 => ?_) (fun w0 => ?_)
  · refine ok_bd (P := fun o => ∃ x : Bool, o = nI (b2n x) ∧ (x = true ↔ (stM L s).testBit (l_a L) = true ∧ rch (l_E L (opM L s mo)) (l_a L) (l_b L))) (by rw [h36, h37]; exact m_leads hG rfl hst gw3 gw4) ?_
    rintro _ ⟨x, rfl, hx⟩
    refine ok_gd (by cases x <;> rfl) (ok_some ⟨x, rfl, ?_⟩)
    rw [hx, hsb _ gw3]
    unfold thr ned car
    constructor
    · rintro ⟨q1, q2⟩
      refine ⟨⟨fun z => by omega, fun z => by omega, fun _ _ => ⟨q1, hled _ _ (Ne.symm (gw5 (Or.inl w0))) q2⟩⟩, Or.inl ⟨w0, q2⟩⟩
    · rintro ⟨q1, q2⟩
      refine ⟨(q1.2.2 (by omega) (by omega)).1, ?_⟩
      rcases q2 with q2 | q2 | q2 | q2 | q2 <;> first | exact q2.2 | omega
  refine ok_ite (fun w1 => ?_) (fun w1 => ?_)
  · refine ok_for0 (W := fun n i (_ : Unit) => it1 (f_X12_isThrough_L55 S (nI (stM L s), nI (opM L s mo))) n (nI i)) (I := fun i _ => ∀ p, p < i → stB L s p = true ∧ ∀ q, q < l_N L → rch (l_E L (opM L s mo)) p q) (e := l_N L) (s := ()) (by omega) (fun p hp' => by omega) ?_ ?_
    · intro n _ hI
      show Ok (f_X12_isThrough_L55 S _ _ (nI (l_N L))) _
      unfold f_X12_isThrough_L55
      rw [h20, if_pos (nI_le (Nat.le_refl _) (by omega))]
      refine ok_some ⟨true, rfl, ?_⟩
      simp only [true_iff]
      refine ⟨⟨fun _ p hp' => (hI p hp').1, fun z => by omega, fun z => by omega⟩, Or.inr (Or.inl ⟨w1, fun p hp' => ⟨(hI 0 (by omega)).2 p hp', (hI p hp').2 0 (by omega)⟩⟩)⟩
    · intro n i _ hi hI ih
      show Ok (f_X12_isThrough_L55 S _ (it1 _ n) (nI i)) _
      generalize it1 (f_X12_isThrough_L55 S (nI (stM L s), nI (opM L s mo))) n = r at ih
      unfold f_X12_isThrough_L55
      rw [h20, if_neg (nI_ge hi (by omega))]
      refine ok_bd (m_ledTo hG rfl hst hi) ?_
      rintro _ ⟨m, rfl, hm, hmp⟩
      have hm2 := lt31_10 hm (by omega)
      have h2N := Nat.two_pow_pos (l_N L)
      have h2N2 : 2 ^ l_N L ≤ 2 ^ 10 := pow_le_k g2
      simp (disch := omega) only [oI_p2, li_1, oI_sub1, nI_eq, nI_add]
      refine ok_ite (fun hall => ?_) (fun hall => ?_)
      · have hall := (eq_all hm).mp hall
        refine ih () (fun p hp' => ?_)
        by_cases e : p = i
        · subst e
          refine ⟨(hsb _ hi).mp ((hmp p).mp (hall p hi)).1, fun q hq => ((hmp q).mp (hall q hq)).2⟩
        · exact hI p (by omega)
      · refine ok_some ⟨false, rfl, ?_⟩
        constructor
        · intro z; cases z
        · rintro ⟨q1, q2⟩
          exfalso
          apply hall
          rw [eq_all hm]
          intro q hq
          rw [hmp]
          refine ⟨(hsb _ hi).mpr (q1.1 w1 i hi), ?_⟩
          rcases q2 with q2 | q2 | q2 | q2 | q2
          · omega
          · exact rch_trans (q2.2 i hi).2 (q2.2 q hq).1
          · omega
          · omega
          · omega
  refine ok_ite (fun w2 => ?_) (fun w2 => ?_)
  · refine ok_bd (P := fun o => ∃ m, o = nI m ∧ m < 2 ^ l_N L ∧ ∀ p, m.testBit p = true ↔ (stM L s).testBit (l_a L) = true ∧ rch (l_E L (opM L s mo)) (l_a L) p) (by rw [h36]; exact m_ledTo hG rfl hst gw3) ?_
    rintro _ ⟨m, rfl, hm, hmp⟩
    have hm4 : m < 4096 := Nat.lt_of_lt_of_le hm (pow_le_k (n := 12) (by omega))
    have hc := cnt_le m 12
    rw [bd_s (m_bits hm4), h35]
    simp (disch := omega) only [nI_ltI]
    have hcnt := cnt_ext hm 12 (by omega)
    have key : (stB L s (l_a L) = true ∧ l_m L ≤ cnt m (l_N L)) → thr L s mo := by
      rintro ⟨q1, q2⟩
      refine ⟨⟨fun z => by omega, fun _ => q1, fun _ z => by omega⟩, Or.inr (Or.inr (Or.inl ⟨w2, m, hm, fun p => ?_, q2⟩))⟩
      rw [hmp p, hsb _ gw3]; simp [q1]
    have key2 : thr L s mo → l_m L ≤ cnt m (l_N L) := by
      rintro ⟨q1, q2⟩
      rcases q2 with q2 | q2 | q2 | q2 | q2
      · omega
      · omega
      · obtain ⟨_, m', hm', hp', hc'⟩ := q2
        have : m = m' := by
          apply msk_ext hm hm'
          intro i _
          have e1 := hmp i
          have e2 := hp' i
          rw [hsb _ gw3] at e1
          have e3 := q1.2.1 w2
          rw [Bool.eq_iff_iff, e1, e2]
          simp [e3]
        rw [this]; exact hc'
      · omega
      · omega
    refine ok_ite (fun c1 => ok_some ⟨false, rfl, ?_⟩) (fun c1 => ?_)
    · constructor
      · intro z; cases z
      · intro z; have := key2 z; omega
    · by_cases hsa : stB L s (l_a L) = true
      · refine ok_some ⟨true, rfl, ?_⟩
        simp only [true_iff]
        exact key ⟨hsa, by omega⟩
      · exfalso
        have hz : cnt m (l_N L) = 0 := fb_ct_zero.mpr (fun p _ => by
          cases e : m.testBit p with
          | false => rfl
          | true => exact absurd ((hsb _ gw3).mp ((hmp p).mp e).1) hsa)
        have := gw6 w2
        omega
  refine ok_ite (fun w3 => ?_) (fun w3 => ?_)
  · have hdG := mG_dG hG
    refine ok_bd (P := fun o => ∃ D : Nat → Nat, o.1 = nI (D (l_b L)) ∧ D (l_b L) ≤ 1000 ∧ ((stM L s).testBit (l_a L) = false → ∀ v, D v = 1000) ∧ ((stM L s).testBit (l_a L) = true → ∃ n, D = repF (dP (l_A L) (l_B L) (l_O L) (l_D L) (opM L s mo) (l_n L + 1)) (far0 (l_a L)) n ∧ dP (l_A L) (l_B L) (l_O L) (l_D L) (opM L s mo) (l_n L + 1) D = D)) (by rw [h36, h37]; exact m_daysTo hG rfl hst gw3 gw4) ?_
    rintro o ⟨D, e1, e2, e3, e4⟩
    rw [e1, h35]
    simp (disch := omega) only [nI_ltI]
    have hne := gw5 (Or.inr (Or.inl w3))
    have key2 : thr L s mo → D (l_b L) ≤ l_m L := by
      rintro ⟨q1, q2⟩
      rcases q2 with q2 | q2 | q2 | q2 | q2
      · omega
      · omega
      · omega
      · obtain ⟨_, D', d1, d2⟩ := q2
        obtain ⟨n, d3, d4⟩ := e4 ((hsb _ gw3).mpr (q1.2.2 w1 w2).1)
        have : D = D' := isD_one ⟨n, by rw [dP_K13 hop (by omega)]; exact d3, by rw [dP_K13 hop (by omega)]; exact d4⟩ d1
        rw [this]; exact d2
      · omega
    refine ok_ite (fun c1 => ok_some ⟨false, rfl, ?_⟩) (fun c1 => ok_some ⟨true, rfl, ?_⟩)
    · constructor
      · intro z; cases z
      · intro z; have := key2 z; omega
    · simp only [true_iff]
      cases hsa : (stM L s).testBit (l_a L) with
      | false => have := e3 hsa (l_b L); omega
      | true =>
        obtain ⟨n, d3, d4⟩ := e4 hsa
        have hD : isD L (opM L s mo) (l_a L) D := ⟨n, by rw [dP_K13 hop (by omega)]; exact d3, by rw [dP_K13 hop (by omega)]; exact d4⟩
        obtain ⟨k, k1, k2⟩ := (isD_sup hdG hD).2 (l_b L) (Ne.symm hne) (by omega)
        have hsbb : stB L s (l_b L) = true := by
          rcases k2 with ⟨z, _⟩ | ⟨z0, z, _⟩
          · exact (hends (l_A L k) (l_b L) ⟨k, k1, Or.inl ⟨rfl, z⟩⟩).2
          · exact (hends (l_B L k) (l_b L) ⟨k, k1, Or.inr ⟨z0, rfl, z⟩⟩).2
        exact ⟨⟨fun z => absurd z w1, fun z => absurd z w2, fun _ _ => ⟨(hsb _ gw3).mp hsa, hsbb⟩⟩, Or.inr (Or.inr (Or.inr (Or.inl ⟨w3, D, hD, by omega⟩)))⟩
  · have w4 : l_w L = 4 := by omega
    refine ok_bd (P := fun o => ∃ x : Bool, o.1 = nI (b2n x) ∧ (x = true ↔ (stM L s).testBit (l_a L) = true ∧ (stM L s).testBit (l_b L) = true ∧ rch (l_E L (opM L s mo)) (l_a L) (l_b L) ∧ noCut (l_A L) (l_B L) (l_O L) (opM L s mo) (l_a L) (l_b L))) (by rw [h36, h37]; exact m_areTwo hG rfl hst gw3 gw4) ?_
    rintro o ⟨x, e1, hx⟩
    rw [e1]
    refine ok_gd (by cases x <;> rfl) (ok_some ⟨x, rfl, ?_⟩)
    rw [hx, hsb _ gw3, hsb _ gw4]
    constructor
    · rintro ⟨q1, q2, q3, q4⟩
      exact ⟨⟨fun z => absurd z w1, fun z => absurd z w2, fun _ _ => ⟨q1, q2⟩⟩, Or.inr (Or.inr (Or.inr (Or.inr ⟨w4, q3, q4⟩)))⟩
    · rintro ⟨q1, q2⟩
      refine ⟨(q1.2.2 w1 w2).1, (q1.2.2 w1 w2).2, ?_⟩
      rcases q2 with q2 | q2 | q2 | q2 | q2 <;> first | exact q2.2 | omega
