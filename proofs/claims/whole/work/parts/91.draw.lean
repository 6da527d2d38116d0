/-! draws of the reference -/
theorem m_draw {S : wd_W} {L : Ld} {p1 : Int32} {n : Nat} (hL : lOk L) (hl : mL S L) (hla : mLaid S L) (hp : ¬ p1 < 0) (hn1 : 1 ≤ n) (hn : n ≤ 1000) :
    Ok (f_X12_draw S p1 (nI n)) (fun o => o.1 = nI (dwF L p1.toInt64 n).2 ∧ lai L o.2.2.2.1 o.2.2.2.2.2.2.2) := by
  have hM := lM_15 hL
  have pM := pow_le15 hM
  have h32 : S.1 32 = nI (l_M L) := hl.1.2.2.2.2.1
  have hch := hl.2.2.2
  have d1 : decide (1 ≤ n ∧ n ≤ 1000) = true := by simp; omega
  unfold f_X12_draw
  rw [if_neg hp, show (1 : Int64) = lN 1 from rfl, show (1000 : Int64) = lN 1000 from rfl, bd_s (m_in_n (by omega) (by omega) (by omega)), d1]
  refine ok_b (fun z => by cases z) (fun _ => ?_)
  refine ok_bd (m_lays (S := wd_o S [(38, (S.1 38)), (39, (S.1 39)), (44, (S.1 44))] [] [(17, (S.2.2.1 17)), (18, (S.2.2.1 18)), (19, (S.2.2.1 19)), (20, (S.2.2.1 20))] [] []) hL hl hla) ?_
  rintro ⟨u1, u2, u3, u4, u5, u6, u7⟩ ⟨e1, e2⟩
  dsimp only at e1 e2
  have hin : ∀ (K : Int64 → Int32 → Option o_X12_draw) (x : Int64), it3 (f_X12_draw_L43 S K) fuel x (nI 0) (nI 0) = K (dwI L x (l_M L)).1 (nI (dwI L x (l_M L)).2) := by
    intro K x
    refine Eq.trans ?_ (eq_for0 (W := fun m i => it3 (f_X12_draw_L43 S K) m (dwI L x i).1 (nI (dwI L x i).2) (nI i)) (e := l_M L) (by omega) ?_ ?_)
    · rfl
    · intro m
      show f_X12_draw_L43 S K _ _ _ (nI (l_M L)) = _
      unfold f_X12_draw_L43
      rw [h32, if_pos (nI_le (Nat.le_refl _) (by omega))]
    · intro m i hi
      show f_X12_draw_L43 S K (it3 (f_X12_draw_L43 S K) m) (dwI L x i).1 (nI (dwI L x i).2) (nI i) = it3 (f_X12_draw_L43 S K) m (dwS (cha L) i (dwI L x i)).1 (nI (dwS (cha L) i (dwI L x i)).2) (nI (i + 1))
      generalize it3 (f_X12_draw_L43 S K) m = r
      generalize dwI L x i = y
      obtain ⟨y1, y2⟩ := y
      have hc := cha_le hL hi
      unfold f_X12_draw_L43 dwS
      rw [h32, if_neg (nI_ge hi (by omega)), lz_eq, gd_in (by omega) (by omega), lk_eq, nI_clamp (by omega), hch i hi, nI_l (by omega), lz_eq, oI_pow (by omega), oI_or, nI_1]
      show (if lN (cha L i) ≤ dwB (dwE y1) then r (dwE y1) (nI y2) (nI (i + 1)) else r (dwE y1) (nI (y2 ||| 2 ^ i)) (nI (i + 1))) = r (dwE y1) (nI (if lN (cha L i) ≤ dwB (dwE y1) then y2 else y2 ||| 2 ^ i)) (nI (i + 1))
      split <;> rfl
  rw [li_0]
  refine ok_lz ?_
  refine ok_for0 (W := fun m i (_ : Unit) => it3 (f_X12_draw_L31 S (nI n) (u1, u2, u3, u4, u5, u6, u7)) m (dwF L p1.toInt64 i).1 (nI (dwF L p1.toInt64 i).2) (nI i)) (I := fun _ _ => True) (e := n) (s := ()) (by omega) trivial ?_ ?_
  · intro m _ _
    show Ok (f_X12_draw_L31 S (nI n) _ _ _ _ (nI n)) _
    unfold f_X12_draw_L31
    rw [if_pos (nI_le (Nat.le_refl _) (by omega))]
    exact ok_some ⟨rfl, e1, e2⟩
  · intro m i _ hi _ ih
    have ih := ih () trivial
    change Ok (it3 (f_X12_draw_L31 S (nI n) (u1, u2, u3, u4, u5, u6, u7)) m (dwO L i (dwF L p1.toInt64 i)).1 (nI (dwO L i (dwF L p1.toInt64 i)).2) (nI (i + 1))) _ at ih
    show Ok (f_X12_draw_L31 S (nI n) _ (it3 (f_X12_draw_L31 S (nI n) (u1, u2, u3, u4, u5, u6, u7)) m) (dwF L p1.toInt64 i).1 (nI (dwF L p1.toInt64 i).2) (nI i)) _
    generalize it3 (f_X12_draw_L31 S (nI n) (u1, u2, u3, u4, u5, u6, u7)) m = r at ih
    generalize dwF L p1.toInt64 i = y at ih
    obtain ⟨y1, y2⟩ := y
    unfold f_X12_draw_L31
    unfold dwO at ih
    dsimp only at ih
    have hlt := dwI_lt L y1 (l_M L)
    rw [if_neg (nI_ge hi (by omega))]
    refine ok_lk ?_
    rw [li_0, hin]
    dsimp only
    have ez : u7 (nI (dwI L y1 (l_M L)).2).toNatClampNeg = nI (b2n (thB L (dwI L y1 (l_M L)).2)) := by rw [nI_clamp (by omega)]; exact e2 _ hlt
    rw [gd_in (by omega) (by omega)]
    refine ok_lk (ok_ite (fun z => ?_) (fun z => ?_))
    · have hb : thB L (dwI L y1 (l_M L)).2 = false := (th_ite ez).mp z
      rw [hb] at ih
      refine ok_lz ?_
      rw [nI_add, nI_1]
      exact ih
    · have hb : thB L (dwI L y1 (l_M L)).2 = true := by
        cases q : thB L (dwI L y1 (l_M L)).2 with
        | true => rfl
        | false => exact absurd ((th_ite ez).mpr q) z
      rw [hb] at ih
      refine ok_lz ?_
      rw [nI_1, nI_1]
      exact ih
