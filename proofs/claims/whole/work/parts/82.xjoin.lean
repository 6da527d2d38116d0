/-! joined: rounds; the developers' way -/
/-- one place of a round -/
def jP (a b N : Nat) (p : Nat) (x : Adj) : Adj := if p = a ∨ p = b then x else if jD x p N ≤ 2 then jE p x else x
def jR (a b N : Nat) (x : Adj) : Adj := itf (jP a b N) x N
def repA (f : Adj → Adj) (x : Adj) : Nat → Adj
  | 0 => x
  | n + 1 => f (repA f x n)
theorem jP_good {a b N p : Nat} {x : Adj} (h : jG N x) : jG N (jP a b N p x) := by
  unfold jP
  split
  · exact h
  · split
    · exact jE_good h
    · exact h
theorem jP_path {a b N p k : Nat} {x y : Adj} (hp : p < N) (h : jS a b N k x y) : ∃ k', jS a b N k' x (jP a b N p y) := by
  unfold jP
  by_cases h1 : p = a ∨ p = b
  · rw [if_pos h1]; exact ⟨k, h⟩
  · rw [if_neg h1]
    by_cases h2 : jD y p N ≤ 2
    · rw [if_pos h2]
      exact ⟨k + 1, jS_snoc k x y p h ⟨hp, fun e => h1 (Or.inl e), fun e => h1 (Or.inr e), h2⟩⟩
    · rw [if_neg h2]; exact ⟨k, h⟩
theorem jR_path {a b N k : Nat} {x y : Adj} (h : jS a b N k x y) : ∃ k', jS a b N k' x (jR a b N y) := by
  unfold jR
  refine itf_ind (P := fun _ z => ∃ k', jS a b N k' x z) ⟨k, h⟩ ?_
  intro i z hi ⟨k', h'⟩
  exact jP_path hi h'
theorem jR_good {a b N : Nat} {x : Adj} (h : jG N x) : jG N (jR a b N x) :=
  itf_ind (P := fun _ z => jG N z) h (fun _ _ _ hz => jP_good hz)
theorem jR_norm {a b N : Nat} {x : Adj} (h : jN a b N x) : jR a b N x = x := by
  unfold jR
  refine itf_ind (P := fun _ z => z = x) rfl ?_
  intro i z hi hz
  subst hz
  unfold jP
  split
  · rfl
  · rename_i h1
    split
    · rename_i h2
      exact h i ⟨hi, fun e => h1 (Or.inl e), fun e => h1 (Or.inr e), h2⟩
    · rfl
theorem jR_less {a b N : Nat} {x : Adj} (hg : jG N x) : jN a b N x ∨ jT (jR a b N x) N + 2 ≤ jT x N := by
  have key := itf_ind (st := jP a b N) (a := x) (n := N) (P := fun i z => jG N z ∧ ((z = x ∧ ∀ p, p < i → jO a b N p x → jE p x = x) ∨ jT z N + 2 ≤ jT x N)) ⟨hg, Or.inl ⟨rfl, fun p hp => by omega⟩⟩ (by
    intro i z hi ⟨hz, h⟩
    refine ⟨jP_good hz, ?_⟩
    by_cases ho : jO a b N i z
    · have hP : jP a b N i z = jE i z := by
        unfold jP
        rw [if_neg (fun e => by rcases e with e | e; exact ho.2.1 e; exact ho.2.2.1 e), if_pos ho.2.2.2]
      rw [hP]
      by_cases h0 : jD z i N = 0
      · rw [jE_none hz h0]
        rcases h with ⟨e, h⟩ | h
        · subst e
          left
          refine ⟨rfl, fun p hp hop => ?_⟩
          by_cases q : p = i
          · subst q; exact jE_none hz h0
          · exact h p (by omega) hop
        · exact Or.inr h
      · have := jT_less hz ho (by omega)
        rcases h with ⟨e, _⟩ | h
        · subst e; exact Or.inr this
        · right; omega
    · have hP : jP a b N i z = z := by
        unfold jP
        split
        · rfl
        · rename_i h1
          split
          · rename_i h2
            exact absurd ⟨hi, fun e => h1 (Or.inl e), fun e => h1 (Or.inr e), h2⟩ ho
          · rfl
      rw [hP]
      rcases h with ⟨e, h⟩ | h
      · subst e
        left
        refine ⟨rfl, fun p hp hop => ?_⟩
        by_cases q : p = i
        · subst q; exact absurd hop ho
        · exact h p (by omega) hop
      · exact Or.inr h)
  rcases key.2 with ⟨_, h⟩ | h
  · left
    intro p hp
    exact h p hp.1 hp
  · exact Or.inr h
theorem jRounds {a b N n : Nat} {x : Adj} (hg : jG N x) (hT : jT x N ≤ 2 * n) : jG N (repA (jR a b N) x (n + 1)) ∧ jN a b N (repA (jR a b N) x (n + 1)) ∧ ∃ k, jS a b N k x (repA (jR a b N) x (n + 1)) := by
  have key : ∀ r, jG N (repA (jR a b N) x r) ∧ (jN a b N (repA (jR a b N) x r) ∨ jT (repA (jR a b N) x r) N + 2 * r ≤ jT x N) ∧ ∃ k, jS a b N k x (repA (jR a b N) x r) := by
    intro r
    induction r with
    | zero => exact ⟨hg, Or.inr (Nat.le_refl _), 0, rfl⟩
    | succ r ih =>
      obtain ⟨i1, i2, k, i3⟩ := ih
      refine ⟨jR_good i1, ?_, jR_path i3⟩
      rcases i2 with h | h
      · left
        show jN a b N (jR a b N (repA (jR a b N) x r))
        rw [jR_norm h]; exact h
      · rcases jR_less (a := a) (b := b) i1 with q | q
        · left
          show jN a b N (jR a b N (repA (jR a b N) x r))
          rw [jR_norm q]; exact q
        · right
          show jT (jR a b N (repA (jR a b N) x r)) N + 2 * (r + 1) ≤ jT x N
          omega
  obtain ⟨k1, k2, k3⟩ := key (n + 1)
  refine ⟨k1, ?_, k3⟩
  rcases k2 with h | h
  · exact h
  · omega
/-- the neighbours' row -/
def jW (N : Nat) (x : Adj) (a : Nat → Int32) : Prop := ∀ p, p < N → a p = nI (mk (x p) N)
theorem mk_x {N : Nat} {x : Adj} (hg : jG N x) (p v : Nat) : (mk (x p) N).testBit v = x p v := by
  rw [mk_bit]
  cases h : x p v with
  | false => simp
  | true => have := (hg.2.2 p v h).2; simp [this]
theorem cnt_mk (f : Nat → Bool) {N K : Nat} (h : N ≤ K) : cnt (mk f N) K = fb_ct f N := by
  rw [cnt_ext (mk_lt f N) K h]
  unfold cnt
  exact fb_ct_cong (fun k hk => by rw [mk_bit]; simp [hk])
theorem x_joinAt {S : wd_W} {N p : Nat} {x : Adj} (hN : N ≤ 10) (h3 : S.1 11103 = nI N) (hg : jG N x) (hp : p < N) (ha : jW N x (S.2.2.1 116)) :
    Ok (f_X7_joinAt_q111 S (nI p)) (fun o => jW N (if jD x p N ≤ 2 then jE p x else x) o) := by
  have hm := lt_1024 (mk_lt (x p) N) hN
  unfold f_X7_joinAt_q111
  rw [gd_in (by omega) (by omega), lz_eq, nI_clamp (by omega), ha p hp, bd_s (x_bitCount (by omega)), cnt_mk (x p) (by omega)]
  have hd : fb_ct (x p) N = jD x p N := rfl
  have hdl : jD x p N ≤ N := fb_ct_le _ _
  rw [hd]
  refine ok_ite (fun z => ?_) (fun z => ?_)
  · rw [li_2, nI_leI (by omega) (by omega)] at z
    rw [if_pos z, gd_in (by omega) (by omega), lz_eq, li_0]
    refine ok_for0 (W := fun n i (a : Nat → Int32) => it2 (f_X7_joinAt_q111_L25 S (nI p) (nI (mk (x p) N))) n (nI i) a) (I := fun i a => ∀ q, q < N → a q = if q < i ∨ q = p then nI (mk (jE p x q) N) else nI (mk (x q) N)) (e := N) (by omega) (fun q hq => ?_) ?_ ?_
    · by_cases e : q = p
      · subst e
        rw [pk_us, if_pos (Or.inr rfl)]
        have : mk (jE q x q) N = 0 := by
          apply Nat.eq_of_testBit_eq
          intro i
          rw [mk_bit, Nat.zero_testBit]; simp [jE]
        rw [this]
      · rw [pk_un e, if_neg (by omega)]; exact ha q hq
    · intro n a hI
      show Ok (f_X7_joinAt_q111_L25 S _ _ _ (nI N) a) _
      unfold f_X7_joinAt_q111_L25
      rw [h3, if_pos (nI_le (Nat.le_refl _) (by omega))]
      exact ok_some (fun q hq => by rw [hI q hq, if_pos (Or.inl hq)])
    · intro n i a hi hI ih
      show Ok (f_X7_joinAt_q111_L25 S _ _ (it2 (f_X7_joinAt_q111_L25 S (nI p) (nI (mk (x p) N))) n) (nI i) a) _
      generalize it2 (f_X7_joinAt_q111_L25 S (nI p) (nI (mk (x p) N))) n = r at ih
      unfold f_X7_joinAt_q111_L25
      rw [h3, if_neg (nI_ge hi (by omega)), nI_1]
      have hsym := hg.1
      have hirr := hg.2.1
      refine ok_lk (ok_ite (fun c => ?_) (fun c => ?_))
      · rw [oI_bit0 (by omega) (by omega), mk_x hg] at c
        refine ih _ (fun q hq => ?_)
        rw [hI q hq]
        by_cases e : q = i
        · subst e
          by_cases e2 : q = p
          · subst e2; simp
          · rw [if_neg (by omega), if_pos (Or.inl (by omega))]
            have : mk (x q) N = mk (jE p x q) N := by
              apply mk_congr
              intro v _
              have hqp : x q p = false := by rw [hsym]; exact c
              unfold jE
              rw [hqp]
              by_cases ev : v = p
              · subst ev; simp [hqp]
              · by_cases eq2 : q = v
                · subst eq2; simp [hirr]
                · have b1 : (q == p) = false := by simp [e2]
                  have b2 : (v == p) = false := by simp [ev]
                  have b3 : (q == v) = false := by simp [eq2]
                  rw [b1, b2, b3]; simp
            rw [this]
        · by_cases e3 : q < i ∨ q = p
          · rw [if_pos e3, if_pos (by omega)]
          · rw [if_neg e3, if_neg (by omega)]
      · rw [oI_bit0 (by omega) (by omega), mk_x hg] at c
        have c' : x p i = true := by simpa using c
        have hip : i ≠ p := by intro e; subst e; rw [hirr] at c'; cases c'
        have hai : a i = nI (mk (x i) N) := by rw [hI i hi, if_neg (by omega)]
        rw [gd_in (by omega) (by omega), nI_clamp (by omega), hai, oI_or, oI_pow (by omega), oI_pow (by omega), oI_or, oI_ndn, lz_eq, gd_in (by omega) (by omega), lz_eq]
        have e1 : ndn (mk (x i) N ||| mk (x p) N) (2 ^ p ||| 2 ^ i) = mk (jE p x i) N := by
          apply Nat.eq_of_testBit_eq
          intro v
          rw [ndn_bit, Nat.testBit_or, mk_x hg, mk_x hg, mk_x (jE_good hg), Nat.testBit_or, Nat.testBit_two_pow, Nat.testBit_two_pow]
          have hxi : x i p = true := by rw [hsym]; exact c'
          unfold jE
          rw [hxi]
          have b1 : (i == p) = false := by simp [hip]
          rw [b1]
          by_cases ev : v = p
          · subst ev; simp
          · by_cases ei : v = i
            · subst ei; simp
            · have b2 : (v == p) = false := by simp [ev]
              have b3 : (i == v) = false := by simp; exact fun z => ei z.symm
              have b4 : decide (p = v) = false := by simp; exact fun z => ev z.symm
              have b5 : decide (i = v) = false := by simp; exact fun z => ei z.symm
              rw [b2, b3, b4, b5]; simp
        rw [e1]
        refine ih (upd a i (nI (mk (jE p x i) N))) (fun q hq => ?_)
        by_cases e : q = i
        · subst e; rw [pk_us, if_pos (Or.inl (by omega))]
        · rw [pk_un e, hI q hq]
          by_cases e3 : q < i ∨ q = p
          · rw [if_pos e3, if_pos (by omega)]
          · rw [if_neg e3, if_neg (by omega)]
  · rw [li_2, nI_leI (by omega) (by omega)] at z
    rw [if_neg z]
    exact ok_some ha
