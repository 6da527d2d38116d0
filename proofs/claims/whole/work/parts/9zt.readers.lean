/-! what is read, clause by clause: in plain numbers -/
abbrev kw0 : List Nat := rwd cW0 0 6
abbrev kw1 : List Nat := rwd cW1 0 4
abbrev kw2 : List Nat := rwd cW2 0 3
abbrev kw3 : List Nat := rwd cW3 0 4
abbrev kw4 : List Nat := rwd cW4 0 4
abbrev kw5 : List Nat := rwd cW5 0 5
abbrev kw6 : List Nat := rwd cW6 0 5
abbrev kw7 : List Nat := rwd cW7 0 7
abbrev kw8 : List Nat := rwd cW8 0 4
abbrev kw9 : List Nat := rwd cW9 0 3
abbrev kw10 : List Nat := rwd cW10 0 3
def uw (t : Nat → Nat) (n p : Nat) : List Nat := rwd t (wB t n p) (wE t n p - wB t n p)
/-- here a clause ends -/
def stp (t : Nat → Nat) (n p : Nat) : Prop := n ≤ wB t n p ∨ t (wB t n p) = 59
def pEnds (t : Nat → Nat) (n p N : Nat) : PR (Nat × Nat) := pb (pNum t n p 0 N) fun e a => pb (pNum t n e 0 N) fun e2 b => if a = b then .error (flt (wB t n e) 1) else .ok (e2, a, b)
def pOpt (t : Nat → Nat) (n : Nat) : Nat → Nat → Nat → Nat → PR (Nat × Nat)
  | 0, p, w, d => .ok (p, w, d)
  | f + 1, p, w, d =>
    if n ≤ wB t n p then .ok (wB t n p, w, d) else if t (wB t n p) = 59 then .ok (wB t n p, w, d)
    else if uw t n p = kw2 then (if w = 0 then pOpt t n f (wE t n p) 1 d else .error (flt (wB t n p) 0))
    else if uw t n p = kw3 then (if d = 0 then pb (pNum t n (wE t n p) 1 10) fun e v => pOpt t n f e w v else .error (flt (wB t n p) 0))
    else .error (flt (wB t n p) 0)
def addLn (L : Ld) (a b c w d : Nat) : Ld := fun g => match g with
  | 1 => upN (L 1) 0 (L 1 0 + 1)
  | 2 => upN (L 2) (L 1 0) a
  | 3 => upN (L 3) (L 1 0) b
  | 4 => upN (L 4) (L 1 0) c
  | 5 => upN (L 5) (L 1 0) (1 - w)
  | 6 => upN (L 6) (L 1 0) d
  | n => L n
def addKp (L : Ld) (a c : Nat) : Ld := fun g => match g with
  | 7 => upN (L 7) 0 (L 7 0 + 1)
  | 8 => upN (L 8) (L 7 0) a
  | 9 => upN (L 9) (L 7 0) c
  | n => L n
def addCs (L : Ld) (c x y : Nat) : Ld := fun g => match g with
  | 10 => upN (L 10) 0 (L 10 0 + 1)
  | 11 => upN (L 11) (L 10 0) c
  | 12 => upN (L 12) (L 10 0) x
  | 13 => upN (L 13) (L 10 0) y
  | n => L n
def setW (L : Ld) (w m a b : Nat) : Ld := fun g => match g with
  | 14 => fun _ => w
  | 15 => fun _ => m
  | 16 => fun _ => a
  | 17 => fun _ => b
  | n => L n
def pLine (t : Nat → Nat) (n : Nat) (L : Ld) (q p : Nat) : PR Ld :=
  if l_n L = 12 ∨ l_M L = 15 then .error (flt q 3) else
  pb (pEnds t n p (l_N L)) fun e ab => pb (pNum t n e 0 17) fun e2 c => pb (pOpt t n 3 e2 0 0) fun e3 wd => .ok (e3, addLn L ab.1 ab.2 c wd.1 (if wd.2 = 0 then 1 else wd.2))
def kept (L : Ld) (a : Nat) : Prop := ∃ j, j < l_k L ∧ l_P L j = a
def ktB (L : Ld) (a : Nat) : Bool := !alls (fun j => !(l_P L j == a)) (l_k L)
def pKeep (t : Nat → Nat) (n : Nat) (L : Ld) (q p : Nat) : PR Ld :=
  if l_M L = 15 then .error (flt q 3) else
  pb (pNum t n p 0 (l_N L)) fun e a => if ktB L a = true then .error (flt (wB t n p) 2) else pb (pNum t n e 0 17) fun e2 c => .ok (e2, addKp L a c)
def pItems (t : Nat → Nat) (n : Nat) (L : Ld) : Nat → Nat → Nat → Nat → Nat → PR (Nat × Nat)
  | 0, _, p, x, y => .ok (p, x, y)
  | f + 1, i, p, x, y =>
    if i ≠ 0 ∧ n ≤ wB t n p then .ok (wB t n p, x, y) else if i ≠ 0 ∧ t (wB t n p) = 59 then .ok (wB t n p, x, y)
    else if uw t n p = kw1 then pb (pNum t n (wE t n p) 0 (l_n L)) fun e v => pItems t n L f (i + 1) e (x ||| 2 ^ v) y
    else if uw t n p = kw6 then pb (pNum t n (wE t n p) 0 (l_N L)) fun e v => pItems t n L f (i + 1) e x (y ||| 2 ^ v)
    else .error (flt (wB t n p) 0)
def pCause (t : Nat → Nat) (n : Nat) (L : Ld) (q p : Nat) : PR Ld :=
  if l_c L = 3 ∨ l_M L = 15 then .error (flt q 3) else
  pb (pNum t n p 0 17) fun e c => pb (pItems t n L 400 0 e 0 0) fun e2 s => .ok (e2, addCs L c s.1 s.2)
def pWhat (t : Nat → Nat) (n p : Nat) : PR Nat :=
  if uw t n p = kw2 then .ok (wE t n p, 0) else if uw t n p = kw8 then .ok (wE t n p, 2) else if uw t n p = kw3 then .ok (wE t n p, 3) else
  if uw t n p = kw9 then .ok (wE t n p, 4) else if uw t n p = kw10 then .ok (wE t n p, 1) else .error (flt (wB t n p) 0)
def pAmo (t : Nat → Nat) (n N w e : Nat) : PR Nat := if w = 2 then pNum t n e 1 (N + 1) else if w = 3 then pNum t n e 1 100 else .ok (e, 0)
def pFst (t : Nat → Nat) (n N w e : Nat) : PR Nat := if w = 1 then .ok (e, 0) else pNum t n e 0 N
def pSnd (t : Nat → Nat) (n N w a e : Nat) : PR Nat := if w = 1 then .ok (e, 0) else if w = 2 then .ok (e, 0) else pb (pNum t n e 0 N) fun e2 b => if a = b then .error (flt (wB t n e) 1) else .ok (e2, b)
def pThr (t : Nat → Nat) (n : Nat) (L : Ld) (d : Nat) (q p : Nat) : PR Ld :=
  if d ≠ 0 then .error (flt q 2) else
  pb (pWhat t n p) fun e w => pb (pAmo t n (l_N L) w e) fun e2 m => pb (pFst t n (l_N L) w e2) fun e3 a => pb (pSnd t n (l_N L) w a e3) fun e4 b => .ok (e4, setW L w m a b)
/-- a clause; d: 'through' was told -/
def pClause (t : Nat → Nat) (n : Nat) (L : Ld) (d p : Nat) : PR (Ld × Nat) :=
  if uw t n p = kw1 then pb (pLine t n L (wB t n p) (wE t n p)) fun e K => .ok (e, K, d) else
  if uw t n p = kw4 then pb (pKeep t n L (wB t n p) (wE t n p)) fun e K => .ok (e, K, d) else
  if uw t n p = kw5 then pb (pCause t n L (wB t n p) (wE t n p)) fun e K => .ok (e, K, d) else
  if uw t n p = kw7 then pb (pThr t n L d (wB t n p) (wE t n p)) fun e K => .ok (e, K, 1) else .error (flt (wB t n p) 0)
def pText (t : Nat → Nat) (n : Nat) : Nat → Nat → Ld → Nat → Except Nat Ld
  | 0, _, L, _ => .ok L
  | f + 1, p, L, d => if n ≤ wB t n p then .ok L else if t (wB t n p) = 59 then pb (pClause t n L d (wB t n p + 1)) fun e s => pText t n f e s.1 s.2 else .error (flt (wB t n p) 0)
def L0 (N : Nat) : Ld := fun g => match g with
  | 0 => fun _ => N
  | 14 => fun _ => 1
  | _ => fun _ => 0
def pLand (t : Nat → Nat) (n : Nat) : Except Nat Ld := if uw t n 0 = kw0 then pb (pNum t n (wE t n 0) 2 11) fun e N => pText t n n e (L0 N) 0 else .error (flt (wB t n 0) 0)
theorem runF_stop (c : Nat → Bool) (n : Nat) : ∀ f p, n - p ≤ f → ¬ (runF c n f p < n ∧ c (runF c n f p) = true)
  | 0, p, h => by
    rw [runF]
    intro z
    omega
  | f + 1, p, h => by
    rw [runF]
    split
    · exact runF_stop c n f (p + 1) (by omega)
    · rename_i z
      exact z
theorem wB_wB (t : Nat → Nat) (n p : Nat) : wB t n (wB t n p) = wB t n p := by
  have h := runF_stop (isBl t) n (n - p) p (Nat.le_refl _)
  unfold wB
  rw [run_eq]
  exact if_neg h
theorem wE_wB (t : Nat → Nat) (n p : Nat) : wE t n (wB t n p) = wE t n p := by
  unfold wE
  rw [wB_wB]
theorem nE_wB (t : Nat → Nat) (n p : Nat) : nE t n (wB t n p) = nE t n p := by
  unfold nE
  rw [wB_wB]
theorem uw_wB (t : Nat → Nat) (n p : Nat) : uw t n (wB t n p) = uw t n p := by
  unfold uw
  rw [wB_wB, wE_wB]
theorem pNum_wB (t : Nat → Nat) (n p lo hx : Nat) : pNum t n (wB t n p) lo hx = pNum t n p lo hx := by
  unfold pNum numF numV
  rw [wB_wB, nE_wB]
/-! the developers' readers -/
theorem le_sub1 {N : Nat} (hN : N < 2 ^ 20) {p : Int32} (hp : p = nI N) : ∀ v, v < 2 ^ 20 → (nI v ≤ p - (1 : Int32) ↔ v < N) := by
  intro v hv
  subst hp
  rw [pI_leN (by omega), pI_m1 (by omega)]
  omega
theorem le_lit {N : Nat} (hN : N < 2 ^ 20) {p : Int32} (hp : p = nI N) : ∀ v, v < 2 ^ 20 → (nI v ≤ p ↔ v < N + 1) := by
  intro v hv
  subst hp
  rw [nI_leI (by omega) (by omega)]
  omega
theorem x_uw1 {S : wd_W} {n p : Nat} {t : Nat → Nat} (ht : XTa S n t) (hp : p ≤ n) (h2 : S.1 1402 = nI (wE t n p)) (h3 : S.1 1403 = nI (wB t n p)) : f_X9_isWord_q14_str1 S = some (nI (b2n (decide (uw t n p = kw1)))) := x_isW1 ht h2 h3 (wE_ge t n p) (wE_le hp)
theorem x_uw2 {S : wd_W} {n p : Nat} {t : Nat → Nat} (ht : XTa S n t) (hp : p ≤ n) (h2 : S.1 1402 = nI (wE t n p)) (h3 : S.1 1403 = nI (wB t n p)) : f_X9_isWord_q14_str2 S = some (nI (b2n (decide (uw t n p = kw2)))) := x_isW2 ht h2 h3 (wE_ge t n p) (wE_le hp)
theorem x_uw3 {S : wd_W} {n p : Nat} {t : Nat → Nat} (ht : XTa S n t) (hp : p ≤ n) (h2 : S.1 1402 = nI (wE t n p)) (h3 : S.1 1403 = nI (wB t n p)) : f_X9_isWord_q14_str3 S = some (nI (b2n (decide (uw t n p = kw3)))) := x_isW3 ht h2 h3 (wE_ge t n p) (wE_le hp)
theorem x_uw4 {S : wd_W} {n p : Nat} {t : Nat → Nat} (ht : XTa S n t) (hp : p ≤ n) (h2 : S.1 1402 = nI (wE t n p)) (h3 : S.1 1403 = nI (wB t n p)) : f_X9_isWord_q14_str4 S = some (nI (b2n (decide (uw t n p = kw4)))) := x_isW4 ht h2 h3 (wE_ge t n p) (wE_le hp)
theorem x_uw5 {S : wd_W} {n p : Nat} {t : Nat → Nat} (ht : XTa S n t) (hp : p ≤ n) (h2 : S.1 1402 = nI (wE t n p)) (h3 : S.1 1403 = nI (wB t n p)) : f_X9_isWord_q14_str5 S = some (nI (b2n (decide (uw t n p = kw5)))) := x_isW5 ht h2 h3 (wE_ge t n p) (wE_le hp)
theorem x_uw6 {S : wd_W} {n p : Nat} {t : Nat → Nat} (ht : XTa S n t) (hp : p ≤ n) (h2 : S.1 1402 = nI (wE t n p)) (h3 : S.1 1403 = nI (wB t n p)) : f_X9_isWord_q14_str6 S = some (nI (b2n (decide (uw t n p = kw6)))) := x_isW6 ht h2 h3 (wE_ge t n p) (wE_le hp)
theorem x_uw7 {S : wd_W} {n p : Nat} {t : Nat → Nat} (ht : XTa S n t) (hp : p ≤ n) (h2 : S.1 1402 = nI (wE t n p)) (h3 : S.1 1403 = nI (wB t n p)) : f_X9_isWord_q14_str7 S = some (nI (b2n (decide (uw t n p = kw7)))) := x_isW7 ht h2 h3 (wE_ge t n p) (wE_le hp)
theorem x_uw8 {S : wd_W} {n p : Nat} {t : Nat → Nat} (ht : XTa S n t) (hp : p ≤ n) (h2 : S.1 1402 = nI (wE t n p)) (h3 : S.1 1403 = nI (wB t n p)) : f_X9_isWord_q14_str8 S = some (nI (b2n (decide (uw t n p = kw8)))) := x_isW8 ht h2 h3 (wE_ge t n p) (wE_le hp)
theorem x_uw9 {S : wd_W} {n p : Nat} {t : Nat → Nat} (ht : XTa S n t) (hp : p ≤ n) (h2 : S.1 1402 = nI (wE t n p)) (h3 : S.1 1403 = nI (wB t n p)) : f_X9_isWord_q14_str9 S = some (nI (b2n (decide (uw t n p = kw9)))) := x_isW9 ht h2 h3 (wE_ge t n p) (wE_le hp)
theorem x_uw10 {S : wd_W} {n p : Nat} {t : Nat → Nat} (ht : XTa S n t) (hp : p ≤ n) (h2 : S.1 1402 = nI (wE t n p)) (h3 : S.1 1403 = nI (wB t n p)) : f_X9_isWord_q14_str10 S = some (nI (b2n (decide (uw t n p = kw10)))) := x_isW10 ht h2 h3 (wE_ge t n p) (wE_le hp)
theorem x_uw0 {S : wd_W} {n p : Nat} {t : Nat → Nat} (ht : XTa S n t) (hp : p ≤ n) (h2 : S.1 1402 = nI (wE t n p)) (h3 : S.1 1403 = nI (wB t n p)) : f_X9_isWord_q14_str0 S = some (nI (b2n (decide (uw t n p = kw0)))) := x_isW0 ht h2 h3 (wE_ge t n p) (wE_le hp)
theorem x_more {S : wd_W} {n p : Nat} {t : Nat → Nat} (ht : XTa S n t) (h : S.1 1402 = nI p) (hp : p ≤ n) : f_X9_hasMore_q14 S = some (nI (b2n (decide (wB t n p < n))), nI (wB t n p)) := by
  have hq := wB_le (t := t) hp
  have h4 := ht.2.1
  apply ok_e
  unfold f_X9_hasMore_q14
  rw [bd_s (x_skip (S := wd_o S [(1402, (S.1 1402))] [] [] [] []) ht h hp), ht.1]
  show Ok (if nI n ≤ nI (wB t n p) then some ((0 : Int32), nI (wB t n p)) else some ((1 : Int32), nI (wB t n p))) _
  refine ok_ite (fun c => ?_) (fun c => ?_)
  · rw [nI_leI (by omega) (by omega)] at c
    rw [decide_eq_false (by omega)]; exact ok_some rfl
  · rw [nI_leI (by omega) (by omega)] at c
    rw [decide_eq_true (by omega)]; exact ok_some rfl
/-- does the clause go on -/
theorem x_goes {S : wd_W} {n p f : Nat} {t : Nat → Nat} (ht : XTa S n t) (h : S.1 1402 = nI p) (hp : p ≤ n) (hf : S.1 1404 = nI f) (hf2 : f < 2 ^ 16) :
    Ok (f_X9_clauseGoesOn_q14 S) (fun o => (f ≠ 0 → o = (nI 0, nI p)) ∧ (f = 0 → (n ≤ wB t n p → o = (nI 0, nI (wB t n p))) ∧ (wB t n p < n → t (wB t n p) = 59 → o = (nI 0, nI (wB t n p))) ∧ (wB t n p < n → t (wB t n p) ≠ 59 → o = (nI 1, nI (wB t n p))))) := by
  have hq := wB_le (t := t) hp
  have h4 := ht.2.1
  unfold f_X9_clauseGoesOn_q14
  rw [hf]
  refine ok_ite (fun c => ?_) (fun c => ?_)
  · rw [oI_z (by omega)] at c
    rw [bd_s (x_more (S := wd_o S [(1402, (S.1 1402))] [] [] [] []) ht h hp)]
    refine ok_b (fun d => ?_) (fun d => ?_)
    · have d := of_decide_eq_false d
      exact ok_some ⟨fun z => absurd c z, fun _ => ⟨fun _ => rfl, fun z => absurd z d, fun z => absurd z d⟩⟩
    · have d := of_decide_eq_true d
      have hb := ht.2.2 _ d
      dsimp only
      rw [gd_in (by omega) (by omega), nI_clamp (by omega), hb.2, li_59]
      refine ok_ite (fun y => ?_) (fun y => ?_)
      · rw [nI_eq (by omega) (by omega)] at y
        exact ok_some ⟨fun z => absurd c z, fun _ => ⟨fun z => absurd d (by omega), fun _ _ => rfl, fun _ z => absurd y z⟩⟩
      · rw [nI_eq (by omega) (by omega)] at y
        exact ok_some ⟨fun z => absurd c z, fun _ => ⟨fun z => absurd d (by omega), fun _ z => absurd z y, fun _ _ => rfl⟩⟩
  · rw [oI_z (by omega)] at c
    rw [h]
    exact ok_some ⟨fun _ => rfl, fun z => absurd z c⟩
/-- a place, any -/
theorem x_place0 {S : wd_W} {n p f N : Nat} {t : Nat → Nat} {β : Type} {R : Except Nat β} {k : Nat → Nat → Except Nat β} (ht : XTa S n t) (h : S.1 1402 = nI p) (hp : p ≤ n) (hf : S.1 1404 = nI f) (h3 : S.1 300 = nI N) (hN : N ≤ 1000) (hR : ct R f (pb (pNum t n p 0 N) k)) :
    Ok (f_X9_readPlace_q14 S (-1 : Int32)) (fun o => ∃ v g, o = (nI v, nI (nE t n p), nI (wB t n p), nI g) ∧ v ≤ 1000 ∧ ct R g (k (nE t n p) v) ∧ (g = 0 → f = 0 ∧ v < N ∧ v ≤ 99 ∧ wB t n p < nE t n p)) := by
  unfold f_X9_readPlace_q14
  refine ok_bd (x_number (S := wd_o S [(1402, (S.1 1402)), (1403, (S.1 1403)), (1404, (S.1 1404))] [] [] [] []) ht h hp hf (lo := 0) rfl (by omega) (le_sub1 (N := N) (by omega) h3) hR) ?_
  rintro _ ⟨v, g, rfl, v1, v2, v3⟩
  dsimp only
  rw [if_neg (fun z => (oI_m1 (by omega)).mp z)]
  exact ok_some ⟨v, g, rfl, v1, v2, fun z => ⟨(v3 z).1, (v3 z).2.2.1, (v3 z).2.2.2.1, (v3 z).2.2.2.2⟩⟩
/-- a place, but not this one -/
theorem x_place1 {S : wd_W} {n p f N a : Nat} {t : Nat → Nat} {β : Type} {R : Except Nat β} {k : Nat → Nat → Except Nat β} (ht : XTa S n t) (h : S.1 1402 = nI p) (hp : p ≤ n) (hf : S.1 1404 = nI f) (h3 : S.1 300 = nI N) (hN : N ≤ 1000) (ha : a ≤ 1000) (hR : ct R f (pb (pNum t n p 0 N) fun e b => if a = b then .error (flt (wB t n p) 1) else k e b)) :
    Ok (f_X9_readPlace_q14 S (nI a)) (fun o => ∃ v g, o = (nI v, nI (nE t n p), nI (wB t n p), nI g) ∧ v ≤ 1000 ∧ ct R g (k (nE t n p) v) ∧ (g = 0 → f = 0 ∧ v < N ∧ v ≤ 99 ∧ wB t n p < nE t n p ∧ a ≠ v)) := by
  have hq := wB_le (t := t) hp
  have h4 := ht.2.1
  unfold f_X9_readPlace_q14
  refine ok_bd (x_number (S := wd_o S [(1402, (S.1 1402)), (1403, (S.1 1403)), (1404, (S.1 1404))] [] [] [] []) ht h hp hf (lo := 0) rfl (by omega) (le_sub1 (N := N) (by omega) h3) hR) ?_
  rintro _ ⟨v, g, rfl, v1, v2, v3⟩
  dsimp only
  refine ok_ite (fun c => ?_) (fun c => ?_)
  · rw [nI_eq (by omega) (by omega)] at c
    rw [bd_s (x_blame (S := wd_o S [(1402, nI (nE t n p)), (1403, nI (wB t n p)), (1404, nI g)] [] [] [] []) (q := wB t n p) (k := 1) (p2 := (1 : Int32)) (f := g) (by omega) (by omega) rfl rfl (by have := v2.1; omega))]
    by_cases g0 : g = 0
    · rw [if_pos c.symm] at v2
      have := ct_blame (k (nE t n p) v) v2 rfl (by omega) (by omega)
      exact ok_some ⟨v, _, rfl, v1, this.2, fun z => absurd z this.1⟩
    · rw [if_neg g0]
      exact ok_some ⟨v, g, rfl, v1, ct_f v2 _ g0, fun z => absurd z g0⟩
  · rw [nI_eq (by omega) (by omega)] at c
    rw [if_neg (fun z => c z.symm)] at v2
    exact ok_some ⟨v, g, rfl, v1, v2, fun z => ⟨(v3 z).1, (v3 z).2.2.1, (v3 z).2.2.2.1, (v3 z).2.2.2.2, fun z => c z.symm⟩⟩
