section InvDef
/-! what holds between two calls, in parts; each part is told of the cells that it looks at -/
def JP (P : Nat) (p1 p2 : Int32) (k1 k2 : Nat → Int32) : Prop := p1 = nI P ∧ p2 = nI P ∧ 1 ≤ P ∧ P ≤ 12 ∧ (∀ i, i < 12 → k1 i = k2 i) ∧ k1 0 = 0
def JD (D : Nat) (d1 d2 : Int32) : Prop := d1 = nI D ∧ d2 = nI D ∧ D ≤ 5000
def JF (f1 f2 : Nat → Int32) : Prop := ∀ k, k < 6 → f1 k = f2 k
def JQ (w1 w2 : Int32) (a1 a2 : Nat → Int32) : Prop := ∃ n : Nat, n ≤ 16 ∧ w1 = nI n ∧ w2 = nI n ∧ ∀ i, i < 16 → a1 i = a2 i
def JL (l1 l2 : Nat → Int32) : Prop := ∀ j, j < 6 → l1 j = l2 j ∧ oLeast j ≤ l1 j ∧ l1 j ≤ oMost j
/-- a day that is told, or none (-1) -/
def day0 (D : Nat) (x : Int32) : Prop := x = -1 ∨ ∃ d : Nat, d ≤ D ∧ x = nI d
/-- a span of days, or none -/
def span0 (D : Nat) (x y : Int32) : Prop := (x = -1 ∧ y = -1) ∨ ∃ d e : Nat, d ≤ e ∧ e ≤ D ∧ x = nI d ∧ y = nI e
/-- a contract's row against the arrays, at i -/
def rowC (D : Nat) (R : Nat → Nat → Int32) (payer payee sum paid noticed bf bl ef el : Nat → Int32) (i : Nat) : Prop :=
  (R i 0 = payer i ∧ R i 1 = payee i ∧ R i 5 = sum i ∧ R i 6 = paid i ∧ R i 8 = noticed i ∧ R i 9 = bf i ∧ R i 10 = bl i ∧ R i 11 = ef i ∧ R i 12 = el i) ∧
  (∃ s p : Nat, 1 ≤ s ∧ s ≤ 1000000 ∧ p ≤ s ∧ sum i = nI s ∧ paid i = nI p) ∧ day0 D (noticed i) ∧ span0 D (bf i) (bl i) ∧ span0 D (ef i) (el i)
/-- a row that is not in use -/
def rowF (R : Nat → Nat → Int32) (i : Nat) : Prop := R i 2 = -1 ∧ R i 3 = 0 ∧ R i 4 = 1 ∧ R i 6 = 0 ∧ R i 7 = 0 ∧ R i 8 = -1 ∧ R i 9 = -1 ∧ R i 10 = -1 ∧ R i 11 = -1 ∧ R i 12 = -1
/-- the chain of contracts -/
def rowT (P C : Nat) (R : Nat → Nat → Int32) (payer payee : Nat → Int32) (i : Nat) : Prop :=
  (∃ q : Nat, q < P ∧ q ≠ 0 ∧ payee i = nI q) ∧ (∀ j, j < C → payee j = payee i → j = i) ∧
  ((payer i = 0 ∧ R i 2 = -1 ∧ R i 3 = 0 ∧ R i 4 = 1) ∨ (¬ payer i = 0 ∧ ∃ u : Nat, u < i ∧ payee u = payer i ∧ R i 2 = nI u ∧ R i 3 = (R u 3 ||| (1 <<< (nI u &&& 31))) ∧ R i 4 = R u 4 + 1))
def JC (C D P : Nat) (c1 c2 : Int32) (R : Nat → Nat → Int32) (payer payee sum paid noticed bf bl ef el : Nat → Int32) : Prop :=
  c1 = nI C ∧ c2 = nI C ∧ C ≤ 10 ∧ (∀ i, i < C → rowC D R payer payee sum paid noticed bf bl ef el i) ∧ (∀ i, C ≤ i → i < 10 → rowF R i) ∧ ∀ i, i < C → rowT P C R payer payee i
/-- WAIVED by the first n waivers -/
def wvd (f up cd : Nat → Int32) (c paid : Int32) : Nat → Int32
  | 0 => 0
  | n + 1 => if (f n = c ∧ (cd n = 0 ∨ ¬ paid < up n)) ∧ ¬ up n ≤ wvd f up cd c paid n then up n else wvd f up cd c paid n
def JV (W C : Nat) (w1 w2 : Int32) (f1 u1 d1 f2 u2 d2 : Nat → Int32) (R : Nat → Nat → Int32) (paid : Nat → Int32) : Prop :=
  w1 = nI W ∧ w2 = nI W ∧ W ≤ 20 ∧ (∀ i, i < W → (f1 i = f2 i ∧ u1 i = u2 i ∧ d1 i = d2 i) ∧ isB (d2 i) ∧ (∃ c : Nat, c < C ∧ f2 i = nI c) ∧ ∃ u : Nat, u ≤ 1000000 ∧ u2 i = nI u) ∧
  ∀ c, c < C → R c 7 = wvd f2 u2 d2 (nI c) (paid c) W
def JK (K C D : Nat) (k1 k2 : Int32) (Rk : Nat → Nat → Int32) (cof amt fil sue bnd bf : Nat → Int32) : Prop :=
  k1 = nI K ∧ k2 = nI K ∧ K ≤ 16 ∧ (∀ i, i < K → (Rk i 0 = cof i ∧ Rk i 1 = amt i ∧ Rk i 2 = fil i ∧ Rk i 3 = sue i ∧ Rk i 4 = bnd i) ∧ (∃ c : Nat, c < C ∧ cof i = nI c ∧ ¬ bf c = -1) ∧
    (∃ a : Nat, 1 ≤ a ∧ a ≤ 1000000 ∧ amt i = nI a) ∧ (∃ d : Nat, d ≤ D ∧ fil i = nI d) ∧ day0 D (sue i) ∧ isB (bnd i)) ∧ ∀ i, K ≤ i → i < 16 → Rk i 3 = -1 ∧ Rk i 4 = 0
def JN (N D : Nat) (n1 n2 : Int32) (s1 d1 s2 d2 : Nat → Int32) : Prop :=
  n1 = nI N ∧ n2 = nI N ∧ N ≤ 6 ∧ ∀ i, i < N → s1 i = s2 i ∧ d1 i = d2 i ∧ (∃ s : Nat, 1 ≤ s ∧ s ≤ 1000000 ∧ s2 i = nI s) ∧ ∃ d : Nat, d ≤ D ∧ d2 i = nI d
/-- the sum over those of the first n that are meant -/
def sT (ok : Nat → Bool) (l : Nat → Nat) : Nat → Nat
  | 0 => 0
  | n + 1 => if ok n = true then sT ok l n + l n else sT ok l n
/-- what an OUT of s leaves of each IN that is meant: the first go first; of n INS the last go first -/
def fwd (ok : Nat → Bool) (l : Nat → Nat) (s i : Nat) : Nat := if ok i = true then l i - (s - sT ok l i) else l i
def bwd (ok : Nat → Bool) (l : Nat → Nat) (s n i : Nat) : Nat := if ok i = true then l i - (s - (sT ok l n - sT ok l (i + 1))) else l i
def isP (par : Nat → Int32) (p : Int32) (i : Nat) : Bool := decide (par i = p)
def isO (par pur : Nat → Int32) (p : Int32) (i : Nat) : Bool := decide (par i = p ∧ pur i = -1)
def isT (par pur : Nat → Int32) (p : Int32) (i : Nat) : Bool := decide (par i = p ∧ ¬ pur i = -1)
/-- what an OUT of a party does to n INS by a rule -/
def outN (r n : Nat) (par pur : Nat → Int32) (p : Int32) (l : Nat → Nat) (s : Nat) : Nat → Nat :=
  if r = 1 then bwd (isP par p) l s n
  else if r = 2 then fwd (isT par pur p) (fwd (isO par pur p) l s) (s - sT (isO par pur p) l n)
  else fwd (isP par p) l s
/-- how many INS are among the first e events -/
def evI (ev : Nat → Int32) : Nat → Nat
  | 0 => 0
  | e + 1 => if ev e < 100 then evI ev e + 1 else evI ev e
def cN (f : Nat → Int32) (i : Nat) : Nat := (f i).toNatClampNeg
/-- TRACED by a rule behind the first e events -/
def trN (r : Nat) (par pur coin opar ocoin ev : Nat → Int32) : Nat → Nat → Nat
  | 0 => fun _ => 0
  | e + 1 => if ev e < 100 then (fun i => if i = evI ev e then cN coin i else trN r par pur coin opar ocoin ev e i)
    else outN r (evI ev e) par pur (opar (e - evI ev e)) (trN r par pur coin opar ocoin ev e) (cN ocoin (e - evI ev e))
/-- event e is an IN, or an OUT -/
def evOk (A O : Nat) (ev : Nat → Int32) (e : Nat) : Prop :=
  (ev e = nI (evI ev e) ∧ ev e < 100 ∧ evI ev e < A) ∨ (ev e = nI (100 + (e - evI ev e)) ∧ ¬ ev e < 100 ∧ evI ev e ≤ A ∧ e - evI ev e < O)
def JA (A O : Nat) (i1 o1 i2 o2 e2 : Int32) (hold purp : Nat → Int32) (left : Nat → Nat → Int32) (par pur coin opar ocoin ev : Nat → Int32) : Prop :=
  i1 = nI A ∧ i2 = nI A ∧ o1 = nI O ∧ o2 = nI O ∧ e2 = nI (A + O) ∧ A ≤ 40 ∧ O ≤ 40 ∧ evI ev (A + O) = A ∧ (∀ e, e < A + O → evOk A O ev e) ∧
  (∀ i, i < A → hold i = par i ∧ purp i = pur i ∧ ∃ c : Nat, 1 ≤ c ∧ c ≤ 100000 ∧ coin i = nI c) ∧ (∀ i, i < O → ∃ c : Nat, 1 ≤ c ∧ c ≤ 1000000 ∧ ocoin i = nI c) ∧
  (∀ r, r < 3 → ∀ i, i < A → left r i = nI (trN r par pur coin opar ocoin ev (A + O) i)) ∧
  ∀ p, sT (isP par p) (trN 0 par pur coin opar ocoin ev (A + O)) A + sT (isP opar p) (cN ocoin) O = sT (isP par p) (cN coin) A
def InvC (P C W K N A O D : Nat) (h : TH) : Prop :=
  JP P (h 0 0 1) (h 28 0 0) (h 1 0) (h 29 0) ∧ JD D (h 0 0 6) (h 28 0 8) ∧ JF (h 27 0) (h 57 0) ∧ JQ (h 0 0 8) (h 28 0 9) (h 26 0) (h 56 0) ∧ JL (h 9 0) (h 42 0) ∧
  JC C D P (h 2 0 1) (h 28 0 1) (h 4) (h 30 0) (h 31 0) (h 32 0) (h 33 0) (h 34 0) (h 35 0) (h 36 0) (h 37 0) (h 38 0) ∧
  JV W C (h 2 0 5) (h 28 0 4) (h 5 0) (h 6 0) (h 7 0) (h 39 0) (h 40 0) (h 41 0) (h 4) (h 33 0) ∧
  JK K C D (h 8 0 3) (h 28 0 2) (h 11) (h 43 0) (h 44 0) (h 45 0) (h 46 0) (h 47 0) (h 35 0) ∧
  JN N D (h 15 0 3) (h 28 0 3) (h 16 0) (h 17 0) (h 48 0) (h 49 0) ∧
  JA A O (h 21 0 3) (h 21 0 4) (h 28 0 5) (h 28 0 6) (h 28 0 7) (h 22 0) (h 23 0) (h 25) (h 50 0) (h 51 0) (h 52 0) (h 53 0) (h 54 0) (h 55 0)
def Inv (h : TH) : Prop := ∃ P C W K N A O D : Nat, InvC P C W K N A O D h
/-- both sides told the same finding -/
theorem fin_ok {P C W K N A O D k : Nat} {h : TH} (I : InvC P C W K N A O D h) : InvC P C W K N A O D (fm (fx h k) k) := by
  unfold InvC at I ⊢
  simp only [fm, fx, up_o, ne_eq, Nat.reduceEqDiff, not_false_eq_true]
  refine ⟨I.1, I.2.1, fun j hj => ?_, I.2.2.2⟩
  have h1 := I.2.2.1
  have e : up h 27 0 k (h 27 0 k + 1) 57 = h 57 := up_o (by decide)
  rw [up_a, up_a, e]
  by_cases hjk : j = k
  · subst hjk
    rw [if_pos rfl, if_pos rfl, h1 j hj]
  · rw [if_neg hjk, if_neg hjk, h1 j hj]
end InvDef
