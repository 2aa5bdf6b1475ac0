section Loops1
variable {E : EN} {h : TH} {a1 a2 a3 a4 x : Int32}
/-- a loop from 0 up to C, told from its end -/
theorem run_dn (C : Nat) (Wp : Nat → Prop) (hx : Wp C) (hs : ∀ i, i < C → Wp (i + 1) → Wp i) : Wp 0 := by
  have h1 : ∀ k, k ≤ C → Wp (C - k) := by
    intro k
    induction k with
    | zero => intro _; exact hx
    | succ k ih =>
      intro hk
      have h2 := ih (by omega)
      refine hs _ (by omega) ?_
      rw [show C - (k + 1) + 1 = C - k by omega]
      exact h2
  have h3 := h1 C (Nat.le_refl _)
  rw [Nat.sub_self] at h3
  exact h3
theorem le_nI {n m : Nat} (hn : n < 2 ^ 31) (hm : m < 2 ^ 31) : (nI n ≤ nI m) ↔ n ≤ m := nI_leI hn hm
/-- how many of the first n are x -/
def cnt (f : Nat → Int32) (x : Int32) : Nat → Int32
  | 0 => 0
  | n + 1 => if f n = x then cnt f x n + 1 else cnt f x n
theorem cnt_congr {f g : Nat → Int32} {x : Int32} : ∀ (n : Nat), (∀ i, i < n → f i = g i) → cnt f x n = cnt g x n
  | 0, _ => rfl
  | n + 1, hh => by
    unfold cnt
    rw [hh n (Nat.lt_succ_self n), cnt_congr n (fun i hi => hh i (Nat.lt_succ_of_lt hi))]
theorem x_many {C : Nat} {Q : Int32 → TH → Prop} (hC : h 2 0 1 = nI C) (hC10 : C ≤ 10) (hQ : Q (cnt (fun i => h 4 i 0) x C) h) : wi E MX1_howManyPaidBy Q 0 [some (rf 2 0), some (.int x), none, none] [] h := by
  refine sX1_howManyPaidBy_0 ?_
  unfold SX1_howManyPaidBy_0
  refine run_dn C (fun i => wi E MX1_howManyPaidBy Q 4 [some (rf 2 0), some (.int x), some (.int (cnt (fun i => h 4 i 0) x i)), some (.int (nI i))] [] h) ?_ ?_
  · refine sX1_howManyPaidBy_4 ?_
    simp [-Int32.not_le, -Int32.not_lt, SX1_howManyPaidBy_4, hC]
    exact hQ
  · intro i hi hw
    refine sX1_howManyPaidBy_4 ?_
    by_cases g : h 4 i 0 = x
    · simp [-Int32.not_le, -Int32.not_lt, SX1_howManyPaidBy_4, hC, le_nI (show C < 2 ^ 31 by omega) (show i < 2 ^ 31 by omega), show ¬ C ≤ i by omega, vin (show i < 10 by omega), ncl (show i ≤ 100000 by omega), g, nI_1]
      simp only [cnt, g, if_true] at hw
      exact hw
    · simp [-Int32.not_le, -Int32.not_lt, SX1_howManyPaidBy_4, hC, le_nI (show C < 2 ^ 31 by omega) (show i < 2 ^ 31 by omega), show ¬ C ≤ i by omega, vin (show i < 10 by omega), ncl (show i ≤ 100000 by omega), g, nI_1]
      simp only [cnt, if_neg g] at hw
      exact hw
theorem m_as_loop {C : Nat} {Q : Int32 → TH → Prop} (hC : h 28 0 1 = nI C) (hC10 : C ≤ 10) (hQ : Q (cnt (h 30 0) x C) h) : wi E MX7_as Q 49 [some (rf 28 0), some (.int x), none, some (.int 0), some (.int 0)] [] h := by
  refine run_dn C (fun i => wi E MX7_as Q 49 [some (rf 28 0), some (.int x), none, some (.int (cnt (h 30 0) x i)), some (.int (nI i))] [] h) ?_ ?_
  · refine sX7_as_49 ?_
    simp [-Int32.not_le, -Int32.not_lt, SX7_as_49, hC]
    exact hQ
  · intro i hi hw
    refine sX7_as_49 ?_
    by_cases g : h 30 0 i = x
    · simp [-Int32.not_le, -Int32.not_lt, SX7_as_49, hC, le_nI (show C < 2 ^ 31 by omega) (show i < 2 ^ 31 by omega), show ¬ C ≤ i by omega, vin (show i < 10 by omega), ncl (show i ≤ 100000 by omega), g, nI_1]
      simp only [cnt, g, if_true] at hw
      exact hw
    · simp [-Int32.not_le, -Int32.not_lt, SX7_as_49, hC, le_nI (show C < 2 ^ 31 by omega) (show i < 2 ^ 31 by omega), show ¬ C ≤ i by omega, vin (show i < 10 by omega), ncl (show i ≤ 100000 by omega), g, nI_1]
      simp only [cnt, if_neg g] at hw
      exact hw
theorem op_as (I : Inv h) : wi E MX6_as (fun r1 h1 => wi E MX7_as (fun r2 h2 => Same r1 r2 h2) 0 [some (rf 28 0), some (.int a1), some (.int a2), none, none] [] h1) 0 [some (rf 0 0), some (.int a1), some (.int a2)] [] h := by
  obtain ⟨P, C, W, K, N, A, O, D, I⟩ := id I
  obtain ⟨JP0, JD0, JF0, JQ0, JL0, JC0, JV0, JK0, JN0, JA0⟩ := id I
  obtain ⟨p1, p2, p3, p4, p5, p6⟩ := id JP0
  obtain ⟨c1, c2, c3, c4, c5, c6⟩ := id JC0
  refine sX6_as ?_
  by_cases g1 : inn a1 0 (nI P - 1)
  · obtain ⟨i, hi, rfl⟩ := (inn_nI (by omega)).mp g1
    have v1 := vin (show i < 12 by omega) (by omega)
    have v2 := ncl (show i ≤ 100000 by omega)
    have hk := p5 i (by omega)
    by_cases g2 : inn a2 0 3
    · by_cases g3 : knd (h 29 0 i) a2
      · simp only [SX6_as, w_xisParty, w_isKindNumber, w_isOfKind v1, p1, v2, hk, if_pos g1, if_pos g2, if_pos g3, b01]
        refine ⟨fun z => absurd z (by decide), fun _ => ⟨fun _ => ⟨fun _ => ?_, fun z => absurd g3 z⟩, fun z => absurd z (by decide)⟩⟩
        refine x_many c1 c3 ?_
        refine sX7_as_0 ?_
        simp only [SX7_as_0, w_misParty, w_isIn, w_isUnder, p2, v1, v2, if_pos g1, if_pos g2, if_pos g3, b01]
        refine ⟨fun z => absurd z (by decide), fun _ => ⟨fun _ => ⟨trivial, fun _ => ?_, fun z => absurd g3 z⟩, fun z => absurd z (by decide)⟩⟩
        refine m_as_loop c2 c3 ⟨cnt_congr C (fun j hj => (c4 j hj).1.1), P, C, W, K, N, A, O, D, I⟩
      · simp only [SX6_as, w_xisParty, w_isKindNumber, w_isOfKind v1, p1, v2, hk, if_pos g1, if_pos g2, if_neg g3, f5]
        refine ⟨fun z => absurd z (by decide), fun _ => ⟨fun _ => ⟨fun z => (z trivial).elim, fun _ => ?_⟩, fun z => absurd z (by decide)⟩⟩
        refine sX7_as_0 ?_
        simp only [SX7_as_0, w_misParty, w_isIn, w_isUnder, up_o, up_k, up_s, fx_o, fm_o, ne_eq, Nat.reduceEqDiff, not_false_eq_true, p2, v1, v2, if_pos g1, if_pos g2, if_neg g3, m5]
        exact ⟨fun z => absurd z (by decide), fun _ => ⟨fun _ => ⟨trivial, fun z => (z trivial).elim, fun _ => fin_same I⟩, fun z => absurd z (by decide)⟩⟩
    · simp [-Int32.not_le, -Int32.not_lt, SX6_as, w_xisParty, w_isKindNumber, p1, g1, g2, f1]
      refine sX7_as_0 ?_
      simp [-Int32.not_le, -Int32.not_lt, SX7_as_0, w_misParty, w_isIn, up_o, up_k, up_s, fx_o, fm_o, ne_eq, Nat.reduceEqDiff, not_false_eq_true, p2, g1, g2, m1]
      exact fin_same I
  · simp [-Int32.not_le, -Int32.not_lt, SX6_as, w_xisParty, p1, g1, f1]
    refine sX7_as_0 ?_
    simp [-Int32.not_le, -Int32.not_lt, SX7_as_0, w_misParty, up_o, up_k, up_s, fx_o, fm_o, ne_eq, Nat.reduceEqDiff, not_false_eq_true, p2, g1, m1]
    exact fin_same I
/-- the contract whose payee is x, among the first n (the last of them) -/
def cto (f : Nat → Int32) (x : Int32) : Nat → Int32
  | 0 => -1
  | n + 1 => if f n = x then nI n else cto f x n
theorem cto_none {f : Nat → Int32} {x : Int32} : ∀ (n : Nat), (∀ i, i < n → ¬ f i = x) → cto f x n = -1
  | 0, _ => rfl
  | n + 1, hh => by
    unfold cto
    rw [if_neg (hh n (Nat.lt_succ_self n)), cto_none n (fun i hi => hh i (Nat.lt_succ_of_lt hi))]
theorem cto_some {f : Nat → Int32} {x : Int32} {j : Nat} : ∀ (n : Nat), j < n → f j = x → (∀ i, i < n → f i = x → i = j) → cto f x n = nI j
  | 0, hj, _, _ => absurd hj (Nat.not_lt_zero j)
  | n + 1, hj, hx, hu => by
    unfold cto
    by_cases g : f n = x
    · rw [if_pos g, hu n (Nat.lt_succ_self n) g]
    · rw [if_neg g]
      refine cto_some n ?_ hx (fun i hi => hu i (Nat.lt_succ_of_lt hi))
      rcases Nat.lt_or_ge j n with q | q
      · exact q
      · have : j = n := by omega
        subst this
        exact absurd hx g
theorem m_cto {C : Nat} {Q : Int32 → TH → Prop} (hC : h 28 0 1 = nI C) (hC10 : C ≤ 10) (hQ : Q (cto (h 31 0) x C) h) : wi E MX7_contractTo Q 0 [some (rf 28 0), some (.int x), none, none] [] h := by
  refine sX7_contractTo_0 ?_
  unfold SX7_contractTo_0
  refine run_dn C (fun i => wi E MX7_contractTo Q 4 [some (rf 28 0), some (.int x), some (.int (cto (h 31 0) x i)), some (.int (nI i))] [] h) ?_ ?_
  · refine sX7_contractTo_4 ?_
    simp [-Int32.not_le, -Int32.not_lt, SX7_contractTo_4, hC]
    exact hQ
  · intro i hi hw
    refine sX7_contractTo_4 ?_
    by_cases g : h 31 0 i = x
    · simp [-Int32.not_le, -Int32.not_lt, SX7_contractTo_4, hC, le_nI (show C < 2 ^ 31 by omega) (show i < 2 ^ 31 by omega), show ¬ C ≤ i by omega, vin (show i < 10 by omega), ncl (show i ≤ 100000 by omega), g, nI_1]
      simp only [cto, g, if_true] at hw
      exact hw
    · simp [-Int32.not_le, -Int32.not_lt, SX7_contractTo_4, hC, le_nI (show C < 2 ^ 31 by omega) (show i < 2 ^ 31 by omega), show ¬ C ≤ i by omega, vin (show i < 10 by omega), ncl (show i ≤ 100000 by omega), g, nI_1]
      simp only [cto, if_neg g] at hw
      exact hw
theorem x_who {C : Nat} {f : Nat → Int32} {Q : Int32 → TH → Prop} (hC : h 2 0 1 = nI C) (hC10 : C ≤ 10) (hf : ∀ j, j < C → h 4 j 1 = f j) (hu : ∀ i j, i < C → j < C → f i = f j → i = j) (hQ : Q (cto f x C) h) : wi E MX1_whosePayeeIs Q 0 [some (rf 2 0), some (.int x), none] [] h := by
  refine sX1_whosePayeeIs_0 ?_
  unfold SX1_whosePayeeIs_0
  have key : (∀ j, j < 0 → ¬ f j = x) → wi E MX1_whosePayeeIs Q 2 [some (rf 2 0), some (.int x), some (.int (nI 0))] [] h := by
    refine run_dn C (fun i => (∀ j, j < i → ¬ f j = x) → wi E MX1_whosePayeeIs Q 2 [some (rf 2 0), some (.int x), some (.int (nI i))] [] h) ?_ ?_
    · intro hno
      refine sX1_whosePayeeIs_2 ?_
      simp [-Int32.not_le, -Int32.not_lt, SX1_whosePayeeIs_2, hC]
      rw [cto_none C hno] at hQ
      exact hQ
    · intro i hi hw hno
      refine sX1_whosePayeeIs_2 ?_
      have hfi := hf i hi
      by_cases g : f i = x
      · simp [-Int32.not_le, -Int32.not_lt, SX1_whosePayeeIs_2, hC, le_nI (show C < 2 ^ 31 by omega) (show i < 2 ^ 31 by omega), show ¬ C ≤ i by omega, vin (show i < 10 by omega), ncl (show i ≤ 100000 by omega), hfi, g]
        rw [cto_some C hi g (fun k hk hkx => hu k i hk hi (hkx.trans g.symm))] at hQ
        exact hQ
      · simp [-Int32.not_le, -Int32.not_lt, SX1_whosePayeeIs_2, hC, le_nI (show C < 2 ^ 31 by omega) (show i < 2 ^ 31 by omega), show ¬ C ≤ i by omega, vin (show i < 10 by omega), ncl (show i ≤ 100000 by omega), hfi, g, nI_1]
        refine hw (fun j hj => ?_)
        rcases Nat.lt_or_ge j i with q | q
        · exact hno j q
        · rw [show j = i by omega]
          exact g
  exact key (fun j hj => absurd hj (Nat.not_lt_zero j))
/-- WAIVED of a contract, by the model -/
theorem m_waived {W c : Nat} {Q : Int32 → TH → Prop} (hW : h 28 0 4 = nI W) (hW20 : W ≤ 20) (hc : c < 10) (hQ : Q (wvd (h 39 0) (h 40 0) (h 41 0) (nI c) (h 33 0 c) W) h) : wi E MX7_waived Q 0 [some (rf 28 0), some (.int (nI c)), none, none, none] [] h := by
  refine sX7_waived_0 ?_
  unfold SX7_waived_0
  refine run_dn W (fun i => wi E MX7_waived Q 4 [some (rf 28 0), some (.int (nI c)), some (.int (wvd (h 39 0) (h 40 0) (h 41 0) (nI c) (h 33 0 c) i)), some (.int (nI i)), none] [] h) ?_ ?_
  · refine sX7_waived_4 ?_
    simp [-Int32.not_le, -Int32.not_lt, SX7_waived_4, hW]
    exact hQ
  · intro i hi hw
    refine sX7_waived_4 ?_
    simp only [SX7_waived_4, hW, le_nI (show W < 2 ^ 31 by omega) (show i < 2 ^ 31 by omega), show (W ≤ i) = False from eq_false (by omega), false_implies, not_false_eq_true, true_implies, true_and, vin (show i < 20 by omega) (by omega), vin hc (by omega), ncl (show i ≤ 100000 by omega), ncl (show c ≤ 100000 by omega), nI_1]
    simp only [wvd] at hw
    refine ⟨fun g1 => ?_, fun g1 => ⟨fun g2 => ⟨fun g3 => ?_, fun g3 => ?_⟩, fun g2 => ⟨fun g3 => ?_, fun g3 => ⟨fun g4 => ?_, fun g4 => ?_⟩⟩⟩⟩
    · rw [if_neg (fun z => g1 z.1.1)] at hw; exact hw
    · rw [if_neg (fun z => z.2 g3)] at hw; exact hw
    · rw [if_pos ⟨⟨g1, Or.inl g2⟩, g3⟩] at hw; exact hw
    · rw [if_neg (fun z => z.1.2.elim g2 (fun q => q g3))] at hw; exact hw
    · rw [if_neg (fun z => z.2 g4)] at hw; exact hw
    · rw [if_pos ⟨⟨g1, Or.inr g3⟩, g4⟩] at hw; exact hw
end Loops1
