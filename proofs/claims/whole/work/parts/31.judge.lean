section Judge
variable {E : EN} {h hh : TH} {a1 a2 a3 a4 x d : Int32}
def vdt (a : Int32) : Int32 := if a = 0 then 2 else if a ≤ 10 then 0 else 1
theorem w_verdict {Q : Int32 → TH → Prop} : SX4_verdictOfBar E x h Q ↔ Q (vdt x) h := by
  unfold SX4_verdictOfBar vdt
  by_cases g1 : x = 0
  · simp only [g1, true_implies, not_true_eq_false, false_implies, true_and, if_true]
  · by_cases g2 : x ≤ 10
    · simp only [g1, g2, true_implies, not_true_eq_false, false_implies, not_false_eq_true, and_true, if_true, if_false]
    · simp only [g1, g2, true_implies, false_implies, not_false_eq_true, and_true, true_and, if_false]
theorem bar_eq {v : Nat → Int32} (h1 : v 1 = 0 ∨ v 1 = 2) (h4 : v 4 = 0 ∨ v 4 = 2) (h5 : v 5 = 0 ∨ v 5 = 2) :
    barV v = (if fbar v 2 ≤ 0 then (if fbar v 1 ≤ 0 then 0 else 10 + fbar v 1) else fbar v 2) ∧ vdt (barV v) = jdg v := by
  have n1 : ¬ v 1 = 1 := by rcases h1 with e | e <;> rw [e] <;> decide
  have n4 : ¬ v 4 = 1 := by rcases h4 with e | e <;> rw [e] <;> decide
  have n5 : ¬ v 5 = 1 := by rcases h5 with e | e <;> rw [e] <;> decide
  unfold jdg barV fbar
  simp only [if_neg n1, if_neg n4, if_neg n5]
  by_cases g1 : v 1 = 2
  · simp only [if_pos g1]
    exact ⟨by rw [if_neg (by decide)], by rw [if_neg (by decide)]; decide⟩
  simp only [if_neg g1]
  by_cases g2 : v 2 = 2
  · simp only [if_pos g2]
    exact ⟨by rw [if_neg (by decide)], by rw [if_neg (by decide)]; decide⟩
  simp only [if_neg g2]
  by_cases g3 : v 3 = 2
  · simp only [if_pos g3]
    exact ⟨by rw [if_neg (by decide)], by rw [if_neg (by decide)]; decide⟩
  simp only [if_neg g3]
  by_cases g4 : v 4 = 2
  · simp only [if_pos g4]
    exact ⟨by rw [if_neg (by decide)], by rw [if_neg (by decide)]; decide⟩
  simp only [if_neg g4]
  by_cases g5 : v 5 = 2
  · simp only [if_pos g5]
    exact ⟨by rw [if_neg (by decide)], by rw [if_neg (by decide)]; decide⟩
  simp only [if_neg g5]
  by_cases g6 : v 2 = 1
  · simp only [if_pos g6]; decide
  simp only [if_neg g6]
  by_cases g7 : v 3 = 1
  · simp only [if_pos g7]; decide
  simp only [if_neg g7]
  decide
theorem op_judge (I : Inv h) : wi E MX6_judge (fun r1 h1 => wi E MX7_judge (fun r2 h2 => Same r1 r2 h2) 0 [some (rf 28 0), some (.int a1), some (.int a2)] [] h1) 0 [some (rf 0 0), some (.int a1), some (.int a2)] [] h := by
  obtain ⟨P, C, W, K, N, A, O, D, I⟩ := id I
  obtain ⟨JP0, JD0, JF0, JQ0, JL0, JC0, JV0, JK0, JN0, JA0⟩ := id I
  obtain ⟨k1, k2, k3, k4, k5⟩ := id JK0
  refine sX6_judge ?_
  by_cases g1 : inn a1 0 (nI K - 1)
  · obtain ⟨k, hk, rfl⟩ := (inn_nI (by omega)).mp g1
    have v1 := vin (show k < 16 by omega) (by omega)
    have v2 := ncl (show k ≤ 100000 by omega)
    obtain ⟨⟨b0, b1, b2, b3, b4⟩, ⟨c, bc1, bc2, bc3⟩, -, -, -, -⟩ := k4 k hk
    by_cases g2 : inn a2 (h 45 0 k) 5000
    · simp only [SX6_judge, SX6_isJudgeable, w_khas, w_within, k1, v1, v2, b2, if_pos g1, if_pos g2]
      refine ⟨fun z => absurd z (by decide), fun _ => ⟨trivial, fun z => absurd z (by decide), fun _ => ⟨fun _ => ?_, fun z => absurd z (by decide)⟩⟩⟩
      refine x_barOn JC0 JL0 JK0 JD0.2.2 hk bc2 bc1 (w_verdict.mpr ?_)
      refine sX7_judge ?_
      simp only [SX7_judge, SX7_isJudgeable, w_isClaim, w_isIn, k2, v1, v2, if_pos g1, if_pos g2]
      refine ⟨fun z => absurd z (by decide), fun _ => ⟨trivial, fun z => absurd z (by decide), fun _ => ⟨fun z => absurd z (by decide), fun _ => ?_⟩⟩⟩
      obtain ⟨w1, w4, w5⟩ := brd_vals (h := h) (c := c) (k := k) (d := a2) (b := 0)
      exact m_judged JC0 JV0 (by omega) bc1 bc2 ⟨(bar_eq w1 w4 w5).2, P, C, W, K, N, A, O, D, I⟩
    · simp only [SX6_judge, SX6_isJudgeable, w_khas, w_within, k1, v1, v2, b2, if_pos g1, if_neg g2]
      refine ⟨fun z => absurd z (by decide), fun _ => ⟨trivial, fun _ => ⟨fun z => (z trivial).elim, fun _ => f1.mpr ?_⟩, fun z => (z trivial).elim⟩⟩
      refine sX7_judge ?_
      simp only [SX7_judge, SX7_isJudgeable, w_isClaim, w_isIn, up_o, up_k, up_s, fx_o, fm_o, ne_eq, Nat.reduceEqDiff, not_false_eq_true, k2, v1, v2, if_pos g1, if_neg g2]
      exact ⟨fun z => absurd z (by decide), fun _ => ⟨trivial, fun _ => ⟨fun _ => m1.mpr (fin_same I), fun z => (z trivial).elim⟩, fun z => (z trivial).elim⟩⟩
  · simp only [SX6_judge, SX6_isJudgeable, w_khas, k1, if_neg g1]
    refine ⟨fun _ => ⟨fun z => (z trivial).elim, fun _ => f1.mpr ?_⟩, fun z => (z trivial).elim⟩
    refine sX7_judge ?_
    simp only [SX7_judge, SX7_isJudgeable, w_isClaim, up_o, up_k, up_s, fx_o, fm_o, ne_eq, Nat.reduceEqDiff, not_false_eq_true, k2, if_neg g1]
    exact ⟨fun _ => ⟨fun _ => m1.mpr (fin_same I), fun z => (z trivial).elim⟩, fun z => (z trivial).elim⟩
theorem op_bar (I : Inv h) : wi E MX6_bar (fun r1 h1 => wi E MX7_bar (fun r2 h2 => Same r1 r2 h2) 0 [some (rf 28 0), some (.int a1), some (.int a2), none, none] [] h1) 0 [some (rf 0 0), some (.int a1), some (.int a2)] [] h := by
  obtain ⟨P, C, W, K, N, A, O, D, I⟩ := id I
  obtain ⟨JP0, JD0, JF0, JQ0, JL0, JC0, JV0, JK0, JN0, JA0⟩ := id I
  obtain ⟨k1, k2, k3, k4, k5⟩ := id JK0
  refine sX6_bar ?_
  by_cases g1 : inn a1 0 (nI K - 1)
  · obtain ⟨k, hk, rfl⟩ := (inn_nI (by omega)).mp g1
    have v1 := vin (show k < 16 by omega) (by omega)
    have v2 := ncl (show k ≤ 100000 by omega)
    obtain ⟨⟨b0, b1, b2, b3, b4⟩, ⟨c, bc1, bc2, bc3⟩, -, -, -, -⟩ := k4 k hk
    by_cases g2 : inn a2 (h 45 0 k) 5000
    · simp only [SX6_bar, SX6_isJudgeable, w_khas, w_within, k1, v1, v2, b2, if_pos g1, if_pos g2]
      refine ⟨fun z => absurd z (by decide), fun _ => ⟨trivial, fun z => absurd z (by decide), fun _ => ⟨fun _ => ?_, fun z => absurd z (by decide)⟩⟩⟩
      refine x_barOn JC0 JL0 JK0 JD0.2.2 hk bc2 bc1 ?_
      refine sX7_bar ?_
      simp only [SX7_bar, SX7_isJudgeable, w_isClaim, w_isIn, k2, v1, v2, if_pos g1, if_pos g2]
      refine ⟨fun z => absurd z (by decide), fun _ => ⟨trivial, fun z => absurd z (by decide), fun _ => ⟨fun _ => ?_, fun z => absurd z (by decide)⟩⟩⟩
      obtain ⟨w1, w4, w5⟩ := brd_vals (h := h) (c := c) (k := k) (d := a2) (b := 0)
      have e := (bar_eq w1 w4 w5).1
      refine m_firstBar JC0 JV0 (by omega) bc1 bc2 (m_firstBar JC0 JV0 (by omega) bc1 bc2 ⟨fun g3 => ⟨fun g4 => ?_, fun g4 => ?_⟩, fun g3 => ?_⟩)
      · rw [if_pos g3, if_pos g4] at e
        exact ⟨e, P, C, W, K, N, A, O, D, I⟩
      · rw [if_pos g3, if_neg g4] at e
        exact ⟨e, P, C, W, K, N, A, O, D, I⟩
      · rw [if_neg g3] at e
        exact ⟨e, P, C, W, K, N, A, O, D, I⟩
    · simp only [SX6_bar, SX6_isJudgeable, w_khas, w_within, k1, v1, v2, b2, if_pos g1, if_neg g2]
      refine ⟨fun z => absurd z (by decide), fun _ => ⟨trivial, fun _ => ⟨fun z => (z trivial).elim, fun _ => f1.mpr ?_⟩, fun z => (z trivial).elim⟩⟩
      refine sX7_bar ?_
      simp only [SX7_bar, SX7_isJudgeable, w_isClaim, w_isIn, up_o, up_k, up_s, fx_o, fm_o, ne_eq, Nat.reduceEqDiff, not_false_eq_true, k2, v1, v2, if_pos g1, if_neg g2]
      exact ⟨fun z => absurd z (by decide), fun _ => ⟨trivial, fun _ => ⟨fun z => (z trivial).elim, fun _ => m1.mpr (fin_same I)⟩, fun z => (z trivial).elim⟩⟩
  · simp only [SX6_bar, SX6_isJudgeable, w_khas, k1, if_neg g1]
    refine ⟨fun _ => ⟨fun z => (z trivial).elim, fun _ => f1.mpr ?_⟩, fun z => (z trivial).elim⟩
    refine sX7_bar ?_
    simp only [SX7_bar, SX7_isJudgeable, w_isClaim, up_o, up_k, up_s, fx_o, fm_o, ne_eq, Nat.reduceEqDiff, not_false_eq_true, k2, if_neg g1]
    exact ⟨fun _ => ⟨fun z => (z trivial).elim, fun _ => m1.mpr (fin_same I)⟩, fun z => (z trivial).elim⟩
end Judge
