section Ops1
variable {E : EN} {h : TH} {a1 a2 a3 a4 : Int32}
def Same (r1 r2 : Int32) (h : TH) : Prop := r1 = r2 ∧ Inv h
theorem fin_same {k P C W K N A O D : Nat} {x : Int32} (I : InvC P C W K N A O D h) : Same x x (fm (fx h k) k) := ⟨rfl, P, C, W, K, N, A, O, D, fin_ok I⟩
theorem lt_lit {n m : Nat} {x : Int32} (hx : x = nI m) (hn : n < 2 ^ 31) (hm : m < 2 ^ 31) : (nI n < x) ↔ n < m := by rw [hx]; exact nI_ltI hn hm
theorem eq_lit {n m : Nat} {x : Int32} (hx : x = nI m) (hn : n < 2 ^ 31) (hm : m < 2 ^ 31) : (nI n = x) ↔ n = m := by rw [hx]; exact nI_eq hn hm
theorem op_party (I : Inv h) : wi E MX6_party (fun r1 h1 => wi E MX7_party (fun r2 h2 => Same r1 r2 h2) 0 [some (rf 28 0), some (.int a1)] [] h1) 0 [some (rf 0 0), some (.int a1)] [] h := by
  obtain ⟨P, C, W, K, N, A, O, D, I⟩ := id I
  obtain ⟨JP0, JD0, JF0, JQ0, JL0, JC0, JV0, JK0, JN0, JA0⟩ := id I
  obtain ⟨p1, p2, p3, p4, p5, p6⟩ := JP0
  refine sX6_party ?_
  have e1 : (nI P < 12) ↔ P < 12 := lt_lit (by decide) (by omega) (by omega)
  have e2 : (nI P = 12) ↔ P = 12 := eq_lit (by decide) (by omega) (by omega)
  by_cases g1 : inn a1 0 3
  · by_cases g2 : P < 12
    · simp [-Int32.not_le, -Int32.not_lt, SX6_party, w_isKindNumber, g1, p1, e1, g2, vin g2, ncl (show P ≤ 100000 by omega)]
      refine sX7_party ?_
      simp [-Int32.not_le, -Int32.not_lt, SX7_party, w_isIn, g1, up_o, up_k, up_s, fx_o, fm_o, ne_eq, Nat.reduceEqDiff, not_false_eq_true, p2, e2, show ¬ P = 12 by omega, vin g2, ncl (show P ≤ 100000 by omega)]
      refine ⟨rfl, P + 1, C, W, K, N, A, O, D, ?_⟩
      unfold InvC at I ⊢
      simp only [up_o, up_k, up_s, fx_o, fm_o, ne_eq, Nat.reduceEqDiff, not_false_eq_true]
      refine ⟨⟨nI_1 P, nI_1 P, by omega, by omega, fun i hi => ?_, ?_⟩, JD0, JF0, JQ0, JL0, ?_, JV0, JK0, JN0, JA0⟩
      · simp only [up_a, up_o, up_k, up_s, fx_o, fm_o, ne_eq, Nat.reduceEqDiff, not_false_eq_true, p5 i hi]
      · rw [up_a, if_neg (by omega)]
        exact p6
      · obtain ⟨q1, q2, q3, q4, q5, q6⟩ := JC0
        refine ⟨q1, q2, q3, q4, q5, fun i hi => ?_⟩
        obtain ⟨⟨q, r1, r2, r3⟩, r4⟩ := q6 i hi
        exact ⟨⟨q, by omega, r2, r3⟩, r4⟩
    · simp [-Int32.not_le, -Int32.not_lt, SX6_party, w_isKindNumber, g1, p1, e1, g2, f4]
      refine sX7_party ?_
      simp [-Int32.not_le, -Int32.not_lt, SX7_party, w_isIn, g1, up_o, up_k, up_s, fx_o, fm_o, ne_eq, Nat.reduceEqDiff, not_false_eq_true, p2, show nI P = 12 from e2.mpr (by omega), m4]
      exact fin_same I
  · simp [-Int32.not_le, -Int32.not_lt, SX6_party, w_isKindNumber, g1, f1]
    refine sX7_party ?_
    simp [-Int32.not_le, -Int32.not_lt, SX7_party, w_isIn, g1, m1]
    exact fin_same I
theorem op_extra (I : Inv h) : wi E MX6_extra (fun r1 h1 => wi E MX7_extra (fun r2 h2 => Same r1 r2 h2) 0 [some (rf 28 0), some (.int a1), some (.int a2)] [] h1) 0 [some (rf 0 0), some (.int a1), some (.int a2), none] [] h := by
  obtain ⟨P, C, W, K, N, A, O, D, I⟩ := id I
  obtain ⟨JP0, JD0, JF0, JQ0, JL0, JC0, JV0, JK0, JN0, JA0⟩ := id I
  obtain ⟨c1, c2, c3, c4, c5, c6⟩ := id JC0
  refine sX6_extra ?_
  by_cases g1 : inn a1 0 (nI C - 1)
  · obtain ⟨i, hi, rfl⟩ := (inn_nI (by omega)).mp g1
    have v1 := vin (show i < 10 by omega) (by omega)
    have v2 := ncl (show i ≤ 100000 by omega)
    obtain ⟨⟨q0, q1, q5, q6, q8, q9, q10, q11, q12⟩, ⟨sm, pd, s1, s2, s3, s4, s5⟩, r1, r2, r3⟩ := id (c4 i hi)
    by_cases g2 : inn a2 1 100000
    · by_cases g3 : h 32 0 i + a2 ≤ 1000000
      · simp [-Int32.not_le, -Int32.not_lt, SX6_extra, w_bhas, w_within, c1, g1, g2, v1, v2, q5, g3]
        refine sX7_extra ?_
        simp [-Int32.not_le, -Int32.not_lt, SX7_extra, w_isContract, w_isIn, up_o, up_k, up_s, fx_o, fm_o, ne_eq, Nat.reduceEqDiff, not_false_eq_true, c2, g1, g2, v1, v2, g3]
        obtain ⟨m, m1, m2, rfl⟩ := inn_of (l := 1) (m := 100000) (by omega) (by omega) g2
        rw [s4, nI_add, show (1000000 : Int32) = nI 1000000 by decide, nI_leI (by omega) (by omega)] at g3
        refine ⟨rfl, P, C, W, K, N, A, O, D, ?_⟩
        unfold InvC at I ⊢
        simp only [up_o, up_k, up_s, fx_o, fm_o, ne_eq, Nat.reduceEqDiff, not_false_eq_true]
        refine ⟨JP0, JD0, JF0, JQ0, JL0, JC_row JC0 (i := i) (fun j hj => up_i hj) (fun j hj => ⟨by rw [up_a, if_neg hj]; simp only [up_o, up_k, up_s, fx_o, fm_o, ne_eq, Nat.reduceEqDiff, not_false_eq_true], rfl, rfl, rfl, rfl, rfl, rfl⟩) ⟨?_, ?_, ?_, ?_, ?_⟩ hi ?_, JV_row JV0 (fun c hc => ?_) (fun c hc => rfl), JK0, JN0, JA0⟩
        all_goals try simp only [up_o, up_k, up_s, fx_o, fm_o, ne_eq, Nat.reduceEqDiff, not_false_eq_true]
        refine ⟨⟨q0, q1, ?_, ?_, ?_, ?_, ?_, ?_, ?_⟩, ⟨sm + m, pd, by omega, g3, by omega, ?_, s5⟩, r1, r2, r3⟩
        all_goals try simp only [up_o, up_k, up_s, fx_o, fm_o, ne_eq, Nat.reduceEqDiff, not_false_eq_true]
        all_goals first | assumption | (rw [s4, nI_add])
      · simp [-Int32.not_le, -Int32.not_lt, SX6_extra, w_bhas, w_within, c1, g1, g2, v1, v2, q5, g3, f4]
        refine sX7_extra ?_
        simp [-Int32.not_le, -Int32.not_lt, SX7_extra, w_isContract, w_isIn, up_o, up_k, up_s, fx_o, fm_o, ne_eq, Nat.reduceEqDiff, not_false_eq_true, c2, g1, g2, v1, v2, g3, m4]
        exact fin_same I
    · simp [-Int32.not_le, -Int32.not_lt, SX6_extra, w_bhas, w_within, c1, g1, g2, f1]
      refine sX7_extra ?_
      simp [-Int32.not_le, -Int32.not_lt, SX7_extra, w_isContract, w_isIn, up_o, up_k, up_s, fx_o, fm_o, ne_eq, Nat.reduceEqDiff, not_false_eq_true, c2, g1, g2, m1]
      exact fin_same I
  · simp [-Int32.not_le, -Int32.not_lt, SX6_extra, w_bhas, w_within, c1, g1, f1]
    refine sX7_extra ?_
    simp [-Int32.not_le, -Int32.not_lt, SX7_extra, w_isContract, w_isIn, up_o, up_k, up_s, fx_o, fm_o, ne_eq, Nat.reduceEqDiff, not_false_eq_true, c2, g1, m1]
    exact fin_same I
theorem op_began (I : Inv h) : wi E MX6_began (fun r1 h1 => wi E MX7_began (fun r2 h2 => Same r1 r2 h2) 0 [some (rf 28 0), some (.int a1), some (.int a2), some (.int a3)] [] h1) 0 [some (rf 0 0), some (.int a1), some (.int a2), some (.int a3), none] [] h := by
  obtain ⟨P, C, W, K, N, A, O, D, I⟩ := id I
  obtain ⟨JP0, JD0, JF0, JQ0, JL0, JC0, JV0, JK0, JN0, JA0⟩ := id I
  obtain ⟨c1, c2, c3, c4, c5, c6⟩ := id JC0
  obtain ⟨d1, d2, d3⟩ := id JD0
  refine sX6_began ?_
  by_cases g1 : inn a1 0 (nI C - 1)
  · obtain ⟨i, hi, rfl⟩ := (inn_nI (by omega)).mp g1
    have v1 := vin (show i < 10 by omega) (by omega)
    have v2 := ncl (show i ≤ 100000 by omega)
    obtain ⟨⟨q0, q1, q5, q6, q8, q9, q10, q11, q12⟩, s1, r1, r2, r3⟩ := id (c4 i hi)
    by_cases g2 : spanB a2 a3 (nI D) = true
    · by_cases g3 : h 37 0 i = -1
      · simp [-Int32.not_le, -Int32.not_lt, SX6_began, w_bhas, w_xspanB, w_hasEnded, c1, d1, g1, g2, v1, v2, q11, g3]
        refine sX7_began ?_
        simp [-Int32.not_le, -Int32.not_lt, SX7_began, w_isContract, w_mspanB, up_o, up_k, up_s, fx_o, fm_o, ne_eq, Nat.reduceEqDiff, not_false_eq_true, c2, d2, g1, g2, v1, v2, g3]
        obtain ⟨d, e, m1, m2, rfl, rfl⟩ := span_nI (by omega) (of_decide_eq_true g2)
        refine ⟨rfl, P, C, W, K, N, A, O, D, ?_⟩
        unfold InvC at I ⊢
        simp only [up_o, up_k, up_s, fx_o, fm_o, ne_eq, Nat.reduceEqDiff, not_false_eq_true]
        refine ⟨JP0, JD0, JF0, JQ0, JL0, JC_row JC0 (i := i) (fun j hj => by rw [up_i hj, up_i hj]) (fun j hj => ⟨rfl, rfl, rfl, by rw [up_a, if_neg hj]; simp only [up_o, up_k, up_s, fx_o, fm_o, ne_eq, Nat.reduceEqDiff, not_false_eq_true], by rw [up_a, if_neg hj]; simp only [up_o, up_k, up_s, fx_o, fm_o, ne_eq, Nat.reduceEqDiff, not_false_eq_true], rfl, rfl⟩) ⟨?_, ?_, ?_, ?_, ?_⟩ hi ?_, JV_row JV0 (fun c hc => ?_) (fun c hc => rfl), JK_bf JK0 (fun c hc hb => ?_), JN0, JA0⟩
        all_goals try simp only [up_o, up_k, up_s, fx_o, fm_o, ne_eq, Nat.reduceEqDiff, not_false_eq_true]
        · refine ⟨⟨q0, q1, ?_, ?_, ?_, ?_, ?_, ?_, ?_⟩, s1, r1, Or.inr ⟨d, e, m1, m2, ?_, ?_⟩, r3⟩
          all_goals try simp only [up_o, up_k, up_s, fx_o, fm_o, ne_eq, Nat.reduceEqDiff, not_false_eq_true]
          all_goals assumption
        · rw [up_a]
          by_cases hci : c = i
          · rw [if_pos hci]; exact nI_m1 (by omega)
          · rw [if_neg hci]; simp only [up_o, up_k, up_s, fx_o, fm_o, ne_eq, Nat.reduceEqDiff, not_false_eq_true]; exact hb
      · simp [-Int32.not_le, -Int32.not_lt, SX6_began, w_bhas, w_xspanB, w_hasEnded, c1, d1, g1, g2, v1, v2, q11, g3, f3]
        refine sX7_began ?_
        simp [-Int32.not_le, -Int32.not_lt, SX7_began, w_isContract, w_mspanB, up_o, up_k, up_s, fx_o, fm_o, ne_eq, Nat.reduceEqDiff, not_false_eq_true, c2, d2, g1, g2, v1, v2, g3, m3]
        exact fin_same I
    · simp [-Int32.not_le, -Int32.not_lt, SX6_began, w_bhas, w_xspanB, c1, d1, g1, g2, f1]
      refine sX7_began ?_
      simp [-Int32.not_le, -Int32.not_lt, SX7_began, w_isContract, w_mspanB, up_o, up_k, up_s, fx_o, fm_o, ne_eq, Nat.reduceEqDiff, not_false_eq_true, c2, d2, g1, g2, m1]
      exact fin_same I
  · simp [-Int32.not_le, -Int32.not_lt, SX6_began, w_bhas, c1, g1, f1]
    refine sX7_began ?_
    simp [-Int32.not_le, -Int32.not_lt, SX7_began, w_isContract, up_o, up_k, up_s, fx_o, fm_o, ne_eq, Nat.reduceEqDiff, not_false_eq_true, c2, g1, m1]
    exact fin_same I
theorem op_ended (I : Inv h) : wi E MX6_ended (fun r1 h1 => wi E MX7_ended (fun r2 h2 => Same r1 r2 h2) 0 [some (rf 28 0), some (.int a1), some (.int a2), some (.int a3)] [] h1) 0 [some (rf 0 0), some (.int a1), some (.int a2), some (.int a3), none] [] h := by
  obtain ⟨P, C, W, K, N, A, O, D, I⟩ := id I
  obtain ⟨JP0, JD0, JF0, JQ0, JL0, JC0, JV0, JK0, JN0, JA0⟩ := id I
  obtain ⟨c1, c2, c3, c4, c5, c6⟩ := id JC0
  obtain ⟨d1, d2, d3⟩ := id JD0
  refine sX6_ended ?_
  by_cases g1 : inn a1 0 (nI C - 1)
  · obtain ⟨i, hi, rfl⟩ := (inn_nI (by omega)).mp g1
    have v1 := vin (show i < 10 by omega) (by omega)
    have v2 := ncl (show i ≤ 100000 by omega)
    obtain ⟨⟨q0, q1, q5, q6, q8, q9, q10, q11, q12⟩, s1, r1, r2, r3⟩ := id (c4 i hi)
    by_cases g2 : spanB a2 a3 (nI D) = true
    · by_cases g4 : h 35 0 i ≤ a2
      · by_cases g3 : h 35 0 i = -1
        · rw [g3] at g4
          simp [-Int32.not_le, -Int32.not_lt, SX6_ended, w_bhas, w_xspanB, w_hasBegun, c1, d1, g1, g2, v1, v2, q9, g3, g4, f3]
          refine sX7_ended ?_
          simp [-Int32.not_le, -Int32.not_lt, SX7_ended, w_isContract, w_mspanB, up_o, up_k, up_s, fx_o, fm_o, ne_eq, Nat.reduceEqDiff, not_false_eq_true, c2, d2, g1, g2, v1, v2, g3, g4, m3]
          exact fin_same I
        · simp [-Int32.not_le, -Int32.not_lt, SX6_ended, w_bhas, w_xspanB, w_hasBegun, c1, d1, g1, g2, v1, v2, q9, g3, g4]
          refine sX7_ended ?_
          simp [-Int32.not_le, -Int32.not_lt, SX7_ended, w_isContract, w_mspanB, up_o, up_k, up_s, fx_o, fm_o, ne_eq, Nat.reduceEqDiff, not_false_eq_true, c2, d2, g1, g2, v1, v2, g3, g4]
          obtain ⟨d, e, m1, m2, rfl, rfl⟩ := span_nI (by omega) (of_decide_eq_true g2)
          refine ⟨rfl, P, C, W, K, N, A, O, D, ?_⟩
          unfold InvC at I ⊢
          simp only [up_o, up_k, up_s, fx_o, fm_o, ne_eq, Nat.reduceEqDiff, not_false_eq_true]
          refine ⟨JP0, JD0, JF0, JQ0, JL0, JC_row JC0 (i := i) (fun j hj => by rw [up_i hj, up_i hj]) (fun j hj => ⟨rfl, rfl, rfl, rfl, rfl, by rw [up_a, if_neg hj]; simp only [up_o, up_k, up_s, fx_o, fm_o, ne_eq, Nat.reduceEqDiff, not_false_eq_true], by rw [up_a, if_neg hj]; simp only [up_o, up_k, up_s, fx_o, fm_o, ne_eq, Nat.reduceEqDiff, not_false_eq_true]⟩) ⟨?_, ?_, ?_, ?_, ?_⟩ hi ?_, JV_row JV0 (fun c hc => ?_) (fun c hc => rfl), JK0, JN0, JA0⟩
          all_goals try simp only [up_o, up_k, up_s, fx_o, fm_o, ne_eq, Nat.reduceEqDiff, not_false_eq_true]
          refine ⟨⟨q0, q1, ?_, ?_, ?_, ?_, ?_, ?_, ?_⟩, s1, r1, r2, Or.inr ⟨d, e, m1, m2, ?_, ?_⟩⟩
          all_goals try simp only [up_o, up_k, up_s, fx_o, fm_o, ne_eq, Nat.reduceEqDiff, not_false_eq_true]
          all_goals assumption
      · simp [-Int32.not_le, -Int32.not_lt, SX6_ended, w_bhas, w_xspanB, w_hasBegun, c1, d1, g1, g2, v1, v2, q9, g4, f1]
        refine sX7_ended ?_
        simp [-Int32.not_le, -Int32.not_lt, SX7_ended, w_isContract, w_mspanB, up_o, up_k, up_s, fx_o, fm_o, ne_eq, Nat.reduceEqDiff, not_false_eq_true, c2, d2, g1, g2, v1, v2, g4, m1]
        exact fin_same I
    · simp [-Int32.not_le, -Int32.not_lt, SX6_ended, w_bhas, w_xspanB, c1, d1, g1, g2, f1]
      refine sX7_ended ?_
      simp [-Int32.not_le, -Int32.not_lt, SX7_ended, w_isContract, w_mspanB, up_o, up_k, up_s, fx_o, fm_o, ne_eq, Nat.reduceEqDiff, not_false_eq_true, c2, d2, g1, g2, m1]
      exact fin_same I
  · simp [-Int32.not_le, -Int32.not_lt, SX6_ended, w_bhas, c1, g1, f1]
    refine sX7_ended ?_
    simp [-Int32.not_le, -Int32.not_lt, SX7_ended, w_isContract, up_o, up_k, up_s, fx_o, fm_o, ne_eq, Nat.reduceEqDiff, not_false_eq_true, c2, g1, m1]
    exact fin_same I
theorem op_notice (I : Inv h) : wi E MX6_notice (fun r1 h1 => wi E MX7_notice (fun r2 h2 => Same r1 r2 h2) 0 [some (rf 28 0), some (.int a1)] [] h1) 0 [some (rf 0 0), some (.int a1), none] [] h := by
  obtain ⟨P, C, W, K, N, A, O, D, I⟩ := id I
  obtain ⟨JP0, JD0, JF0, JQ0, JL0, JC0, JV0, JK0, JN0, JA0⟩ := id I
  obtain ⟨c1, c2, c3, c4, c5, c6⟩ := id JC0
  obtain ⟨d1, d2, d3⟩ := id JD0
  refine sX6_notice ?_
  by_cases g1 : inn a1 0 (nI C - 1)
  · obtain ⟨i, hi, rfl⟩ := (inn_nI (by omega)).mp g1
    have v1 := vin (show i < 10 by omega) (by omega)
    have v2 := ncl (show i ≤ 100000 by omega)
    obtain ⟨⟨q0, q1, q5, q6, q8, q9, q10, q11, q12⟩, s1, r1, r2, r3⟩ := id (c4 i hi)
    by_cases g3 : h 34 0 i = -1
    · simp [-Int32.not_le, -Int32.not_lt, SX6_notice, w_bhas, c1, d1, g1, v1, v2, q8, g3]
      refine sX7_notice ?_
      simp [-Int32.not_le, -Int32.not_lt, SX7_notice, w_isContract, up_o, up_k, up_s, fx_o, fm_o, ne_eq, Nat.reduceEqDiff, not_false_eq_true, c2, d2, g1, v1, v2, g3]
      refine ⟨rfl, P, C, W, K, N, A, O, D, ?_⟩
      unfold InvC at I ⊢
      simp only [up_o, up_k, up_s, fx_o, fm_o, ne_eq, Nat.reduceEqDiff, not_false_eq_true]
      refine ⟨JP0, JD0, JF0, JQ0, JL0, JC_row JC0 (i := i) (fun j hj => by rw [up_i hj]) (fun j hj => ⟨rfl, rfl, by rw [up_a, if_neg hj]; simp only [up_o, up_k, up_s, fx_o, fm_o, ne_eq, Nat.reduceEqDiff, not_false_eq_true], rfl, rfl, rfl, rfl⟩) ⟨?_, ?_, ?_, ?_, ?_⟩ hi ?_, JV_row JV0 (fun c hc => ?_) (fun c hc => rfl), JK0, JN0, JA0⟩
      all_goals try simp only [up_o, up_k, up_s, fx_o, fm_o, ne_eq, Nat.reduceEqDiff, not_false_eq_true]
      refine ⟨⟨q0, q1, ?_, ?_, ?_, ?_, ?_, ?_, ?_⟩, s1, Or.inr ⟨D, Nat.le_refl _, ?_⟩, r2, r3⟩
      all_goals try simp only [up_o, up_k, up_s, fx_o, fm_o, ne_eq, Nat.reduceEqDiff, not_false_eq_true]
      all_goals assumption
    · simp [-Int32.not_le, -Int32.not_lt, SX6_notice, w_bhas, c1, d1, g1, v1, v2, q8, g3, f3]
      refine sX7_notice ?_
      simp [-Int32.not_le, -Int32.not_lt, SX7_notice, w_isContract, up_o, up_k, up_s, fx_o, fm_o, ne_eq, Nat.reduceEqDiff, not_false_eq_true, c2, d2, g1, v1, v2, g3, m3]
      exact fin_same I
  · simp [-Int32.not_le, -Int32.not_lt, SX6_notice, w_bhas, c1, g1, f1]
    refine sX7_notice ?_
    simp [-Int32.not_le, -Int32.not_lt, SX7_notice, w_isContract, up_o, up_k, up_s, fx_o, fm_o, ne_eq, Nat.reduceEqDiff, not_false_eq_true, c2, g1, m1]
    exact fin_same I
theorem op_day (I : Inv h) : wi E MX6_day (fun r1 h1 => wi E MX7_day (fun r2 h2 => Same r1 r2 h2) 0 [some (rf 28 0), some (.int a1), none] [] h1) 0 [some (rf 0 0), some (.int a1), none] [] h := by
  obtain ⟨P, C, W, K, N, A, O, D, I⟩ := id I
  obtain ⟨JP0, JD0, JF0, JQ0, JL0, JC0, JV0, JK0, JN0, JA0⟩ := id I
  obtain ⟨d1, d2, d3⟩ := id JD0
  refine sX6_day ?_
  by_cases g1 : inn a1 (nI D) 5000
  · simp [-Int32.not_le, -Int32.not_lt, SX6_day, w_within, d1, g1]
    refine sX7_day ?_
    simp [-Int32.not_le, -Int32.not_lt, SX7_day, w_isIn, up_o, up_k, up_s, fx_o, fm_o, ne_eq, Nat.reduceEqDiff, not_false_eq_true, d2, g1]
    obtain ⟨d, m1, m2, rfl⟩ := inn_of (l := D) (m := 5000) (by omega) (by omega) g1
    refine ⟨rfl, P, C, W, K, N, A, O, d, ?_⟩
    unfold InvC at I ⊢
    simp only [up_o, up_k, up_s, fx_o, fm_o, ne_eq, Nat.reduceEqDiff, not_false_eq_true]
    exact ⟨JP0, ⟨rfl, rfl, m2⟩, JF0, JQ0, JL0, JC_mono m1 JC0, JV0, JK_mono m1 JK0, JN_mono m1 JN0, JA0⟩
  · simp [-Int32.not_le, -Int32.not_lt, SX6_day, w_within, d1, g1, f1]
    refine sX7_day ?_
    simp [-Int32.not_le, -Int32.not_lt, SX7_day, w_isIn, up_o, up_k, up_s, fx_o, fm_o, ne_eq, Nat.reduceEqDiff, not_false_eq_true, d2, g1, m1]
    exact fin_same I
theorem op_sue (I : Inv h) : wi E MX6_sue (fun r1 h1 => wi E MX7_sue (fun r2 h2 => Same r1 r2 h2) 0 [some (rf 28 0), some (.int a1)] [] h1) 0 [some (rf 0 0), some (.int a1), none] [] h := by
  obtain ⟨P, C, W, K, N, A, O, D, I⟩ := id I
  obtain ⟨JP0, JD0, JF0, JQ0, JL0, JC0, JV0, JK0, JN0, JA0⟩ := id I
  obtain ⟨k1, k2, k3, k4, k5⟩ := id JK0
  obtain ⟨d1, d2, d3⟩ := id JD0
  refine sX6_sue ?_
  by_cases g1 : inn a1 0 (nI K - 1)
  · obtain ⟨i, hi, rfl⟩ := (inn_nI (by omega)).mp g1
    have v1 := vin (show i < 16 by omega) (by omega)
    have v2 := ncl (show i ≤ 100000 by omega)
    obtain ⟨⟨q0, q1, q2, q3, q4⟩, s1, s2, s3, s4, s5⟩ := id (k4 i hi)
    by_cases g3 : h 46 0 i = -1
    · simp [-Int32.not_le, -Int32.not_lt, SX6_sue, w_khas, k1, d1, g1, v1, v2, q3, g3]
      refine sX7_sue ?_
      simp [-Int32.not_le, -Int32.not_lt, SX7_sue, w_isClaim, up_o, up_k, up_s, fx_o, fm_o, ne_eq, Nat.reduceEqDiff, not_false_eq_true, k2, d2, g1, v1, v2, g3]
      refine ⟨rfl, P, C, W, K, N, A, O, D, ?_⟩
      unfold InvC at I ⊢
      simp only [up_o, up_k, up_s, fx_o, fm_o, ne_eq, Nat.reduceEqDiff, not_false_eq_true]
      refine ⟨JP0, JD0, JF0, JQ0, JL0, JC0, JV0, JK_row JK0 hi (fun j hj => by rw [up_i hj]) (fun j hj => ⟨by rw [up_a, if_neg hj]; simp only [up_o, up_k, up_s, fx_o, fm_o, ne_eq, Nat.reduceEqDiff, not_false_eq_true], rfl⟩) ⟨?_, ?_, ?_⟩ ⟨?_, ?_, Or.inr ⟨D, Nat.le_refl _, ?_⟩, s5⟩, JN0, JA0⟩
      all_goals try simp only [up_o, up_k, up_s, fx_o, fm_o, ne_eq, Nat.reduceEqDiff, not_false_eq_true]
      all_goals assumption
    · simp [-Int32.not_le, -Int32.not_lt, SX6_sue, w_khas, k1, d1, g1, v1, v2, q3, g3, f3]
      refine sX7_sue ?_
      simp [-Int32.not_le, -Int32.not_lt, SX7_sue, w_isClaim, up_o, up_k, up_s, fx_o, fm_o, ne_eq, Nat.reduceEqDiff, not_false_eq_true, k2, d2, g1, v1, v2, g3, m3]
      exact fin_same I
  · simp [-Int32.not_le, -Int32.not_lt, SX6_sue, w_khas, k1, g1, f1]
    refine sX7_sue ?_
    simp [-Int32.not_le, -Int32.not_lt, SX7_sue, w_isClaim, up_o, up_k, up_s, fx_o, fm_o, ne_eq, Nat.reduceEqDiff, not_false_eq_true, k2, g1, m1]
    exact fin_same I
theorem op_bond (I : Inv h) : wi E MX6_bond (fun r1 h1 => wi E MX7_bond (fun r2 h2 => Same r1 r2 h2) 0 [some (rf 28 0), some (.int a1), some (.int a2), none] [] h1) 0 [some (rf 0 0), some (.int a1), some (.int a2), none, none] [] h := by
  obtain ⟨P, C, W, K, N, A, O, D, I⟩ := id I
  obtain ⟨JP0, JD0, JF0, JQ0, JL0, JC0, JV0, JK0, JN0, JA0⟩ := id I
  obtain ⟨k1, k2, k3, k4, k5⟩ := id JK0
  refine sX6_bond ?_
  by_cases g1 : inn a1 0 (nI K - 1)
  · obtain ⟨i, hi, rfl⟩ := (inn_nI (by omega)).mp g1
    have v1 := vin (show i < 16 by omega) (by omega)
    have v2 := ncl (show i ≤ 100000 by omega)
    obtain ⟨⟨q0, q1, q2, q3, q4⟩, s1, s2, s3, s4, s5⟩ := id (k4 i hi)
    by_cases g2 : inn a2 0 1
    · simp [-Int32.not_le, -Int32.not_lt, SX6_bond, w_khas, w_within, k1, g1, g2, v1, v2, q4]
      refine sX7_bond ?_
      obtain ⟨b, m1, m2, rfl⟩ := inn_of (l := 0) (m := 1) (by omega) (by omega) g2
      have hbb : isB (nI b) := by
        rcases (show b = 0 ∨ b = 1 by omega) with rfl | rfl
        · exact isB_0
        · exact isB_1
      have fin : ∀ x : Int32, x = h 47 0 i → Same (h 47 0 i) x (up (up h 11 i 4 (nI b)) 47 0 i (nI b)) := by
        intro x hx
        refine ⟨hx.symm, P, C, W, K, N, A, O, D, ?_⟩
        unfold InvC at I ⊢
        simp only [up_o, up_k, up_s, fx_o, fm_o, ne_eq, Nat.reduceEqDiff, not_false_eq_true]
        refine ⟨JP0, JD0, JF0, JQ0, JL0, JC0, JV0, JK_row JK0 hi (fun j hj => by rw [up_i hj]) (fun j hj => ⟨rfl, by rw [up_a, if_neg hj]; simp only [up_o, up_k, up_s, fx_o, fm_o, ne_eq, Nat.reduceEqDiff, not_false_eq_true]⟩) ⟨?_, ?_, ?_⟩ ⟨?_, ?_, s4, ?_⟩, JN0, JA0⟩
        all_goals try simp only [up_o, up_k, up_s, fx_o, fm_o, ne_eq, Nat.reduceEqDiff, not_false_eq_true]
        all_goals assumption
      rcases (show b = 0 ∨ b = 1 by omega) with rfl | rfl
      · rcases s5 with s5 | s5
        · simp [-Int32.not_le, -Int32.not_lt, SX7_bond, w_isClaim, w_isIn, up_o, up_k, up_s, fx_o, fm_o, ne_eq, Nat.reduceEqDiff, not_false_eq_true, k2, g1, show inn (nI 0) 0 1 by decide, v1, v2, s5, show ¬ nI 0 = (1 : Int32) by decide]
          rw [s5] at fin
          exact fin 0 rfl
        · simp [-Int32.not_le, -Int32.not_lt, SX7_bond, w_isClaim, w_isIn, up_o, up_k, up_s, fx_o, fm_o, ne_eq, Nat.reduceEqDiff, not_false_eq_true, k2, g1, show inn (nI 0) 0 1 by decide, v1, v2, s5, show ¬ nI 0 = (1 : Int32) by decide]
          rw [s5] at fin
          exact fin 1 rfl
      · rcases s5 with s5 | s5
        · simp [-Int32.not_le, -Int32.not_lt, SX7_bond, w_isClaim, w_isIn, up_o, up_k, up_s, fx_o, fm_o, ne_eq, Nat.reduceEqDiff, not_false_eq_true, k2, g1, show inn (nI 1) 0 1 by decide, v1, v2, s5, show nI 1 = (1 : Int32) by decide]
          rw [s5] at fin
          exact fin 0 rfl
        · simp [-Int32.not_le, -Int32.not_lt, SX7_bond, w_isClaim, w_isIn, up_o, up_k, up_s, fx_o, fm_o, ne_eq, Nat.reduceEqDiff, not_false_eq_true, k2, g1, show inn (nI 1) 0 1 by decide, v1, v2, s5, show nI 1 = (1 : Int32) by decide]
          rw [s5] at fin
          exact fin 1 rfl
    · simp [-Int32.not_le, -Int32.not_lt, SX6_bond, w_khas, w_within, k1, g1, g2, f1]
      refine sX7_bond ?_
      simp [-Int32.not_le, -Int32.not_lt, SX7_bond, w_isClaim, w_isIn, up_o, up_k, up_s, fx_o, fm_o, ne_eq, Nat.reduceEqDiff, not_false_eq_true, k2, g1, g2, m1]
      exact fin_same I
  · simp [-Int32.not_le, -Int32.not_lt, SX6_bond, w_khas, k1, g1, f1]
    refine sX7_bond ?_
    simp [-Int32.not_le, -Int32.not_lt, SX7_bond, w_isClaim, up_o, up_k, up_s, fx_o, fm_o, ne_eq, Nat.reduceEqDiff, not_false_eq_true, k2, g1, m1]
    exact fin_same I
theorem op_tell (I : Inv h) : wi E MX6_tell (fun r1 h1 => wi E MX7_tell (fun r2 h2 => Same r1 r2 h2) 0 [some (rf 28 0), some (.int a1)] [] h1) 0 [some (rf 0 0), some (.int a1)] [] h := by
  obtain ⟨P, C, W, K, N, A, O, D, I⟩ := id I
  obtain ⟨JP0, JD0, JF0, JQ0, JL0, JC0, JV0, JK0, JN0, JA0⟩ := id I
  obtain ⟨n, n1, n2, n3, n4⟩ := id JQ0
  have e1 : (nI n < 16) ↔ n < 16 := lt_lit (by decide) (by omega) (by omega)
  have e2 : (nI n = 16) ↔ n = 16 := eq_lit (by decide) (by omega) (by omega)
  refine sX6_tell ?_
  by_cases g1 : n < 16
  · simp [-Int32.not_le, -Int32.not_lt, SX6_tell, n2, e1, g1, vin g1, ncl (show n ≤ 100000 by omega)]
    refine sX7_tell ?_
    simp [-Int32.not_le, -Int32.not_lt, SX7_tell, up_o, up_k, up_s, fx_o, fm_o, ne_eq, Nat.reduceEqDiff, not_false_eq_true, n3, e2, show ¬ n = 16 by omega, vin g1, ncl (show n ≤ 100000 by omega)]
    refine ⟨rfl, P, C, W, K, N, A, O, D, ?_⟩
    unfold InvC at I ⊢
    simp only [up_o, up_k, up_s, fx_o, fm_o, ne_eq, Nat.reduceEqDiff, not_false_eq_true]
    refine ⟨JP0, JD0, JF0, ⟨n + 1, by omega, nI_1 n, nI_1 n, fun i hi => ?_⟩, JL0, JC0, JV0, JK0, JN0, JA0⟩
    simp only [up_a, up_o, up_k, up_s, fx_o, fm_o, ne_eq, Nat.reduceEqDiff, not_false_eq_true, n4 i hi]
  · simp [-Int32.not_le, -Int32.not_lt, SX6_tell, n2, e1, g1, f4]
    refine sX7_tell ?_
    simp [-Int32.not_le, -Int32.not_lt, SX7_tell, up_o, up_k, up_s, fx_o, fm_o, ne_eq, Nat.reduceEqDiff, not_false_eq_true, n3, show nI n = 16 from e2.mpr (by omega), m4]
    exact fin_same I
theorem op_found (I : Inv h) : wi E MX6_found (fun r1 h1 => wi E MX7_found (fun r2 h2 => Same r1 r2 h2) 0 [some (rf 28 0), some (.int a1)] [] h1) 0 [some (rf 0 0), some (.int a1)] [] h := by
  obtain ⟨P, C, W, K, N, A, O, D, I⟩ := id I
  obtain ⟨JP0, JD0, JF0, JQ0, JL0, JC0, JV0, JK0, JN0, JA0⟩ := id I
  refine sX6_found ?_
  by_cases g1 : inn a1 1 5
  · obtain ⟨k, m1, m2, rfl⟩ := inn_of (l := 1) (m := 5) (by omega) (by omega) g1
    simp [-Int32.not_le, -Int32.not_lt, SX6_found, w_within, g1, vin (show k < 6 by omega), ncl (show k ≤ 100000 by omega)]
    refine sX7_found ?_
    simp [-Int32.not_le, -Int32.not_lt, SX7_found, w_isIn, g1, vin (show k < 6 by omega), ncl (show k ≤ 100000 by omega)]
    exact ⟨JF0 k (by omega), P, C, W, K, N, A, O, D, I⟩
  · simp [-Int32.not_le, -Int32.not_lt, SX6_found, w_within, g1, f1]
    refine sX7_found ?_
    simp [-Int32.not_le, -Int32.not_lt, SX7_found, w_isIn, g1, m1]
    exact fin_same I
end Ops1
