section Ops2
variable {E : EN} {h : TH} {a1 a2 a3 a4 : Int32}
theorem law_model {Q : Int32 → TH → Prop} {j : Nat} (hj : j < 6) (hq : inn a2 (oLeast j) (oMost j) → Q (h 42 0 j) (up h 42 0 j a2)) (hn : ¬ inn a2 (oLeast j) (oMost j) → Q (-1000000001) (fm h 1)) : SX7_law E (nI j) a2 h Q := by
  rcases (show j = 0 ∨ j = 1 ∨ j = 2 ∨ j = 3 ∨ j = 4 ∨ j = 5 by omega) with rfl | rfl | rfl | rfl | rfl | rfl
  · rw [show nI 0 = 0 by decide]
    have e : (inn a2 (oLeast 0) (oMost 0)) = inn a2 0 365 := rfl
    rw [e] at hq hn
    by_cases g : inn a2 0 365
    · have := hq g
      simp [-Int32.not_le, -Int32.not_lt, SX7_law, SX7_mostOf, w_isIn, g, show inn (0 : Int32) 0 5 by decide, show vp_in 0 6 from vi_0_6]
      exact this
    · have := hn g
      simp [-Int32.not_le, -Int32.not_lt, SX7_law, SX7_mostOf, w_isIn, g, show inn (0 : Int32) 0 5 by decide, m1]
      exact this
  · rw [show nI 1 = 1 by decide]
    have e : (inn a2 (oLeast 1) (oMost 1)) = inn a2 0 365 := rfl
    rw [e] at hq hn
    by_cases g : inn a2 0 365
    · have := hq g
      simp [-Int32.not_le, -Int32.not_lt, SX7_law, SX7_mostOf, w_isIn, g, show inn (1 : Int32) 0 5 by decide, show vp_in 1 6 from vi_1_6]
      exact this
    · have := hn g
      simp [-Int32.not_le, -Int32.not_lt, SX7_law, SX7_mostOf, w_isIn, g, show inn (1 : Int32) 0 5 by decide, m1]
      exact this
  · rw [show nI 2 = 2 by decide]
    have e : (inn a2 (oLeast 2) (oMost 2)) = inn a2 0 1000 := rfl
    rw [e] at hq hn
    by_cases g : inn a2 0 1000
    · have := hq g
      simp [-Int32.not_le, -Int32.not_lt, SX7_law, SX7_mostOf, w_isIn, g, show inn (2 : Int32) 0 5 by decide, show vp_in 2 6 from vp_c (by decide) (by decide)]
      exact this
    · have := hn g
      simp [-Int32.not_le, -Int32.not_lt, SX7_law, SX7_mostOf, w_isIn, g, show inn (2 : Int32) 0 5 by decide, m1]
      exact this
  · rw [show nI 3 = 3 by decide]
    have e : (inn a2 (oLeast 3) (oMost 3)) = inn a2 1 9 := rfl
    rw [e] at hq hn
    by_cases g : inn a2 1 9
    · have := hq g
      simp [-Int32.not_le, -Int32.not_lt, SX7_law, SX7_mostOf, w_isIn, g, show inn (3 : Int32) 0 5 by decide, show vp_in 3 6 from vp_c (by decide) (by decide)]
      exact this
    · have := hn g
      simp [-Int32.not_le, -Int32.not_lt, SX7_law, SX7_mostOf, w_isIn, g, show inn (3 : Int32) 0 5 by decide, m1]
      exact this
  · rw [show nI 4 = 4 by decide]
    have e : (inn a2 (oLeast 4) (oMost 4)) = inn a2 0 2 := rfl
    rw [e] at hq hn
    by_cases g : inn a2 0 2
    · have := hq g
      simp [-Int32.not_le, -Int32.not_lt, SX7_law, SX7_mostOf, w_isIn, g, show inn (4 : Int32) 0 5 by decide, show vp_in 4 6 from vp_c (by decide) (by decide)]
      exact this
    · have := hn g
      simp [-Int32.not_le, -Int32.not_lt, SX7_law, SX7_mostOf, w_isIn, g, show inn (4 : Int32) 0 5 by decide, m1]
      exact this
  · rw [show nI 5 = 5 by decide]
    have e : (inn a2 (oLeast 5) (oMost 5)) = inn a2 0 1 := rfl
    rw [e] at hq hn
    by_cases g : inn a2 0 1
    · have := hq g
      simp [-Int32.not_le, -Int32.not_lt, SX7_law, SX7_mostOf, w_isIn, g, show inn (5 : Int32) 0 5 by decide, show vp_in 5 6 from vp_c (by decide) (by decide)]
      exact this
    · have := hn g
      simp [-Int32.not_le, -Int32.not_lt, SX7_law, SX7_mostOf, w_isIn, g, show inn (5 : Int32) 0 5 by decide, m1]
      exact this
theorem op_law (I : Inv h) : wi E MX6_law (fun r1 h1 => wi E MX7_law (fun r2 h2 => Same r1 r2 h2) 0 [some (rf 28 0), some (.int a1), some (.int a2), none] [] h1) 0 [some (rf 0 0), some (.int a1), some (.int a2), none] [] h := by
  obtain ⟨P, C, W, K, N, A, O, D, I⟩ := id I
  obtain ⟨JP0, JD0, JF0, JQ0, JL0, JC0, JV0, JK0, JN0, JA0⟩ := id I
  refine sX6_law ?_
  by_cases g1 : inn a1 0 5
  · obtain ⟨j, -, hj, rfl⟩ := inn_of (l := 0) (m := 5) (by omega) (by omega) g1
    have v1 := vin (show j < 6 by omega) (by omega)
    have v2 := ncl (show j ≤ 100000 by omega)
    by_cases g2 : inn a2 (oLeast j) (oMost j)
    · simp [-Int32.not_le, -Int32.not_lt, SX6_law, w_within, g1, v1, v2, g2]
      refine sX7_law (law_model (by omega) (fun _ => ?_) (fun z => absurd g2 z))
      simp only [up_o, up_k, up_s, fx_o, fm_o, ne_eq, Nat.reduceEqDiff, not_false_eq_true]
      refine ⟨(JL0 j (by omega)).1, P, C, W, K, N, A, O, D, ?_⟩
      unfold InvC at I ⊢
      simp only [up_o, up_k, up_s, fx_o, fm_o, ne_eq, Nat.reduceEqDiff, not_false_eq_true]
      refine ⟨JP0, JD0, JF0, JQ0, fun k hk => ?_, JC0, JV0, JK0, JN0, JA0⟩
      simp only [up_a, up_o, up_k, up_s, fx_o, fm_o, ne_eq, Nat.reduceEqDiff, not_false_eq_true]
      by_cases hkj : k = j
      · subst hkj
        rw [if_pos rfl, if_pos rfl]
        exact ⟨rfl, Int32.not_lt.mp g2.1, Int32.not_lt.mp g2.2⟩
      · rw [if_neg hkj, if_neg hkj]
        exact JL0 k hk
    · simp [-Int32.not_le, -Int32.not_lt, SX6_law, w_within, g1, v1, v2, g2, f1]
      exact sX7_law (law_model (by omega) (fun z => absurd z g2) (fun _ => fin_same I))
  · simp [-Int32.not_le, -Int32.not_lt, SX6_law, w_within, g1, f1]
    refine sX7_law ?_
    simp [-Int32.not_le, -Int32.not_lt, SX7_law, w_isIn, g1, m1]
    exact fin_same I
theorem op_loan (I : Inv h) : wi E MX6_loan (fun r1 h1 => wi E MX7_loan (fun r2 h2 => Same r1 r2 h2) 0 [some (rf 28 0), some (.int a1), some (.int a2)] [] h1) 0 [some (rf 0 0), some (.int a1), some (.int a2)] [] h := by
  obtain ⟨P, C, W, K, N, A, O, D, I⟩ := id I
  obtain ⟨JP0, JD0, JF0, JQ0, JL0, JC0, JV0, JK0, JN0, JA0⟩ := id I
  obtain ⟨p1, p2, p3, p4, p5, p6⟩ := id JP0
  obtain ⟨n1, n2, n3, n4⟩ := id JN0
  obtain ⟨d1, d2, d3⟩ := id JD0
  have e1 : (nI N < 6) ↔ N < 6 := lt_lit (by decide) (by omega) (by omega)
  have e2 : (nI N = 6) ↔ N = 6 := eq_lit (by decide) (by omega) (by omega)
  refine sX6_loan ?_
  by_cases g1 : inn a1 0 (nI P - 1)
  · obtain ⟨i, hi, rfl⟩ := (inn_nI (by omega)).mp g1
    have v1 := vin (show i < 12 by omega) (by omega)
    have v2 := ncl (show i ≤ 100000 by omega)
    have hk := p5 i (by omega)
    by_cases g2 : inn a2 1 1000000
    · by_cases g3 : h 29 0 i = 1
      · by_cases g4 : N < 6
        · simp [-Int32.not_le, -Int32.not_lt, SX6_loan, SX5_record, w_xisParty, w_within, p1, n1, d1, g1, g2, v1, v2, hk, g3, e1, g4, vin g4, ncl (show N ≤ 100000 by omega)]
          refine sX7_loan ?_
          simp [-Int32.not_le, -Int32.not_lt, SX7_loan, w_misParty, w_isIn, up_o, up_k, up_s, fx_o, fm_o, ne_eq, Nat.reduceEqDiff, not_false_eq_true, p2, n2, d2, g1, g2, v1, v2, g3, e2, show ¬ N = 6 by omega, vin g4, ncl (show N ≤ 100000 by omega)]
          obtain ⟨m, m1, m2, rfl⟩ := inn_of (l := 1) (m := 1000000) (by omega) (by omega) g2
          refine ⟨rfl, P, C, W, K, N + 1, A, O, D, ?_⟩
          unfold InvC at I ⊢
          simp only [up_o, up_k, up_s, fx_o, fm_o, ne_eq, Nat.reduceEqDiff, not_false_eq_true]
          refine ⟨JP0, JD0, JF0, JQ0, JL0, JC0, JV0, JK0, ⟨nI_1 N, nI_1 N, by omega, fun k hk => ?_⟩, JA0⟩
          simp only [up_a, up_o, up_k, up_s, fx_o, fm_o, ne_eq, Nat.reduceEqDiff, not_false_eq_true]
          by_cases hkN : k = N
          · subst hkN
            simp only [if_true]
            exact ⟨trivial, trivial, ⟨m, m1, m2, rfl⟩, ⟨D, Nat.le_refl _, rfl⟩⟩
          · simp only [if_neg hkN]
            exact n4 k (by omega)
        · simp [-Int32.not_le, -Int32.not_lt, SX6_loan, w_xisParty, w_within, p1, n1, g1, g2, v1, v2, hk, g3, e1, g4, f4]
          refine sX7_loan ?_
          simp [-Int32.not_le, -Int32.not_lt, SX7_loan, w_misParty, w_isIn, up_o, up_k, up_s, fx_o, fm_o, ne_eq, Nat.reduceEqDiff, not_false_eq_true, p2, n2, g1, g2, v1, v2, g3, show nI N = 6 from e2.mpr (by omega), m4]
          exact fin_same I
      · simp [-Int32.not_le, -Int32.not_lt, SX6_loan, w_xisParty, w_within, p1, n1, g1, g2, v1, v2, hk, g3, f5]
        refine sX7_loan ?_
        simp [-Int32.not_le, -Int32.not_lt, SX7_loan, w_misParty, w_isIn, up_o, up_k, up_s, fx_o, fm_o, ne_eq, Nat.reduceEqDiff, not_false_eq_true, p2, n2, g1, g2, v1, v2, g3, m5]
        exact fin_same I
    · simp [-Int32.not_le, -Int32.not_lt, SX6_loan, w_xisParty, w_within, p1, g1, g2, f1]
      refine sX7_loan ?_
      simp [-Int32.not_le, -Int32.not_lt, SX7_loan, w_misParty, w_isIn, up_o, up_k, up_s, fx_o, fm_o, ne_eq, Nat.reduceEqDiff, not_false_eq_true, p2, g1, g2, m1]
      exact fin_same I
  · simp [-Int32.not_le, -Int32.not_lt, SX6_loan, w_xisParty, p1, g1, f1]
    refine sX7_loan ?_
    simp [-Int32.not_le, -Int32.not_lt, SX7_loan, w_misParty, up_o, up_k, up_s, fx_o, fm_o, ne_eq, Nat.reduceEqDiff, not_false_eq_true, p2, g1, m1]
    exact fin_same I
theorem op_file (I : Inv h) : wi E MX6_file (fun r1 h1 => wi E MX7_file (fun r2 h2 => Same r1 r2 h2) 0 [some (rf 28 0), some (.int a1), some (.int a2)] [] h1) 0 [some (rf 0 0), some (.int a1), some (.int a2)] [] h := by
  obtain ⟨P, C, W, K, N, A, O, D, I⟩ := id I
  obtain ⟨JP0, JD0, JF0, JQ0, JL0, JC0, JV0, JK0, JN0, JA0⟩ := id I
  obtain ⟨c1, c2, c3, c4, c5, c6⟩ := id JC0
  obtain ⟨k1, k2, k3, k4, k5⟩ := id JK0
  obtain ⟨d1, d2, d3⟩ := id JD0
  have e1 : (nI K < 16) ↔ K < 16 := lt_lit (by decide) (by omega) (by omega)
  have e2 : (nI K = 16) ↔ K = 16 := eq_lit (by decide) (by omega) (by omega)
  refine sX6_file ?_
  by_cases g1 : inn a1 0 (nI C - 1)
  · obtain ⟨i, hi, rfl⟩ := (inn_nI (by omega)).mp g1
    have v1 := vin (show i < 10 by omega) (by omega)
    have v2 := ncl (show i ≤ 100000 by omega)
    obtain ⟨⟨q0, q1, q5, q6, q8, q9, q10, q11, q12⟩, s1, r1, r2, r3⟩ := id (c4 i hi)
    by_cases g2 : inn a2 1 1000000
    · by_cases g3 : h 35 0 i = -1
      · simp [-Int32.not_le, -Int32.not_lt, SX6_file, w_bhas, w_within, w_hasBegun, c1, g1, g2, v1, v2, q9, g3, f3]
        refine sX7_file ?_
        simp [-Int32.not_le, -Int32.not_lt, SX7_file, w_isContract, w_isIn, up_o, up_k, up_s, fx_o, fm_o, ne_eq, Nat.reduceEqDiff, not_false_eq_true, c2, g1, g2, v1, v2, g3, m3]
        exact fin_same I
      · by_cases g4 : K < 16
        · simp [-Int32.not_le, -Int32.not_lt, SX6_file, SX4_enter, w_bhas, w_within, w_hasBegun, c1, k1, d1, g1, g2, v1, v2, q9, g3, e1, g4, vin g4, ncl (show K ≤ 100000 by omega)]
          refine sX7_file ?_
          simp [-Int32.not_le, -Int32.not_lt, SX7_file, w_isContract, w_isIn, up_o, up_k, up_s, fx_o, fm_o, ne_eq, Nat.reduceEqDiff, not_false_eq_true, c2, k2, d2, g1, g2, v1, v2, g3, e2, show ¬ K = 16 by omega, vin g4, ncl (show K ≤ 100000 by omega)]
          obtain ⟨m, m1, m2, rfl⟩ := inn_of (l := 1) (m := 1000000) (by omega) (by omega) g2
          refine ⟨rfl, P, C, W, K + 1, N, A, O, D, ?_⟩
          unfold InvC at I ⊢
          simp only [up_o, up_k, up_s, fx_o, fm_o, ne_eq, Nat.reduceEqDiff, not_false_eq_true]
          refine ⟨JP0, JD0, JF0, JQ0, JL0, JC0, JV0, ⟨nI_1 K, nI_1 K, by omega, fun j hj => ?_, fun j h1 h2 => ?_⟩, JN0, JA0⟩
          · by_cases hjK : j = K
            · subst hjK
              have f3 := (k5 j (Nat.le_refl _) g4).1
              have f4 := (k5 j (Nat.le_refl _) g4).2
              simp only [up_a, up_o, up_k, up_s, fx_o, fm_o, ne_eq, Nat.reduceEqDiff, not_false_eq_true, if_true, f3, f4]
              exact ⟨⟨by first | rfl | trivial, by first | rfl | trivial, by first | rfl | trivial, by first | rfl | trivial, by first | rfl | trivial⟩, ⟨i, hi, by first | rfl | trivial, g3⟩, ⟨m, m1, m2, by first | rfl | trivial⟩, ⟨D, Nat.le_refl _, by first | rfl | trivial⟩, Or.inl rfl, isB_0⟩
            · simp only [up_i hjK, up_a, up_o, up_k, up_s, fx_o, fm_o, ne_eq, Nat.reduceEqDiff, not_false_eq_true, if_neg hjK]
              exact k4 j (by omega)
          · simp only [up_i (show j ≠ K by omega)]
            exact k5 j (by omega) h2
        · simp [-Int32.not_le, -Int32.not_lt, SX6_file, w_bhas, w_within, w_hasBegun, c1, k1, g1, g2, v1, v2, q9, g3, e1, g4, f4]
          refine sX7_file ?_
          simp [-Int32.not_le, -Int32.not_lt, SX7_file, w_isContract, w_isIn, up_o, up_k, up_s, fx_o, fm_o, ne_eq, Nat.reduceEqDiff, not_false_eq_true, c2, k2, g1, g2, v1, v2, g3, show nI K = 16 from e2.mpr (by omega), m4]
          exact fin_same I
    · simp [-Int32.not_le, -Int32.not_lt, SX6_file, w_bhas, w_within, c1, g1, g2, f1]
      refine sX7_file ?_
      simp [-Int32.not_le, -Int32.not_lt, SX7_file, w_isContract, w_isIn, up_o, up_k, up_s, fx_o, fm_o, ne_eq, Nat.reduceEqDiff, not_false_eq_true, c2, g1, g2, m1]
      exact fin_same I
  · simp [-Int32.not_le, -Int32.not_lt, SX6_file, w_bhas, c1, g1, f1]
    refine sX7_file ?_
    simp [-Int32.not_le, -Int32.not_lt, SX7_file, w_isContract, up_o, up_k, up_s, fx_o, fm_o, ne_eq, Nat.reduceEqDiff, not_false_eq_true, c2, g1, m1]
    exact fin_same I
end Ops2
