section Waive
variable {E : EN} {h : TH} {a1 a2 a3 a4 x : Int32}
theorem upF (g : Nat) {k : Nat} {v : Int32} : (up h g 0 k v) g 0 = upd (h g 0) k v := upd_up.symm
theorem upd_a {f : Nat → Int32} {k j : Nat} {v : Int32} : upd f k v j = if j = k then v else f j := rfl
theorem wvd_s {f up cd : Nat → Int32} {c p : Int32} {n : Nat} : wvd f up cd c p (n + 1) = if (f n = c ∧ (cd n = 0 ∨ ¬ p < up n)) ∧ ¬ up n ≤ wvd f up cd c p n then up n else wvd f up cd c p n := rfl
theorem op_waive (I : Inv h) : wi E MX6_waive (fun r1 h1 => wi E MX7_waive (fun r2 h2 => Same r1 r2 h2) 0 [some (rf 28 0), some (.int a1), some (.int a2), some (.int a3)] [] h1) 0 [some (rf 0 0), some (.int a1), some (.int a2), some (.int a3)] [] h := by
  obtain ⟨P, C, W, K, N, A, O, D, I⟩ := id I
  obtain ⟨JP0, JD0, JF0, JQ0, JL0, JC0, JV0, JK0, JN0, JA0⟩ := id I
  obtain ⟨c1, c2, c3, c4, c5, c6⟩ := id JC0
  obtain ⟨w1, w2, w3, w4, w5⟩ := id JV0
  have e1 : (nI W < 20) ↔ W < 20 := lt_lit (by decide) (by omega) (by omega)
  have e2 : (nI W = 20) ↔ W = 20 := eq_lit (by decide) (by omega) (by omega)
  refine sX6_waive ?_
  by_cases g1 : inn a1 0 (nI C - 1)
  · obtain ⟨i, hi, rfl⟩ := (inn_nI (by omega)).mp g1
    have v1 := vin (show i < 10 by omega) (by omega)
    have v2 := ncl (show i ≤ 100000 by omega)
    obtain ⟨⟨q0, q1, q5, q6, q8, q9, q10, q11, q12⟩, ⟨sm, pd, s1, s2, s3, s4, s5⟩, r1, r2, r3⟩ := id (c4 i hi)
    by_cases g2 : inn a2 0 1000000
    · by_cases g3 : inn a3 0 1
      · by_cases g4 : W < 20
        · have v3 := vin g4 (by omega)
          have v4 := ncl (show W ≤ 100000 by omega)
          simp [-Int32.not_le, -Int32.not_lt, SX6_waive, SX1_addWaiver, w_bhas, w_within, c1, w1, g1, g2, g3, v1, v2, v3, v4, e1, g4]
          refine x_settle (W := W + 1) (by simp only [up_o, up_k, up_s, fx_o, fm_o, ne_eq, Nat.reduceEqDiff, not_false_eq_true]; exact nI_1 W) (by omega) (by omega) ?_
          simp only [upF 5, upF 6, upF 7, upF 39, upF 40, upF 41, up_o, up_k, up_s, fx_o, fm_o, ne_eq, Nat.reduceEqDiff, not_false_eq_true]
          obtain ⟨b, m1, m2, rfl⟩ := inn_of (l := 0) (m := 1) (by omega) (by omega) g3
          have hbb : isB (nI b) := by
            rcases (show b = 0 ∨ b = 1 by omega) with rfl | rfl
            · exact isB_0
            · exact isB_1
          obtain ⟨u, m3, m4, rfl⟩ := inn_of (l := 0) (m := 1000000) (by omega) (by omega) g2
          have hst : stl (upd (h 5 0) W (nI i)) (upd (h 6 0) W (nI u)) (upd (h 7 0) W (nI b)) (nI i) (h 4 i 6) (h 4 i 7) (W + 1) = wvd (upd (h 39 0) W (nI i)) (upd (h 40 0) W (nI u)) (upd (h 41 0) W (nI b)) (nI i) (h 33 0 i) (W + 1) := by
            have hcl : ∀ j, j < W + 1 → upd (h 5 0) W (nI i) j = upd (h 39 0) W (nI i) j ∧ upd (h 6 0) W (nI u) j = upd (h 40 0) W (nI u) j ∧ upd (h 7 0) W (nI b) j = upd (h 41 0) W (nI b) j := fun j hj => by
              simp only [upd_a]
              by_cases hjW : j = W
              · subst hjW
                simp only [if_true, and_self]
              · simp only [if_neg hjW]
                exact (w4 j (by omega)).1
            have hol : ∀ j, j < W → h 39 0 j = upd (h 39 0) W (nI i) j ∧ h 40 0 j = upd (h 40 0) W (nI u) j ∧ h 41 0 j = upd (h 41 0) W (nI b) j := fun j hj => by
              simp only [upd_a, if_neg (show j ≠ W by omega), and_self]
            rw [stl_congr (W + 1) hcl, q6]
            refine stl_wvd ?_ ?_
            · rw [w5 i hi]; exact wvd_pos W
            · rw [w5 i hi, wvd_congr W hol]
              exact wvd_n W
          have key : ∀ x : Int32, x = wvd (upd (h 39 0) W (nI i)) (upd (h 40 0) W (nI u)) (upd (h 41 0) W (nI b)) (nI i) (h 33 0 i) (W + 1) → ∀ hh : TH, (∀ g, g ≠ 28 → hh g = (up (up (up (up (up (up (up (up h 5 0 W (nI i)) 6 0 W (nI u)) 7 0 W (nI b)) 2 0 5 (nI W + 1)) 4 i 7 x) 39 0 W (nI i)) 40 0 W (nI u)) 41 0 W (nI b)) g) → (∀ k, k ≠ 4 → hh 28 0 k = h 28 0 k) → hh 28 0 4 = nI (W + 1) → InvC P C (W + 1) K N A O D hh := by
            intro x hx hh h1 h2 h3
            unfold InvC at I ⊢
            simp only [h1 _ (show (0 : Nat) ≠ 28 by decide), h1 _ (show (1 : Nat) ≠ 28 by decide), h1 _ (show (2 : Nat) ≠ 28 by decide), h1 _ (show (4 : Nat) ≠ 28 by decide), h1 _ (show (5 : Nat) ≠ 28 by decide), h1 _ (show (6 : Nat) ≠ 28 by decide), h1 _ (show (7 : Nat) ≠ 28 by decide), h1 _ (show (8 : Nat) ≠ 28 by decide), h1 _ (show (9 : Nat) ≠ 28 by decide), h1 _ (show (11 : Nat) ≠ 28 by decide), h1 _ (show (15 : Nat) ≠ 28 by decide), h1 _ (show (16 : Nat) ≠ 28 by decide), h1 _ (show (17 : Nat) ≠ 28 by decide), h1 _ (show (21 : Nat) ≠ 28 by decide), h1 _ (show (22 : Nat) ≠ 28 by decide), h1 _ (show (23 : Nat) ≠ 28 by decide), h1 _ (show (25 : Nat) ≠ 28 by decide), h1 _ (show (26 : Nat) ≠ 28 by decide), h1 _ (show (27 : Nat) ≠ 28 by decide), h1 _ (show (29 : Nat) ≠ 28 by decide), h1 _ (show (30 : Nat) ≠ 28 by decide), h1 _ (show (31 : Nat) ≠ 28 by decide), h1 _ (show (32 : Nat) ≠ 28 by decide), h1 _ (show (33 : Nat) ≠ 28 by decide), h1 _ (show (34 : Nat) ≠ 28 by decide), h1 _ (show (35 : Nat) ≠ 28 by decide), h1 _ (show (36 : Nat) ≠ 28 by decide), h1 _ (show (37 : Nat) ≠ 28 by decide), h1 _ (show (38 : Nat) ≠ 28 by decide), h1 _ (show (39 : Nat) ≠ 28 by decide), h1 _ (show (40 : Nat) ≠ 28 by decide), h1 _ (show (41 : Nat) ≠ 28 by decide), h1 _ (show (42 : Nat) ≠ 28 by decide), h1 _ (show (43 : Nat) ≠ 28 by decide), h1 _ (show (44 : Nat) ≠ 28 by decide), h1 _ (show (45 : Nat) ≠ 28 by decide), h1 _ (show (46 : Nat) ≠ 28 by decide), h1 _ (show (47 : Nat) ≠ 28 by decide), h1 _ (show (48 : Nat) ≠ 28 by decide), h1 _ (show (49 : Nat) ≠ 28 by decide), h1 _ (show (50 : Nat) ≠ 28 by decide), h1 _ (show (51 : Nat) ≠ 28 by decide), h1 _ (show (52 : Nat) ≠ 28 by decide), h1 _ (show (53 : Nat) ≠ 28 by decide), h1 _ (show (54 : Nat) ≠ 28 by decide), h1 _ (show (55 : Nat) ≠ 28 by decide), h1 _ (show (56 : Nat) ≠ 28 by decide), h1 _ (show (57 : Nat) ≠ 28 by decide), h2 0 (by decide), h2 1 (by decide), h2 2 (by decide), h2 3 (by decide), h2 5 (by decide), h2 6 (by decide), h2 7 (by decide), h2 8 (by decide), h2 9 (by decide), h3, upF 5, upF 6, upF 7, upF 39, upF 40, upF 41, up_o, up_k, up_s, fx_o, fm_o, ne_eq, Nat.reduceEqDiff, not_false_eq_true]
            refine ⟨JP0, JD0, JF0, JQ0, JL0, JC_row JC0 (i := i) (fun j hj => by simp only [up_i hj, up_o, up_k, up_s, fx_o, fm_o, ne_eq, Nat.reduceEqDiff, not_false_eq_true]) (fun j hj => ⟨rfl, rfl, rfl, rfl, rfl, rfl, rfl⟩) ⟨?_, ?_, ?_, ?_, ?_⟩ hi ?_, ⟨nI_1 W, rfl, by omega, fun j hj => ?_, fun c hc => ?_⟩, JK0, JN0, JA0⟩
            all_goals try simp only [up_o, up_k, up_s, fx_o, fm_o, ne_eq, Nat.reduceEqDiff, not_false_eq_true]
            · exact ⟨⟨q0, q1, by simp only [up_o, up_k, up_s, fx_o, fm_o, ne_eq, Nat.reduceEqDiff, not_false_eq_true]; exact q5, by simp only [up_o, up_k, up_s, fx_o, fm_o, ne_eq, Nat.reduceEqDiff, not_false_eq_true]; exact q6, by simp only [up_o, up_k, up_s, fx_o, fm_o, ne_eq, Nat.reduceEqDiff, not_false_eq_true]; exact q8, by simp only [up_o, up_k, up_s, fx_o, fm_o, ne_eq, Nat.reduceEqDiff, not_false_eq_true]; exact q9, by simp only [up_o, up_k, up_s, fx_o, fm_o, ne_eq, Nat.reduceEqDiff, not_false_eq_true]; exact q10, by simp only [up_o, up_k, up_s, fx_o, fm_o, ne_eq, Nat.reduceEqDiff, not_false_eq_true]; exact q11, by simp only [up_o, up_k, up_s, fx_o, fm_o, ne_eq, Nat.reduceEqDiff, not_false_eq_true]; exact q12⟩, ⟨sm, pd, s1, s2, s3, s4, s5⟩, r1, r2, r3⟩
            · simp only [upd_a]
              by_cases hjW : j = W
              · subst hjW
                simp only [if_true]
                exact ⟨⟨trivial, trivial, trivial⟩, hbb, ⟨i, hi, rfl⟩, ⟨u, m4, rfl⟩⟩
              · simp only [if_neg hjW]
                exact w4 j (by omega)
            · by_cases hci : c = i
              · subst hci
                simp only [up_s, up_o, up_k, up_s, fx_o, fm_o, ne_eq, Nat.reduceEqDiff, not_false_eq_true]
                rw [hx]
              · simp only [up_i hci, up_o, up_k, up_s, fx_o, fm_o, ne_eq, Nat.reduceEqDiff, not_false_eq_true]
                rw [w5 c hc]
                rw [wvd_s, if_neg]
                · refine wvd_congr W (fun j hj => ?_)
                  simp only [upd_a, if_neg (show j ≠ W by omega), and_self]
                · rintro ⟨⟨z, -⟩, -⟩
                  rw [upd_a, if_pos rfl, nI_eq (by omega) (by omega)] at z
                  exact hci z.symm
          rw [hst]
          refine sX7_waive ?_
          have fin : ∀ hh : TH, hh = up (up (up (up (up (up (up (up (up h 5 0 W (nI i)) 6 0 W (nI u)) 7 0 W (nI b)) 2 0 5 (nI W + 1)) 4 i 7 (wvd (upd (h 39 0) W (nI i)) (upd (h 40 0) W (nI u)) (upd (h 41 0) W (nI b)) (nI i) (h 33 0 i) (W + 1))) 39 0 W (nI i)) 40 0 W (nI u)) 41 0 W (nI b)) 28 0 4 (nI W + 1) → wi E MX7_waived (fun r2 h2 => Same (wvd (upd (h 39 0) W (nI i)) (upd (h 40 0) W (nI u)) (upd (h 41 0) W (nI b)) (nI i) (h 33 0 i) (W + 1)) r2 h2) 0 [some (rf 28 0), some (.int (nI i)), none, none, none] [] hh := by
            intro hh e
            subst e
            refine m_waived (W := W + 1) (by rw [up_s]; exact nI_1 W) (by omega) (by omega) ⟨?_, P, C, W + 1, K, N, A, O, D, key _ rfl _ (fun g hg => by rw [up_o hg]) (fun k hk => by rw [up_k hk]; simp only [up_o, up_k, up_s, fx_o, fm_o, ne_eq, Nat.reduceEqDiff, not_false_eq_true]) (by rw [up_s]; exact nI_1 W)⟩
            simp only [upF 5, upF 6, upF 7, upF 39, upF 40, upF 41, up_o, up_k, up_s, fx_o, fm_o, ne_eq, Nat.reduceEqDiff, not_false_eq_true]
          rcases (show b = 0 ∨ b = 1 by omega) with rfl | rfl
          · simp [-Int32.not_le, -Int32.not_lt, SX7_waive, w_isContract, w_isIn, up_o, up_k, up_s, fx_o, fm_o, ne_eq, Nat.reduceEqDiff, not_false_eq_true, c2, w2, g1, g2, show inn (nI 0) 0 1 by decide, v1, v2, v3, v4, e2, show ¬ W = 20 by omega, show ¬ nI 0 = (1 : Int32) by decide]
            exact fin _ rfl
          · simp [-Int32.not_le, -Int32.not_lt, SX7_waive, w_isContract, w_isIn, up_o, up_k, up_s, fx_o, fm_o, ne_eq, Nat.reduceEqDiff, not_false_eq_true, c2, w2, g1, g2, show inn (nI 1) 0 1 by decide, v1, v2, v3, v4, e2, show ¬ W = 20 by omega, show nI 1 = (1 : Int32) by decide]
            exact fin _ rfl
        · simp [-Int32.not_le, -Int32.not_lt, SX6_waive, w_bhas, w_within, c1, w1, g1, g2, g3, e1, g4, f4]
          refine sX7_waive ?_
          simp [-Int32.not_le, -Int32.not_lt, SX7_waive, w_isContract, w_isIn, up_o, up_k, up_s, fx_o, fm_o, ne_eq, Nat.reduceEqDiff, not_false_eq_true, c2, w2, g1, g2, g3, show nI W = 20 from e2.mpr (by omega), m4]
          exact fin_same I
      · simp [-Int32.not_le, -Int32.not_lt, SX6_waive, w_bhas, w_within, c1, g1, g2, g3, f1]
        refine sX7_waive ?_
        simp [-Int32.not_le, -Int32.not_lt, SX7_waive, w_isContract, w_isIn, up_o, up_k, up_s, fx_o, fm_o, ne_eq, Nat.reduceEqDiff, not_false_eq_true, c2, g1, g2, g3, m1]
        exact fin_same I
    · simp [-Int32.not_le, -Int32.not_lt, SX6_waive, w_bhas, w_within, c1, g1, g2, f1]
      refine sX7_waive ?_
      simp [-Int32.not_le, -Int32.not_lt, SX7_waive, w_isContract, w_isIn, up_o, up_k, up_s, fx_o, fm_o, ne_eq, Nat.reduceEqDiff, not_false_eq_true, c2, g1, g2, m1]
      exact fin_same I
  · simp [-Int32.not_le, -Int32.not_lt, SX6_waive, w_bhas, c1, g1, f1]
    refine sX7_waive ?_
    simp [-Int32.not_le, -Int32.not_lt, SX7_waive, w_isContract, up_o, up_k, up_s, fx_o, fm_o, ne_eq, Nat.reduceEqDiff, not_false_eq_true, c2, g1, m1]
    exact fin_same I
end Waive
