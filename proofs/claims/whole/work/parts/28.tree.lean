section Tree
variable {E : EN} {h : TH} {a1 a2 a3 a4 x : Int32} {P C W D : Nat}
/-- the parts of JC over the picture -/
abbrev HC (C D P : Nat) (h : TH) : Prop := JC C D P (h 2 0 1) (h 28 0 1) (h 4) (h 30 0) (h 31 0) (h 32 0) (h 33 0) (h 34 0) (h 35 0) (h 36 0) (h 37 0) (h 38 0)
abbrev HV (W C : Nat) (h : TH) : Prop := JV W C (h 2 0 5) (h 28 0 4) (h 5 0) (h 6 0) (h 7 0) (h 39 0) (h 40 0) (h 41 0) (h 4) (h 33 0)
theorem uniq (J : HC C D P h) : ∀ i j, i < C → j < C → h 31 0 i = h 31 0 j → i = j := fun i j hi hj e => (J.2.2.2.2.2 j hj).2.1 i hi e
/-- UPPER by the model is the row's -/
theorem m_upper {c : Nat} {Q : Int32 → TH → Prop} (J : HC C D P h) (hc : c < C) (hQ : Q (h 4 c 2) h) : SX7_upper E (nI c) h Q := by
  obtain ⟨c1, c2, c3, c4, c5, c6⟩ := id J
  have v1 := vin (show c < 10 by omega) (by omega)
  have v2 := ncl (show c ≤ 100000 by omega)
  unfold SX7_upper
  rw [v2]
  refine ⟨v1, fun g => ?_, fun g => ?_⟩
  · refine m_cto c2 c3 ?_
    obtain ⟨-, -, t⟩ := c6 c hc
    rcases t with t | t
    · exact absurd t.1 g
    · obtain ⟨-, u, u1, u2, u3, -⟩ := t
      rw [cto_some C (show u < C by omega) u2 (fun k hk hkx => uniq J k u hk (by omega) (hkx.trans u2.symm)), ← u3]
      exact hQ
  · obtain ⟨-, -, t⟩ := c6 c hc
    rcases t with t | t
    · rw [← t.2.1]
      exact hQ
    · exact absurd g t.1
theorem m_degree_loop {Q : Int32 → TH → Prop} (J : HC C D P h) : ∀ (k c : Nat), c < k → c < C → ∀ n : Int32, Q (n + h 4 c 4) h → wi E MX7_degree Q 8 [some (rf 28 0), none, some (.int n), some (.int (nI c))] [] h := by
  intro k
  induction k with
  | zero => intro c hc; omega
  | succ k ih =>
    intro c hck hc n hQ
    refine sX7_degree_8 ?_
    have c3 := J.2.2.1
    simp only [SX7_degree_8, show (nI c = -1) = False from eq_false (nI_m1 (by omega)), false_implies, not_false_eq_true, true_implies, true_and]
    refine m_upper J hc ?_
    obtain ⟨-, -, t⟩ := J.2.2.2.2.2 c hc
    rcases t with ⟨t1, t2, t3, t4⟩ | ⟨t1, u, u1, u2, u3, u4, u5⟩
    · refine sX7_degree_8 ?_
      simp only [SX7_degree_8, t2, true_implies, not_true_eq_false, false_implies, and_true]
      rw [t4] at hQ
      exact hQ
    · rw [u3]
      refine ih u (by omega) (by omega) (n + 1) ?_
      rw [u5] at hQ
      rw [Int32.add_assoc, Int32.add_comm 1]
      exact hQ
theorem m_degree {c : Nat} {Q : Int32 → TH → Prop} (J : HC C D P h) (hc : c < C) (hQ : Q (h 4 c 4) h) : wi E MX7_degree Q 0 [some (rf 28 0), some (.int (nI c)), none, none] [] h := by
  refine sX7_degree_0 ?_
  unfold SX7_degree_0
  have c3 := J.2.2.1
  refine m_upper J hc ?_
  obtain ⟨-, -, t⟩ := J.2.2.2.2.2 c hc
  rcases t with ⟨t1, t2, t3, t4⟩ | ⟨t1, u, u1, u2, u3, u4, u5⟩
  · refine sX7_degree_8 ?_
    simp only [SX7_degree_8, t2, true_implies, not_true_eq_false, false_implies, and_true]
    rw [t4] at hQ
    exact hQ
  · rw [u3]
    refine m_degree_loop J (u + 1) u (by omega) (by omega) 1 ?_
    rw [u5, Int32.add_comm] at hQ
    exact hQ
/-- OPEN, as the class tells it -/
def opn (s p w : Int32) : Int32 := if (0 : Int32) < s - (if p < w then w else p) then s - (if p < w then w else p) else 0
theorem w_open {o : Nat} {Q : Int32 → TH → Prop} : SX3_open E o h Q ↔ Q (opn (h 4 o 5) (h 4 o 6) (h 4 o 7)) h := Iff.rfl
theorem wvd_nat {f up cd : Nat → Int32} {c p : Int32} : ∀ n, (∀ i, i < n → ∃ u : Nat, u ≤ 1000000 ∧ up i = nI u) → ∃ u : Nat, u ≤ 1000000 ∧ wvd f up cd c p n = nI u
  | 0, _ => ⟨0, by omega, rfl⟩
  | n + 1, hh => by
    rw [wvd_s]
    by_cases q : (f n = c ∧ (cd n = 0 ∨ ¬ p < up n)) ∧ ¬ up n ≤ wvd f up cd c p n
    · rw [if_pos q]; exact hh n (Nat.lt_succ_self n)
    · rw [if_neg q]; exact wvd_nat n (fun i hi => hh i (Nat.lt_succ_of_lt hi))
theorem opn_nat {s p w : Nat} (hs : s ≤ 1000000) (hp : p ≤ s) (hw : w ≤ 1000000) : opn (nI s) (nI p) (nI w) = nI (s - max p w) := by
  unfold opn
  have e1 : (if nI p < nI w then nI w else nI p) = nI (max p w) := by
    by_cases g : p < w
    · rw [if_pos (nI_lt g (by omega)), Nat.max_eq_right (by omega)]
    · rw [if_neg (nI_nlt (by omega) (by omega)), Nat.max_eq_left (by omega)]
  rw [e1]
  by_cases g : max p w < s
  · rw [pk_sub (by omega), if_pos]
    exact nI_lt (a := 0) (by omega) (by omega)
  · rw [if_neg]
    · rw [show s - max p w = 0 by omega]
      rfl
    · intro z
      rw [Int32.lt_iff_toInt_lt, pk_sub_toInt (by omega) (by omega), Int32.toInt_zero] at z
      omega
/-- the numbers of a contract -/
theorem row_nat {c : Nat} (J : HC C D P h) (V : HV W C h) (hc : c < C) : ∃ s p w : Nat, 1 ≤ s ∧ s ≤ 1000000 ∧ p ≤ s ∧ w ≤ 1000000 ∧ h 32 0 c = nI s ∧ h 33 0 c = nI p ∧ h 4 c 5 = nI s ∧ h 4 c 6 = nI p ∧ h 4 c 7 = nI w ∧ wvd (h 39 0) (h 40 0) (h 41 0) (nI c) (h 33 0 c) W = nI w := by
  obtain ⟨⟨q0, q1, q5, q6, -⟩, ⟨s, p, s1, s2, s3, s4, s5⟩, -⟩ := J.2.2.2.1 c hc
  obtain ⟨w, hw, e⟩ := wvd_nat (f := h 39 0) (up := h 40 0) (cd := h 41 0) (c := nI c) (p := h 33 0 c) W (fun i hi => (V.2.2.2.1 i hi).2.2.2)
  exact ⟨s, p, w, s1, s2, s3, hw, s4, s5, q5.trans s4, q6.trans s5, (V.2.2.2.2 c hc).trans e, e⟩
theorem m_open {c : Nat} {Q : Int32 → TH → Prop} (J : HC C D P h) (V : HV W C h) (hc : c < C) (hQ : Q (opn (h 4 c 5) (h 4 c 6) (h 4 c 7)) h) : SX7_open E (nI c) h Q := by
  have c3 := J.2.2.1
  have v1 := vin (show c < 10 by omega) (by omega)
  have v2 := ncl (show c ≤ 100000 by omega)
  obtain ⟨s, p, w, s1, s2, s3, s4, e1, e2, e3, e4, e5, e6⟩ := row_nat J V hc
  unfold SX7_open
  refine m_waived V.2.1 V.2.2.1 (by omega) ?_
  rw [e3, e4, e5, opn_nat s2 s3 s4] at hQ
  rw [e6]
  simp only [v1, v2, true_and, e1, e2, le_nI (show p < 2 ^ 31 by omega) (show w < 2 ^ 31 by omega), le_nI (show s < 2 ^ 31 by omega) (show w < 2 ^ 31 by omega), le_nI (show s < 2 ^ 31 by omega) (show p < 2 ^ 31 by omega)]
  refine ⟨fun g1 => ⟨fun g2 => ?_, fun g2 => ?_⟩, fun g1 => ⟨fun g2 => ?_, fun g2 => ?_⟩⟩
  · rw [show s - max p w = 0 by omega] at hQ
    exact hQ
  · rw [pk_sub (by omega), show s - w = s - max p w by omega]
    exact hQ
  · rw [show s - max p w = 0 by omega] at hQ
    exact hQ
  · rw [pk_sub (by omega), show s - p = s - max p w by omega]
    exact hQ
theorem op_of (I : Inv h) : wi E MX6_of (fun r1 h1 => wi E MX7_of (fun r2 h2 => Same r1 r2 h2) 0 [some (rf 28 0), some (.int a1), some (.int a2)] [] h1) 0 [some (rf 0 0), some (.int a1), some (.int a2)] [] h := by
  obtain ⟨P, C, W, K, N, A, O, D, I⟩ := id I
  obtain ⟨JP0, JD0, JF0, JQ0, JL0, JC0, JV0, JK0, JN0, JA0⟩ := id I
  obtain ⟨c1, c2, c3, c4, c5, c6⟩ := id JC0
  refine sX6_of ?_
  by_cases g1 : inn a1 0 (nI C - 1)
  · obtain ⟨i, hi, rfl⟩ := (inn_nI (by omega)).mp g1
    have v1 := vin (show i < 10 by omega) (by omega)
    have v2 := ncl (show i ≤ 100000 by omega)
    obtain ⟨⟨q0, q1, q5, q6, q8, q9, q10, q11, q12⟩, -⟩ := id (c4 i hi)
    have same : ∀ x y : Int32, x = y → Same x y h := fun x y e => ⟨e, P, C, W, K, N, A, O, D, I⟩
    by_cases g2 : inn a2 0 13
    · obtain ⟨k, -, hk, rfl⟩ := inn_of (l := 0) (m := 13) (by omega) (by omega) g2
      simp only [SX6_of, w_bhas, w_within, c1, if_pos g1, if_pos g2, v1, v2]
      refine ⟨fun z => absurd z (by decide), fun _ => ⟨fun _ => ⟨trivial, ?_⟩, fun z => absurd z (by decide)⟩⟩
      rcases (show k = 0 ∨ k = 1 ∨ k = 2 ∨ k = 3 ∨ k = 4 ∨ k = 5 ∨ k = 6 ∨ k = 7 ∨ k = 8 ∨ k = 9 ∨ k = 10 ∨ k = 11 ∨ k = 12 ∨ k = 13 by omega) with rfl | rfl | rfl | rfl | rfl | rfl | rfl | rfl | rfl | rfl | rfl | rfl | rfl | rfl
      · simp [SX3_detail, show nI 0 = 0 by decide]
        refine sX7_of ?_
        simp [SX7_of, w_isContract, c2, g1, v1, v2]
        exact same _ _ q0
      · simp [SX3_detail, show nI 1 = 1 by decide]
        refine sX7_of ?_
        simp [SX7_of, w_isContract, c2, g1, v1, v2]
        exact same _ _ q1
      · simp [SX3_detail, show nI 2 = 2 by decide]
        refine sX7_of ?_
        simp [SX7_of, w_isContract, c2, g1, v1, v2]
        exact same _ _ q5
      · simp [SX3_detail, show nI 3 = 3 by decide]
        refine sX7_of ?_
        simp [SX7_of, w_isContract, c2, g1, v1, v2]
        exact same _ _ q6
      · simp [SX3_detail, SX3_owing, show nI 4 = 4 by decide]
        refine sX7_of ?_
        simp [SX7_of, SX7_owing, w_isContract, c2, g1, v1, v2]
        exact same _ _ (by rw [q5, q6])
      · simp [SX3_detail, show nI 5 = 5 by decide]
        refine sX7_of ?_
        simp [SX7_of, w_isContract, c2, g1]
        exact m_waived JV0.2.1 JV0.2.2.1 (by omega) (same _ _ (JV0.2.2.2.2 i hi))
      · simp [SX3_detail, w_open, show nI 6 = 6 by decide]
        refine sX7_of ?_
        simp [SX7_of, w_isContract, c2, g1]
        exact m_open JC0 JV0 hi (same _ _ rfl)
      · simp [SX3_detail, show nI 7 = 7 by decide]
        refine sX7_of ?_
        simp [SX7_of, w_isContract, c2, g1]
        exact m_degree JC0 hi (same _ _ rfl)
      · simp [SX3_detail, show nI 8 = 8 by decide]
        refine sX7_of ?_
        simp [SX7_of, w_isContract, c2, g1]
        exact m_upper JC0 hi (same _ _ rfl)
      · simp [SX3_detail, show nI 9 = 9 by decide]
        refine sX7_of ?_
        simp [SX7_of, w_isContract, c2, g1, v1, v2]
        exact same _ _ q8
      · simp [SX3_detail, show nI 10 = 10 by decide]
        refine sX7_of ?_
        simp [SX7_of, w_isContract, c2, g1, v1, v2]
        exact same _ _ q9
      · simp [SX3_detail, show nI 11 = 11 by decide]
        refine sX7_of ?_
        simp [SX7_of, w_isContract, c2, g1, v1, v2]
        exact same _ _ q10
      · simp [SX3_detail, show nI 12 = 12 by decide]
        refine sX7_of ?_
        simp [SX7_of, w_isContract, c2, g1, v1, v2]
        exact same _ _ q11
      · simp [SX3_detail, show nI 13 = 13 by decide]
        refine sX7_of ?_
        simp [SX7_of, w_isContract, c2, g1, v1, v2]
        exact same _ _ q12
    · simp [-Int32.not_le, -Int32.not_lt, SX6_of, w_bhas, w_within, c1, g1, g2, f1]
      refine sX7_of ?_
      have hne : ∀ k : Nat, k ≤ 13 → ¬ a2 = nI k := fun k hk z => g2 (by
        rw [z]
        refine ⟨nI_pos (by omega), ?_⟩
        rw [show (13 : Int32) = nI 13 by decide]
        exact nI_nlt hk (by omega))
      simp only [SX7_of, w_isContract, up_o, up_k, up_s, fx_o, fm_o, ne_eq, Nat.reduceEqDiff, not_false_eq_true, c2, if_pos g1]
      refine ⟨fun _ => ⟨fun z => absurd z (hne 0 (by omega)), fun z => absurd z (hne 1 (by omega)), fun z => absurd z (hne 2 (by omega)), fun z => absurd z (hne 3 (by omega)), fun z => absurd z (hne 4 (by omega)), fun z => absurd z (hne 5 (by omega)), fun z => absurd z (hne 6 (by omega)), fun z => absurd z (hne 7 (by omega)), fun z => absurd z (hne 8 (by omega)), fun z => absurd z (hne 9 (by omega)), fun z => absurd z (hne 10 (by omega)), fun z => absurd z (hne 11 (by omega)), fun z => absurd z (hne 12 (by omega)), fun z => absurd z (hne 13 (by omega)), fun _ _ _ _ _ _ _ _ _ _ _ _ _ _ => m1.mpr (fin_same I)⟩, fun z => absurd z (by decide)⟩
  · simp [-Int32.not_le, -Int32.not_lt, SX6_of, w_bhas, c1, g1, f1]
    refine sX7_of ?_
    simp [-Int32.not_le, -Int32.not_lt, SX7_of, w_isContract, up_o, up_k, up_s, fx_o, fm_o, ne_eq, Nat.reduceEqDiff, not_false_eq_true, c2, g1, m1]
    exact fin_same I
end Tree
