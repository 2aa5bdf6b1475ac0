section InOut
variable {E : EN} {h hh : TH} {a1 a2 a3 a4 x d w p : Int32} {P C W K N A O D : Nat} {ok : Nat → Bool} {l : Nat → Nat} {r s n : Nat}
theorem x_receive {c v : Int32} {Q : Int32 → TH → Prop} (hA : h 21 0 3 = nI A) (hA40 : A < 40) (hQ : Q (nI A) (up (up (up (up (up (up h 22 0 A p) 23 0 A c) 25 0 A v) 25 1 A v) 25 2 A v) 21 0 3 (nI A + 1))) : wi E MX0_receive Q 0 [some (rf 21 0), some (.int p), some (.int c), some (.int v), none] [] h := by
  have v1 := vin hA40 (by omega)
  have v2 := ncl (show A ≤ 100000 by omega)
  refine sX0_receive_0 ?_
  unfold SX0_receive_0
  rw [hA, v2]
  refine ⟨v1, ?_⟩
  show wi E MX0_receive Q 23 [some (rf 21 0), none, none, some (.int v), some (.int (nI 0))] [] _
  refine sX0_receive_23 ?_
  simp only [SX0_receive_23, up_o, up_k, up_s, fx_o, fm_o, ne_eq, Nat.reduceEqDiff, not_false_eq_true, hA, v1, v2, ncl (show 0 ≤ 100000 by omega), nI_1]
  refine ⟨fun z => absurd z (by decide), fun _ => ⟨vin (show 0 < 3 by omega) (by omega), trivial, ?_⟩⟩
  refine sX0_receive_23 ?_
  simp only [SX0_receive_23, up_o, up_k, up_s, fx_o, fm_o, ne_eq, Nat.reduceEqDiff, not_false_eq_true, hA, v1, v2, ncl (show 0 + 1 ≤ 100000 by omega), nI_1]
  refine ⟨fun z => absurd z (by decide), fun _ => ⟨vin (show 0 + 1 < 3 by omega) (by omega), trivial, ?_⟩⟩
  refine sX0_receive_23 ?_
  simp only [SX0_receive_23, up_o, up_k, up_s, fx_o, fm_o, ne_eq, Nat.reduceEqDiff, not_false_eq_true, hA, v1, v2, ncl (show 0 + 1 + 1 ≤ 100000 by omega), nI_1]
  refine ⟨fun z => absurd z (by decide), fun _ => ⟨vin (show 0 + 1 + 1 < 3 by omega) (by omega), trivial, ?_⟩⟩
  refine sX0_receive_23 ?_
  simp only [SX0_receive_23, up_o, up_k, up_s, fx_o, fm_o, ne_eq, Nat.reduceEqDiff, not_false_eq_true, hA]
  refine ⟨fun _ => ?_, fun z => absurd (by decide) z⟩
  rw [show nI A + 1 - 1 = nI A by rw [nI_1, nI_pred]]
  exact hQ
def Hin (h : TH) (A O : Nat) (p c v : Int32) : TH := up (up (up (up (up (up (up (up (up (up (up (up h 22 0 A p) 23 0 A c) 25 0 A v) 25 1 A v) 25 2 A v) 21 0 3 (nI A + 1)) 50 0 A p) 51 0 A c) 52 0 A v) 55 0 (A + O) (nI A)) 28 0 7 (nI (A + O) + 1)) 28 0 5 (nI A + 1)
theorem in_inv {v : Nat} {c : Int32} (I : InvC P C W K N A O D h) (hA : A < 40) (hv1 : 1 ≤ v) (hv2 : v ≤ 100000) : InvC P C W K N (A + 1) O D (Hin h A O p c (nI v)) := by
  obtain ⟨JP0, JD0, JF0, JQ0, JL0, JC0, JV0, JK0, JN0, JA0⟩ := id I
  unfold InvC Hin
  simp only [up_o, up_k, up_s, fx_o, fm_o, ne_eq, Nat.reduceEqDiff, not_false_eq_true]
  refine ⟨JP0, JD0, JF0, JQ0, JL0, JC0, JV0, JK0, JN0, ?_⟩
  have J := JA_in (p := p) (c := c) (hold' := (up h 22 0 A p) 22 0) (purp' := (up (up h 22 0 A p) 23 0 A c) 23 0) (left' := (up (up (up (up (up h 22 0 A p) 23 0 A c) 25 0 A (nI v)) 25 1 A (nI v)) 25 2 A (nI v)) 25)
    (par' := (up (up (up (up (up (up (up h 22 0 A p) 23 0 A c) 25 0 A (nI v)) 25 1 A (nI v)) 25 2 A (nI v)) 21 0 3 (nI A + 1)) 50 0 A p) 50 0)
    (pur' := (up (up (up (up (up (up (up (up h 22 0 A p) 23 0 A c) 25 0 A (nI v)) 25 1 A (nI v)) 25 2 A (nI v)) 21 0 3 (nI A + 1)) 50 0 A p) 51 0 A c) 51 0)
    (coin' := (up (up (up (up (up (up (up (up (up h 22 0 A p) 23 0 A c) 25 0 A (nI v)) 25 1 A (nI v)) 25 2 A (nI v)) 21 0 3 (nI A + 1)) 50 0 A p) 51 0 A c) 52 0 A (nI v)) 52 0)
    (ev' := (up (up (up (up (up (up (up (up (up (up h 22 0 A p) 23 0 A c) 25 0 A (nI v)) 25 1 A (nI v)) 25 2 A (nI v)) 21 0 3 (nI A + 1)) 50 0 A p) 51 0 A c) 52 0 A (nI v)) 55 0 (A + O) (nI A)) 55 0)
    JA0 hA hv1 hv2 (fun i => by simp only [up_a, up_o, up_k, up_s, fx_o, fm_o, ne_eq, Nat.reduceEqDiff, not_false_eq_true]) (fun i => by simp only [up_a, up_o, up_k, up_s, fx_o, fm_o, ne_eq, Nat.reduceEqDiff, not_false_eq_true]) (fun r hr i hi => by
      rcases (show r = 0 ∨ r = 1 ∨ r = 2 by omega) with e | e | e
      · subst e; simp only [up_a, up_i, up_o, up_k, up_s, fx_o, fm_o, ne_eq, Nat.reduceEqDiff, not_false_eq_true, show ¬ (0 = 1) by decide, show ¬ (0 = 2) by decide]
      · subst e; simp only [up_a, up_i, up_o, up_k, up_s, fx_o, fm_o, ne_eq, Nat.reduceEqDiff, not_false_eq_true, show ¬ (1 = 0) by decide, show ¬ (1 = 2) by decide]
      · subst e; simp only [up_a, up_i, up_o, up_k, up_s, fx_o, fm_o, ne_eq, Nat.reduceEqDiff, not_false_eq_true, show ¬ (2 = 0) by decide, show ¬ (2 = 1) by decide])
    (fun i => by simp only [up_a, up_o, up_k, up_s, fx_o, fm_o, ne_eq, Nat.reduceEqDiff, not_false_eq_true]) (fun i => by simp only [up_a, up_o, up_k, up_s, fx_o, fm_o, ne_eq, Nat.reduceEqDiff, not_false_eq_true]) (fun i => by simp only [up_a, up_o, up_k, up_s, fx_o, fm_o, ne_eq, Nat.reduceEqDiff, not_false_eq_true]) (fun i => by simp only [up_a, up_o, up_k, up_s, fx_o, fm_o, ne_eq, Nat.reduceEqDiff, not_false_eq_true])
  rw [JA0.1, JA0.2.1, JA0.2.2.2.2.1] at J
  exact J
theorem op_in (I : Inv h) : wi E MX6_in (fun r1 h1 => wi E MX7_in (fun r2 h2 => Same r1 r2 h2) 0 [some (rf 28 0), some (.int a1), some (.int a2), some (.int a3)] [] h1) 0 [some (rf 0 0), some (.int a1), some (.int a2), some (.int a3)] [] h := by
  obtain ⟨P, C, W, K, N, A, O, D, I⟩ := id I
  obtain ⟨JP0, JD0, JF0, JQ0, JL0, JC0, JV0, JK0, JN0, JA0⟩ := id I
  obtain ⟨q1, q2, q3, q4, q5, q6, q7, q8, q9, q10, q11, q12, q13⟩ := id JA0
  obtain ⟨p1, p2, p3, p4, p5, p6⟩ := id JP0
  obtain ⟨c1, c2, c3, c4, c5, c6⟩ := id JC0
  have e1 : (nI A < 40) ↔ A < 40 := lt_lit (by decide) (by omega) (by omega)
  have e2 : (nI A = 40) ↔ A = 40 := eq_lit (by decide) (by omega) (by omega)
  refine sX6_in ?_
  by_cases g1 : inn a1 0 (nI P - 1)
  · obtain ⟨i, hi, rfl⟩ := (inn_nI (by omega)).mp g1
    have v1 := vin (show i < 12 by omega) (by omega)
    have v2 := ncl (show i ≤ 100000 by omega)
    have hk := p5 i (by omega)
    by_cases g2 : a2 = -1 ∨ inn a2 0 (nI C - 1)
    · by_cases g3 : inn a3 1 100000
      · obtain ⟨v, hv1, hv2, rfl⟩ := inn_of (l := 1) (m := 100000) (by omega) (by omega) g3
        by_cases g4 : knd (h 29 0 i) 2
        · simp only [SX6_in, w_xisParty, w_isPurpose, w_within, w_isOfKind v1, w_side, p1, c1, q1, v2, hk, if_pos g1, if_pos g2, if_pos g3, if_pos g4, i10, eq_self, not_true_eq_false, not_false_eq_true, false_implies, true_implies, true_and, and_true]
          rcases g2 with e | e
          · subst e
            simp only [i10, eq_self, not_true_eq_false, not_false_eq_true, false_implies, true_implies, true_and, and_true, e1]
            refine ⟨fun g5 => ?_, fun g5 => f4.mpr ?_⟩
            · refine x_receive q1 g5 ?_
              refine sX7_in ?_
              simp only [SX7_in, w_misParty, w_isIn, w_isContract, w_isBuilder v1, up_o, up_k, up_s, fx_o, fm_o, ne_eq, Nat.reduceEqDiff, not_false_eq_true, p2, c2, v2, q2, q5, if_pos g1, if_pos g3, if_pos g4, eq_false (mt e2.mp (show ¬ A = 40 by omega)), vin g5 (by omega), vin (show A + O < 80 by omega) (by omega), ncl (show A ≤ 100000 by omega), ncl (show A + O ≤ 100000 by omega), i10, eq_self, not_true_eq_false, not_false_eq_true, false_implies, true_implies, true_and, and_true]
              refine ⟨?_, P, C, W, K, N, A + 1, O, D, in_inv I g5 hv1 hv2⟩
              rw [nI_1, nI_pred]
            · refine sX7_in ?_
              simp only [SX7_in, w_misParty, w_isIn, w_isContract, w_isBuilder v1, up_o, up_k, up_s, fx_o, fm_o, ne_eq, Nat.reduceEqDiff, not_false_eq_true, p2, c2, v2, q2, q5, if_pos g1, if_pos g3, if_pos g4, eq_true (e2.mpr (show A = 40 by omega)), m4, i10, eq_self, not_true_eq_false, not_false_eq_true, false_implies, true_implies, true_and, and_true]
              exact fin_same I
          · obtain ⟨c, hc, rfl⟩ := (inn_nI (by omega)).mp e
            have mc1 : (nI c = -1) = False := eq_false (nI_m1 (by omega))
            have u1 := vin (show c < 10 by omega) (by omega)
            have u2 := ncl (show c ≤ 100000 by omega)
            obtain ⟨⟨r0, r1, -⟩, -⟩ := c4 c hc
            by_cases g6 : h 30 0 c = nI i ∨ h 31 0 c = nI i
            · simp only [mc1, u1, u2, r0, r1, if_pos g6, i10, eq_self, not_true_eq_false, not_false_eq_true, false_implies, true_implies, true_and, and_true, e1]
              refine ⟨fun g5 => ?_, fun g5 => f4.mpr ?_⟩
              · refine x_receive q1 g5 ?_
                refine sX7_in ?_
                simp only [SX7_in, w_misParty, w_isIn, w_isContract, w_isBuilder v1, up_o, up_k, up_s, fx_o, fm_o, ne_eq, Nat.reduceEqDiff, not_false_eq_true, p2, c2, v2, q2, q5, mc1, u1, u2, if_pos g1, if_pos e, if_pos g3, if_pos g4, eq_false (mt e2.mp (show ¬ A = 40 by omega)), vin g5 (by omega), vin (show A + O < 80 by omega) (by omega), ncl (show A ≤ 100000 by omega), ncl (show A + O ≤ 100000 by omega), i10, eq_self, not_true_eq_false, not_false_eq_true, false_implies, true_implies, true_and, and_true]
                have fin : Same (nI A) (nI A + 1 - 1) (Hin h A O (nI i) (nI c) (nI v)) := by
                  refine ⟨?_, P, C, W, K, N, A + 1, O, D, in_inv I g5 hv1 hv2⟩
                  rw [nI_1, nI_pred]
                exact ⟨fun _ => fin, fun y => ⟨fun _ => fin, fun z => absurd g6 (fun y2 => y2.elim z y)⟩⟩
              · refine sX7_in ?_
                simp only [SX7_in, w_misParty, w_isIn, w_isContract, w_isBuilder v1, up_o, up_k, up_s, fx_o, fm_o, ne_eq, Nat.reduceEqDiff, not_false_eq_true, p2, c2, v2, q2, q5, mc1, u1, u2, if_pos g1, if_pos e, if_pos g3, if_pos g4, eq_true (e2.mpr (show A = 40 by omega)), m4, i10, eq_self, not_true_eq_false, not_false_eq_true, false_implies, true_implies, true_and, and_true]
                exact ⟨fun _ => fin_same I, fun y => ⟨fun _ => fin_same I, fun z => absurd g6 (fun y2 => y2.elim z y)⟩⟩
            · simp only [mc1, u1, u2, r0, r1, if_neg g6, i10, eq_self, not_true_eq_false, not_false_eq_true, false_implies, true_implies, true_and, and_true, f3]
              refine sX7_in ?_
              simp only [SX7_in, w_misParty, w_isIn, w_isContract, w_isBuilder v1, up_o, up_k, up_s, fx_o, fm_o, ne_eq, Nat.reduceEqDiff, not_false_eq_true, p2, c2, v2, q2, q5, mc1, u1, u2, if_pos g1, if_pos e, if_pos g3, if_pos g4, m3, i10, eq_self, not_true_eq_false, not_false_eq_true, false_implies, true_implies, true_and, and_true]
              exact ⟨fun z => absurd (Or.inr z) g6, fun _ => ⟨fun z => absurd (Or.inl z) g6, fun _ => fin_same I⟩⟩
        · simp only [SX6_in, w_xisParty, w_isPurpose, w_within, w_isOfKind v1, p1, c1, v2, hk, if_pos g1, if_pos g2, if_pos g3, if_neg g4, f5, i10, eq_self, not_true_eq_false, not_false_eq_true, false_implies, true_implies, true_and, and_true]
          refine sX7_in ?_
          rcases g2 with e | e
          · subst e
            simp only [SX7_in, w_misParty, w_isIn, w_isContract, w_isBuilder v1, up_o, up_k, up_s, fx_o, fm_o, ne_eq, Nat.reduceEqDiff, not_false_eq_true, p2, c2, v2, if_pos g1, if_pos g3, if_neg g4, m5, i10, eq_self, not_true_eq_false, not_false_eq_true, false_implies, true_implies, true_and, and_true]
            exact fin_same I
          · obtain ⟨c, hc, rfl⟩ := (inn_nI (by omega)).mp e
            have mc1 : (nI c = -1) = False := eq_false (nI_m1 (by omega))
            simp only [SX7_in, w_misParty, w_isIn, w_isContract, w_isBuilder v1, up_o, up_k, up_s, fx_o, fm_o, ne_eq, Nat.reduceEqDiff, not_false_eq_true, p2, c2, v2, if_pos g1, if_pos e, mc1, if_pos g3, if_neg g4, m5, i10, eq_self, not_true_eq_false, not_false_eq_true, false_implies, true_implies, true_and, and_true]
            exact fin_same I
      · simp only [SX6_in, w_xisParty, w_isPurpose, w_within, p1, c1, v2, hk, if_pos g1, if_pos g2, if_neg g3, f1, i10, eq_self, not_true_eq_false, not_false_eq_true, false_implies, true_implies, true_and, and_true]
        refine sX7_in ?_
        rcases g2 with e | e
        · subst e
          simp only [SX7_in, w_misParty, w_isIn, w_isContract, up_o, up_k, up_s, fx_o, fm_o, ne_eq, Nat.reduceEqDiff, not_false_eq_true, p2, c2, v2, if_pos g1, if_neg g3, m1, i10, eq_self, not_true_eq_false, not_false_eq_true, false_implies, true_implies, true_and, and_true]
          exact fin_same I
        · obtain ⟨c, hc, rfl⟩ := (inn_nI (by omega)).mp e
          have mc1 : (nI c = -1) = False := eq_false (nI_m1 (by omega))
          simp only [SX7_in, w_misParty, w_isIn, w_isContract, up_o, up_k, up_s, fx_o, fm_o, ne_eq, Nat.reduceEqDiff, not_false_eq_true, p2, c2, v2, if_pos g1, if_pos e, mc1, if_neg g3, m1, i10, eq_self, not_true_eq_false, not_false_eq_true, false_implies, true_implies, true_and, and_true]
          exact fin_same I
    · have ga : ¬ a2 = -1 := fun z => g2 (Or.inl z)
      have gb : ¬ inn a2 0 (nI C - 1) := fun z => g2 (Or.inr z)
      simp only [SX6_in, w_xisParty, w_isPurpose, p1, c1, if_pos g1, if_neg g2, f1, i10, eq_self, not_true_eq_false, not_false_eq_true, false_implies, true_implies, true_and, and_true]
      refine sX7_in ?_
      simp only [SX7_in, w_misParty, w_isContract, up_o, up_k, up_s, fx_o, fm_o, ne_eq, Nat.reduceEqDiff, not_false_eq_true, p2, c2, if_pos g1, eq_false ga, if_neg gb, m1, i10, eq_self, not_true_eq_false, not_false_eq_true, false_implies, true_implies, true_and, and_true]
      exact fin_same I
  · simp only [SX6_in, w_xisParty, p1, if_neg g1, f1, i10, eq_self, not_true_eq_false, not_false_eq_true, false_implies, true_implies, true_and, and_true]
    refine sX7_in ?_
    simp only [SX7_in, w_misParty, up_o, up_k, up_s, fx_o, fm_o, ne_eq, Nat.reduceEqDiff, not_false_eq_true, p2, if_neg g1, m1, i10, eq_self, not_true_eq_false, not_false_eq_true, false_implies, true_implies, true_and, and_true]
    exact fin_same I
theorem x_balance {Q : Int32 → TH → Prop} (hA : h 21 0 3 = nI A) (hA40 : A ≤ 40) (hok : ∀ i, i < A → (ok i = true ↔ h 22 0 i = p)) (hl : ∀ i, i < A → h 25 0 i = nI (l i)) (hQ : Q (nI (sT ok l A)) h) : wi E MX0_balance Q 0 [some (rf 21 0), some (.int p), none, none] [] h := by
  refine sX0_balance_0 ?_
  unfold SX0_balance_0
  refine run_dn A (fun k => wi E MX0_balance Q 4 [some (rf 21 0), some (.int p), some (.int (nI (sT ok l k))), some (.int (nI k))] [] h) ?_ ?_
  · refine sX0_balance_4 ?_
    unfold SX0_balance_4
    rw [hA]
    exact ⟨fun _ => hQ, fun z => absurd (Int32.le_refl _) z⟩
  · intro k hk ih
    refine sX0_balance_4 ?_
    unfold SX0_balance_4
    rw [hA, le_nI (by omega) (by omega), ncl (show k ≤ 100000 by omega), nI_1, hl k hk, nI_add]
    refine ⟨fun z => absurd z (by omega), fun _ => ⟨vin (show k < 40 by omega) (by omega), fun g => ?_, fun g => ?_⟩⟩
    · rw [sT_n (fun z => g ((hok k hk).mp z))] at ih; exact ih
    · rw [sT_s ((hok k hk).mpr g)] at ih; exact ih
theorem m_account {B : Nat} {Q : Int32 → TH → Prop} (hA : h 28 0 5 = nI A) (hO : h 28 0 6 = nI O) (hA40 : A ≤ 40) (hO40 : O ≤ 40) (hc : ∀ i, i < A → ∃ c : Nat, 1 ≤ c ∧ c ≤ 100000 ∧ h 52 0 i = nI c) (ho : ∀ i, i < O → ∃ c : Nat, 1 ≤ c ∧ c ≤ 1000000 ∧ h 54 0 i = nI c)
    (hB : B + sT (isP (h 53 0) p) (cN (h 54 0)) O = sT (isP (h 50 0) p) (cN (h 52 0)) A) (hQ : Q (nI B) h) : wi E MX7_account Q 0 [some (rf 28 0), some (.int p), none, none] [] h := by
  have c0 : ∀ i, i < A → h 52 0 i = nI (cN (h 52 0) i) := fun i hi => by
    obtain ⟨c, z1, z2, z3⟩ := hc i hi
    unfold cN
    rw [z3, nI_clamp (by omega)]
  have o0 : ∀ i, i < O → h 54 0 i = nI (cN (h 54 0) i) := fun i hi => by
    obtain ⟨c, z1, z2, z3⟩ := ho i hi
    unfold cN
    rw [z3, nI_clamp (by omega)]
  refine sX7_account_0 ?_
  unfold SX7_account_0
  refine run_dn A (fun k => wi E MX7_account Q 4 [some (rf 28 0), some (.int p), some (.int (nI (sT (isP (h 50 0) p) (cN (h 52 0)) k))), some (.int (nI k))] [] h) ?_ ?_
  · refine sX7_account_4 ?_
    unfold SX7_account_4
    rw [hA]
    refine ⟨fun _ => ?_, fun z => absurd (Int32.le_refl _) z⟩
    refine run_dn O (fun k => wi E MX7_account Q 43 [some (rf 28 0), some (.int p), some (.int (nI (sT (isP (h 50 0) p) (cN (h 52 0)) A - sT (isP (h 53 0) p) (cN (h 54 0)) k))), some (.int (nI k))] [] h) ?_ ?_
    · refine sX7_account_43 ?_
      unfold SX7_account_43
      rw [hO]
      refine ⟨fun _ => ?_, fun z => absurd (Int32.le_refl _) z⟩
      rw [show sT (isP (h 50 0) p) (cN (h 52 0)) A - sT (isP (h 53 0) p) (cN (h 54 0)) O = B by omega]
      exact hQ
    · intro k hk ih
      have mo := sT_mono (ok := isP (h 53 0) p) (l := cN (h 54 0)) (m := k + 1) O (by omega)
      refine sX7_account_43 ?_
      unfold SX7_account_43
      rw [hO, le_nI (by omega) (by omega), ncl (show k ≤ 100000 by omega), nI_1, Int32.sub_zero]
      refine ⟨fun z => absurd z (by omega), fun _ => ⟨vin (show k < 40 by omega) (by omega), fun g => ?_, fun g => ?_⟩⟩
      · rw [sT_n (by unfold isP; simp [g])] at ih; exact ih
      · have gk : isP (h 53 0) p k = true := by unfold isP; simp [g]
        rw [sT_s gk] at ih mo
        rw [o0 k hk, pk_sub (by omega), Nat.sub_sub]
        exact ih
  · intro k hk ih
    refine sX7_account_4 ?_
    unfold SX7_account_4
    rw [hA, le_nI (by omega) (by omega), ncl (show k ≤ 100000 by omega), nI_1, Int32.add_zero]
    refine ⟨fun z => absurd z (by omega), fun _ => ⟨vin (show k < 40 by omega) (by omega), fun g => ?_, fun g => ?_⟩⟩
    · rw [sT_n (by unfold isP; simp [g])] at ih; exact ih
    · have gk : isP (h 50 0) p k = true := by unfold isP; simp [g]
      rw [sT_s gk] at ih
      rw [c0 k hk, nI_add]
      exact ih
end InOut
