section Books
variable {E : EN} {h hh : TH} {a1 a2 a3 a4 x d w p : Int32} {P C W K N A O D : Nat} {ok : Nat → Bool} {l : Nat → Nat} {r s n : Nat}
theorem i10 : ((1 : Int32) = 0) = False := eq_false (by decide)
theorem w_isPurpose {a : Int32} {Q : Int32 → TH → Prop} : SX6_isPurpose E a h Q ↔ Q (if a = -1 ∨ inn a 0 (h 2 0 1 - 1) then 1 else 0) h := by
  unfold SX6_isPurpose
  by_cases g : a = -1
  · rw [if_pos (Or.inl g)]
    exact ⟨fun z => z.1 g, fun z => ⟨fun _ => z, fun y => absurd g y⟩⟩
  · rw [w_bhas]
    by_cases g2 : inn a 0 (h 2 0 1 - 1)
    · rw [if_pos g2, if_pos (Or.inr g2)]
      exact ⟨fun z => (z.2 g).2 (by decide), fun z => ⟨fun y => absurd y g, fun _ => ⟨fun y => absurd y (by decide), fun _ => z⟩⟩⟩
    · rw [if_neg g2, if_neg (fun z => z.elim g g2)]
      exact ⟨fun z => (z.2 g).1 rfl, fun z => ⟨fun y => absurd y g, fun _ => ⟨fun _ => z, fun y => absurd rfl y⟩⟩⟩
theorem w_side {o : Nat} {Q : Int32 → TH → Prop} : SX3_isSideOf E o p h Q ↔ Q (if h 4 o 0 = p ∨ h 4 o 1 = p then 1 else 0) h := by
  unfold SX3_isSideOf
  by_cases g : h 4 o 0 = p
  · rw [if_pos (Or.inl g)]
    exact ⟨fun z => z.1 g, fun z => ⟨fun _ => z, fun y => absurd g y⟩⟩
  · by_cases g2 : h 4 o 1 = p
    · rw [if_pos (Or.inr g2)]
      exact ⟨fun z => (z.2 g).2 g2, fun z => ⟨fun y => absurd y g, fun _ => ⟨fun y => absurd g2 y, fun _ => z⟩⟩⟩
    · rw [if_neg (fun z => z.elim g g2)]
      exact ⟨fun z => (z.2 g).1 g2, fun z => ⟨fun y => absurd y g, fun _ => ⟨fun _ => z, fun y => absurd y g2⟩⟩⟩
theorem w_isBuilder {a : Int32} {Q : Int32 → TH → Prop} (hi : vp_in a 12) : SX7_isBuilder E a h Q ↔ Q (if knd (h 29 0 a.toNatClampNeg) 2 then 1 else 0) h := by
  unfold SX7_isBuilder
  rw [w_isUnder]
  exact ⟨fun z => z.2.2, fun z => ⟨hi, isB_ite _, z⟩⟩
theorem op_trace (I : Inv h) : wi E MX6_trace (fun r1 h1 => wi E MX7_trace (fun r2 h2 => Same r1 r2 h2) 0 [some (rf 28 0), some (.int a1), some (.int a2)] [] h1) 0 [some (rf 0 0), some (.int a1), some (.int a2)] [] h := by
  obtain ⟨P, C, W, K, N, A, O, D, I⟩ := id I
  obtain ⟨JP0, JD0, JF0, JQ0, JL0, JC0, JV0, JK0, JN0, JA0⟩ := id I
  obtain ⟨q1, q2, q3, q4, q5, q6, q7, q8, q9, q10, q11, q12, q13⟩ := id JA0
  refine sX6_trace ?_
  by_cases g1 : inn a1 0 (nI A - 1)
  · obtain ⟨i, hi, rfl⟩ := (inn_nI (by omega)).mp g1
    have v1 := vin (show i < 40 by omega) (by omega)
    have v2 := ncl (show i ≤ 100000 by omega)
    by_cases g2 : inn a2 0 2
    · obtain ⟨r, -, hr, rfl⟩ := inn_of (l := 0) (m := 2) (by omega) (by omega) g2
      have v3 := vin (show r < 3 by omega) (by omega)
      have v4 := ncl (show r ≤ 100000 by omega)
      simp only [SX6_trace, w_within, q1, v1, v2, v3, v4, if_pos g1, if_pos g2]
      refine ⟨fun z => absurd z (by decide), fun _ => ⟨fun _ => ⟨trivial, trivial, ?_⟩, fun z => absurd z (by decide)⟩⟩
      refine sX7_trace ?_
      simp only [SX7_trace, w_isIn, q2, v1, v2, v3, v4, if_pos g1, if_pos g2]
      refine ⟨fun z => absurd z (by decide), fun _ => ⟨fun _ => ?_, fun z => absurd z (by decide)⟩⟩
      refine m_traces JA0 (by omega) (fun hh a b => ⟨trivial, ?_, P, C, W, K, N, A, O, D, inv_ag I (ag63_ag a)⟩)
      rw [b i hi]
      exact q12 r (by omega) i hi
    · simp only [SX6_trace, w_within, q1, v1, v2, if_pos g1, if_neg g2]
      refine ⟨fun z => absurd z (by decide), fun _ => ⟨fun z => (z trivial).elim, fun _ => f1.mpr ?_⟩⟩
      refine sX7_trace ?_
      simp only [SX7_trace, w_isIn, up_o, up_k, up_s, fx_o, fm_o, ne_eq, Nat.reduceEqDiff, not_false_eq_true, q2, if_pos g1, if_neg g2]
      exact ⟨fun z => absurd z (by decide), fun _ => ⟨fun z => (z trivial).elim, fun _ => m1.mpr (fin_same I)⟩⟩
  · simp only [SX6_trace, w_within, q1, if_neg g1]
    refine ⟨fun _ => f1.mpr ?_, fun z => (z trivial).elim⟩
    refine sX7_trace ?_
    simp only [SX7_trace, w_isIn, up_o, up_k, up_s, fx_o, fm_o, ne_eq, Nat.reduceEqDiff, not_false_eq_true, q2, if_neg g1]
    exact ⟨fun _ => m1.mpr (fin_same I), fun z => (z trivial).elim⟩
def isF (par pur : Nat → Int32) (p c : Int32) (i : Nat) : Bool := decide (par i = p ∧ pur i = c)
theorem x_leftFor {c : Int32} {Q : Int32 → TH → Prop} (hA : h 21 0 3 = nI A) (hA40 : A ≤ 40) (hr : r < 3) (hok : ∀ i, i < A → (ok i = true ↔ h 22 0 i = p ∧ h 23 0 i = c)) (hl : ∀ i, i < A → h 25 r i = nI (l i)) (hQ : Q (nI (sT ok l A)) h) : wi E MX0_leftFor Q 0 [some (rf 21 0), some (.int p), some (.int c), some (.int (nI r)), none, none] [] h := by
  refine sX0_leftFor_0 ?_
  unfold SX0_leftFor_0
  refine run_dn A (fun k => wi E MX0_leftFor Q 6 [some (rf 21 0), some (.int p), some (.int c), some (.int (nI r)), some (.int (nI (sT ok l k))), some (.int (nI k))] [] h) ?_ ?_
  · refine sX0_leftFor_6 ?_
    unfold SX0_leftFor_6
    rw [hA]
    exact ⟨fun _ => hQ, fun z => absurd (Int32.le_refl _) z⟩
  · intro k hk ih
    refine sX0_leftFor_6 ?_
    unfold SX0_leftFor_6
    rw [hA, le_nI (by omega) (by omega), ncl (show k ≤ 100000 by omega), ncl (show r ≤ 100000 by omega), nI_1, hl k hk, nI_add]
    refine ⟨fun z => absurd z (by omega), fun _ => ⟨vin (show k < 40 by omega) (by omega), fun g => ?_, fun g => ⟨fun g2 => ?_, fun g2 => ⟨vin hr (by omega), ?_⟩⟩⟩⟩
    · rw [sT_n (fun z => g ((hok k hk).mp z).1)] at ih; exact ih
    · rw [sT_n (fun z => g2 ((hok k hk).mp z).2)] at ih; exact ih
    · rw [sT_s ((hok k hk).mpr ⟨g, g2⟩)] at ih; exact ih
theorem m_held {c : Int32} {Q : Int32 → TH → Prop} (hA : h 28 0 5 = nI A) (hA40 : A ≤ 40) (hok : ∀ i, i < A → (ok i = true ↔ h 50 0 i = p ∧ h 51 0 i = c)) (hl : ∀ i, i < A → h 63 0 i = nI (l i)) (hQ : Q (nI (sT ok l A)) h) : wi E MX7_held Q 63 [some (rf 28 0), some (.int p), some (.int c), none, some (.int 0), some (.int 0)] [] h := by
  refine run_dn A (fun k => wi E MX7_held Q 63 [some (rf 28 0), some (.int p), some (.int c), none, some (.int (nI (sT ok l k))), some (.int (nI k))] [] h) ?_ ?_
  · refine sX7_held_63 ?_
    unfold SX7_held_63
    rw [hA]
    exact ⟨fun _ => hQ, fun z => absurd (Int32.le_refl _) z⟩
  · intro k hk ih
    refine sX7_held_63 ?_
    unfold SX7_held_63
    rw [hA, le_nI (by omega) (by omega), ncl (show k ≤ 100000 by omega), nI_1, Int32.add_zero, hl k hk, nI_add]
    refine ⟨fun z => absurd z (by omega), fun _ => ⟨vin (show k < 40 by omega) (by omega), fun g => ?_, fun g => ⟨fun g2 => ?_, fun g2 => ?_⟩⟩⟩
    · rw [sT_n (fun z => g ((hok k hk).mp z).1)] at ih; exact ih
    · rw [sT_n (fun z => g2 ((hok k hk).mp z).2)] at ih; exact ih
    · rw [sT_s ((hok k hk).mpr ⟨g, g2⟩)] at ih; exact ih
theorem op_held (I : Inv h) : wi E MX6_held (fun r1 h1 => wi E MX7_held (fun r2 h2 => Same r1 r2 h2) 0 [some (rf 28 0), some (.int a1), some (.int a2), some (.int a3), none, none] [] h1) 0 [some (rf 0 0), some (.int a1), some (.int a2), some (.int a3)] [] h := by
  obtain ⟨P, C, W, K, N, A, O, D, I⟩ := id I
  obtain ⟨JP0, JD0, JF0, JQ0, JL0, JC0, JV0, JK0, JN0, JA0⟩ := id I
  obtain ⟨q1, q2, q3, q4, q5, q6, q7, q8, q9, q10, q11, q12, q13⟩ := id JA0
  obtain ⟨p1, p2, p3, p4, p5, p6⟩ := id JP0
  obtain ⟨c1, c2, c3, c4, c5, c6⟩ := id JC0
  refine sX6_held ?_
  by_cases g1 : inn a1 0 (nI P - 1)
  · obtain ⟨i, hi, rfl⟩ := (inn_nI (by omega)).mp g1
    have v1 := vin (show i < 12 by omega) (by omega)
    have v2 := ncl (show i ≤ 100000 by omega)
    have hk := p5 i (by omega)
    by_cases g2 : a2 = -1 ∨ inn a2 0 (nI C - 1)
    · by_cases g3 : inn a3 0 2
      · obtain ⟨r, -, hr, rfl⟩ := inn_of (l := 0) (m := 2) (by omega) (by omega) g3
        by_cases g4 : knd (h 29 0 i) 2
        · simp only [SX6_held, w_xisParty, w_isPurpose, w_within, w_isOfKind v1, p1, c1, v2, hk, if_pos g1, if_pos g2, if_pos g3, if_pos g4, i10, eq_self, not_true_eq_false, not_false_eq_true, false_implies, true_implies, true_and, and_true]
          have okf : ∀ j, j < A → (isF (h 50 0) (h 51 0) (nI i) a2 j = true ↔ h 22 0 j = nI i ∧ h 23 0 j = a2) := fun j hj => by
            unfold isF
            rw [decide_eq_true_eq, (q10 j hj).1, (q10 j hj).2.1]
          refine x_leftFor (ok := isF (h 50 0) (h 51 0) (nI i) a2) (l := tN r h (A + O)) q1 q6 (by omega) okf (q12 r (by omega)) ?_
          refine sX7_held_0 ?_
          have fin : wv E MX7_traces (fun h13 => wi E MX7_held (fun r2 h2 => Same (nI (sT (isF (h 50 0) (h 51 0) (nI i) a2) (tN r h (A + O)) A)) r2 h2) 63 [some (rf 28 0), some (.int (nI i)), some (.int a2), none, some (.int 0), some (.int 0)] [] h13) 0 [some (rf 28 0), some (.int (nI r)), none, none, none, none] [] h := by
            refine m_traces JA0 (by omega) (fun hh a b => ?_)
            refine m_held (ok := isF (h 50 0) (h 51 0) (nI i) a2) (l := tN r h (A + O)) (by rw [a 28 (by decide)]; exact q2) q6 (fun j hj => ?_) b ⟨rfl, P, C, W, K, N, A, O, D, inv_ag I (ag63_ag a)⟩
            unfold isF
            rw [decide_eq_true_eq, a 50 (by decide), a 51 (by decide)]
          rcases g2 with e | e
          · subst e
            simp only [SX7_held_0, w_misParty, w_isIn, w_isContract, w_isBuilder v1, p2, c2, v2, if_pos g1, if_pos g3, if_pos g4, i10, eq_self, not_true_eq_false, not_false_eq_true, false_implies, true_implies, true_and, and_true]
            exact fin
          · obtain ⟨c, hc, rfl⟩ := (inn_nI (by omega)).mp e
            have mc1 : (nI c = -1) = False := eq_false (nI_m1 (by omega))
            simp only [SX7_held_0, w_misParty, w_isIn, w_isContract, w_isBuilder v1, p2, c2, v2, if_pos g1, if_pos e, mc1, if_pos g3, if_pos g4, i10, eq_self, not_true_eq_false, not_false_eq_true, false_implies, true_implies, true_and, and_true]
            exact fin
        · simp only [SX6_held, w_xisParty, w_isPurpose, w_within, w_isOfKind v1, p1, c1, v2, hk, if_pos g1, if_pos g2, if_pos g3, if_neg g4, f5, i10, eq_self, not_true_eq_false, not_false_eq_true, false_implies, true_implies, true_and, and_true]
          refine sX7_held_0 ?_
          rcases g2 with e | e
          · subst e
            simp only [SX7_held_0, w_misParty, w_isIn, w_isContract, w_isBuilder v1, up_o, up_k, up_s, fx_o, fm_o, ne_eq, Nat.reduceEqDiff, not_false_eq_true, p2, c2, v2, if_pos g1, if_pos g3, if_neg g4, m5, i10, eq_self, not_true_eq_false, not_false_eq_true, false_implies, true_implies, true_and, and_true]
            exact fin_same I
          · obtain ⟨c, hc, rfl⟩ := (inn_nI (by omega)).mp e
            have mc1 : (nI c = -1) = False := eq_false (nI_m1 (by omega))
            simp only [SX7_held_0, w_misParty, w_isIn, w_isContract, w_isBuilder v1, up_o, up_k, up_s, fx_o, fm_o, ne_eq, Nat.reduceEqDiff, not_false_eq_true, p2, c2, v2, if_pos g1, if_pos e, mc1, if_pos g3, if_neg g4, m5, i10, eq_self, not_true_eq_false, not_false_eq_true, false_implies, true_implies, true_and, and_true]
            exact fin_same I
      · simp only [SX6_held, w_xisParty, w_isPurpose, w_within, w_isOfKind v1, p1, c1, v2, hk, if_pos g1, if_pos g2, if_neg g3, f1, i10, eq_self, not_true_eq_false, not_false_eq_true, false_implies, true_implies, true_and, and_true]
        refine sX7_held_0 ?_
        rcases g2 with e | e
        · subst e
          simp only [SX7_held_0, w_misParty, w_isIn, w_isContract, w_isBuilder v1, up_o, up_k, up_s, fx_o, fm_o, ne_eq, Nat.reduceEqDiff, not_false_eq_true, p2, c2, v2, if_pos g1, if_neg g3, m1, i10, eq_self, not_true_eq_false, not_false_eq_true, false_implies, true_implies, true_and, and_true]
          exact fin_same I
        · obtain ⟨c, hc, rfl⟩ := (inn_nI (by omega)).mp e
          have mc1 : (nI c = -1) = False := eq_false (nI_m1 (by omega))
          simp only [SX7_held_0, w_misParty, w_isIn, w_isContract, w_isBuilder v1, up_o, up_k, up_s, fx_o, fm_o, ne_eq, Nat.reduceEqDiff, not_false_eq_true, p2, c2, v2, if_pos g1, if_pos e, mc1, if_neg g3, m1, i10, eq_self, not_true_eq_false, not_false_eq_true, false_implies, true_implies, true_and, and_true]
          exact fin_same I
    · have ga : ¬ a2 = -1 := fun z => g2 (Or.inl z)
      have gb : ¬ inn a2 0 (nI C - 1) := fun z => g2 (Or.inr z)
      simp only [SX6_held, w_xisParty, w_isPurpose, p1, c1, if_pos g1, if_neg g2]
      refine ⟨fun z => absurd z (by decide), fun _ => ⟨fun _ => f1.mpr ?_, fun z => (z trivial).elim⟩⟩
      refine sX7_held_0 ?_
      simp only [SX7_held_0, w_misParty, w_isContract, up_o, up_k, up_s, fx_o, fm_o, ne_eq, Nat.reduceEqDiff, not_false_eq_true, p2, c2, if_pos g1, eq_false ga, if_neg gb, m1, i10, eq_self, not_true_eq_false, not_false_eq_true, false_implies, true_implies, true_and, and_true]
      exact fin_same I
  · simp only [SX6_held, w_xisParty, p1, if_neg g1, f1, i10, eq_self, not_true_eq_false, not_false_eq_true, false_implies, true_implies, true_and, and_true]
    refine sX7_held_0 ?_
    simp only [SX7_held_0, w_misParty, up_o, up_k, up_s, fx_o, fm_o, ne_eq, Nat.reduceEqDiff, not_false_eq_true, p2, if_neg g1, m1, i10, eq_self, not_true_eq_false, not_false_eq_true, false_implies, true_implies, true_and, and_true]
    exact fin_same I
end Books
