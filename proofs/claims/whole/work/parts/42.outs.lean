section Outs
variable {E : EN} {h hh : TH} {a1 a2 a3 a4 x d w p : Int32} {P C W K N A O D : Nat} {ok : Nat → Bool} {l : Nat → Nat} {r s n : Nat}
def Hout (hh : TH) (A O : Nat) (p v : Int32) : TH := up (up (up (up (up hh 53 0 O p) 54 0 O v) 55 0 (A + O) (100 + nI O)) 28 0 7 (nI (A + O) + 1)) 28 0 6 (nI O + 1)
theorem out_inv {v : Nat} (I : InvC P C W K N A O D h) (hO : O < 40) (hv1 : 1 ≤ v) (hv2 : v ≤ 1000000) (hb : v ≤ sT (isP (h 50 0) p) (tN 0 h (A + O)) A)
    (hx : ∀ g, ¬ g = 25 → ¬ g = 21 → hh g = h g) (h3 : hh 21 0 3 = h 21 0 3) (h4 : hh 21 0 4 = nI O + 1) (hl : ∀ r, r < 3 → ∀ i, i < A → hh 25 r i = nI (outN r A (h 50 0) (h 51 0) p (tN r h (A + O)) v i)) : InvC P C W K N A (O + 1) D (Hout hh A O p (nI v)) := by
  obtain ⟨JP0, JD0, JF0, JQ0, JL0, JC0, JV0, JK0, JN0, JA0⟩ := id I
  unfold InvC Hout
  simp only [up_o, up_k, up_s, fx_o, fm_o, ne_eq, Nat.reduceEqDiff, not_false_eq_true, hx, h3, h4]
  refine ⟨JP0, JD0, JF0, JQ0, JL0, JC0, JV0, JK0, JN0, ?_⟩
  have J := JA_out (p := p) (left' := hh 25) (opar' := (up hh 53 0 O p) 53 0) (ocoin' := (up (up hh 53 0 O p) 54 0 O (nI v)) 54 0) (ev' := (up (up (up hh 53 0 O p) 54 0 O (nI v)) 55 0 (A + O) (100 + nI O)) 55 0) JA0 hO hv1 hv2 hb hl
    (fun i => by simp only [up_a, up_o, up_k, up_s, fx_o, fm_o, ne_eq, Nat.reduceEqDiff, not_false_eq_true, hx]) (fun i => by simp only [up_a, up_o, up_k, up_s, fx_o, fm_o, ne_eq, Nat.reduceEqDiff, not_false_eq_true, hx]) (fun i => by simp only [up_a, up_o, up_k, up_s, fx_o, fm_o, ne_eq, Nat.reduceEqDiff, not_false_eq_true, hx]; rw [show (100 : Int32) + nI O = nI (100 + O) from nI_add 100 O])
  rw [JA0.2.2.1, JA0.2.2.2.1, JA0.2.2.2.2.1] at J
  exact J
theorem op_out (I : Inv h) : wi E MX6_out (fun r1 h1 => wi E MX7_out (fun r2 h2 => Same r1 r2 h2) 0 [some (rf 28 0), some (.int a1), some (.int a2)] [] h1) 0 [some (rf 0 0), some (.int a1), some (.int a2), none] [] h := by
  obtain ⟨P, C, W, K, N, A, O, D, I⟩ := id I
  obtain ⟨JP0, JD0, JF0, JQ0, JL0, JC0, JV0, JK0, JN0, JA0⟩ := id I
  obtain ⟨q1, q2, q3, q4, q5, q6, q7, q8, q9, q10, q11, q12, q13⟩ := id JA0
  obtain ⟨p1, p2, p3, p4, p5, p6⟩ := id JP0
  have e1 : (nI O < 40) ↔ O < 40 := lt_lit (by decide) (by omega) (by omega)
  have e2 : (nI O = 40) ↔ O = 40 := eq_lit (by decide) (by omega) (by omega)
  refine sX6_out ?_
  by_cases g1 : inn a1 0 (nI P - 1)
  · obtain ⟨i, hi, rfl⟩ := (inn_nI (by omega)).mp g1
    have v1 := vin (show i < 12 by omega) (by omega)
    have v2 := ncl (show i ≤ 100000 by omega)
    have hk := p5 i (by omega)
    by_cases g2 : inn a2 1 1000000
    · obtain ⟨v, hv1, hv2, rfl⟩ := inn_of (l := 1) (m := 1000000) (by omega) (by omega) g2
      by_cases g3 : knd (h 29 0 i) 2
      · simp only [SX6_out, w_xisParty, w_within, w_isOfKind v1, p1, v2, hk, if_pos g1, if_pos g2, if_pos g3, i10, eq_self, not_true_eq_false, not_false_eq_true, false_implies, true_implies, true_and, and_true]
        have okf : ∀ j, j < A → (isP (h 50 0) (nI i) j = true ↔ h 22 0 j = nI i) := fun j hj => by
          unfold isP
          rw [decide_eq_true_eq, (q10 j hj).1]
        have bl := trN_le (r := 0) (par := h 50 0) (pur := h 51 0) (opar := h 53 0) (ocoin := h 54 0) (fun i hi => (q10 i hi).2.2) (A + O) q9
        have Bu : sT (isP (h 50 0) (nI i)) (tN 0 h (A + O)) A ≤ A * 100000 := sT_ub (ok := isP (h 50 0) (nI i)) A (fun j _ => bl j)
        refine x_balance (ok := isP (h 50 0) (nI i)) (l := tN 0 h (A + O)) q1 q6 okf (q12 0 (by omega)) ?_
        have ac := fun {Q : Int32 → TH → Prop} (hQ : Q (nI (sT (isP (h 50 0) (nI i)) (tN 0 h (A + O)) A)) h) => m_account (E := E) (h := h) (Q := Q) q2 q4 q6 q7 (fun i hi => (q10 i hi).2.2) q11 (q13 (nI i)) hQ
        rw [q3, e1, le_nI (by omega) (by omega)]
        refine ⟨fun g4 => ⟨fun g5 => ?_, fun g5 => f4.mpr ?_⟩, fun g4 => f3.mpr ?_⟩
        · refine x_spend (par := h 50 0) (pur := h 51 0) (L := fun r => tN r h (A + O)) q1 q6 (fun j hj => ⟨(q10 j hj).1, (q10 j hj).2.1⟩) (fun r hr j hj => ⟨q12 r hr j hj, trN_le (fun i hi => (q10 i hi).2.2) (A + O) q9 j⟩) hv2 (fun hh a b => ?_)
          have hx : ∀ g, ¬ g = 25 → ¬ g = 21 → hh g = h g := fun g z1 z2 => by rw [a g z1, up_o z2]
          have h3 : hh 21 0 3 = h 21 0 3 := by rw [a 21 (by decide), up_k (by decide)]
          have h4 : hh 21 0 4 = nI O + 1 := by rw [a 21 (by decide), up_s, q3]
          refine sX7_out ?_
          simp only [SX7_out, w_misParty, w_isIn, w_isBuilder v1, up_o, up_k, up_s, fx_o, fm_o, ne_eq, Nat.reduceEqDiff, not_false_eq_true, hx, p2, v2, if_pos g1, if_pos g2, if_pos g3, i10, eq_self, not_true_eq_false, not_false_eq_true, false_implies, true_implies, true_and, and_true]
          refine m_account (A := A) (O := O) (by rw [hx 28 (by decide) (by decide)]; exact q2) (by rw [hx 28 (by decide) (by decide)]; exact q4) q6 q7 (fun j hj => by rw [hx 52 (by decide) (by decide)]; exact (q10 j hj).2.2) (fun j hj => by rw [hx 54 (by decide) (by decide)]; exact q11 j hj) (B := sT (isP (h 50 0) (nI i)) (tN 0 h (A + O)) A) (by rw [hx 53 (by decide) (by decide), hx 54 (by decide) (by decide), hx 50 (by decide) (by decide), hx 52 (by decide) (by decide)]; exact q13 (nI i)) ?_
          simp only [up_o, up_k, up_s, fx_o, fm_o, ne_eq, Nat.reduceEqDiff, not_false_eq_true, hx, q4, q5, eq_false (mt e2.mp (show ¬ O = 40 by omega)), vin g5 (by omega), vin (show A + O < 80 by omega) (by omega), ncl (show O ≤ 100000 by omega), ncl (show A + O ≤ 100000 by omega), i10, eq_self, not_true_eq_false, not_false_eq_true, false_implies, true_implies, true_and, and_true]
          refine ⟨fun _ => ?_, fun z => absurd (nI_le g4 (by omega)) z⟩
          have I2 := out_inv (p := nI i) I g5 hv1 hv2 g4 hx h3 h4 b
          obtain ⟨JPh, JDh, JFh, JQh, JLh, JCh, JVh, JKh, JNh, JAh⟩ := id I2
          obtain ⟨s1, s2, s3, s4, s5, s6, s7, s8, s9, s10, s11, s12, s13⟩ := id JAh
          refine m_account (A := A) (O := O + 1) (h := Hout hh A O (nI i) (nI v)) s2 s4 s6 s7 (fun i hi => (s10 i hi).2.2) s11 (B := sT (isP (h 50 0) (nI i)) (tN 0 h (A + O)) A - v) ?_ ⟨pk_sub g4, P, C, W, K, N, A, O + 1, D, I2⟩
          have c50 : (Hout hh A O (nI i) (nI v)) 50 = h 50 := by unfold Hout; simp only [up_o, up_k, up_s, fx_o, fm_o, ne_eq, Nat.reduceEqDiff, not_false_eq_true, hx]
          have c52 : (Hout hh A O (nI i) (nI v)) 52 = h 52 := by unfold Hout; simp only [up_o, up_k, up_s, fx_o, fm_o, ne_eq, Nat.reduceEqDiff, not_false_eq_true, hx]
          have c53 : ∀ j, (Hout hh A O (nI i) (nI v)) 53 0 j = if j = O then nI i else h 53 0 j := fun j => by unfold Hout; simp only [up_a, up_o, up_k, up_s, fx_o, fm_o, ne_eq, Nat.reduceEqDiff, not_false_eq_true, hx]
          have c54 : ∀ j, (Hout hh A O (nI i) (nI v)) 54 0 j = if j = O then nI v else h 54 0 j := fun j => by unfold Hout; simp only [up_a, up_o, up_k, up_s, fx_o, fm_o, ne_eq, Nat.reduceEqDiff, not_false_eq_true, hx]
          have g6 : isP ((Hout hh A O (nI i) (nI v)) 53 0) (nI i) O = true := by unfold isP; rw [c53, if_pos rfl]; simp
          have c3 : cN ((Hout hh A O (nI i) (nI v)) 54 0) O = v := by unfold cN; rw [c54, if_pos rfl, nI_clamp (by omega)]
          have c2 : sT (isP ((Hout hh A O (nI i) (nI v)) 53 0) (nI i)) (cN ((Hout hh A O (nI i) (nI v)) 54 0)) O = sT (isP (h 53 0) (nI i)) (cN (h 54 0)) O :=
            sT_congr O (fun j hj => ⟨by unfold isP; rw [c53, if_neg (by omega)], fun _ => by unfold cN; rw [c54, if_neg (by omega)]⟩)
          have : sT (isP (h 50 0) (nI i)) (tN 0 h (A + O)) A + sT (isP (h 53 0) (nI i)) (cN (h 54 0)) O = sT (isP (h 50 0) (nI i)) (cN (h 52 0)) A := q13 (nI i)
          rw [sT_s g6, c2, c3, c50, c52]
          omega
        · refine sX7_out ?_
          simp only [SX7_out, w_misParty, w_isIn, w_isBuilder v1, up_o, up_k, up_s, fx_o, fm_o, ne_eq, Nat.reduceEqDiff, not_false_eq_true, p2, v2, if_pos g1, if_pos g2, if_pos g3, i10, eq_self, not_true_eq_false, not_false_eq_true, false_implies, true_implies, true_and, and_true]
          refine m_account (h := fx h 4) (A := A) (O := O) q2 q4 q6 q7 (fun i hi => (q10 i hi).2.2) q11 (q13 (nI i)) ?_
          simp only [up_o, up_k, up_s, fx_o, fm_o, ne_eq, Nat.reduceEqDiff, not_false_eq_true, q4, eq_true (e2.mpr (show O = 40 by omega)), i10, eq_self, not_true_eq_false, not_false_eq_true, false_implies, true_implies, true_and, and_true]
          exact ⟨fun _ => m4.mpr (fin_same I), fun z => absurd (nI_le g4 (by omega)) z⟩
        · refine sX7_out ?_
          simp only [SX7_out, w_misParty, w_isIn, w_isBuilder v1, up_o, up_k, up_s, fx_o, fm_o, ne_eq, Nat.reduceEqDiff, not_false_eq_true, p2, v2, if_pos g1, if_pos g2, if_pos g3, i10, eq_self, not_true_eq_false, not_false_eq_true, false_implies, true_implies, true_and, and_true]
          refine m_account (h := fx h 3) (A := A) (O := O) (B := sT (isP (h 50 0) (nI i)) (tN 0 h (A + O)) A) q2 q4 q6 q7 (fun i hi => (q10 i hi).2.2) q11 (q13 (nI i)) ?_
          refine ⟨fun z => absurd ((le_nI (by omega) (by omega)).mp z) g4, fun _ => m3.mpr (fin_same I)⟩
      · simp only [SX6_out, w_xisParty, w_within, w_isOfKind v1, p1, v2, hk, if_pos g1, if_pos g2, if_neg g3, f5, i10, eq_self, not_true_eq_false, not_false_eq_true, false_implies, true_implies, true_and, and_true]
        refine sX7_out ?_
        simp only [SX7_out, w_misParty, w_isIn, w_isBuilder v1, up_o, up_k, up_s, fx_o, fm_o, ne_eq, Nat.reduceEqDiff, not_false_eq_true, p2, v2, if_pos g1, if_pos g2, if_neg g3, m5, i10, eq_self, not_true_eq_false, not_false_eq_true, false_implies, true_implies, true_and, and_true]
        exact fin_same I
    · simp only [SX6_out, w_xisParty, w_within, p1, v2, hk, if_pos g1, if_neg g2, f1, i10, eq_self, not_true_eq_false, not_false_eq_true, false_implies, true_implies, true_and, and_true]
      refine sX7_out ?_
      simp only [SX7_out, w_misParty, w_isIn, up_o, up_k, up_s, fx_o, fm_o, ne_eq, Nat.reduceEqDiff, not_false_eq_true, p2, v2, if_pos g1, if_neg g2, m1, i10, eq_self, not_true_eq_false, not_false_eq_true, false_implies, true_implies, true_and, and_true]
      exact fin_same I
  · simp only [SX6_out, w_xisParty, p1, if_neg g1, f1, i10, eq_self, not_true_eq_false, not_false_eq_true, false_implies, true_implies, true_and, and_true]
    refine sX7_out ?_
    simp only [SX7_out, w_misParty, up_o, up_k, up_s, fx_o, fm_o, ne_eq, Nat.reduceEqDiff, not_false_eq_true, p2, if_neg g1, m1, i10, eq_self, not_true_eq_false, not_false_eq_true, false_implies, true_implies, true_and, and_true]
    exact fin_same I
end Outs
