section MSell
variable {E : EN} {h hh : TH} {a1 a2 a3 a4 x d w : Int32} {P C W K N A O D : Nat}
def ME (tk : Nat → Bool) (rk wt : Nat → Nat) (h hh : TH) (n : Nat) : Prop :=
  ag h hh ∧ ∀ i, i < n → (hh 58 0 i = if tk i = true then 1 else 0) ∧ (tk i = true → hh 59 0 i = nI (rk i) ∧ hh 60 0 i = nI (wt i)) ∧ hh 61 0 i = 0
theorem ME_no {tk : Nat → Bool} {rk wt : Nat → Nat} {n : Nat} (c : ME tk rk wt h hh n) (g : ¬ tk n = true) : ME tk rk wt h (up (up hh 61 0 n 0) 58 0 n 0) (n + 1) := by
  obtain ⟨c1, c3⟩ := c
  refine ⟨ag_up (ag_up c1 rfl (by decide) (by decide)) rfl (by decide) (by decide), fun i hi => ?_⟩
  simp only [up_a, up_o, up_k, up_s, fx_o, fm_o, ne_eq, Nat.reduceEqDiff, not_false_eq_true]
  by_cases e : i = n
  · subst e
    simp only [if_true, if_neg g]
    exact ⟨trivial, fun z => absurd z g, trivial⟩
  · simp only [if_neg e]
    exact c3 i (by omega)
theorem ME_up {tk : Nat → Bool} {rk wt : Nat → Nat} {n : Nat} {b u v : Int32} (c : ME tk rk wt h hh n) (eb : b = if tk n = true then 1 else 0) (eu : tk n = true → u = nI (rk n) ∧ v = nI (wt n)) : ME tk rk wt h (up (up (up (up (up hh 61 0 n 0) 58 0 n 0) 58 0 n b) 59 0 n u) 60 0 n v) (n + 1) := by
  obtain ⟨c1, c3⟩ := c
  refine ⟨ag_up (ag_up (ag_up (ag_up (ag_up c1 rfl (by decide) (by decide)) rfl (by decide) (by decide)) rfl (by decide) (by decide)) rfl (by decide) (by decide)) rfl (by decide) (by decide), fun i hi => ?_⟩
  simp only [up_a, up_o, up_k, up_s, fx_o, fm_o, ne_eq, Nat.reduceEqDiff, not_false_eq_true]
  by_cases e : i = n
  · subst e
    simp only [if_true]
    exact ⟨eb, eu, trivial⟩
  · simp only [if_neg e]
    exact c3 i (by omega)
theorem m_lines {Q : TH → Prop} (I : InvW P C W K N A O D h) (hQ : ∀ h2, MS (tkS h w (nI D) K N) (rkS h w C) (wtS h (nI D) C) h h2 (fun _ => 0) → Q h2) : wv E MX7_lines Q 0 [some (rf 28 0), some (.int w), none, none] [] h := by
  obtain ⟨JP0, JD0, JF0, JQ0, JL0, JC0, JV0, JK0, JN0, JA0⟩ := id I
  have k3 := JK0.2.2.1
  have n3 := JN0.2.2.1
  refine sX7_lines_0 ?_
  unfold SX7_lines_0
  have main : ∀ h2, ME (tkS h w (nI D) K N) (rkS h w C) (wtS h (nI D) C) h h2 0 → wv E MX7_lines Q 2 [some (rf 28 0), some (.int w), some (.int (nI 0)), none] [] h2 := by
    refine run_dn 22 (fun k => ∀ h2, ME (tkS h w (nI D) K N) (rkS h w C) (wtS h (nI D) C) h h2 k → wv E MX7_lines Q 2 [some (rf 28 0), some (.int w), some (.int (nI k)), none] [] h2) ?_ ?_
    · intro h2 c2
      refine sX7_lines_2 ?_
      unfold SX7_lines_2
      exact ⟨fun _ => hQ h2 ⟨c2.1, fun i hi => (c2.2 i hi).1, fun i hi => (c2.2 i hi).2.1, fun i hi => (c2.2 i hi).2.2⟩, fun z => absurd (show (22 : Int32) ≤ nI 22 by decide) z⟩
    · intro k hk ih h2 c2
      have v2 := ncl (show k ≤ 100000 by omega)
      have l6 : (nI k < 6) ↔ k < 6 := nI_ltI (b := 6) (by omega) (by omega)
      have g6 : ((6 : Int32) ≤ nI k) ↔ 6 ≤ k := le_nI (n := 6) (by omega) (by omega)
      have e2 : h2 28 0 2 = nI K := (c2.1.2.2 2 (by decide)).trans JK0.2.1
      have e3 : h2 28 0 3 = nI N := (c2.1.2.2 3 (by decide)).trans JN0.2.1
      have e8 : h2 28 0 8 = nI D := (c2.1.2.2 8 (by decide)).trans JD0.2.1
      refine sX7_lines_2 ?_
      unfold SX7_lines_2
      rw [v2, nI_1, l6, g6, e2, e3, e8]
      refine ⟨fun z => absurd z (le22 hk), fun _ => ⟨vin hk (by omega), fun q => ⟨fun z => absurd q (by omega), fun _ => ?_⟩, fun q => ?_⟩⟩
      · obtain ⟨j, rfl⟩ : ∃ j, k = 6 + j := ⟨k - 6, by omega⟩
        have ej : nI (6 + j) - 6 = nI j := by
          rw [show (6 : Int32) = nI 6 from rfl, pk_sub (by omega)]; congr 1; omega
        rw [ej, le_nI (by omega) (by omega), ncl (show j ≤ 100000 by omega), c2.1.1 47 rfl]
        refine ⟨fun g1 => ih _ (ME_no c2 (fun z => absurd (tk_c.mp z).1 (by omega))), fun g1 => ⟨vin (show j < 16 by omega) (by omega), ?_⟩⟩
        have hj : j < K := by omega
        obtain ⟨q1, q2, -⟩ := clm JK0 JC0.2.2.1 hj
        have cf : ∀ b : Int32, (b = if tkS h w (nI D) K N (6 + j) = true then 1 else 0) → wi E MX7_rankOf (fun r9 h8 => wi E MX7_worthOf (fun r11 h10 => wv E MX7_lines Q 2 [some (rf 28 0), some (.int w), some (.int (nI (6 + j + 1))), none] [] (up h10 60 0 (6 + j) r11)) 0 [some (rf 28 0), some (.int (nI j)), some (.int (h8 28 0 8)), none, none, none, none, none] [] (up h8 59 0 (6 + j) r9)) 0 [some (rf 28 0), some (.int (nI j)), some (.int w), none, none, none] [] (up (up (up h2 61 0 (6 + j) 0) 58 0 (6 + j) 0) 58 0 (6 + j) b) := by
          intro b eb
          have a1 : ag h (up (up (up h2 61 0 (6 + j) 0) 58 0 (6 + j) 0) 58 0 (6 + j) b) := ag_up (ag_up (ag_up c2.1 rfl (by decide) (by decide)) rfl (by decide) (by decide)) rfl (by decide) (by decide)
          refine m_rankOfW (invw_ag I a1) hj ?_
          have a2 : ag h (up (up (up (up h2 61 0 (6 + j) 0) 58 0 (6 + j) 0) 58 0 (6 + j) b) 59 0 (6 + j) (rkv (up (up (up h2 61 0 (6 + j) 0) 58 0 (6 + j) 0) 58 0 (6 + j) b) w C j)) := ag_up a1 rfl (by decide) (by decide)
          rw [(a1.2.2 8 (by decide)).trans JD0.2.1]
          refine m_worthOfW (invw_ag I a2) hj ?_
          refine ih _ (ME_up c2 eb (fun ti => ⟨?_, ?_⟩))
          · rw [rkv_ag a1]; exact (rk_c JC0 JK0 JD0.2.2 hj).1
          · rw [wth_ag a2, wt_c]
        refine ⟨fun g2 => cf 0 ?_, fun g2 => ?_⟩
        · rw [if_neg (fun z => g2 (tk_c.mp z).2.1)]
        · have a0 : ag h (up (up h2 61 0 (6 + j) 0) 58 0 (6 + j) 0) := ag_up (ag_up c2.1 rfl (by decide) (by decide)) rfl (by decide) (by decide)
          obtain ⟨JPh, JDh, JFh, JQh, JLh, JCh, JVh, JKh, JNh, JAh⟩ := invw_ag I a0
          refine m_judged JCh JVh (by omega) q1 (by rw [a0.1 43 rfl]; exact q2) ?_
          rw [brdf_ag a0, ← vd_now JK0 hj JD0.2.2]
          refine ⟨fun g3 => cf 0 ?_, fun g3 => cf 1 ?_⟩
          · rw [if_neg (fun z => (tk_c.mp z).2.2 g3)]
          · rw [if_pos (tk_c.mpr ⟨hj, g2, g3⟩)]
      · have k6 : k < 6 := by omega
        rw [le_nI (by omega) (by omega)]
        refine ⟨fun g1 => ⟨fun _ => ih _ (ME_no c2 (fun z => absurd ((tk_l k6).mp z) (by omega))), fun z => absurd k6 z⟩, fun g1 => ⟨vin k6 (by omega), ih _ (ME_up c2 ?_ (fun _ => ?_))⟩⟩
        · rw [if_pos ((tk_l k6).mpr (by omega))]
        · obtain ⟨l1, l2, l3, l4, l5, l6⟩ := ln_ok (w := w) (d := nI D) I (show k < N by omega)
          rw [c2.1.1 49 rfl, c2.1.1 48 rfl]
          exact ⟨l1, l3⟩
  exact main h ⟨ag_rf, fun i hi => absurd hi (Nat.not_lt_zero i)⟩
theorem m_sell {L : Nat} {Q : TH → Prop} (I : InvW P C W K N A O D h) (hL : L ≤ 10000000)
    (hQ : ∀ h2, MS (tkS h w (nI D) K N) (rkS h w C) (wtS h (nI D) C) h h2 (slP (tkS h w (nI D) K N) (rkS h w C) (wtS h (nI D) C) 22 0 L (fun _ => 0)).2 → h2 28 0 43 = nI (slP (tkS h w (nI D) K N) (rkS h w C) (wtS h (nI D) C) 22 0 L (fun _ => 0)).1 → Q h2) : wv E MX7_sell Q 0 [some (rf 28 0), some (.int (nI L)), some (.int w), none, none, none, none, none, none, none, none] [] h := by
  obtain ⟨s1, s2⟩ := slot_ok (w := w) (d := nI D) I
  refine sX7_sell_0 ?_
  unfold SX7_sell_0
  rw [nI_l (by omega)]
  refine m_lines I (fun h1 c1 => ?_)
  refine m_nextRank (f := 0) c1 s1 (by omega) ?_
  exact m_rounds s1 s2 22 0 L (fun _ => 0) h1 cnF_22 (by omega) hL c1 hQ
/-- the two sales, one behind the other -/
theorem two_sell {L : Nat} (I : InvW P C W K N A O D h) (hd : h 0 0 6 = nI D) (hw : w = 0 ∨ w = 1) (hL : L ≤ 10000000)
    (sh : Nat → Int32) (ow : Int32) (e1 : ∀ i, i < 22 → sh i = nI ((slP (tkS h w (nI D) K N) (rkS h w C) (wtS h (nI D) C) 22 0 L (fun _ => 0)).2 i)) (e2 : ow = nI (slP (tkS h w (nI D) K N) (rkS h w C) (wtS h (nI D) C) 22 0 L (fun _ => 0)).1) {h3 : TH} (a : ag h h3)
    {R : TH → Prop} (hR : ∀ h4, ag h3 h4 → (∀ i, i < 22 → h4 61 0 i = sh i) → h4 28 0 43 = ow → R h4) : wv E MX7_sell R 0 [some (rf 28 0), some (.int (nI L)), some (.int w), none, none, none, none, none, none, none, none] [] h3 := by
  refine m_sell (invw_ag I a) hL (fun h4 c4 f4 => hR h4 c4.1 (fun i hi => ?_) ?_)
  · rw [c4.2.2.2 i hi, tkS_ag a, rkS_ag a, wtS_ag a, e1 i hi]
  · rw [f4, tkS_ag a, rkS_ag a, wtS_ag a, e2]
theorem w_isSharer {Q : Int32 → TH → Prop} {a b : Int32} : SX6_isSharer E a b h Q ↔ Q (if (a = 0 ∧ inn b 0 (h 15 0 3 - 1)) ∨ (a = 1 ∧ inn b 0 (h 8 0 3 - 1)) ∨ (a = 2 ∧ b = 0) then 1 else 0) h := by
  unfold SX6_isSharer
  simp only [w_within, w_khas, isB_ite, true_and]
  by_cases g0 : a = 0
  · subst g0
    simp only [show ((0 : Int32) = 1) = False from eq_false (by decide), show ((0 : Int32) = 2) = False from eq_false (by decide), false_and, or_false, true_implies, i10, eq_self, not_true_eq_false, not_false_eq_true, false_implies, true_implies, true_and, and_true]
  · by_cases g1 : a = 1
    · subst g1
      simp only [show ((1 : Int32) = 2) = False from eq_false (by decide), false_and, or_false, false_or, true_implies, i10, eq_self, not_true_eq_false, not_false_eq_true, false_implies, true_implies, true_and, and_true]
    · by_cases g2 : a = 2
      · subst g2
        simp only [eq_false g0, eq_false g1, false_and, or_false, false_or, true_implies, i10, eq_self, not_true_eq_false, not_false_eq_true, false_implies, true_implies, true_and, and_true]
        by_cases gb : b = 0
        · simp only [gb, if_true, i10, eq_self, not_true_eq_false, not_false_eq_true, false_implies, true_implies, true_and, and_true]
        · simp only [eq_false gb, if_false, i10, eq_self, not_true_eq_false, not_false_eq_true, false_implies, true_implies, true_and, and_true]
      · simp only [eq_false g0, eq_false g1, eq_false g2, false_and, or_false, false_or, true_implies, if_false, i10, eq_self, not_true_eq_false, not_false_eq_true, false_implies, true_implies, true_and, and_true]
end MSell
