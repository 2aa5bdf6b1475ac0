section Weigh
variable {E : EN} {h hh : TH} {a1 a2 a3 a4 x d : Int32} {P C W K N A O D : Nat}
/-- the cells that a call may use as it likes -/
def scr (g : Nat) : Bool := g == 12 || g == 13 || g == 14 || g == 15 || g == 18 || g == 19 || g == 20 || g == 28 || (58 ≤ g && g ≤ 63)
def ag (h hh : TH) : Prop := (∀ g, scr g = false → hh g = h g) ∧ hh 15 0 3 = h 15 0 3 ∧ ∀ k, k ≠ 43 → hh 28 0 k = h 28 0 k
theorem ag_rf : ag h h := ⟨fun _ _ => rfl, rfl, fun _ _ => rfl⟩
theorem ag_tr {h1 h2 h3 : TH} (a : ag h1 h2) (b : ag h2 h3) : ag h1 h3 := ⟨fun g hg => (b.1 g hg).trans (a.1 g hg), b.2.1.trans a.2.1, fun k hk => (b.2.2 k hk).trans (a.2.2 k hk)⟩
theorem ag_up {g i k : Nat} {v : Int32} (a : ag h hh) (hg : scr g = true) (h15 : g ≠ 15) (h28 : g ≠ 28) : ag h (up hh g i k v) :=
  ⟨fun g' hg' => by rw [up_o (fun z => by rw [z, hg] at hg'; exact absurd hg' (by decide))]; exact a.1 g' hg', by rw [up_o h15.symm]; exact a.2.1, fun k hk => by rw [up_o h28.symm]; exact a.2.2 k hk⟩
theorem ag_15 {v : Int32} (a : ag h hh) : ag h (up hh 15 0 7 v) :=
  ⟨fun g' hg' => by rw [up_o (fun z => by rw [z] at hg'; exact absurd hg' (by decide))]; exact a.1 g' hg', by rw [up_k (by decide)]; exact a.2.1, fun k hk => by rw [up_o (by decide)]; exact a.2.2 k hk⟩
theorem ag_28 {v : Int32} (a : ag h hh) : ag h (up hh 28 0 43 v) :=
  ⟨fun g' hg' => by rw [up_o (fun z => by rw [z] at hg'; exact absurd hg' (by decide))]; exact a.1 g' hg', by rw [up_o (by decide)]; exact a.2.1, fun k hk => by rw [up_k hk]; exact a.2.2 k hk⟩
theorem inv_ag (I : InvC P C W K N A O D h) (a : ag h hh) : InvC P C W K N A O D hh := by
  unfold InvC at I ⊢
  simp only [a.1 0 rfl, a.1 1 rfl, a.1 2 rfl, a.1 4 rfl, a.1 5 rfl, a.1 6 rfl, a.1 7 rfl, a.1 8 rfl, a.1 9 rfl, a.1 11 rfl, a.1 16 rfl, a.1 17 rfl, a.1 21 rfl, a.1 22 rfl, a.1 23 rfl, a.1 25 rfl, a.1 26 rfl, a.1 27 rfl, a.1 29 rfl, a.1 30 rfl, a.1 31 rfl, a.1 32 rfl, a.1 33 rfl, a.1 34 rfl, a.1 35 rfl, a.1 36 rfl, a.1 37 rfl, a.1 38 rfl, a.1 39 rfl, a.1 40 rfl, a.1 41 rfl, a.1 42 rfl, a.1 43 rfl, a.1 44 rfl, a.1 45 rfl, a.1 46 rfl, a.1 47 rfl, a.1 48 rfl, a.1 49 rfl, a.1 50 rfl, a.1 51 rfl, a.1 52 rfl, a.1 53 rfl, a.1 54 rfl, a.1 55 rfl, a.1 56 rfl, a.1 57 rfl, a.2.1, a.2.2 0 (by decide), a.2.2 1 (by decide), a.2.2 2 (by decide), a.2.2 3 (by decide), a.2.2 4 (by decide), a.2.2 5 (by decide), a.2.2 6 (by decide), a.2.2 7 (by decide), a.2.2 8 (by decide), a.2.2 9 (by decide)]
  exact I
theorem brd_ag {c k b : Nat} (a : ag h hh) : brd hh c k d b = brd h c k d b := by
  unfold brd
  simp only [a.1 4 rfl, a.1 34 rfl, a.1 35 rfl, a.1 36 rfl, a.1 37 rfl, a.1 38 rfl, a.1 42 rfl, a.1 45 rfl, a.1 46 rfl]
theorem brdf_ag {c k : Nat} (a : ag h hh) : brd hh c k d = brd h c k d := funext fun _ => brd_ag a
theorem bdN_ag {c : Nat} (a : ag h hh) : bdN hh C c = bdN h C c := by
  have e1 : owN hh = owN h := funext fun i => by unfold owN; rw [a.1 32 rfl, a.1 33 rfl]
  have e2 : msk hh c = msk h c := by unfold msk; rw [a.1 4 rfl]
  have e3 : opN hh c = opN h c := by unfold opN; rw [a.1 4 rfl]
  unfold bdN
  rw [e1, e2, e3, a.1 42 rfl]
def cK (h : TH) (i : Nat) : Nat := (h 43 0 i).toNatClampNeg
def aN (h : TH) (i : Nat) : Nat := (h 44 0 i).toNatClampNeg
/-- verdicts on a day, claims filed later being as not there -/
def vd (h : TH) (d : Int32) (i : Nat) : Int32 := if d < h 45 0 i then 0 else jdg (brd h (cK h i) i d)
/-- what the first n claims have left of the bound of contract c -/
def Lf (h : TH) (d : Int32) (C c : Nat) : Nat → Nat
  | 0 => bdN h C c
  | n + 1 => if ¬ vd h d n = 0 ∧ cK h n = c then Lf h d C c n - min (aN h n) (Lf h d C c n) else Lf h d C c n
def wth (h : TH) (d : Int32) (C n : Nat) : Nat := if vd h d n = 0 then 0 else min (aN h n) (Lf h d C (cK h n) n)
theorem vd_ag {i : Nat} (a : ag h hh) : vd hh d i = vd h d i := by
  unfold vd
  have e : cK hh i = cK h i := by unfold cK; rw [a.1 43 rfl]
  rw [e, brdf_ag a, a.1 45 rfl]
theorem Lf_le {c : Nat} : ∀ n, Lf h d C c n ≤ bdN h C c
  | 0 => Nat.le_refl _
  | n + 1 => by
    have ih := Lf_le (c := c) n
    unfold Lf
    by_cases g : ¬ vd h d n = 0 ∧ cK h n = c
    · rw [if_pos g]; omega
    · rw [if_neg g]; exact ih
theorem clm (J : HK K C D h) (hC : C ≤ 10) {i : Nat} (hi : i < K) : cK h i < C ∧ h 43 0 i = nI (cK h i) ∧ h 44 0 i = nI (aN h i) ∧ 1 ≤ aN h i ∧ aN h i ≤ 1000000 ∧ h 11 i 0 = nI (cK h i) ∧ h 11 i 1 = nI (aN h i) ∧ h 11 i 2 = h 45 0 i := by
  obtain ⟨⟨b0, b1, b2, b3, b4⟩, ⟨c, bc1, bc2, bc3⟩, ⟨am, q1, q2, q3⟩, -, -, -⟩ := J.2.2.2.1 i hi
  have e1 : cK h i = c := by unfold cK; rw [bc2, nI_clamp (by omega)]
  have e2 : aN h i = am := by unfold aN; rw [q3, nI_clamp (by omega)]
  rw [e1, e2]
  exact ⟨bc1, bc2, q3, q1, q2, b0.trans bc2, b1.trans q3, b2⟩
theorem bdN_le (J : HC C D P h) (V : HV W C h) {c : Nat} (hc : c < C) : bdN h C c ≤ 1000000 := by
  obtain ⟨-, o2⟩ := op_ok J V hc
  unfold bdN
  by_cases g : h 42 0 5 = 1
  · rw [if_pos g]
    have := bnd_le (S := fun i => (msk h c).testBit i) (ow := owN h) (m := opN h c) C
    omega
  · rw [if_neg g]; exact o2
theorem Lf_ag {c : Nat} (a : ag h hh) : ∀ n, Lf hh d C c n = Lf h d C c n
  | 0 => bdN_ag a
  | n + 1 => by
    unfold Lf
    have e : cK hh n = cK h n := by unfold cK; rw [a.1 43 rfl]
    have e2 : aN hh n = aN h n := by unfold aN; rw [a.1 44 rfl]
    rw [vd_ag a, e, e2, Lf_ag a n]
theorem wth_ag {n : Nat} (a : ag h hh) : wth hh d C n = wth h d C n := by
  unfold wth
  have e : cK hh n = cK h n := by unfold cK; rw [a.1 43 rfl]
  have e2 : aN hh n = aN h n := by unfold aN; rw [a.1 44 rfl]
  rw [vd_ag a, e, e2, Lf_ag a]
/-- all but what waits to be checked -/
def InvW (P C W K N A O D : Nat) (h : TH) : Prop :=
  JP P (h 0 0 1) (h 28 0 0) (h 1 0) (h 29 0) ∧ JD D (h 0 0 6) (h 28 0 8) ∧ JF (h 27 0) (h 57 0) ∧ True ∧ JL (h 9 0) (h 42 0) ∧
  JC C D P (h 2 0 1) (h 28 0 1) (h 4) (h 30 0) (h 31 0) (h 32 0) (h 33 0) (h 34 0) (h 35 0) (h 36 0) (h 37 0) (h 38 0) ∧
  JV W C (h 2 0 5) (h 28 0 4) (h 5 0) (h 6 0) (h 7 0) (h 39 0) (h 40 0) (h 41 0) (h 4) (h 33 0) ∧
  JK K C D (h 8 0 3) (h 28 0 2) (h 11) (h 43 0) (h 44 0) (h 45 0) (h 46 0) (h 47 0) (h 35 0) ∧
  JN N D (h 15 0 3) (h 28 0 3) (h 16 0) (h 17 0) (h 48 0) (h 49 0) ∧
  JA A O (h 21 0 3) (h 21 0 4) (h 28 0 5) (h 28 0 6) (h 28 0 7) (h 22 0) (h 23 0) (h 25) (h 50 0) (h 51 0) (h 52 0) (h 53 0) (h 54 0) (h 55 0)
theorem InvC.w (I : InvC P C W K N A O D h) : InvW P C W K N A O D h := ⟨I.1, I.2.1, I.2.2.1, trivial, I.2.2.2.2⟩
theorem invw_ag (I : InvW P C W K N A O D h) (a : ag h hh) : InvW P C W K N A O D hh := by
  unfold InvW at I ⊢
  simp only [a.1 0 rfl, a.1 1 rfl, a.1 2 rfl, a.1 4 rfl, a.1 5 rfl, a.1 6 rfl, a.1 7 rfl, a.1 8 rfl, a.1 9 rfl, a.1 11 rfl, a.1 16 rfl, a.1 17 rfl, a.1 21 rfl, a.1 22 rfl, a.1 23 rfl, a.1 25 rfl, a.1 26 rfl, a.1 27 rfl, a.1 29 rfl, a.1 30 rfl, a.1 31 rfl, a.1 32 rfl, a.1 33 rfl, a.1 34 rfl, a.1 35 rfl, a.1 36 rfl, a.1 37 rfl, a.1 38 rfl, a.1 39 rfl, a.1 40 rfl, a.1 41 rfl, a.1 42 rfl, a.1 43 rfl, a.1 44 rfl, a.1 45 rfl, a.1 46 rfl, a.1 47 rfl, a.1 48 rfl, a.1 49 rfl, a.1 50 rfl, a.1 51 rfl, a.1 52 rfl, a.1 53 rfl, a.1 54 rfl, a.1 55 rfl, a.1 56 rfl, a.1 57 rfl, a.2.1, a.2.2 0 (by decide), a.2.2 1 (by decide), a.2.2 2 (by decide), a.2.2 3 (by decide), a.2.2 4 (by decide), a.2.2 5 (by decide), a.2.2 6 (by decide), a.2.2 7 (by decide), a.2.2 8 (by decide), a.2.2 9 (by decide)]
  exact I
def agw (h hh : TH) : Prop := ag h hh ∧ ∀ g, g ≠ 12 → g ≠ 13 → g ≠ 14 → hh g = h g
theorem agw_rf : agw h h := ⟨ag_rf, fun _ _ _ _ => rfl⟩
theorem agw_up {g i k : Nat} {v : Int32} (a : agw h hh) (hg : (g == 12 || g == 13 || g == 14) = true) (h15 : g ≠ 15) (h28 : g ≠ 28) : agw h (up hh g i k v) := by
  refine ⟨ag_up a.1 ?_ h15 h28, fun g' z1 z2 z3 => ?_⟩
  · unfold scr
    simp at hg
    rcases hg with (e | e) | e <;> rw [e] <;> rfl
  · rw [up_o]
    · exact a.2 g' z1 z2 z3
    · intro z
      rw [← z] at hg
      simp at hg
      rcases hg with (e | e) | e
      · exact z1 e
      · exact z2 e
      · exact z3 e
theorem x_weigh2 {Q : TH → Prop} (I : InvW P C W K N A O D h) (hQ : ∀ hh, agw h hh → (∀ j, j < K → hh 12 0 j = vd h d j ∧ hh 13 0 j = nI (wth h d C j)) → Q hh) : wv E MX4_weigh Q 0 [some (rf 8 0), some (.int d), none, none, none] [] h := by
  obtain ⟨JP0, JD0, JF0, JQ0, JL0, JC0, JV0, JK0, JN0, JA0⟩ := id I
  have c3 := JC0.2.2.1
  have k3 := JK0.2.2.1
  refine sX4_weigh_0 ?_
  unfold SX4_weigh_0
  -- the second loop
  have two : ∀ hh, agw h hh ∧ (∀ j, j < 0 → hh 12 0 j = vd h d j ∧ hh 13 0 j = nI (wth h d C j)) ∧ (∀ c, c < C → hh 14 0 c = nI (Lf h d C c 0)) → wv E MX4_weigh Q 58 [some (rf 8 0), some (.int d), some (.int (nI 0)), none, none] [] hh := by
    refine run_dn K (fun i => ∀ hh, agw h hh ∧ (∀ j, j < i → hh 12 0 j = vd h d j ∧ hh 13 0 j = nI (wth h d C j)) ∧ (∀ c, c < C → hh 14 0 c = nI (Lf h d C c i)) → wv E MX4_weigh Q 58 [some (rf 8 0), some (.int d), some (.int (nI i)), none, none] [] hh) ?_ ?_
    · intro hh st
      refine sX4_weigh_58 ?_
      unfold SX4_weigh_58
      rw [st.1.1.1 8 rfl, JK0.1]
      exact ⟨fun _ => hQ hh st.1 st.2.1, fun z => absurd (Int32.le_refl _) z⟩
    · intro i hi ih hh st
      obtain ⟨s1, s2, s3⟩ := st
      obtain ⟨JPh, JDh, JFh, JQh, JLh, JCh, JVh, JKh, JNh, JAh⟩ := invw_ag I s1.1
      obtain ⟨q1, q2, q3, q4, q5, q6, q7, q8⟩ := clm JK0 c3 hi
      have v1 := vin (show i < 16 by omega) (by omega)
      have v2 := ncl (show i ≤ 100000 by omega)
      have v3 := vin (show cK h i < 10 by omega) (by omega)
      have v4 := ncl (show cK h i ≤ 100000 by omega)
      refine sX4_weigh_58 ?_
      unfold SX4_weigh_58
      rw [v2, nI_1, s1.1.1 8 rfl, JK0.1, le_nI (by omega) (by omega), s1.1.1 11 rfl, q8]
      refine ⟨fun z => absurd z (by omega), fun _ => ⟨v1, fun g1 => ?_, fun g1 => ?_⟩⟩
      · have ev : vd h d i = 0 := by unfold vd; rw [if_pos g1]
        refine ih _ ⟨agw_up (agw_up s1 rfl (by decide) (by decide)) rfl (by decide) (by decide), fun j hj => ?_, fun c hc => ?_⟩
        · simp only [up_a, up_o, up_k, up_s, fx_o, fm_o, ne_eq, Nat.reduceEqDiff, not_false_eq_true]
          by_cases hji : j = i
          · subst hji
            rw [if_pos rfl, if_pos rfl, ev]
            exact ⟨rfl, by unfold wth; rw [if_pos ev]; rfl⟩
          · rw [if_neg hji, if_neg hji]
            exact s2 j (by omega)
        · simp only [up_o, up_k, up_s, fx_o, fm_o, ne_eq, Nat.reduceEqDiff, not_false_eq_true]
          rw [s3 c hc]
          show nI _ = nI (if ¬ vd h d i = 0 ∧ cK h i = c then _ else _)
          rw [if_neg (fun z => z.1 ev)]
      · refine x_barOn (K := K) JCh JLh JKh JDh.2.2 hi (by rw [s1.1.1 43 rfl]; exact q2) q1 (w_verdict.mpr ?_)
        obtain ⟨w1, w4, w5⟩ := brd_vals (h := hh) (c := cK h i) (k := i) (d := d) (b := 0)
        rw [(bar_eq w1 w4 w5).2, brdf_ag s1.1]
        have ev : jdg (brd h (cK h i) i d) = vd h d i := by unfold vd; rw [if_neg g1]
        rw [ev]
        refine ⟨fun g2 => ?_, fun g2 => ?_⟩
        · refine ih _ ⟨agw_up (agw_up s1 rfl (by decide) (by decide)) rfl (by decide) (by decide), fun j hj => ?_, fun c hc => ?_⟩
          · simp only [up_a, up_o, up_k, up_s, fx_o, fm_o, ne_eq, Nat.reduceEqDiff, not_false_eq_true]
            by_cases hji : j = i
            · subst hji
              rw [if_pos rfl, if_pos rfl]
              exact ⟨rfl, by unfold wth; rw [if_pos g2]; rfl⟩
            · rw [if_neg hji, if_neg hji]
              exact s2 j (by omega)
          · simp only [up_o, up_k, up_s, fx_o, fm_o, ne_eq, Nat.reduceEqDiff, not_false_eq_true]
            rw [s3 c hc]
            show nI _ = nI (if ¬ vd h d i = 0 ∧ cK h i = c then _ else _)
            rw [if_neg (fun z => z.1 g2)]
        · rw [s1.1.1 11 rfl, q6, q7, v4, s3 _ q1]
          have hL := Lf_le (h := h) (d := d) (C := C) (c := cK h i) i
          have hB := bdN_le JC0 JV0 q1
          have em : (if nI (Lf h d C (cK h i) i) < nI (aN h i) then nI (Lf h d C (cK h i) i) else nI (aN h i)) = nI (min (aN h i) (Lf h d C (cK h i) i)) := by
            by_cases g3 : Lf h d C (cK h i) i < aN h i
            · rw [if_pos (nI_lt g3 (by omega)), Nat.min_eq_right (by omega)]
            · rw [if_neg (nI_nlt (by omega) (by omega)), Nat.min_eq_left (by omega)]
          rw [em, pk_sub (by omega)]
          refine ⟨v3, ih _ ⟨agw_up (agw_up (agw_up (agw_up s1 rfl (by decide) (by decide)) rfl (by decide) (by decide)) rfl (by decide) (by decide)) rfl (by decide) (by decide), fun j hj => ?_, fun c hc => ?_⟩⟩
          · simp only [up_a, up_o, up_k, up_s, fx_o, fm_o, ne_eq, Nat.reduceEqDiff, not_false_eq_true]
            by_cases hji : j = i
            · subst hji
              simp only [if_true]
              exact ⟨trivial, by unfold wth; rw [if_neg g2]⟩
            · simp only [if_neg hji]
              exact s2 j (by omega)
          · simp only [up_a, up_o, up_k, up_s, fx_o, fm_o, ne_eq, Nat.reduceEqDiff, not_false_eq_true]
            show _ = nI (if ¬ vd h d i = 0 ∧ cK h i = c then _ else _)
            by_cases hcc : c = cK h i
            · subst hcc
              rw [if_pos rfl, if_pos ⟨g2, rfl⟩]
            · rw [if_neg hcc, if_neg (fun z => hcc z.2.symm)]
              exact s3 c hc
  have one : ∀ hh, agw h hh ∧ (∀ c, c < 0 → hh 14 0 c = nI (bdN h C c)) → wv E MX4_weigh Q 2 [some (rf 8 0), some (.int d), some (.int (nI 0)), none, none] [] hh := by
    refine run_dn C (fun i => ∀ hh, agw h hh ∧ (∀ c, c < i → hh 14 0 c = nI (bdN h C c)) → wv E MX4_weigh Q 2 [some (rf 8 0), some (.int d), some (.int (nI i)), none, none] [] hh) ?_ ?_
    · intro hh st
      refine sX4_weigh_2 ?_
      unfold SX4_weigh_2
      rw [st.1.1.1 2 rfl, JC0.1]
      exact ⟨fun _ => two hh ⟨st.1, fun j hj => absurd hj (Nat.not_lt_zero j), st.2⟩, fun z => absurd (Int32.le_refl _) z⟩
    · intro i hi ih hh st
      obtain ⟨s1, s2⟩ := st
      obtain ⟨JPh, JDh, JFh, JQh, JLh, JCh, JVh, JKh, JNh, JAh⟩ := invw_ag I s1.1
      have v1 := vin (show i < 10 by omega) (by omega)
      have v2 := ncl (show i ≤ 100000 by omega)
      have nx : ih = ih := rfl
      have nxt : wv E MX4_weigh Q 2 [some (rf 8 0), some (.int d), some (.int (nI (i + 1))), none, none] [] (up hh 14 0 i (nI (bdN hh C i))) := by
        refine ih _ ⟨agw_up s1 rfl (by decide) (by decide), fun c hc => ?_⟩
        rw [up_a, bdN_ag s1.1]
        by_cases hci : c = i
        · rw [if_pos hci, hci]
        · rw [if_neg hci]
          exact s2 c (by omega)
      refine sX4_weigh_2 ?_
      unfold SX4_weigh_2
      rw [v2, nI_1, s1.1.1 2 rfl, JC0.1, le_nI (by omega) (by omega)]
      have e5 := (JLh 5 (by omega)).1
      refine ⟨fun z => absurd z (by omega), fun _ => ⟨v1, fun g => ?_, fun g => ?_⟩⟩
      · refine x_boundOf JCh JVh hi 0 ?_ nxt
        rw [if_neg (by rw [← e5]; exact g)]
      · refine x_boundOf JCh JVh hi 1 ?_ nxt
        rw [if_pos (by rw [← e5]; exact g)]
  exact one h ⟨agw_rf, fun c hc => absurd hc (Nat.not_lt_zero c)⟩
theorem x_weigh {Q : TH → Prop} (I : InvC P C W K N A O D h) (hQ : ∀ hh, ag h hh → (∀ j, j < K → hh 12 0 j = vd h d j ∧ hh 13 0 j = nI (wth h d C j)) → Q hh) : wv E MX4_weigh Q 0 [some (rf 8 0), some (.int d), none, none, none] [] h := x_weigh2 I.w (fun hh a hv => hQ hh a.1 hv)
theorem jdg_vals (v : Nat → Int32) : jdg v = 0 ∨ jdg v = 1 ∨ jdg v = 2 := by
  unfold jdg
  by_cases g : fbar v 2 ≤ 0
  · rw [if_pos g]
    by_cases g2 : fbar v 1 ≤ 0
    · rw [if_pos g2]; exact Or.inr (Or.inr rfl)
    · rw [if_neg g2]; exact Or.inr (Or.inl rfl)
  · rw [if_neg g]; exact Or.inl rfl
theorem jdg_le (v : Nat → Int32) : (jdg v ≤ 0) ↔ jdg v = 0 := by
  rcases jdg_vals v with e | e | e <;> rw [e] <;> decide
theorem m_worthOfW {k : Nat} {Q : Int32 → TH → Prop} (I : InvW P C W K N A O D h) (hk : k < K) (hQ : Q (nI (wth h d C k)) h) : wi E MX7_worthOf Q 0 [some (rf 28 0), some (.int (nI k)), some (.int d), none, none, none, none, none] [] h := by
  obtain ⟨JP0, JD0, JF0, JQ0, JL0, JC0, JV0, JK0, JN0, JA0⟩ := id I
  have c3 := JC0.2.2.1
  have k3 := JK0.2.2.1
  obtain ⟨q1, q2, q3, q4, q5, q6, q7, q8⟩ := clm JK0 c3 hk
  refine sX7_worthOf_0 ?_
  unfold SX7_worthOf_0
  rw [ncl (show k ≤ 100000 by omega), q2]
  refine ⟨vin (show k < 16 by omega) (by omega), m_bound JC0 JV0 q1 ?_⟩
  have lp : ∀ own : Int32, (0 = k + 1 → own = nI (wth h d C k)) → wi E MX7_worthOf Q 20 [some (rf 28 0), some (.int (nI k)), some (.int d), some (.int (nI (cK h k))), some (.int (nI (Lf h d C (cK h k) 0))), some (.int own), some (.int (nI 0)), none] [] h := by
    refine run_dn (k + 1) (fun i => ∀ own : Int32, (i = k + 1 → own = nI (wth h d C k)) → wi E MX7_worthOf Q 20 [some (rf 28 0), some (.int (nI k)), some (.int d), some (.int (nI (cK h k))), some (.int (nI (Lf h d C (cK h k) i))), some (.int own), some (.int (nI i)), none] [] h) ?_ ?_
    · intro own ho
      refine sX7_worthOf_20 ?_
      unfold SX7_worthOf_20
      rw [ho rfl]
      exact ⟨fun _ => hQ, fun z => absurd (nI_lt (Nat.lt_succ_self k) (by omega)) z⟩
    · intro i hi ih own ho
      obtain ⟨p1, p2, p3, p4, p5, p6, p7, p8⟩ := clm JK0 c3 (show i < K by omega)
      have v1 := vin (show i < 16 by omega) (by omega)
      have v2 := ncl (show i ≤ 100000 by omega)
      have hL := Lf_le (h := h) (d := d) (C := C) (c := cK h k) i
      have hB := bdN_le JC0 JV0 q1
      -- not counted
      have no : (¬ (¬ vd h d i = 0 ∧ cK h i = cK h k)) → wi E MX7_worthOf Q 20 [some (rf 28 0), some (.int (nI k)), some (.int d), some (.int (nI (cK h k))), some (.int (nI (Lf h d C (cK h k) i) - 0)), some (.int 0), some (.int (nI (i + 1))), none] [] h := by
        intro hn
        rw [Int32.sub_zero]
        have e : Lf h d C (cK h k) (i + 1) = Lf h d C (cK h k) i := by
          show (if ¬ vd h d i = 0 ∧ cK h i = cK h k then _ else _) = _
          rw [if_neg hn]
        have := ih 0 (fun e2 => by
          have : i = k := by omega
          subst this
          have hz : vd h d i = 0 := Classical.byContradiction (fun z => hn ⟨z, rfl⟩)
          unfold wth
          rw [if_pos hz]
          rfl)
        rw [e] at this
        exact this
      have yes : (¬ vd h d i = 0 ∧ cK h i = cK h k) → ∀ o : Nat, o = min (aN h i) (Lf h d C (cK h k) i) → wi E MX7_worthOf Q 20 [some (rf 28 0), some (.int (nI k)), some (.int d), some (.int (nI (cK h k))), some (.int (nI (Lf h d C (cK h k) i) - nI o)), some (.int (nI o)), some (.int (nI (i + 1))), none] [] h := by
        intro hy o eo
        have e : Lf h d C (cK h k) (i + 1) = Lf h d C (cK h k) i - o := by
          show (if ¬ vd h d i = 0 ∧ cK h i = cK h k then _ else _) = _
          rw [if_pos hy, eo]
        have := ih (nI o) (fun e2 => by
          have : i = k := by omega
          subst this
          unfold wth
          rw [if_neg hy.1, eo])
        rw [e, ← pk_sub (by omega)] at this
        exact this
      refine sX7_worthOf_20 ?_
      unfold SX7_worthOf_20
      rw [v2, nI_1, p2, nI_eq (by omega) (by omega)]
      refine ⟨fun z => absurd z (nI_nlt (by omega) (by omega)), fun _ => ⟨v1, fun g => ?_, fun g => ⟨fun g2 => ?_, fun g2 => ?_⟩⟩⟩
      · exact no (fun z => g z.2)
      · exact no (fun z => z.1 (by unfold vd; rw [if_pos g2]))
      · have ev : vd h d i = jdg (brd h (cK h i) i d) := by unfold vd; rw [if_neg g2]
        refine m_judged JC0 JV0 (by omega) p1 p2 ?_
        rw [jdg_le, ← ev, p3]
        refine ⟨fun g3 => no (fun z => z.1 g3), fun g3 => ?_⟩
        rw [le_nI (by omega) (by omega)]
        refine ⟨fun g4 => ?_, fun g4 => ?_⟩
        · exact yes ⟨g3, g⟩ _ (by omega)
        · exact yes ⟨g3, g⟩ _ (by omega)
  exact lp 0 (fun z => by omega)
theorem m_worthOf {k : Nat} {Q : Int32 → TH → Prop} (I : InvC P C W K N A O D h) (hk : k < K) (hQ : Q (nI (wth h d C k)) h) : wi E MX7_worthOf Q 0 [some (rf 28 0), some (.int (nI k)), some (.int d), none, none, none, none, none] [] h := m_worthOfW I.w hk hQ
theorem op_worth (I : Inv h) : wi E MX6_worth (fun r1 h1 => wi E MX7_worth (fun r2 h2 => Same r1 r2 h2) 0 [some (rf 28 0), some (.int a1), some (.int a2)] [] h1) 0 [some (rf 0 0), some (.int a1), some (.int a2)] [] h := by
  obtain ⟨P, C, W, K, N, A, O, D, I⟩ := id I
  obtain ⟨JP0, JD0, JF0, JQ0, JL0, JC0, JV0, JK0, JN0, JA0⟩ := id I
  obtain ⟨k1, k2, k3, k4, k5⟩ := id JK0
  refine sX6_worth ?_
  by_cases g1 : inn a1 0 (nI K - 1)
  · obtain ⟨k, hk, rfl⟩ := (inn_nI (by omega)).mp g1
    have v1 := vin (show k < 16 by omega) (by omega)
    have v2 := ncl (show k ≤ 100000 by omega)
    by_cases g2 : inn a2 0 5000
    · simp only [SX6_worth, w_khas, w_within, k1, v1, v2, if_pos g1, if_pos g2]
      refine ⟨fun z => absurd z (by decide), fun _ => ⟨fun _ => ?_, fun z => absurd z (by decide)⟩⟩
      refine x_weigh I (fun hh a hv => ⟨trivial, ?_⟩)
      have I2 := inv_ag I a
      refine sX7_worth ?_
      simp only [SX7_worth, w_isClaim, w_isIn, a.2.2 2 (by decide), k2, if_pos g1, if_pos g2]
      refine ⟨fun z => absurd z (by decide), fun _ => ⟨fun z => absurd z (by decide), fun _ => ?_⟩⟩
      refine m_worthOf I2 hk ⟨?_, P, C, W, K, N, A, O, D, I2⟩
      rw [(hv k hk).2, wth_ag a]
    · simp only [SX6_worth, w_khas, w_within, k1, if_pos g1, if_neg g2]
      refine ⟨fun z => absurd z (by decide), fun _ => ⟨fun z => (z trivial).elim, fun _ => f1.mpr ?_⟩⟩
      refine sX7_worth ?_
      simp only [SX7_worth, w_isClaim, w_isIn, up_o, up_k, up_s, fx_o, fm_o, ne_eq, Nat.reduceEqDiff, not_false_eq_true, k2, if_pos g1, if_neg g2]
      exact ⟨fun z => absurd z (by decide), fun _ => ⟨fun _ => m1.mpr (fin_same I), fun z => (z trivial).elim⟩⟩
  · simp only [SX6_worth, w_khas, k1, if_neg g1]
    refine ⟨fun _ => f1.mpr ?_, fun z => (z trivial).elim⟩
    refine sX7_worth ?_
    simp only [SX7_worth, w_isClaim, up_o, up_k, up_s, fx_o, fm_o, ne_eq, Nat.reduceEqDiff, not_false_eq_true, k2, if_neg g1]
    exact ⟨fun _ => m1.mpr (fin_same I), fun z => (z trivial).elim⟩
end Weigh
