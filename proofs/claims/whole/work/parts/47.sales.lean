section Sales
variable {E : EN} {h hh : TH} {a1 a2 a3 a4 x d w : Int32} {P C W K N A O D : Nat}
theorem inn_2 : inn a3 0 2 ↔ a3 = 0 ∨ a3 = 1 ∨ a3 = 2 := by
  constructor
  · intro g
    obtain ⟨n, -, n2, rfl⟩ := inn_of (l := 0) (m := 2) (by omega) (by omega) g
    match n, n2 with
    | 0, _ => exact Or.inl rfl
    | 1, _ => exact Or.inr (Or.inl rfl)
    | 2, _ => exact Or.inr (Or.inr rfl)
  · rintro (e | e | e) <;> rw [e] <;> decide
theorem inn_1 : inn a3 0 1 ↔ a3 = 0 ∨ a3 = 1 := by
  constructor
  · intro g
    obtain ⟨n, -, n2, rfl⟩ := inn_of (l := 0) (m := 1) (by omega) (by omega) g
    match n, n2 with
    | 0, _ => exact Or.inl rfl
    | 1, _ => exact Or.inr rfl
  · rintro (e | e) <;> rw [e] <;> decide
theorem inn_0 : inn a3 0 0 ↔ a3 = 0 := by
  constructor
  · intro g
    obtain ⟨n, -, n2, rfl⟩ := inn_of (l := 0) (m := 0) (by omega) (by omega) g
    match n, n2 with
    | 0, _ => rfl
  · intro e; rw [e]; decide
theorem op_sale (I : Inv h) : wi E MX6_sale (fun r1 h1 => wi E MX7_sale (fun r2 h2 => Same r1 r2 h2) 0 [some (rf 28 0), some (.int a1), some (.int a2), some (.int a3), some (.int a4)] [] h1) 0 [some (rf 0 0), some (.int a1), some (.int a2), some (.int a3), some (.int a4)] [] h := by
  obtain ⟨P, C, W, K, N, A, O, D, I⟩ := id I
  obtain ⟨JP0, JD0, JF0, JQ0, JL0, JC0, JV0, JK0, JN0, JA0⟩ := id I
  obtain ⟨k1, k2, k3, k4, k5⟩ := id JK0
  obtain ⟨n1, n2, n3, n4⟩ := id JN0
  refine sX6_sale ?_
  by_cases g1 : inn a1 0 10000000
  · by_cases g2 : inn a2 0 1
    · by_cases g3 : (a3 = 0 ∧ inn a4 0 (nI N - 1)) ∨ (a3 = 1 ∧ inn a4 0 (nI K - 1)) ∨ (a3 = 2 ∧ a4 = 0)
      · simp only [SX6_sale, w_isSaleCoin, w_within, w_isSharer, n1, k1, JD0.1, if_pos g1, if_pos g2, if_pos g3, i10, eq_self, not_true_eq_false, not_false_eq_true, false_implies, true_implies, true_and, and_true]
        obtain ⟨L, -, hL, rfl⟩ := inn_of (l := 0) (m := 10000000) (by omega) (by omega) g1
        have hw := inn_1.mp g2
        refine x_sell I.w hw hL (fun h2 c2 => ?_)
        have I2 := inv_ag I c2.1
        have m2 : h2 28 0 2 = nI K := (c2.1.2.2 2 (by decide)).trans k2
        have m3' : h2 28 0 3 = nI N := (c2.1.2.2 3 (by decide)).trans n2
        -- the model's sale
        have ms := fun {R : TH → Prop} (hR : ∀ h4, ag h2 h4 → (∀ i, i < 22 → h4 61 0 i = h2 20 0 i) → h4 28 0 43 = h2 15 0 7 → R h4) => two_sell (E := E) (w := a2) (R := R) I.w JD0.1 hw hL (fun i => h2 20 0 i) (h2 15 0 7) (fun i hi => c2.2.2.2.2 i hi) c2.2.2.2.1 c2.1 hR
        rcases g3 with ⟨e, ge⟩ | ⟨e, ge⟩ | ⟨e, ge⟩
        · subst e
          obtain ⟨n, hn, rfl⟩ := (inn_nI (by omega)).mp ge
          have v1 := vin (show n < 22 by omega) (by omega)
          have v2 := ncl (show n ≤ 100000 by omega)
          simp only [SX5_loanShare, v1, v2, i10, eq_self, not_true_eq_false, not_false_eq_true, false_implies, true_implies, true_and, and_true]
          refine sX7_sale ?_
          simp only [SX7_sale, w_isIn, m3', v1, v2, if_pos g1, if_pos g2, if_pos (show inn 0 0 2 by decide), if_pos ge, i10, eq_self, not_true_eq_false, not_false_eq_true, false_implies, true_implies, true_and, and_true]
          refine ms (fun h4 a4 b4 c4 => ⟨(b4 n (by omega)).symm, P, C, W, K, N, A, O, D, inv_ag I2 a4⟩)
        · subst e
          obtain ⟨n, hn, rfl⟩ := (inn_nI (by omega)).mp ge
          have e6 : (6 : Int32) + nI n = nI (6 + n) := nI_add 6 n
          have v1 := vin (show 6 + n < 22 by omega) (by omega)
          have v2 := ncl (show 6 + n ≤ 100000 by omega)
          simp only [SX5_claimShare, e6, v1, v2, i10, eq_self, not_true_eq_false, not_false_eq_true, false_implies, true_implies, true_and, and_true]
          refine sX7_sale ?_
          simp only [SX7_sale, w_isIn, m2, e6, v1, v2, if_pos g1, if_pos g2, if_pos (show inn 1 0 2 by decide), if_pos ge, i10, eq_self, not_true_eq_false, not_false_eq_true, false_implies, true_implies, true_and, and_true]
          refine ms (fun h4 a4 b4 c4 => ⟨(b4 (6 + n) (by omega)).symm, P, C, W, K, N, A, O, D, inv_ag I2 a4⟩)
        · subst e
          subst ge
          have z1 : ((2 : Int32) = 0) = False := eq_false (by decide)
          have z2 : ((2 : Int32) = 1) = False := eq_false (by decide)
          simp only [z1, z2, i10, eq_self, not_true_eq_false, not_false_eq_true, false_implies, true_implies, true_and, and_true]
          refine sX7_sale ?_
          simp only [SX7_sale, w_isIn, z1, z2, if_pos g1, if_pos g2, if_pos (show inn 2 0 2 by decide), if_pos (show inn 0 0 0 by decide), i10, eq_self, not_true_eq_false, not_false_eq_true, false_implies, true_implies, true_and, and_true]
          refine ms (fun h4 a4 b4 c4 => ⟨c4.symm, P, C, W, K, N, A, O, D, inv_ag I2 a4⟩)
      · simp only [SX6_sale, w_isSaleCoin, w_within, w_isSharer, n1, k1, if_pos g1, if_pos g2, if_neg g3, f1, i10, eq_self, not_true_eq_false, not_false_eq_true, false_implies, true_implies, true_and, and_true]
        refine sX7_sale ?_
        by_cases g4 : inn a3 0 2
        · rcases inn_2.mp g4 with e | e | e
          · subst e
            have ge : ¬ inn a4 0 (nI N - 1) := fun z => g3 (Or.inl ⟨rfl, z⟩)
            simp only [SX7_sale, w_isIn, up_o, up_k, up_s, fx_o, fm_o, ne_eq, Nat.reduceEqDiff, not_false_eq_true, n2, if_pos g1, if_pos g2, if_pos g4, if_neg ge, m1, i10, eq_self, not_true_eq_false, not_false_eq_true, false_implies, true_implies, true_and, and_true]
            exact fin_same I
          · subst e
            have ge : ¬ inn a4 0 (nI K - 1) := fun z => g3 (Or.inr (Or.inl ⟨rfl, z⟩))
            simp only [SX7_sale, w_isIn, up_o, up_k, up_s, fx_o, fm_o, ne_eq, Nat.reduceEqDiff, not_false_eq_true, k2, if_pos g1, if_pos g2, if_pos g4, if_neg ge, m1, i10, eq_self, not_true_eq_false, not_false_eq_true, false_implies, true_implies, true_and, and_true]
            exact fin_same I
          · subst e
            have z1 : ((2 : Int32) = 0) = False := eq_false (by decide)
            have z2 : ((2 : Int32) = 1) = False := eq_false (by decide)
            have ge : ¬ inn a4 0 0 := fun z => g3 (Or.inr (Or.inr ⟨rfl, inn_0.mp z⟩))
            simp only [SX7_sale, w_isIn, up_o, up_k, up_s, fx_o, fm_o, ne_eq, Nat.reduceEqDiff, not_false_eq_true, z1, z2, if_pos g1, if_pos g2, if_pos g4, if_neg ge, m1, i10, eq_self, not_true_eq_false, not_false_eq_true, false_implies, true_implies, true_and, and_true]
            exact fin_same I
        · simp only [SX7_sale, w_isIn, up_o, up_k, up_s, fx_o, fm_o, ne_eq, Nat.reduceEqDiff, not_false_eq_true, if_pos g1, if_pos g2, if_neg g4, m1, i10, eq_self, not_true_eq_false, not_false_eq_true, false_implies, true_implies, true_and, and_true]
          exact fin_same I
    · simp only [SX6_sale, w_isSaleCoin, w_within, if_pos g1, if_neg g2, f1, i10, eq_self, not_true_eq_false, not_false_eq_true, false_implies, true_implies, true_and, and_true]
      refine sX7_sale ?_
      simp only [SX7_sale, w_isIn, up_o, up_k, up_s, fx_o, fm_o, ne_eq, Nat.reduceEqDiff, not_false_eq_true, if_pos g1, if_neg g2, m1, i10, eq_self, not_true_eq_false, not_false_eq_true, false_implies, true_implies, true_and, and_true]
      exact fin_same I
  · simp only [SX6_sale, w_isSaleCoin, if_neg g1, f1, i10, eq_self, not_true_eq_false, not_false_eq_true, false_implies, true_implies, true_and, and_true]
    refine sX7_sale ?_
    simp only [SX7_sale, w_isIn, up_o, up_k, up_s, fx_o, fm_o, ne_eq, Nat.reduceEqDiff, not_false_eq_true, if_neg g1, m1, i10, eq_self, not_true_eq_false, not_false_eq_true, false_implies, true_implies, true_and, and_true]
    exact fin_same I
/-- the first of them that is bad -/
def chk (bad : Nat → Bool) : Nat → Nat → Int32
  | 0, _ => 0
  | k + 1, i => if bad i = true then 1 + nI i else chk bad k (i + 1)
theorem x_chk {n : Nat} {bad : Nat → Bool} {Q : Int32 → TH → Prop} (hK : h 8 0 3 = nI K) (k3 : K ≤ 16) (hn : n ≤ 16) (hb : ∀ i, i < 16 → (bad i = true ↔ ¬ (i < K ∧ h 26 0 i = h 20 0 (6 + i)))) : ∀ k i, i + k = n → Q (chk bad k i) h → wi E MX6_check Q 38 [some (rf 0 0), none, some (.int (nI n)), some (.int (nI i))] [] h := by
  intro k
  induction k with
  | zero =>
    intro i hi hQ
    refine sX6_check_38 ?_
    unfold SX6_check_38
    rw [show i = n by omega]
    exact ⟨fun _ => hQ, fun z => absurd (Int32.le_refl _) z⟩
  | succ k ih =>
    intro i hi hQ
    have e6 : (6 : Int32) + nI i = nI (6 + i) := nI_add 6 i
    have v1 := vin (show 6 + i < 22 by omega) (by omega)
    have v2 := ncl (show 6 + i ≤ 100000 by omega)
    have v3 := vin (show i < 16 by omega) (by omega)
    have v4 := ncl (show i ≤ 100000 by omega)
    refine sX6_check_38 ?_
    unfold SX6_check_38
    simp only [SX5_claimShare, w_khas, e6, v1, v2, v3, v4, hK, nI_1, i10, eq_self, not_true_eq_false, not_false_eq_true, false_implies, true_implies, true_and, and_true]
    rw [le_nI (by omega) (by omega)]
    refine ⟨fun z => absurd z (by omega), fun _ => ?_⟩
    unfold chk at hQ
    by_cases g1 : i < K
    · rw [if_pos ((inn_nI (by omega)).mpr ⟨i, g1, rfl⟩)]
      refine ⟨fun z => absurd z (by decide), fun _ => ⟨fun g2 => ?_, fun g2 => ?_⟩⟩
      · rw [if_neg (fun z => (hb i (by omega)).mp z ⟨g1, g2⟩)] at hQ
        exact ih (i + 1) (by omega) hQ
      · rw [if_pos ((hb i (by omega)).mpr (fun z => g2 z.2))] at hQ
        exact hQ
    · rw [if_neg (fun z => g1 (by obtain ⟨j, hj, ej⟩ := (inn_nI (by omega)).mp z; rw [nI_eq (by omega) (by omega)] at ej; omega))]
      rw [if_pos ((hb i (by omega)).mpr (fun z => g1 z.1))] at hQ
      exact ⟨fun _ => hQ, fun z => absurd rfl z⟩
theorem m_chk {n : Nat} {bad : Nat → Bool} {Q : Int32 → TH → Prop} (hK : h 28 0 2 = nI K) (k3 : K ≤ 16) (hn : n ≤ 16) (hb : ∀ i, i < 16 → (bad i = true ↔ ¬ (i < K ∧ h 56 0 i = h 61 0 (6 + i)))) : ∀ k i, i + k = n → Q (chk bad k i) h → wi E MX7_check Q 35 [some (rf 28 0), none, some (.int (nI n)), some (.int (nI i))] [] h := by
  intro k
  induction k with
  | zero =>
    intro i hi hQ
    refine sX7_check_35 ?_
    unfold SX7_check_35
    rw [show i = n by omega]
    exact ⟨fun _ => hQ, fun z => absurd (Int32.le_refl _) z⟩
  | succ k ih =>
    intro i hi hQ
    have e6 : (6 : Int32) + nI i = nI (6 + i) := nI_add 6 i
    have v1 := vin (show 6 + i < 22 by omega) (by omega)
    have v2 := ncl (show 6 + i ≤ 100000 by omega)
    have v3 := vin (show i < 16 by omega) (by omega)
    have v4 := ncl (show i ≤ 100000 by omega)
    refine sX7_check_35 ?_
    unfold SX7_check_35
    simp only [e6, v1, v2, v3, v4, hK, nI_1, i10, eq_self, not_true_eq_false, not_false_eq_true, false_implies, true_implies, true_and, and_true]
    rw [le_nI (by omega) (by omega), le_nI (by omega) (by omega)]
    refine ⟨fun z => absurd z (by omega), fun _ => ?_⟩
    unfold chk at hQ
    by_cases g1 : i < K
    · refine ⟨fun z => absurd z (by omega), fun _ => ⟨fun g2 => ?_, fun g2 => ?_⟩⟩
      · rw [if_neg (fun z => (hb i (by omega)).mp z ⟨g1, g2⟩)] at hQ
        exact ih (i + 1) (by omega) hQ
      · rw [if_pos ((hb i (by omega)).mpr (fun z => g2 z.2))] at hQ
        exact hQ
    · rw [if_pos ((hb i (by omega)).mpr (fun z => g1 z.1))] at hQ
      exact ⟨fun _ => hQ, fun z => absurd z (by omega)⟩
theorem ag_9 {v : Int32} (a : ag h hh) : ag (up h 28 0 9 v) (up hh 28 0 9 v) := by
  refine ⟨fun g hg => ?_, ?_, fun k hk => ?_⟩
  · have : g ≠ 28 := fun z => by rw [z] at hg; exact absurd hg (by decide)
    rw [up_o this, up_o this]; exact a.1 g hg
  · rw [up_o (by decide), up_o (by decide)]; exact a.2.1
  · rw [up_a, up_a]
    by_cases e : k = 9
    · rw [if_pos e, if_pos e]
    · rw [if_neg e, if_neg e]; exact a.2.2 k hk
theorem up_com {g i k g' i' k' : Nat} {v v' : Int32} (hg : g ≠ g') : up (up h g i k v) g' i' k' v' = up (up h g' i' k' v') g i k v := by
  funext a b c
  unfold up
  by_cases q : a = g' ∧ c = k' ∧ b = i'
  · rw [if_pos q, if_neg (fun z => hg (z.1.symm.trans q.1)), if_pos q]
  · rw [if_neg q]
    by_cases q2 : a = g ∧ c = k ∧ b = i
    · rw [if_pos q2, if_pos q2]
    · rw [if_neg q2, if_neg q2, if_neg q]
theorem Lf_up {c : Nat} {v : Int32} : ∀ n, Lf (up h 28 0 9 v) d C c n = Lf h d C c n
  | 0 => rfl
  | n + 1 => by
    show (if ¬ vd h d n = 0 ∧ cK h n = c then Lf (up h 28 0 9 v) d C c n - min (aN h n) (Lf (up h 28 0 9 v) d C c n) else Lf (up h 28 0 9 v) d C c n) = _
    rw [Lf_up n]
    rfl
theorem wtS_up {v : Int32} : wtS (up h 28 0 9 v) d C = wtS h d C := by
  funext i
  show (if i < 6 then (h 48 0 i).toNatClampNeg else if vd h d (i - 6) = 0 then 0 else min (aN h (i - 6)) (Lf (up h 28 0 9 v) d C (cK h (i - 6)) (i - 6))) = _
  rw [Lf_up]
  rfl
/-- nothing waits -/
theorem inv_0 (I : InvC P C W K N A O D h) : InvC P C W K N A O D (up (up h 0 0 8 0) 28 0 9 0) := by
  obtain ⟨JP0, JD0, JF0, ⟨n, q0, q1, q2, q3⟩, JL0, JC0, JV0, JK0, JN0, JA0⟩ := id I
  unfold InvC
  simp only [up_o, up_k, up_s, fx_o, fm_o, ne_eq, Nat.reduceEqDiff, not_false_eq_true]
  exact ⟨JP0, JD0, JF0, ⟨0, by omega, rfl, rfl, q3⟩, JL0, JC0, JV0, JK0, JN0, JA0⟩
theorem invw_0 (I : InvC P C W K N A O D h) : InvW P C W K N A O D (up h 0 0 8 0) := by
  obtain ⟨JP0, JD0, JF0, -, JL0, JC0, JV0, JK0, JN0, JA0⟩ := id I
  unfold InvW
  simp only [up_o, up_k, up_s, fx_o, fm_o, ne_eq, Nat.reduceEqDiff, not_false_eq_true]
  exact ⟨JP0, JD0, JF0, trivial, JL0, JC0, JV0, JK0, JN0, JA0⟩
theorem op_check (I : Inv h) : wi E MX6_check (fun r1 h1 => wi E MX7_check (fun r2 h2 => Same r1 r2 h2) 0 [some (rf 28 0), some (.int a1), none, none] [] h1) 0 [some (rf 0 0), some (.int a1), none, none] [] h := by
  obtain ⟨P, C, W, K, N, A, O, D, I⟩ := id I
  obtain ⟨JP0, JD0, JF0, JQ0, JL0, JC0, JV0, JK0, JN0, JA0⟩ := id I
  obtain ⟨k1, k2, k3, k4, k5⟩ := id JK0
  obtain ⟨n, q0, q1, q2, q3⟩ := id JQ0
  have I0 := inv_0 I
  have IW := invw_0 I
  refine sX6_check_0 ?_
  by_cases g1 : inn a1 0 10000000
  · simp only [SX6_check_0, w_isSaleCoin, up_o, up_k, up_s, fx_o, fm_o, ne_eq, Nat.reduceEqDiff, not_false_eq_true, JD0.1, q1, if_pos g1, i10, eq_self, not_true_eq_false, not_false_eq_true, false_implies, true_implies, true_and, and_true]
    obtain ⟨L, -, hL, rfl⟩ := inn_of (l := 0) (m := 10000000) (by omega) (by omega) g1
    refine x_sell (w := 0) IW (Or.inl rfl) hL (fun h2 c2 => ?_)
    have e8 : h2 8 0 3 = nI K := by rw [c2.1.1 8 rfl, up_o (by decide)]; exact k1
    have e26 : h2 26 = h 26 := by rw [c2.1.1 26 rfl, up_o (by decide)]
    have hb : ∀ i, i < 16 → ((fun i => decide (¬ (i < K ∧ h 26 0 i = h2 20 0 (6 + i)))) i = true ↔ ¬ (i < K ∧ h2 26 0 i = h2 20 0 (6 + i))) := fun i hi => by
      rw [decide_eq_true_eq, e26]
    refine x_chk (n := n) e8 k3 q0 hb n 0 (by omega) ?_
    refine sX7_check_0 ?_
    have e9 : h2 28 0 9 = nI n := by rw [c2.1.2.2 9 (by decide), up_o (by decide)]; exact q2
    have a9 : ag (up (up h 0 0 8 0) 28 0 9 0) (up h2 28 0 9 0) := ag_9 c2.1
    simp only [SX7_check_0, w_isIn, up_o, up_k, up_s, fx_o, fm_o, ne_eq, Nat.reduceEqDiff, not_false_eq_true, e9, if_pos g1, i10, eq_self, not_true_eq_false, not_false_eq_true, false_implies, true_implies, true_and, and_true]
    -- the model's sale stands on the picture with nothing waiting
    have a0 : tkS (up (up h 0 0 8 0) 28 0 9 0) 0 (nI D) K N = tkS (up h 0 0 8 0) 0 (nI D) K N ∧ rkS (up (up h 0 0 8 0) 28 0 9 0) 0 C = rkS (up h 0 0 8 0) 0 C ∧ wtS (up (up h 0 0 8 0) 28 0 9 0) (nI D) C = wtS (up h 0 0 8 0) (nI D) C := by
      exact ⟨rfl, rfl, wtS_up⟩
    refine two_sell (w := 0) I0.w (by simp only [up_o, up_k, up_s, fx_o, fm_o, ne_eq, Nat.reduceEqDiff, not_false_eq_true]; exact JD0.1) (Or.inl rfl) hL (fun i => h2 20 0 i) (h2 15 0 7) (fun i hi => ?_) ?_ a9 (fun h4 b4 d4 f4 => ?_)
    · rw [a0.1, a0.2.1, a0.2.2]; exact c2.2.2.2.2 i hi
    · rw [a0.1, a0.2.1, a0.2.2]; exact c2.2.2.2.1
    · have I4 := inv_ag I0 (ag_tr a9 b4)
      have f2 : h4 28 0 2 = nI K := by rw [b4.2.2 2 (by decide), up_k (by decide), c2.1.2.2 2 (by decide), up_o (by decide)]; exact k2
      have f56 : h4 56 = h 56 := by rw [b4.1 56 rfl, up_o (by decide), c2.1.1 56 rfl, up_o (by decide)]
      refine m_chk (n := n) f2 k3 q0 (bad := fun i => decide (¬ (i < K ∧ h 26 0 i = h2 20 0 (6 + i)))) (fun i hi => ?_) n 0 (by omega) ⟨rfl, P, C, W, K, N, A, O, D, I4⟩
      rw [decide_eq_true_eq, f56, q3 i hi]
      constructor
      · intro z y; exact z ⟨y.1, by rw [y.2]; exact d4 (6 + i) (by omega)⟩
      · intro z y; exact z ⟨y.1, by rw [y.2]; exact (d4 (6 + i) (by omega)).symm⟩
  · simp only [SX6_check_0, w_isSaleCoin, if_neg g1, f1, i10, eq_self, not_true_eq_false, not_false_eq_true, false_implies, true_implies, true_and, and_true]
    refine sX7_check_0 ?_
    simp only [SX7_check_0, w_isIn, if_neg g1, m1, i10, eq_self, not_true_eq_false, not_false_eq_true, false_implies, true_implies, true_and, and_true]
    have e : up (fx (up h 0 0 8 0) 1) 28 0 9 0 = fx (up (up h 0 0 8 0) 28 0 9 0) 1 := by
      unfold fx
      rw [up_o (g := 27) (g' := 28) (by decide)]
      exact up_com (by decide)
    rw [e]
    exact fin_same I0
end Sales
