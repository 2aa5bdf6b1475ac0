section Sell
variable {E : EN} {h hh : TH} {a1 a2 a3 a4 x d w : Int32} {P C W K N A O D : Nat}
def tkS (h : TH) (w d : Int32) (K N i : Nat) : Bool := if i < 6 then decide (i < N) else decide (i - 6 < K ∧ h 47 0 (i - 6) = 0 ∧ ¬ vd h d (i - 6) ≤ w)
def rkS (h : TH) (w : Int32) (C i : Nat) : Nat := if i < 6 then (h 49 0 i).toNatClampNeg else (rkv h w C (i - 6)).toNatClampNeg
def wtS (h : TH) (d : Int32) (C i : Nat) : Nat := if i < 6 then (h 48 0 i).toNatClampNeg else wth h d C (i - 6)
theorem tkS_ag (a : ag h hh) : tkS hh w d K N = tkS h w d K N := by
  funext i
  unfold tkS
  rw [a.1 47 rfl, vd_ag a]
theorem rkS_ag (a : ag h hh) : rkS hh w C = rkS h w C := by
  funext i
  unfold rkS
  rw [a.1 49 rfl, rkv_ag a]
theorem wtS_ag (a : ag h hh) : wtS hh d C = wtS h d C := by
  funext i
  unfold wtS
  rw [a.1 48 rfl, wth_ag a]
/-- the slots: what holds of a loan, of a claim -/
theorem tk_l {i : Nat} (hi : i < 6) : (tkS h w d K N i = true) ↔ i < N := by
  unfold tkS
  rw [if_pos hi, decide_eq_true_eq]
theorem tk_c {k : Nat} : (tkS h w d K N (6 + k) = true) ↔ k < K ∧ h 47 0 k = 0 ∧ ¬ vd h d k ≤ w := by
  unfold tkS
  rw [if_neg (by omega), decide_eq_true_eq, show 6 + k - 6 = k by omega]
theorem rk_c (J : HC C D P h) (V : HK K C D h) (hD : D ≤ 5000) {k : Nat} (hk : k < K) : rkv h w C k = nI (rkS h w C (6 + k)) ∧ rkS h w C (6 + k) ≤ 5000 := by
  obtain ⟨m, m1, m2⟩ := rkv_ok (w := w) J V hD hk
  unfold rkS
  rw [if_neg (by omega), show 6 + k - 6 = k by omega, m2, nI_clamp (by omega)]
  exact ⟨rfl, m1⟩
theorem wt_c {k : Nat} : wtS h d C (6 + k) = wth h d C k := by
  unfold wtS
  rw [if_neg (by omega), show 6 + k - 6 = k by omega]
theorem ln_ok (I : InvW P C W K N A O D h) {i : Nat} (hi : i < N) : h 49 0 i = nI (rkS h w C i) ∧ rkS h w C i ≤ 5000 ∧ h 48 0 i = nI (wtS h d C i) ∧ wtS h d C i ≤ 1000000 ∧ h 17 0 i = h 49 0 i ∧ h 16 0 i = h 48 0 i := by
  obtain ⟨JP0, JD0, JF0, JQ0, JL0, JC0, JV0, JK0, JN0, JA0⟩ := id I
  obtain ⟨n1, n2, n3, n4⟩ := JN0
  obtain ⟨b1, b2, ⟨s, s1, s2, s3⟩, e, e1, e2⟩ := n4 i hi
  have := JD0.2.2
  unfold rkS wtS
  rw [if_pos (by omega), if_pos (by omega), e2, s3, nI_clamp (by omega), nI_clamp (by omega)]
  exact ⟨rfl, by omega, rfl, s2, b2.trans e2, b1.trans s3⟩
theorem slot_ok (I : InvW P C W K N A O D h) : (∀ i, i < 22 → tkS h w d K N i = true → rkS h w C i ≤ 5000) ∧ ∀ i, i < 22 → tkS h w d K N i = true → wtS h d C i ≤ 1000000 := by
  obtain ⟨JP0, JD0, JF0, JQ0, JL0, JC0, JV0, JK0, JN0, JA0⟩ := id I
  refine ⟨fun i hi g => ?_, fun i hi g => ?_⟩
  · rcases Nat.lt_or_ge i 6 with q | q
    · exact (ln_ok (w := w) (d := d) I ((tk_l q).mp g)).2.1
    · obtain ⟨k, rfl⟩ : ∃ k, i = 6 + k := ⟨i - 6, by omega⟩
      exact (rk_c JC0 JK0 JD0.2.2 (tk_c.mp g).1).2
  · rcases Nat.lt_or_ge i 6 with q | q
    · exact (ln_ok (w := w) (d := d) I ((tk_l q).mp g)).2.2.2.1
    · obtain ⟨k, rfl⟩ : ∃ k, i = 6 + k := ⟨i - 6, by omega⟩
      rw [wt_c]
      exact wth_le JK0 JC0.2.2.1 (tk_c.mp g).1
/-- the first n slots are entered -/
def CE (tk : Nat → Bool) (rk wt : Nat → Nat) (h hh : TH) (L n : Nat) : Prop :=
  ag h hh ∧ hh 15 0 7 = nI L ∧ ∀ i, i < n → (hh 18 0 i = if tk i = true then nI (rk i) else -1) ∧ (tk i = true → hh 19 0 i = nI (wt i)) ∧ hh 20 0 i = 0
theorem CE_up {tk : Nat → Bool} {rk wt : Nat → Nat} {L n : Nat} {a b : Int32} (c : CE tk rk wt h hh L n) (ea : a = if tk n = true then nI (rk n) else -1) (eb : tk n = true → b = nI (wt n)) : CE tk rk wt h (up (up (up hh 18 0 n a) 19 0 n b) 20 0 n 0) L (n + 1) := by
  obtain ⟨c1, c2, c3⟩ := c
  refine ⟨ag_up (ag_up (ag_up c1 rfl (by decide) (by decide)) rfl (by decide) (by decide)) rfl (by decide) (by decide), ?_, fun i hi => ?_⟩
  · rw [up_o (by decide), up_o (by decide), up_o (by decide)]; exact c2
  · simp only [up_a, up_o, up_k, up_s, fx_o, fm_o, ne_eq, Nat.reduceEqDiff, not_false_eq_true]
    by_cases e : i = n
    · subst e
      simp only [if_true]
      exact ⟨ea, eb, trivial⟩
    · simp only [if_neg e]
      exact c3 i (by omega)
theorem le6 {k : Nat} (h : k < 6) : ¬ (6 : Int32) ≤ nI k := by
  rw [show (6 : Int32) = nI 6 from rfl, le_nI (by omega) (by omega)]; omega
theorem le16 {k : Nat} (h : k < 16) : ¬ (16 : Int32) ≤ nI k := by
  rw [show (16 : Int32) = nI 16 from rfl, le_nI (by omega) (by omega)]; omega
theorem x_enterLoans {L : Nat} {Q : TH → Prop} (I : InvW P C W K N A O D h) (c : CE (tkS h w d K N) (rkS h w C) (wtS h d C) h hh L 0) (hQ : ∀ h2, CE (tkS h w d K N) (rkS h w C) (wtS h d C) h h2 L 6 → Q h2) : wv E MX5_enterLoans Q 0 [some (rf 15 0), none] [] hh := by
  obtain ⟨JP0, JD0, JF0, JQ0, JL0, JC0, JV0, JK0, JN0, JA0⟩ := id I
  refine sX5_enterLoans_0 ?_
  unfold SX5_enterLoans_0
  have main : ∀ h2, CE (tkS h w d K N) (rkS h w C) (wtS h d C) h h2 L 0 → wv E MX5_enterLoans Q 2 [some (rf 15 0), some (.int (nI 0))] [] h2 := by
    refine run_dn 6 (fun k => ∀ h2, CE (tkS h w d K N) (rkS h w C) (wtS h d C) h h2 L k → wv E MX5_enterLoans Q 2 [some (rf 15 0), some (.int (nI k))] [] h2) ?_ ?_
    · intro h2 c2
      refine sX5_enterLoans_2 ?_
      unfold SX5_enterLoans_2
      exact ⟨fun _ => hQ h2 c2, fun z => absurd (show (6 : Int32) ≤ nI 6 by decide) z⟩
    · intro k hk ih h2 c2
      have n3 := JN0.2.2.1
      refine sX5_enterLoans_2 ?_
      unfold SX5_enterLoans_2
      rw [ncl (show k ≤ 100000 by omega), nI_1, c2.1.2.1, JN0.1, le_nI (by omega) (by omega)]
      refine ⟨fun z => absurd z (le6 hk), fun _ => ⟨fun g => ⟨vin (show k < 22 by omega) (by omega), vin hk (by omega), ih _ (CE_up c2 ?_ ?_)⟩, fun g => ⟨vin hk (by omega), vin (show k < 22 by omega) (by omega), ih _ (CE_up c2 ?_ ?_)⟩⟩⟩
      · rw [if_neg (fun z => absurd ((tk_l hk).mp z) (by omega))]
      · intro z; exact absurd ((tk_l hk).mp z) (by omega)
      · obtain ⟨l1, l2, l3, l4, l5, l6⟩ := ln_ok (w := w) (d := d) I (show k < N by omega)
        rw [if_pos ((tk_l hk).mpr (by omega)), c2.1.1 17 rfl, l5, l1]
      · intro _
        obtain ⟨l1, l2, l3, l4, l5, l6⟩ := ln_ok (w := w) (d := d) I (show k < N by omega)
        rw [c2.1.1 16 rfl, l6, l3]
  exact main hh c
theorem vd_vals {i : Nat} : vd h d i = 0 ∨ vd h d i = 1 ∨ vd h d i = 2 := by
  unfold vd
  by_cases g : d < h 45 0 i
  · rw [if_pos g]; exact Or.inl rfl
  · rw [if_neg g]; exact jdg_vals _
theorem x_enterClaims {L : Nat} {Q : TH → Prop} (I : InvW P C W K N A O D h) (hw : w = 0 ∨ w = 1) (c : CE (tkS h w d K N) (rkS h w C) (wtS h d C) h hh L 6) (hQ : ∀ h2, CE (tkS h w d K N) (rkS h w C) (wtS h d C) h h2 L 22 → Q h2) : wv E MX5_enterClaims Q 0 [some (rf 15 0), some (.int w), some (.int d), none, none, none, none] [] hh := by
  obtain ⟨JP0, JD0, JF0, JQ0, JL0, JC0, JV0, JK0, JN0, JA0⟩ := id I
  have k3 := JK0.2.2.1
  refine sX5_enterClaims_0 ?_
  unfold SX5_enterClaims_0
  refine x_weigh2 (invw_ag I c.1) (fun h1 a1 b1 => ?_)
  have c1 : CE (tkS h w d K N) (rkS h w C) (wtS h d C) h h1 L 6 := by
    refine ⟨ag_tr c.1 a1.1, by rw [a1.2 15 (by decide) (by decide) (by decide)]; exact c.2.1, fun i hi => ?_⟩
    rw [a1.2 18 (by decide) (by decide) (by decide), a1.2 19 (by decide) (by decide) (by decide), a1.2 20 (by decide) (by decide) (by decide)]
    exact c.2.2 i hi
  have b1' : ∀ j, j < K → h1 12 0 j = vd h d j ∧ h1 13 0 j = nI (wth h d C j) := fun j hj => by
    rw [(b1 j hj).1, (b1 j hj).2, vd_ag c.1, wth_ag c.1]; exact ⟨rfl, rfl⟩
  have main : ∀ lv : Int32, (∀ k, (vd h d k < lv) ↔ vd h d k ≤ w) → ∀ h2, CE (tkS h w d K N) (rkS h w C) (wtS h d C) h h2 L (6 + 0) ∧ (∀ j, j < K → h2 12 0 j = vd h d j ∧ h2 13 0 j = nI (wth h d C j)) → wv E MX5_enterClaims Q 21 [some (rf 15 0), some (.int w), none, some (.int lv), some (.int (nI 0)), none, none] [] h2 := by
    intro lv hlv
    refine run_dn 16 (fun k => ∀ h2, CE (tkS h w d K N) (rkS h w C) (wtS h d C) h h2 L (6 + k) ∧ (∀ j, j < K → h2 12 0 j = vd h d j ∧ h2 13 0 j = nI (wth h d C j)) → wv E MX5_enterClaims Q 21 [some (rf 15 0), some (.int w), none, some (.int lv), some (.int (nI k)), none, none] [] h2) ?_ ?_
    · intro h2 ⟨c2, _⟩
      refine sX5_enterClaims_21 ?_
      unfold SX5_enterClaims_21
      exact ⟨fun _ => hQ h2 c2, fun z => absurd (show (16 : Int32) ≤ nI 16 by decide) z⟩
    · intro k hk ih h2 ⟨c2, e2⟩
      have nx : ∀ a b : Int32, (a = if tkS h w d K N (6 + k) = true then nI (rkS h w C (6 + k)) else -1) → (tkS h w d K N (6 + k) = true → b = nI (wtS h d C (6 + k))) → wv E MX5_enterClaims Q 21 [some (rf 15 0), some (.int w), none, some (.int lv), some (.int (nI (k + 1))), none, none] [] (up (up (up h2 18 0 (6 + k) a) 19 0 (6 + k) b) 20 0 (6 + k) 0) := by
        intro a b ea eb
        refine ih _ ⟨CE_up c2 ea eb, fun j hj => ?_⟩
        simp only [up_o, up_k, up_s, fx_o, fm_o, ne_eq, Nat.reduceEqDiff, not_false_eq_true]
        exact e2 j hj
      have v1 := vin (show 6 + k < 22 by omega) (by omega)
      have v2 := ncl (show 6 + k ≤ 100000 by omega)
      have v3 := vin hk (by omega)
      have v4 := ncl (show k ≤ 100000 by omega)
      have e6 : (6 : Int32) + nI k = nI (6 + k) := nI_add 6 k
      refine sX5_enterClaims_21 ?_
      unfold SX5_enterClaims_21
      rw [w_khas, e6, v2, v4, nI_1, c2.1.1 8 rfl, JK0.1]
      refine ⟨fun z => absurd z (le16 hk), fun _ => ?_⟩
      by_cases g1 : k < K
      · rw [if_pos ((inn_nI (by omega)).mpr ⟨k, g1, rfl⟩)]
        have eb : h2 11 k 4 = h 47 0 k := by rw [c2.1.1 11 rfl]; exact (JK0.2.2.2.1 k g1).1.2.2.2.2
        rw [eb, (e2 k g1).1, (e2 k g1).2, hlv]
        refine ⟨fun z => absurd z (by decide), fun _ => ⟨v3, fun g2 => ⟨v1, nx _ _ ?_ ?_⟩, fun g2 => ⟨fun g3 => ⟨v1, nx _ _ ?_ ?_⟩, fun g3 => ?_⟩⟩⟩
        · rw [if_neg (fun z => g2 (tk_c.mp z).2.1)]
        · intro z; exact absurd (tk_c.mp z).2.1 g2
        · rw [if_neg (fun z => (tk_c.mp z).2.2 g3)]
        · intro z; exact absurd g3 (tk_c.mp z).2.2
        · refine x_rankDayW (invw_ag I c2.1) g1 ⟨v1, ?_⟩
          rw [(e2 k g1).2]
          refine nx _ _ ?_ (fun _ => by rw [wt_c])
          rw [if_pos (tk_c.mpr ⟨g1, g2, g3⟩), rkv_ag c2.1]
          exact (rk_c JC0 JK0 JD0.2.2 g1).1
      · rw [if_neg (fun z => g1 (by obtain ⟨j, hj, ej⟩ := (inn_nI (by omega)).mp z; rw [nI_eq (by omega) (by omega)] at ej; omega))]
        refine ⟨fun _ => ⟨v1, v3, nx _ _ ?_ ?_⟩, fun z => absurd rfl z⟩
        · rw [if_neg (fun z => g1 (tk_c.mp z).1)]
        · intro z; exact absurd (tk_c.mp z).1 g1
  have st : ∀ lv : Int32, (∀ k, (vd h d k < lv) ↔ vd h d k ≤ w) → wv E MX5_enterClaims Q 21 [some (rf 15 0), some (.int w), none, some (.int lv), some (.int 0), none, none] [] h1 := fun lv hlv => main lv hlv h1 ⟨c1, b1'⟩
  refine ⟨fun g => st 2 (fun k => ?_), fun g => st 1 (fun k => ?_)⟩
  · have e : w = 1 := hw.resolve_left g
    rw [e]
    rcases vd_vals (h := h) (d := d) (i := k) with e | e | e <;> rw [e] <;> decide
  · rw [g]
    rcases vd_vals (h := h) (d := d) (i := k) with e | e | e <;> rw [e] <;> decide
/-- a sale, by the class -/
theorem x_sell {L : Nat} {Q : TH → Prop} (I : InvW P C W K N A O D h) (hw : w = 0 ∨ w = 1) (hL : L ≤ 10000000)
    (hQ : ∀ h2, CS (tkS h w d K N) (rkS h w C) (wtS h d C) h h2 (slP (tkS h w d K N) (rkS h w C) (wtS h d C) 22 0 L (fun _ => 0)).1 (slP (tkS h w d K N) (rkS h w C) (wtS h d C) 22 0 L (fun _ => 0)).2 → Q h2) : wv E MX5_sell Q 0 [some (rf 15 0), some (.int (nI L)), some (.int w), some (.int d), none, none] [] h := by
  obtain ⟨s1, s2⟩ := slot_ok (w := w) (d := d) I
  refine sX5_sell_0 ?_
  unfold SX5_sell_0
  refine x_enterLoans I (⟨ag_15 ag_rf, by rw [up_s], fun i hi => absurd hi (Nat.not_lt_zero i)⟩ : CE (tkS h w d K N) (rkS h w C) (wtS h d C) h (up h 15 0 7 (nI L)) L 0) (fun h1 c1 => ?_)
  refine x_enterClaims I hw c1 (fun h2 c2 => ?_)
  have cs : CS (tkS h w d K N) (rkS h w C) (wtS h d C) h h2 L (fun _ => 0) := ⟨c2.1, fun i hi => (c2.2.2 i hi).1, fun i hi => (c2.2.2 i hi).2.1, c2.2.1, fun i hi => (c2.2.2 i hi).2.2⟩
  rw [show (-1 : Int32) = nI 0 - 1 by decide]
  refine x_rankAfter cs s1 (by omega) ?_
  exact x_rounds s1 s2 22 0 0 L (fun _ => 0) h2 rfl (by omega) hL cs hQ
end Sell
