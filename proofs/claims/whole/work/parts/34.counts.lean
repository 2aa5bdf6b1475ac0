section Counts
variable {E : EN} {h hh : TH} {a1 a2 a3 a4 x d w : Int32} {P C W K N A O D : Nat}
theorem x_good {Q : Int32 → TH → Prop} (I : InvC P C W K N A O D h) (hQ : ∀ hh, ag h hh → Q (cnt (vd h d) 2 K) hh) : wi E MX4_howManyGood Q 0 [some (rf 8 0), some (.int d), none, none] [] h := by
  obtain ⟨JP0, JD0, JF0, JQ0, JL0, JC0, JV0, JK0, JN0, JA0⟩ := id I
  have k3 := JK0.2.2.1
  refine sX4_howManyGood_0 ?_
  unfold SX4_howManyGood_0
  refine x_weigh I (fun hh a hv => ?_)
  refine run_dn K (fun i => wi E MX4_howManyGood Q 9 [some (rf 8 0), none, some (.int (cnt (vd h d) 2 i)), some (.int (nI i))] [] hh) ?_ ?_
  · refine sX4_howManyGood_9 ?_
    unfold SX4_howManyGood_9
    rw [a.1 8 rfl, JK0.1]
    exact ⟨fun _ => hQ hh a, fun z => absurd (Int32.le_refl _) z⟩
  · intro i hi ih
    refine sX4_howManyGood_9 ?_
    unfold SX4_howManyGood_9
    rw [a.1 8 rfl, JK0.1, ncl (show i ≤ 100000 by omega), nI_1, le_nI (by omega) (by omega), (hv i hi).1]
    refine ⟨fun z => absurd z (by omega), fun _ => ⟨vin (show i < 16 by omega) (by omega), fun g => ?_, fun g => ?_⟩⟩
    · simp only [cnt, if_neg g] at ih; exact ih
    · simp only [cnt, if_pos g] at ih; exact ih
/-- on today's day every claim is there -/
theorem vd_now (J : HK K C D h) {i : Nat} (hi : i < K) (hD : D ≤ 5000) : vd h (nI D) i = jdg (brd h (cK h i) i (nI D)) := by
  obtain ⟨-, -, -, ⟨f, f1, f2⟩, -, -⟩ := J.2.2.2.1 i hi
  unfold vd
  rw [f2, if_neg (nI_nlt (by omega) (by omega))]
theorem m_good {Q : Int32 → TH → Prop} (I : InvC P C W K N A O D h) (hQ : Q (cnt (vd h (nI D)) 2 K) h) : wi E MX7_count Q 103 [some (rf 28 0), none, some (.int 0), some (.int 0)] [] h := by
  obtain ⟨JP0, JD0, JF0, JQ0, JL0, JC0, JV0, JK0, JN0, JA0⟩ := id I
  have k3 := JK0.2.2.1
  refine run_dn K (fun i => wi E MX7_count Q 103 [some (rf 28 0), none, some (.int (cnt (vd h (nI D)) 2 i)), some (.int (nI i))] [] h) ?_ ?_
  · refine sX7_count_103 ?_
    unfold SX7_count_103
    rw [JK0.2.1]
    exact ⟨fun _ => hQ, fun z => absurd (Int32.le_refl _) z⟩
  · intro i hi ih
    obtain ⟨q1, q2, q3, q4, q5, q6, q7, q8⟩ := clm JK0 JC0.2.2.1 hi
    refine sX7_count_103 ?_
    unfold SX7_count_103
    rw [JK0.2.1, nI_1, le_nI (by omega) (by omega), JD0.2.1]
    refine ⟨fun z => absurd z (by omega), fun _ => m_judged JC0 JV0 (by omega) q1 q2 ?_⟩
    rw [← vd_now JK0 hi JD0.2.2, Int32.add_zero]
    refine ⟨fun g => ?_, fun g => ?_⟩
    · simp only [cnt, if_neg g] at ih; exact ih
    · simp only [cnt, if_pos g] at ih; exact ih
theorem cnt_fun {f g : Nat → Int32} (e : f = g) {n : Nat} : cnt f x n = cnt g x n := by rw [e]
theorem op_count (I : Inv h) : wi E MX6_count (fun r1 h1 => wi E MX7_count (fun r2 h2 => Same r1 r2 h2) 0 [some (rf 28 0), some (.int a1), none, none] [] h1) 0 [some (rf 0 0), some (.int a1)] [] h := by
  obtain ⟨P, C, W, K, N, A, O, D, I⟩ := id I
  obtain ⟨JP0, JD0, JF0, JQ0, JL0, JC0, JV0, JK0, JN0, JA0⟩ := id I
  obtain ⟨n9, q0, q1, q2, q3⟩ := id JQ0
  refine sX6_count ?_
  unfold SX6_count
  have lf : ∀ {r h1}, h1 = h → wi E MX7_count (fun r2 h2 => Same r r2 h2) 0 [some (rf 28 0), some (.int a1), none, none] [] h1 → wi E MX7_count (fun r2 h2 => Same r r2 h2) 0 [some (rf 28 0), some (.int a1), none, none] [] h := fun e k => e ▸ k
  have IS : Inv h := ⟨P, C, W, K, N, A, O, D, I⟩
  refine ⟨fun e => ?_, fun e => ?_, fun e => ?_, fun e => ?_, fun e => ?_, fun e => ?_, fun e => ?_, fun e => ?_, fun e => ?_, fun e => ?_, ?_⟩
  all_goals first | (subst e; refine sX7_count_0 ?_; unfold SX7_count_0) | skip
  · refine ⟨fun _ => ⟨JP0.1.trans JP0.2.1.symm, IS⟩, ?_⟩; simp
  · simp; exact ⟨JC0.1.trans JC0.2.1.symm, IS⟩
  · simp; exact ⟨JK0.1.trans JK0.2.1.symm, IS⟩
  · simp; exact ⟨JN0.1.trans JN0.2.1.symm, IS⟩
  · simp; exact ⟨JV0.1.trans JV0.2.1.symm, IS⟩
  · simp; exact ⟨JA0.1.trans JA0.2.1.symm, IS⟩
  · simp; exact ⟨JA0.2.2.1.trans JA0.2.2.2.1.symm, IS⟩
  · simp; exact ⟨JD0.1.trans JD0.2.1.symm, IS⟩
  · simp; exact ⟨q1.trans q2.symm, IS⟩
  · refine x_good I (fun hh a => ?_)
    have I2 := inv_ag I a
    refine sX7_count_0 ?_
    unfold SX7_count_0
    subst e
    simp
    refine m_good I2 ⟨?_, P, C, W, K, N, A, O, D, I2⟩
    rw [JD0.1]
    exact cnt_fun (funext fun i => (vd_ag a).symm)
  · intro e0 e1 e2 e3 e4 e5 e6 e7 e8 e9
    refine f1.mpr ?_
    refine sX7_count_0 ?_
    unfold SX7_count_0
    simp [e0, e1, e2, e3, e4, e5, e6, e7, e8, e9]
    exact m1.mpr (fin_same I)
/-! ranks -/
def dayf (h : TH) (w : Int32) (i : Nat) : Int32 := if w = 0 then h 35 0 i else h 36 0 i
/-- the least day of the first n, or none -/
def fsp (f : Nat → Int32) : Nat → Int32
  | 0 => -1
  | n + 1 => if f n = -1 then fsp f n else if fsp f n = -1 then f n else if fsp f n ≤ f n then fsp f n else f n
/-- the least of a day and the days of the first n -/
def rkl (f : Nat → Int32) (o : Int32) : Nat → Int32
  | 0 => o
  | n + 1 => if f n = -1 then rkl f o n else if rkl f o n ≤ f n then rkl f o n else f n
theorem dayf_ok (J : HC C D P h) (hD : D ≤ 5000) {i : Nat} (hi : i < C) : day0 D (dayf h w i) ∧ (¬ h 35 0 i = -1 → ¬ dayf h w i = -1) ∧ dayf h w i = (if w = 0 then h 4 i 9 else h 4 i 10) := by
  obtain ⟨⟨_, _, _, _, _, r9, r10, _, _⟩, -, -, s, -⟩ := J.2.2.2.1 i hi
  unfold dayf
  rw [r9, r10]
  rcases s with ⟨s1, s2⟩ | ⟨a, b, s1, s2, s3, s4⟩
  · rw [s1, s2]
    exact ⟨Or.inl (by by_cases g : w = 0 <;> simp [g]), fun z => absurd rfl z, rfl⟩
  · rw [s3, s4]
    by_cases g : w = 0
    · rw [if_pos g]
      exact ⟨Or.inr ⟨a, by omega, rfl⟩, fun z => z, rfl⟩
    · rw [if_neg g]
      exact ⟨Or.inr ⟨b, by omega, rfl⟩, fun _ => nI_m1 (by omega), rfl⟩
theorem fsp_spec {f : Nat → Int32} (hD : D ≤ 5000) : ∀ n, (∀ i, i < n → day0 D (f i)) → (fsp f n = -1 ∧ ∀ i, i < n → f i = -1) ∨ ∃ m, m ≤ D ∧ fsp f n = nI m ∧ (∃ i, i < n ∧ f i = nI m) ∧ ∀ i, i < n → ∀ e, e ≤ D → f i = nI e → m ≤ e
  | 0, _ => Or.inl ⟨rfl, fun i hi => absurd hi (Nat.not_lt_zero i)⟩
  | n + 1, hf => by
    have ih := fsp_spec (f := f) hD n (fun i hi => hf i (by omega))
    unfold fsp
    rcases hf n (by omega) with e | ⟨q, hq, e⟩
    · rw [if_pos e]
      rcases ih with ⟨i1, i2⟩ | ⟨m, i1, i2, ⟨j, i3, i4⟩, i5⟩
      · refine Or.inl ⟨i1, fun i hi => ?_⟩
        by_cases g : i = n
        · rw [g]; exact e
        · exact i2 i (by omega)
      · refine Or.inr ⟨m, i1, i2, ⟨j, by omega, i4⟩, fun i hi v hv ev => ?_⟩
        by_cases g : i = n
        · rw [g, e] at ev; exact absurd ev.symm (nI_m1 (by omega))
        · exact i5 i (by omega) v hv ev
    · rw [if_neg (by rw [e]; exact nI_m1 (by omega))]
      rcases ih with ⟨i1, i2⟩ | ⟨m, i1, i2, ⟨j, i3, i4⟩, i5⟩
      · rw [if_pos i1]
        refine Or.inr ⟨q, hq, e, ⟨n, by omega, e⟩, fun i hi v hv ev => ?_⟩
        by_cases g : i = n
        · rw [g, e, nI_eq (by omega) (by omega)] at ev; omega
        · rw [i2 i (by omega)] at ev; exact absurd ev.symm (nI_m1 (by omega))
      · rw [i2, if_neg (nI_m1 (by omega)), e]
        by_cases g : m ≤ q
        · rw [if_pos ((le_nI (by omega) (by omega)).mpr g)]
          refine Or.inr ⟨m, i1, rfl, ⟨j, by omega, i4⟩, fun i hi v hv ev => ?_⟩
          by_cases g2 : i = n
          · rw [g2, e, nI_eq (by omega) (by omega)] at ev; omega
          · exact i5 i (by omega) v hv ev
        · rw [if_neg (fun z => g ((le_nI (by omega) (by omega)).mp z))]
          refine Or.inr ⟨q, hq, rfl, ⟨n, by omega, e⟩, fun i hi v hv ev => ?_⟩
          by_cases g2 : i = n
          · rw [g2, e, nI_eq (by omega) (by omega)] at ev; omega
          · have := i5 i (by omega) v hv ev; omega
theorem rkl_spec {f : Nat → Int32} {o : Nat} (hD : D ≤ 5000) (ho : o ≤ D) : ∀ n, (∀ i, i < n → day0 D (f i)) → ∃ m, m ≤ D ∧ rkl f (nI o) n = nI m ∧ m ≤ o ∧ (m = o ∨ ∃ i, i < n ∧ f i = nI m) ∧ ∀ i, i < n → ∀ e, e ≤ D → f i = nI e → m ≤ e
  | 0, _ => ⟨o, ho, rfl, Nat.le_refl _, Or.inl rfl, fun i hi => absurd hi (Nat.not_lt_zero i)⟩
  | n + 1, hf => by
    obtain ⟨m, i1, i2, i3, i4, i5⟩ := rkl_spec (f := f) hD ho n (fun i hi => hf i (by omega))
    have i4' : m = o ∨ ∃ i, i < n + 1 ∧ f i = nI m := i4.elim Or.inl (fun ⟨j, a, b⟩ => Or.inr ⟨j, by omega, b⟩)
    unfold rkl
    rcases hf n (by omega) with e | ⟨q, hq, e⟩
    · rw [if_pos e]
      refine ⟨m, i1, i2, i3, i4', fun i hi v hv ev => ?_⟩
      by_cases g : i = n
      · rw [g, e] at ev; exact absurd ev.symm (nI_m1 (by omega))
      · exact i5 i (by omega) v hv ev
    · rw [if_neg (by rw [e]; exact nI_m1 (by omega)), i2, e]
      by_cases g : m ≤ q
      · rw [if_pos ((le_nI (by omega) (by omega)).mpr g)]
        refine ⟨m, i1, rfl, i3, i4', fun i hi v hv ev => ?_⟩
        by_cases g2 : i = n
        · rw [g2, e, nI_eq (by omega) (by omega)] at ev; omega
        · exact i5 i (by omega) v hv ev
      · rw [if_neg (fun z => g ((le_nI (by omega) (by omega)).mp z))]
        refine ⟨q, hq, rfl, by omega, Or.inr ⟨n, by omega, e⟩, fun i hi v hv ev => ?_⟩
        by_cases g2 : i = n
        · rw [g2, e, nI_eq (by omega) (by omega)] at ev; omega
        · have := i5 i (by omega) v hv ev; omega
theorem rk_eq {f : Nat → Int32} {c o : Nat} (hD : D ≤ 5000) (hf : ∀ i, i < C → day0 D (f i)) (hc : c < C) (ho : o ≤ D) (ec : f c = nI o) : rkl f (nI o) C = fsp f C ∧ ∃ m, m ≤ D ∧ fsp f C = nI m := by
  obtain ⟨m, i1, i2, i3, i4, i5⟩ := rkl_spec (f := f) hD ho C hf
  rcases fsp_spec hD C hf with ⟨j1, j2⟩ | ⟨k, j1, j2, ⟨j, j3, j4⟩, j5⟩
  · have := j2 c hc
    rw [ec] at this
    exact absurd this (nI_m1 (by omega))
  · have a1 := i5 j j3 k j1 j4
    have a2 : k ≤ m := by
      rcases i4 with g | ⟨i, g1, g2⟩
      · rw [g]; exact j5 c hc o ho ec
      · exact j5 i g1 m i1 g2
    have : m = k := by omega
    rw [i2, j2, this]
    exact ⟨rfl, k, j1, rfl⟩
/-- the rank of a claim -/
def rkv (h : TH) (w : Int32) (C k : Nat) : Int32 := if h 42 0 4 = 2 then h 45 0 k else if h 42 0 4 = 1 then fsp (dayf h w) C else dayf h w (cK h k)
theorem dayf_ag (a : ag h hh) : dayf hh w = dayf h w := by
  funext i
  unfold dayf
  rw [a.1 35 rfl, a.1 36 rfl]
theorem rkv_ag {k : Nat} (a : ag h hh) : rkv hh w C k = rkv h w C k := by
  have e : cK hh k = cK h k := by unfold cK; rw [a.1 43 rfl]
  unfold rkv
  rw [dayf_ag a, e, a.1 42 rfl, a.1 45 rfl]
theorem own_ok (J : HC C D P h) (V : HK K C D h) (hD : D ≤ 5000) {k : Nat} (hk : k < K) : ∃ o, o ≤ D ∧ dayf h w (cK h k) = nI o := by
  obtain ⟨q1, q2, q3, q4, q5, q6, q7, q8⟩ := clm V J.2.2.1 hk
  obtain ⟨-, ⟨c, b1, b2, b3⟩, -⟩ := V.2.2.2.1 k hk
  have e : cK h k = c := by unfold cK; rw [b2, nI_clamp (by have := J.2.2.1; omega)]
  rw [e]
  obtain ⟨d1, d2, -⟩ := dayf_ok (w := w) J hD b1
  exact d1.elim (fun z => absurd z (d2 b3)) id
theorem rkv_ok (J : HC C D P h) (V : HK K C D h) (hD : D ≤ 5000) {k : Nat} (hk : k < K) : ∃ m, m ≤ 5000 ∧ rkv h w C k = nI m := by
  obtain ⟨o, ho, eo⟩ := own_ok (w := w) J V hD hk
  obtain ⟨q1, -⟩ := clm V J.2.2.1 hk
  unfold rkv
  by_cases g : h 42 0 4 = 2
  · rw [if_pos g]
    obtain ⟨-, -, -, ⟨f, f1, f2⟩, -, -⟩ := V.2.2.2.1 k hk
    exact ⟨f, by omega, f2⟩
  · rw [if_neg g]
    by_cases g2 : h 42 0 4 = 1
    · rw [if_pos g2]
      obtain ⟨-, m, m1, m2⟩ := rk_eq hD (fun i hi => (dayf_ok (w := w) J hD hi).1) q1 ho eo
      exact ⟨m, by omega, m2⟩
    · rw [if_neg g2]
      exact ⟨o, by omega, eo⟩
theorem x_spade {Q : Int32 → TH → Prop} (J : HC C D P h) (hD : D ≤ 5000) (hQ : Q (fsp (dayf h w) C) h) : wi E MX1_firstSpade Q 0 [some (rf 2 0), some (.int w), none, none, none] [] h := by
  have c3 := J.2.2.1
  refine sX1_firstSpade_0 ?_
  unfold SX1_firstSpade_0
  refine run_dn C (fun i => wi E MX1_firstSpade Q 4 [some (rf 2 0), some (.int w), some (.int (fsp (dayf h w) i)), some (.int (nI i)), none] [] h) ?_ ?_
  · refine sX1_firstSpade_4 ?_
    unfold SX1_firstSpade_4
    rw [J.1]
    exact ⟨fun _ => hQ, fun z => absurd (Int32.le_refl _) z⟩
  · intro i hi ih
    obtain ⟨-, -, e⟩ := dayf_ok (w := w) J hD hi
    have v1 := vin (show i < 10 by omega) (by omega)
    refine sX1_firstSpade_4 ?_
    unfold SX1_firstSpade_4
    rw [J.1, ncl (show i ≤ 100000 by omega), nI_1, le_nI (by omega) (by omega)]
    refine ⟨fun z => absurd z (by omega), fun _ => ⟨fun g => ⟨v1, ?_⟩, fun g => ⟨v1, ?_⟩⟩⟩
    · rw [if_neg g] at e
      rw [← e]
      refine ⟨fun g1 => ?_, fun g1 => ⟨fun g2 => ?_, fun g2 => ⟨fun g3 => ?_, fun g3 => ?_⟩⟩⟩
      · simp only [fsp, if_pos g1] at ih; exact ih
      · simp only [fsp, if_neg g1, if_pos g2] at ih; exact ih
      · simp only [fsp, if_neg g1, if_neg g2, if_pos g3] at ih; exact ih
      · simp only [fsp, if_neg g1, if_neg g2, if_neg g3] at ih; exact ih
    · rw [if_pos g] at e
      rw [← e]
      refine ⟨fun g1 => ?_, fun g1 => ⟨fun g2 => ?_, fun g2 => ⟨fun g3 => ?_, fun g3 => ?_⟩⟩⟩
      · simp only [fsp, if_pos g1] at ih; exact ih
      · simp only [fsp, if_neg g1, if_pos g2] at ih; exact ih
      · simp only [fsp, if_neg g1, if_neg g2, if_pos g3] at ih; exact ih
      · simp only [fsp, if_neg g1, if_neg g2, if_neg g3] at ih; exact ih
theorem law4 (J : HL h) : h 9 0 4 = h 42 0 4 ∧ (h 42 0 4 = 0 ∨ h 42 0 4 = 1 ∨ h 42 0 4 = 2) := by
  obtain ⟨e, a, b⟩ := J 4 (by omega)
  refine ⟨e, ?_⟩
  obtain ⟨v, v1, v2, v3⟩ := law_nat J (show 4 < 6 by omega)
  rw [show oMost 4 = nI 2 from rfl, v2, le_nI (by omega) (by omega)] at b
  rw [v3]
  match v, b with
  | 0, _ => exact Or.inl rfl
  | 1, _ => exact Or.inr (Or.inl rfl)
  | 2, _ => exact Or.inr (Or.inr rfl)
theorem x_rankDayW {k : Nat} {Q : Int32 → TH → Prop} (I : InvW P C W K N A O D h) (hk : k < K) (hQ : Q (rkv h w C k) h) : SX4_rankDay E (nI k) w h Q := by
  obtain ⟨JP0, JD0, JF0, JQ0, JL0, JC0, JV0, JK0, JN0, JA0⟩ := id I
  have c3 := JC0.2.2.1
  have k3 := JK0.2.2.1
  obtain ⟨l1, l2⟩ := law4 JL0
  obtain ⟨q1, q2, q3, q4, q5, q6, q7, q8⟩ := clm JK0 c3 hk
  obtain ⟨-, -, e⟩ := dayf_ok (w := w) JC0 JD0.2.2 q1
  unfold SX4_rankDay
  unfold rkv at hQ
  rw [l1, ncl (show k ≤ 100000 by omega), q6, ncl (show cK h k ≤ 100000 by omega), q8]
  refine ⟨vin (show k < 16 by omega) (by omega), fun g => ⟨fun g1 => ?_, fun g1 => ?_⟩, fun g => ⟨vin (show cK h k < 10 by omega) (by omega), ?_⟩⟩
  · rw [if_pos (l2.elim (fun z => absurd z g) (fun z => z.elim (fun z => absurd z g1) id))] at hQ
    exact hQ
  · rw [if_neg (by rw [g1]; decide), if_pos g1] at hQ
    exact x_spade JC0 JD0.2.2 hQ
  · rw [if_neg (by rw [g]; decide), if_neg (by rw [g]; decide), e] at hQ
    refine ⟨fun g1 => ?_, fun g1 => ?_⟩
    · rw [if_neg g1] at hQ; exact hQ
    · rw [if_pos g1] at hQ; exact hQ
theorem x_rankDay {k : Nat} {Q : Int32 → TH → Prop} (I : InvC P C W K N A O D h) (hk : k < K) (hQ : Q (rkv h w C k) h) : SX4_rankDay E (nI k) w h Q := x_rankDayW I.w hk hQ
theorem m_rankOfW {k : Nat} {Q : Int32 → TH → Prop} (I : InvW P C W K N A O D h) (hk : k < K) (hQ : Q (rkv h w C k) h) : wi E MX7_rankOf Q 0 [some (rf 28 0), some (.int (nI k)), some (.int w), none, none, none] [] h := by
  obtain ⟨JP0, JD0, JF0, JQ0, JL0, JC0, JV0, JK0, JN0, JA0⟩ := id I
  have c3 := JC0.2.2.1
  have k3 := JK0.2.2.1
  obtain ⟨l1, l2⟩ := law4 JL0
  obtain ⟨q1, q2, q3, q4, q5, q6, q7, q8⟩ := clm JK0 c3 hk
  obtain ⟨o, ho, eo⟩ := own_ok (w := w) JC0 JK0 JD0.2.2 hk
  have lp : ¬ h 42 0 4 = 2 → wi E MX7_rankOf Q 50 [some (rf 28 0), none, some (.int w), some (.int (dayf h w (cK h k))), some (.int 0), none] [] h := by
    intro g
    unfold rkv at hQ
    rw [if_neg g] at hQ
    by_cases g1 : h 42 0 4 = 1
    · rw [if_pos g1] at hQ
      obtain ⟨e1, -⟩ := rk_eq JD0.2.2 (fun i hi => (dayf_ok (w := w) JC0 JD0.2.2 hi).1) q1 ho eo
      rw [eo]
      refine run_dn C (fun i => wi E MX7_rankOf Q 50 [some (rf 28 0), none, some (.int w), some (.int (rkl (dayf h w) (nI o) i)), some (.int (nI i)), none] [] h) ?_ ?_
      · refine sX7_rankOf_50 ?_
        unfold SX7_rankOf_50
        rw [JC0.2.1, e1]
        exact ⟨fun _ => hQ, fun z => absurd (Int32.le_refl _) z⟩
      · intro i hi ih
        have v1 := vin (show i < 10 by omega) (by omega)
        refine sX7_rankOf_50 ?_
        unfold SX7_rankOf_50
        rw [JC0.2.1, ncl (show i ≤ 100000 by omega), nI_1, le_nI (by omega) (by omega)]
        refine ⟨fun z => absurd z (by omega), fun _ => ⟨fun z => absurd g1 z, fun _ => ⟨fun g2 => ⟨v1, ?_⟩, fun g2 => ⟨v1, ?_⟩⟩⟩⟩
        · have e : dayf h w i = h 36 0 i := by unfold dayf; rw [if_neg g2]
          rw [← e]
          refine ⟨fun g3 => ?_, fun g3 => ⟨fun g4 => ?_, fun g4 => ?_⟩⟩
          · simp only [rkl, if_pos g3] at ih; exact ih
          · simp only [rkl, if_neg g3, if_pos g4] at ih; exact ih
          · simp only [rkl, if_neg g3, if_neg g4] at ih; exact ih
        · have e : dayf h w i = h 35 0 i := by unfold dayf; rw [if_pos g2]
          rw [← e]
          refine ⟨fun g3 => ?_, fun g3 => ⟨fun g4 => ?_, fun g4 => ?_⟩⟩
          · simp only [rkl, if_pos g3] at ih; exact ih
          · simp only [rkl, if_neg g3, if_pos g4] at ih; exact ih
          · simp only [rkl, if_neg g3, if_neg g4] at ih; exact ih
    · rw [if_neg g1] at hQ
      refine sX7_rankOf_50 ?_
      unfold SX7_rankOf_50
      exact ⟨fun _ => hQ, fun _ => ⟨fun _ => hQ, fun z => absurd z g1⟩⟩
  refine sX7_rankOf_0 ?_
  unfold SX7_rankOf_0
  have v1 := vin (show k < 16 by omega) (by omega)
  have v3 := vin (show cK h k < 10 by omega) (by omega)
  rw [ncl (show k ≤ 100000 by omega), q2, ncl (show cK h k ≤ 100000 by omega)]
  refine ⟨fun g => ⟨fun g1 => ⟨v1, v3, ?_⟩, fun g1 => ⟨v1, v3, ?_⟩⟩, fun g => ⟨v1, ?_⟩⟩
  · have := lp g
    rw [show dayf h w (cK h k) = h 36 0 (cK h k) by unfold dayf; rw [if_neg g1]] at this
    exact this
  · have := lp g
    rw [show dayf h w (cK h k) = h 35 0 (cK h k) by unfold dayf; rw [if_pos g1]] at this
    exact this
  · unfold rkv at hQ
    rw [if_pos g] at hQ
    exact hQ
theorem m_rankOf {k : Nat} {Q : Int32 → TH → Prop} (I : InvC P C W K N A O D h) (hk : k < K) (hQ : Q (rkv h w C k) h) : wi E MX7_rankOf Q 0 [some (rf 28 0), some (.int (nI k)), some (.int w), none, none, none] [] h := m_rankOfW I.w hk hQ
theorem op_rank (I : Inv h) : wi E MX6_rank (fun r1 h1 => wi E MX7_rank (fun r2 h2 => Same r1 r2 h2) 0 [some (rf 28 0), some (.int a1), some (.int a2)] [] h1) 0 [some (rf 0 0), some (.int a1), some (.int a2)] [] h := by
  obtain ⟨P, C, W, K, N, A, O, D, I⟩ := id I
  obtain ⟨JP0, JD0, JF0, JQ0, JL0, JC0, JV0, JK0, JN0, JA0⟩ := id I
  obtain ⟨k1, k2, k3, k4, k5⟩ := id JK0
  refine sX6_rank ?_
  by_cases g1 : inn a1 0 (nI K - 1)
  · obtain ⟨k, hk, rfl⟩ := (inn_nI (by omega)).mp g1
    by_cases g2 : inn a2 0 1
    · simp only [SX6_rank, w_khas, w_within, k1, if_pos g1, if_pos g2]
      refine ⟨fun z => absurd z (by decide), fun _ => ⟨fun _ => ?_, fun z => absurd z (by decide)⟩⟩
      refine x_rankDay I hk ?_
      refine sX7_rank ?_
      simp only [SX7_rank, w_isClaim, w_isIn, k2, if_pos g1, if_pos g2]
      refine ⟨fun z => absurd z (by decide), fun _ => ⟨fun z => absurd z (by decide), fun _ => ?_⟩⟩
      exact m_rankOf I hk ⟨rfl, P, C, W, K, N, A, O, D, I⟩
    · simp only [SX6_rank, w_khas, w_within, k1, if_pos g1, if_neg g2]
      refine ⟨fun z => absurd z (by decide), fun _ => ⟨fun z => (z trivial).elim, fun _ => f1.mpr ?_⟩⟩
      refine sX7_rank ?_
      simp only [SX7_rank, w_isClaim, w_isIn, up_o, up_k, up_s, fx_o, fm_o, ne_eq, Nat.reduceEqDiff, not_false_eq_true, k2, if_pos g1, if_neg g2]
      exact ⟨fun z => absurd z (by decide), fun _ => ⟨fun _ => m1.mpr (fin_same I), fun z => (z trivial).elim⟩⟩
  · simp only [SX6_rank, w_khas, k1, if_neg g1]
    refine ⟨fun _ => f1.mpr ?_, fun z => (z trivial).elim⟩
    refine sX7_rank ?_
    simp only [SX7_rank, w_isClaim, up_o, up_k, up_s, fx_o, fm_o, ne_eq, Nat.reduceEqDiff, not_false_eq_true, k2, if_neg g1]
    exact ⟨fun _ => m1.mpr (fin_same I), fun z => (z trivial).elim⟩
/-! paid twice -/
def sbl (h : TH) (d : Int32) (C t : Nat) : Nat → Nat
  | 0 => 0
  | n + 1 => if (msk h (cK h n)).testBit t = true then sbl h d C t n + wth h d C n else sbl h d C t n
theorem wth_le (J : HK K C D h) (hC : C ≤ 10) {i : Nat} (hi : i < K) : wth h d C i ≤ 1000000 := by
  obtain ⟨q1, q2, q3, q4, q5, q6, q7, q8⟩ := clm J hC hi
  unfold wth
  by_cases g : vd h d i = 0
  · rw [if_pos g]; omega
  · rw [if_neg g]; exact Nat.le_trans (Nat.min_le_left _ _) q5
theorem sbl_le {t : Nat} (J : HK K C D h) (hC : C ≤ 10) : ∀ n, n ≤ K → sbl h d C t n ≤ n * 1000000
  | 0, _ => Nat.zero_le _
  | n + 1, hn => by
    have ih := sbl_le (t := t) J hC n (by omega)
    have := wth_le (d := d) J hC (show n < K by omega)
    unfold sbl
    by_cases g : (msk h (cK h n)).testBit t = true
    · rw [if_pos g]; omega
    · rw [if_neg g]; exact Nat.le_trans ih (Nat.mul_le_mul_right _ (Nat.le_succ n))
theorem x_worthBelow {t : Nat} {Q : Int32 → TH → Prop} (I : InvC P C W K N A O D h) (ht : t < 10) (hQ : ∀ hh, ag h hh → Q (nI (sbl h d C t K)) hh) : wi E MX4_worthBelow Q 0 [some (rf 8 0), some (.int (nI t)), some (.int d), none, none] [] h := by
  obtain ⟨JP0, JD0, JF0, JQ0, JL0, JC0, JV0, JK0, JN0, JA0⟩ := id I
  have c3 := JC0.2.2.1
  have k3 := JK0.2.2.1
  refine sX4_worthBelow_0 ?_
  unfold SX4_worthBelow_0
  refine x_weigh I (fun hh a hv => ?_)
  obtain ⟨JPh, JDh, JFh, JQh, JLh, JCh, JVh, JKh, JNh, JAh⟩ := inv_ag I a
  refine run_dn K (fun i => wi E MX4_worthBelow Q 10 [some (rf 8 0), some (.int (nI t)), none, some (.int (nI (sbl h d C t i))), some (.int (nI i))] [] hh) ?_ ?_
  · refine sX4_worthBelow_10 ?_
    unfold SX4_worthBelow_10
    rw [a.1 8 rfl, JK0.1]
    exact ⟨fun _ => hQ hh a, fun z => absurd (Int32.le_refl _) z⟩
  · intro i hi ih
    obtain ⟨q1, q2, q3, q4, q5, q6, q7, q8⟩ := clm JK0 c3 hi
    have em : msk hh (cK h i) = msk h (cK h i) := by unfold msk; rw [a.1 4 rfl]
    refine sX4_worthBelow_10 ?_
    unfold SX4_worthBelow_10
    rw [a.1 8 rfl, JK0.1, ncl (show i ≤ 100000 by omega), a.1 11 rfl, q6, ncl (show cK h i ≤ 100000 by omega), nI_1, le_nI (by omega) (by omega), w_isBelow JCh q1 ht, em, (hv i hi).2]
    refine ⟨fun z => absurd z (by omega), fun _ => ⟨vin (show i < 16 by omega) (by omega), vin (show cK h i < 10 by omega) (by omega), ?_⟩⟩
    by_cases g : (msk h (cK h i)).testBit t = true
    · rw [if_pos g, nI_add]
      simp only [sbl, if_pos g] at ih
      exact ⟨fun z => absurd z (by decide), fun _ => ih⟩
    · rw [if_neg g]
      simp only [sbl, if_neg g] at ih
      exact ⟨fun _ => ih, fun z => absurd rfl z⟩
theorem m_twice {t : Nat} {Q : Int32 → TH → Prop} (I : InvC P C W K N A O D h) (ht : t < C) (hQ : Q (nI (sbl h (nI D) C t K - owN h t)) h) : wi E MX7_twice Q 35 [some (rf 28 0), some (.int (nI t)), some (.int 0), some (.int 0)] [] h := by
  obtain ⟨JP0, JD0, JF0, JQ0, JL0, JC0, JV0, JK0, JN0, JA0⟩ := id I
  have c3 := JC0.2.2.1
  have k3 := JK0.2.2.1
  refine run_dn K (fun i => wi E MX7_twice Q 35 [some (rf 28 0), some (.int (nI t)), some (.int (nI (sbl h (nI D) C t i))), some (.int (nI i))] [] h) ?_ ?_
  · obtain ⟨o1, o2, o3⟩ := ow_ok JC0 ht
    have sl := sbl_le (d := nI D) (t := t) JK0 c3 K (Nat.le_refl _)
    have v1 := vin (show t < 10 by omega) (by omega)
    refine sX7_twice_35 ?_
    unfold SX7_twice_35 SX7_owing
    rw [JK0.2.1, ncl (show t ≤ 100000 by omega), o1]
    refine ⟨fun _ => ⟨v1, fun g => ?_, fun g => ⟨v1, ?_⟩⟩, fun z => absurd (Int32.le_refl _) z⟩
    all_goals rw [le_nI (by omega) (by omega)] at g
    · rw [show sbl h (nI D) C t K - owN h t = 0 by omega] at hQ
      exact hQ
    · show Q (nI (sbl h (nI D) C t K) - (h 32 0 t - h 33 0 t)) h
      rw [o1, pk_sub (by omega)]
      exact hQ
  · intro i hi ih
    obtain ⟨q1, q2, q3, q4, q5, q6, q7, q8⟩ := clm JK0 c3 hi
    refine sX7_twice_35 ?_
    unfold SX7_twice_35
    rw [JK0.2.1, ncl (show i ≤ 100000 by omega), q2, nI_1, le_nI (by omega) (by omega)]
    refine ⟨fun z => absurd z (by omega), fun _ => ⟨vin (show i < 16 by omega) (by omega), m_isBelow JC0 q1 (by omega) ?_⟩⟩
    by_cases g : (msk h (cK h i)).testBit t = true
    · rw [if_pos g, JD0.2.1]
      simp only [sbl, if_pos g] at ih
      refine ⟨fun z => absurd z (by decide), fun _ => m_worthOf I hi ?_⟩
      rw [nI_add]
      exact ih
    · rw [if_neg g, Int32.add_zero]
      simp only [sbl, if_neg g] at ih
      exact ⟨fun _ => ih, fun z => absurd rfl z⟩
theorem sbl_ag {t : Nat} (a : ag h hh) : ∀ n, sbl hh d C t n = sbl h d C t n
  | 0 => rfl
  | n + 1 => by
    have e : cK hh n = cK h n := by unfold cK; rw [a.1 43 rfl]
    have em : msk hh (cK h n) = msk h (cK h n) := by unfold msk; rw [a.1 4 rfl]
    unfold sbl
    rw [e, em, wth_ag a, sbl_ag a n]
theorem op_twice (I : Inv h) : wi E MX6_twice (fun r1 h1 => wi E MX7_twice (fun r2 h2 => Same r1 r2 h2) 0 [some (rf 28 0), some (.int a1), none, none] [] h1) 0 [some (rf 0 0), some (.int a1), none] [] h := by
  obtain ⟨P, C, W, K, N, A, O, D, I⟩ := id I
  obtain ⟨JP0, JD0, JF0, JQ0, JL0, JC0, JV0, JK0, JN0, JA0⟩ := id I
  obtain ⟨c1, c2, c3, c4, c5, c6⟩ := id JC0
  have k3 := JK0.2.2.1
  refine sX6_twice ?_
  by_cases g1 : inn a1 0 (nI C - 1)
  · obtain ⟨t, ht, rfl⟩ := (inn_nI (by omega)).mp g1
    have v1 := vin (show t < 10 by omega) (by omega)
    have v2 := ncl (show t ≤ 100000 by omega)
    by_cases g2 : h 4 t 4 = 1
    · simp only [SX6_twice, w_bhas, c1, v1, v2, if_pos g1, JD0.1]
      refine ⟨fun _ => ⟨trivial, fun _ => ?_, fun z => absurd g2 z⟩, fun z => absurd z (by decide)⟩
      refine x_worthBelow I (by omega) (fun hh a => ?_)
      have I2 := inv_ag I a
      obtain ⟨JPh, JDh, JFh, JQh, JLh, JCh, JVh, JKh, JNh, JAh⟩ := id I2
      obtain ⟨o1, o2, o3⟩ := ow_ok JCh ht
      have sl := sbl_le (d := nI D) (t := t) JK0 c3 K (Nat.le_refl _)
      rw [w_xowing, o3]
      refine sX7_twice_0 ?_
      simp only [SX7_twice_0, w_isContract, JCh.2.1, if_pos g1]
      refine ⟨fun _ => m_degree JCh ht ⟨fun _ => ?_, fun z => absurd (by rw [a.1 4 rfl]; exact g2) z⟩, fun z => absurd z (by decide)⟩
      refine m_twice I2 ht ⟨?_, P, C, W, K, N, A, O, D, I2⟩
      rw [sbl_ag a]
      rcases Nat.lt_or_ge (owN hh t) (sbl h (nI D) C t K) with q | q
      · rw [pk_sub (by omega), if_pos (show (0 : Int32) < nI _ from nI_lt (a := 0) (by omega) (by omega))]
      · rw [if_neg, show sbl h (nI D) C t K - owN hh t = 0 by omega]
        · rfl
        · rcases Nat.eq_or_lt_of_le q with q2 | q2
          · rw [q2, pk_sub (Nat.le_refl _), Nat.sub_self]; decide
          · have := pk_sneg (a := sbl h (nI D) C t K) (b := owN hh t) (by omega) q2
            exact fun z => Int32.lt_irrefl (Int32.lt_trans z this)
    · simp only [SX6_twice, w_bhas, c1, v1, v2, if_pos g1]
      refine ⟨fun _ => ⟨trivial, fun z => absurd z g2, fun _ => f3.mpr ?_⟩, fun z => absurd z (by decide)⟩
      refine sX7_twice_0 ?_
      simp only [SX7_twice_0, w_isContract, up_o, up_k, up_s, fx_o, fm_o, ne_eq, Nat.reduceEqDiff, not_false_eq_true, c2, if_pos g1]
      have JF : HC C D P (fx h 3) := by
        have := JC0
        simp only [HC, up_o, up_k, up_s, fx_o, fm_o, ne_eq, Nat.reduceEqDiff, not_false_eq_true]
        exact this
      refine ⟨fun _ => m_degree JF ht ?_, fun z => absurd z (by decide)⟩
      simp only [up_o, up_k, up_s, fx_o, fm_o, ne_eq, Nat.reduceEqDiff, not_false_eq_true]
      exact ⟨fun z => absurd z g2, fun _ => m3.mpr (fin_same I)⟩
  · simp only [SX6_twice, w_bhas, c1, if_neg g1]
    refine ⟨fun z => (z trivial).elim, fun _ => f1.mpr ?_⟩
    refine sX7_twice_0 ?_
    simp only [SX7_twice_0, w_isContract, up_o, up_k, up_s, fx_o, fm_o, ne_eq, Nat.reduceEqDiff, not_false_eq_true, c2, if_neg g1]
    exact ⟨fun z => (z trivial).elim, fun _ => m1.mpr (fin_same I)⟩
end Counts
