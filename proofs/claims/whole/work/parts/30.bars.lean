section Bars
variable {E : EN} {h hh : TH} {a1 a2 a3 a4 x d : Int32} {P C W D K : Nat}
abbrev HK (K C D : Nat) (h : TH) : Prop := JK K C D (h 8 0 3) (h 28 0 2) (h 11) (h 43 0) (h 44 0) (h 45 0) (h 46 0) (h 47 0) (h 35 0)
abbrev HL (h : TH) : Prop := JL (h 9 0) (h 42 0)
theorem law_nat (J : HL h) {j : Nat} (hj : j < 6) : ∃ v : Nat, v ≤ 1000 ∧ h 9 0 j = nI v ∧ h 42 0 j = nI v := by
  obtain ⟨e, l1, l2⟩ := J j hj
  have hm : 0 ≤ (oLeast j).toInt ∧ (oMost j).toInt ≤ 1000 := by
    rcases (show j = 0 ∨ j = 1 ∨ j = 2 ∨ j = 3 ∨ j = 4 ∨ j = 5 by omega) with rfl | rfl | rfl | rfl | rfl | rfl <;> decide
  rw [Int32.le_iff_toInt_le] at l1 l2
  obtain ⟨v, hv, ev⟩ := nI_of (x := h 9 0 j) (fun z => by
    rw [Int32.lt_iff_toInt_lt, Int32.toInt_zero] at z
    omega)
  rw [ev, nI_toInt hv] at l2
  exact ⟨v, by omega, ev, by rw [← e]; exact ev⟩
def lte (a f l w : Int32) : Int32 := if a ≤ l + w then (if a ≤ f + w then 0 else 1) else 2
theorem w_late {Q : Int32 → TH → Prop} {f l w : Int32} : SX7_late E x f l w h Q ↔ Q (lte x f l w) h := by
  unfold SX7_late lte
  by_cases g1 : x ≤ l + w
  · by_cases g2 : x ≤ f + w
    · simp only [g1, g2, true_implies, not_true_eq_false, false_implies, and_true, if_true]
    · simp only [g1, g2, true_implies, not_true_eq_false, false_implies, and_true, if_true, if_false, not_false_eq_true, true_and]
  · simp only [g1, true_implies, false_implies, if_false, not_false_eq_true, true_and]
theorem x_late {Q : Int32 → TH → Prop} {f l v w : Nat} (hw : w < 6) (hv : v ≤ 1000) (ev : h 9 0 w = nI v) (hfl : f ≤ l) (hl : l ≤ 5000) (hQ : Q (lte x (nI f) (nI l) (nI v)) h) : SX4_lateness E x (nI f) (nI l) (nI w) h Q := by
  have v1 := vin hw (by omega)
  have v2 := ncl (show w ≤ 100000 by omega)
  unfold SX4_lateness
  rw [v2, ev, nI_add, nI_add]
  unfold lte at hQ
  rw [nI_add, nI_add] at hQ
  refine ⟨fun z => absurd z (nI_m1 (by omega)), fun _ => ⟨v1, fun g1 => ⟨fun g2 => ?_, fun g2 => ?_⟩, fun g1 => ?_⟩⟩
  · rw [if_pos g2, if_neg (fun z => by
      rw [Int32.le_iff_toInt_le] at z
      rw [Int32.lt_iff_toInt_lt] at g1
      omega)] at hQ
    exact hQ
  · rw [if_neg g2] at hQ
    exact hQ
  · have g3 : x ≤ nI (f + v) := Int32.not_lt.mp g1
    rw [if_pos (by
      rw [Int32.le_iff_toInt_le] at g3 ⊢
      rw [nI_toInt (by omega)] at g3 ⊢
      omega), if_pos g3] at hQ
    exact hQ
/-- the bars of claim k of contract c on a day: 0 none, 1 may be, 2 sure -/
def brd (h : TH) (c k : Nat) (d : Int32) (b : Nat) : Int32 :=
  if b = 1 then (if h 4 c 4 ≤ h 42 0 3 then 0 else 2)
  else if b = 2 then (if 2 ≤ h 4 c 4 then (if h 34 0 c = -1 then 2 else lte (h 34 0 c) (h 35 0 c) (h 36 0 c) (h 42 0 0)) else 0)
  else if b = 3 then (if h 37 0 c = -1 then 0 else lte (h 45 0 k) (h 37 0 c) (h 38 0 c) (h 42 0 1))
  else if b = 4 then (if d ≤ h 45 0 k + h 42 0 2 then 0 else if h 46 0 k = -1 then 2 else if h 46 0 k ≤ h 45 0 k + h 42 0 2 then 0 else 2)
  else (if opn (h 4 c 5) (h 4 c 6) (h 4 c 7) = 0 then 2 else 0)
theorem m_barred {c k b : Nat} {Q : Int32 → TH → Prop} (J : HC C D P h) (V : HV W C h) (hk : k < 16) (hc : c < C) (ec : h 43 0 k = nI c) (hb1 : 1 ≤ b) (hb5 : b ≤ 5) (hQ : Q (brd h c k d b) h) : SX7_barred E (nI k) (nI b) d h Q := by
  have c3 := J.2.2.1
  have v1 := vin hk (by omega)
  have v2 := ncl (show k ≤ 100000 by omega)
  have v3 := vin (show c < 10 by omega) (by omega)
  have v4 := ncl (show c ≤ 100000 by omega)
  unfold SX7_barred
  rw [v2, ec, v4]
  refine ⟨v1, ?_⟩
  rcases (show b = 1 ∨ b = 2 ∨ b = 3 ∨ b = 4 ∨ b = 5 by omega) with rfl | rfl | rfl | rfl | rfl
  · refine ⟨fun _ => m_degree J hc ⟨fun g => ?_, fun g => ?_⟩, fun z => absurd z (by decide), fun z => absurd z (by decide), fun z => absurd z (by decide), fun z => absurd rfl z⟩
    · simp only [brd, if_true, if_pos g] at hQ; exact hQ
    · simp only [brd, if_true, if_neg g] at hQ; exact hQ
  · refine ⟨fun z => absurd z (by decide), fun _ => m_degree J hc ⟨fun g => ⟨v3, fun g2 => w_late.mpr ?_, fun g2 => ?_⟩, fun g => ?_⟩, fun z => absurd z (by decide), fun z => absurd z (by decide), fun _ z => absurd rfl z⟩
    · simp only [brd, Nat.reduceEqDiff, if_false, if_true, if_pos g, if_neg g2] at hQ; exact hQ
    · simp only [brd, Nat.reduceEqDiff, if_false, if_true, if_pos g, if_pos g2] at hQ; exact hQ
    · simp only [brd, Nat.reduceEqDiff, if_false, if_true, if_neg g] at hQ; exact hQ
  · refine ⟨fun z => absurd z (by decide), fun z => absurd z (by decide), fun _ => ⟨v3, fun g2 => w_late.mpr ?_, fun g2 => ?_⟩, fun z => absurd z (by decide), fun _ _ z => absurd rfl z⟩
    · simp only [brd, Nat.reduceEqDiff, if_false, if_true, if_neg g2] at hQ; exact hQ
    · simp only [brd, Nat.reduceEqDiff, if_false, if_true, if_pos g2] at hQ; exact hQ
  · refine ⟨fun z => absurd z (by decide), fun z => absurd z (by decide), fun z => absurd z (by decide), fun _ => ⟨fun g => ?_, fun g => ⟨fun g2 => ?_, fun g2 => ⟨fun g3 => ?_, fun g3 => ?_⟩⟩⟩, fun _ _ _ z => absurd rfl z⟩
    · simp only [brd, Nat.reduceEqDiff, if_false, if_true, if_pos g] at hQ; exact hQ
    · simp only [brd, Nat.reduceEqDiff, if_false, if_true, if_neg g, if_pos g2] at hQ; exact hQ
    · simp only [brd, Nat.reduceEqDiff, if_false, if_true, if_neg g, if_neg g2, if_pos g3] at hQ; exact hQ
    · simp only [brd, Nat.reduceEqDiff, if_false, if_true, if_neg g, if_neg g2, if_neg g3] at hQ; exact hQ
  · refine ⟨fun z => absurd z (by decide), fun z => absurd z (by decide), fun z => absurd z (by decide), fun z => absurd z (by decide), fun _ _ _ _ => m_open J V hc ⟨fun g => ?_, fun g => ?_⟩⟩
    · simp only [brd, Nat.reduceEqDiff, if_false, if_neg g] at hQ; exact hQ
    · simp only [brd, Nat.reduceEqDiff, if_false, if_pos g] at hQ; exact hQ
/-- the first of the five bars that is s -/
def fbar (v : Nat → Int32) (s : Int32) : Int32 := if v 1 = s then 1 else if v 2 = s then 2 else if v 3 = s then 3 else if v 4 = s then 4 else if v 5 = s then 5 else 0
theorem m_firstBar {c k : Nat} {s : Int32} {Q : Int32 → TH → Prop} (J : HC C D P h) (V : HV W C h) (hk : k < 16) (hc : c < C) (ec : h 43 0 k = nI c) (hQ : Q (fbar (brd h c k d) s) h) : wi E MX7_firstBar Q 0 [some (rf 28 0), some (.int (nI k)), some (.int d), some (.int s), none] [] h := by
  refine sX7_firstBar_0 ?_
  unfold SX7_firstBar_0
  have step : ∀ b : Nat, 1 ≤ b → b ≤ 5 → (brd h c k d b = s → Q (nI b) h) → (¬ brd h c k d b = s → wi E MX7_firstBar Q 3 [some (rf 28 0), some (.int (nI k)), some (.int d), some (.int s), some (.int (nI (b + 1)))] [] h) → wi E MX7_firstBar Q 3 [some (rf 28 0), some (.int (nI k)), some (.int d), some (.int s), some (.int (nI b))] [] h := by
    intro b h1 h5 hq hn
    refine sX7_firstBar_3 ?_
    unfold SX7_firstBar_3
    refine ⟨fun z => absurd z ?_, fun _ => m_barred J V hk hc ec h1 h5 ⟨fun g => ?_, fun g => hq g⟩⟩
    · rw [show (5 : Int32) = nI 5 by decide]
      exact nI_nlt h5 (by omega)
    · rw [nI_1]
      exact hn g
  unfold fbar at hQ
  refine step 1 (by omega) (by omega) (fun g => by rw [if_pos g] at hQ; exact hQ) (fun g1 => ?_)
  rw [if_neg g1] at hQ
  refine step 2 (by omega) (by omega) (fun g => by rw [if_pos g] at hQ; exact hQ) (fun g2 => ?_)
  rw [if_neg g2] at hQ
  refine step 3 (by omega) (by omega) (fun g => by rw [if_pos g] at hQ; exact hQ) (fun g3 => ?_)
  rw [if_neg g3] at hQ
  refine step 4 (by omega) (by omega) (fun g => by rw [if_pos g] at hQ; exact hQ) (fun g4 => ?_)
  rw [if_neg g4] at hQ
  refine step 5 (by omega) (by omega) (fun g => by rw [if_pos g] at hQ; exact hQ) (fun g5 => ?_)
  rw [if_neg g5] at hQ
  refine sX7_firstBar_3 ?_
  unfold SX7_firstBar_3
  exact ⟨fun _ => hQ, fun z => absurd (by decide) z⟩
def jdg (v : Nat → Int32) : Int32 := if fbar v 2 ≤ 0 then (if fbar v 1 ≤ 0 then 2 else 1) else 0
theorem m_judged {c k : Nat} {Q : Int32 → TH → Prop} (J : HC C D P h) (V : HV W C h) (hk : k < 16) (hc : c < C) (ec : h 43 0 k = nI c) (hQ : Q (jdg (brd h c k d)) h) : SX7_judged E (nI k) d h Q := by
  unfold SX7_judged
  unfold jdg at hQ
  refine m_firstBar J V hk hc ec ⟨fun g => m_firstBar J V hk hc ec ⟨fun g2 => ?_, fun g2 => ?_⟩, fun g => ?_⟩
  · rw [if_pos g, if_pos g2] at hQ; exact hQ
  · rw [if_pos g, if_neg g2] at hQ; exact hQ
  · rw [if_neg g] at hQ; exact hQ
/-- the class's number of a claim's bars -/
def barV (v : Nat → Int32) : Int32 := if v 1 = 2 then 1 else if v 2 = 2 then 2 else if v 3 = 2 then 3 else if v 4 = 2 then 4 else if v 5 = 2 then 5 else if v 2 = 1 then 12 else if v 3 = 1 then 13 else 0
theorem brd_vals {c k b : Nat} : (brd h c k d 1 = 0 ∨ brd h c k d 1 = 2) ∧ (brd h c k d 4 = 0 ∨ brd h c k d 4 = 2) ∧ (brd h c k d 5 = 0 ∨ brd h c k d 5 = 2) := by
  refine ⟨?_, ?_, ?_⟩
  · simp only [brd, if_true]
    by_cases g : h 4 c 4 ≤ h 42 0 3
    · rw [if_pos g]; exact Or.inl rfl
    · rw [if_neg g]; exact Or.inr rfl
  · simp only [brd, Nat.reduceEqDiff, if_false, if_true]
    by_cases g : d ≤ h 45 0 k + h 42 0 2
    · rw [if_pos g]; exact Or.inl rfl
    · rw [if_neg g]
      by_cases g2 : h 46 0 k = -1
      · rw [if_pos g2]; exact Or.inr rfl
      · rw [if_neg g2]
        by_cases g3 : h 46 0 k ≤ h 45 0 k + h 42 0 2
        · rw [if_pos g3]; exact Or.inl rfl
        · rw [if_neg g3]; exact Or.inr rfl
  · simp only [brd, Nat.reduceEqDiff, if_false]
    by_cases g : opn (h 4 c 5) (h 4 c 6) (h 4 c 7) = 0
    · rw [if_pos g]; exact Or.inr rfl
    · rw [if_neg g]; exact Or.inl rfl
theorem x_barOn {c k : Nat} {Q : Int32 → TH → Prop} (J : HC C D P h) (L : HL h) (Kk : HK K C D h) (hD : D ≤ 5000) (hk : k < K) (ec : h 43 0 k = nI c) (hc : c < C) (hQ : Q (barV (brd h c k d)) h) : SX4_barOn E (nI k) d h Q := by
  obtain ⟨k1, k2, k3, k4, k5⟩ := id Kk
  have c3 := J.2.2.1
  obtain ⟨⟨b0, b1, b2, b3, b4⟩, ⟨c', bc1, bc2, bc3⟩, -, -, -, -⟩ := k4 k hk
  have hcc : c' = c := by
    rw [ec, nI_eq (by omega) (by omega)] at bc2
    exact bc2.symm
  subst hcc
  obtain ⟨⟨q0, q1, q5, q6, q8, q9, q10, q11, q12⟩, -, r1, r2, r3⟩ := J.2.2.2.1 c' hc
  have v1 := vin (show k < 16 by omega) (by omega)
  have v2 := ncl (show k ≤ 100000 by omega)
  have v3 := vin (show c' < 10 by omega) (by omega)
  have v4 := ncl (show c' ≤ 100000 by omega)
  obtain ⟨n0, hn0, en0, em0⟩ := law_nat L (j := 0) (by omega)
  obtain ⟨n1, hn1, en1, em1⟩ := law_nat L (j := 1) (by omega)
  obtain ⟨n2, hn2, en2, em2⟩ := law_nat L (j := 2) (by omega)
  obtain ⟨n3, hn3, en3, em3⟩ := law_nat L (j := 3) (by omega)
  have tail : ∀ x2 x3 : Int32, x2 = brd h c' k d 2 → x3 = brd h c' k d 3 → ((h 4 c' 4 ≤ h 9 0 3 → ((¬ x2 = 2 → ((¬ x3 = 2 → SX4_isSuitLost E k d h (fun r11 h10 => ((r11 = 0 → SX3_open E c' h10 (fun r14 h13 => ((¬ r14 = 0 → ((¬ x2 = 1 → ((¬ x3 = 1 → Q 0 h13) ∧ (x3 = 1 → Q 13 h13))) ∧ (x2 = 1 → Q 12 h13))) ∧ (r14 = 0 → Q 5 h13)))) ∧ (¬ r11 = 0 → Q 4 h10)))) ∧ (x3 = 2 → Q 3 h))) ∧ (x2 = 2 → Q 2 h))) ∧ (¬ h 4 c' 4 ≤ h 9 0 3 → Q 1 h)) := by
    intro x2 x3 e2 e3
    subst e2
    subst e3
    unfold barV at hQ
    have B1 : brd h c' k d 1 = if h 4 c' 4 ≤ h 9 0 3 then 0 else 2 := by simp only [brd, if_true]; rw [em3, en3]
    have B5 : brd h c' k d 5 = if opn (h 4 c' 5) (h 4 c' 6) (h 4 c' 7) = 0 then 2 else 0 := by simp only [brd, Nat.reduceEqDiff, if_false]
    refine ⟨fun g1 => ?_, fun g1 => ?_⟩
    · rw [if_pos g1] at B1
      rw [if_neg (by rw [B1]; decide)] at hQ
      refine ⟨fun g2 => ⟨fun g3 => ?_, fun g3 => ?_⟩, fun g2 => ?_⟩
      · rw [if_neg g2, if_neg g3] at hQ
        have fin5 : (¬ brd h c' k d 4 = 2) → SX3_open E c' h (fun r14 h13 => ((¬ r14 = 0 → ((¬ brd h c' k d 2 = 1 → ((¬ brd h c' k d 3 = 1 → Q 0 h13) ∧ (brd h c' k d 3 = 1 → Q 13 h13))) ∧ (brd h c' k d 2 = 1 → Q 12 h13))) ∧ (r14 = 0 → Q 5 h13))) := by
          intro g4
          rw [if_neg g4] at hQ
          rw [w_open]
          refine ⟨fun g5 => ?_, fun g5 => ?_⟩
          · rw [if_neg g5] at B5
            rw [if_neg (by rw [B5]; decide)] at hQ
            refine ⟨fun g6 => ⟨fun g7 => ?_, fun g7 => ?_⟩, fun g6 => ?_⟩
            · rw [if_neg g6, if_neg g7] at hQ; exact hQ
            · rw [if_neg g6, if_pos g7] at hQ; exact hQ
            · rw [if_pos g6] at hQ; exact hQ
          · rw [if_pos g5] at B5
            rw [if_pos B5] at hQ
            exact hQ
        have fin4 : brd h c' k d 4 = 2 → Q 4 h := fun g4 => by
          rw [if_pos g4] at hQ
          exact hQ
        have B4 : brd h c' k d 4 = if d ≤ h 45 0 k + h 42 0 2 then 0 else if h 46 0 k = -1 then 2 else if h 46 0 k ≤ h 45 0 k + h 42 0 2 then 0 else 2 := by simp only [brd, Nat.reduceEqDiff, if_false, if_true]
        unfold SX4_isSuitLost
        rw [b2, b3, en2, ← em2]
        have nz : ¬ (1 : Int32) = 0 := by decide
        refine ⟨fun s1 => ⟨fun s2 => ⟨fun _ => fin5 (by rw [B4, if_pos s2]; decide), fun z => absurd rfl z⟩, fun s2 => ⟨fun z => absurd z nz, fun _ => fin4 (by rw [B4, if_neg s2, if_pos s1])⟩⟩, fun s1 => ⟨fun s3 => ⟨fun s2 => ⟨fun _ => fin5 (by rw [B4, if_pos s2]; decide), fun z => absurd rfl z⟩, fun s2 => ⟨fun z => absurd z nz, fun _ => fin4 (by rw [B4, if_neg s2, if_neg s1, if_neg (Int32.not_le.mpr s3)])⟩⟩, fun s3 => ⟨fun s2 => ⟨fun _ => fin5 (by rw [B4, if_pos s2]; decide), fun z => absurd rfl z⟩, fun s2 => ⟨fun _ => fin5 (by rw [B4, if_neg s2, if_neg s1, if_pos (Int32.not_lt.mp s3)]; decide), fun z => absurd rfl z⟩⟩⟩⟩
      · rw [if_neg g2, if_pos g3] at hQ; exact hQ
      · rw [if_pos g2] at hQ; exact hQ
    · rw [if_neg g1] at B1
      rw [if_pos B1] at hQ
      exact hQ
  have hfil : ∀ x2 : Int32, x2 = brd h c' k d 2 → SX4_lateness E (h 11 k 2) (h 4 c' 11) (h 4 c' 12) 1 h (fun r6 h5 => (((h5 4 c' 4) ≤ (h5 9 0 3) → ((¬ x2 = 2 → ((¬ r6 = 2 → SX4_isSuitLost E k d h5 (fun r11 h10 => ((r11 = 0 → SX3_open E c' h10 (fun r14 h13 => ((¬ r14 = 0 → ((¬ x2 = 1 → ((¬ r6 = 1 → Q 0 h13) ∧ (r6 = 1 → Q 13 h13))) ∧ (x2 = 1 → Q 12 h13))) ∧ (r14 = 0 → Q 5 h13)))) ∧ (¬ r11 = 0 → Q 4 h10)))) ∧ (r6 = 2 → Q 3 h5))) ∧ (x2 = 2 → Q 2 h5))) ∧ (¬ (h5 4 c' 4) ≤ (h5 9 0 3) → Q 1 h5))) := by
    intro x2 e2
    have B3 : brd h c' k d 3 = if h 37 0 c' = -1 then 0 else lte (h 45 0 k) (h 37 0 c') (h 38 0 c') (h 42 0 1) := by simp only [brd, Nat.reduceEqDiff, if_false, if_true]
    rw [b2, q11, q12]
    rcases r3 with ⟨z1, z2⟩ | ⟨f, l, y1, y2, y3, y4⟩
    · rw [if_pos z1] at B3
      unfold SX4_lateness
      rw [z1]
      exact ⟨fun _ => tail x2 0 e2 B3.symm, fun z => absurd rfl z⟩
    · rw [y3, if_neg (nI_m1 (by omega)), y4, em1] at B3
      rw [y3, y4]
      exact x_late (w := 1) (by omega) hn1 en1 y1 (by omega) (tail x2 _ e2 B3.symm)
  unfold SX4_barOn
  rw [v2, b0, ec, v4]
  refine ⟨v1, v3, ?_⟩
  have B2 : brd h c' k d 2 = if 2 ≤ h 4 c' 4 then (if h 34 0 c' = -1 then 2 else lte (h 34 0 c') (h 35 0 c') (h 36 0 c') (h 42 0 0)) else 0 := by simp only [brd, Nat.reduceEqDiff, if_false, if_true]
  unfold SX4_noticeBar
  rw [q8, q9, q10]
  refine ⟨fun g1 => ⟨fun g2 => ?_, fun g2 => ?_⟩, fun g1 => ?_⟩
  · rw [if_pos g1, if_neg g2] at B2
    rcases r2 with ⟨z1, z2⟩ | ⟨f, l, y1, y2, y3, y4⟩
    · exact absurd z1 bc3
    · rw [y3, y4, em0] at B2
      rw [y3, y4]
      exact x_late (w := 0) (by omega) hn0 en0 y1 (by omega) (hfil _ B2.symm)
  · rw [if_pos g1, if_pos g2] at B2
    exact hfil 2 B2.symm
  · rw [if_neg g1] at B2
    exact hfil 0 B2.symm
end Bars
