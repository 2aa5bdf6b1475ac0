section Init
set_option maxRecDepth 100000 in
theorem full_a : ∀ g, g < 64 → gTag g = 0 → ∀ i, i < gCnt g → ∀ k, k < gN g → ((gSlot g k).isSome && decide (hInit g i k = 0)) = false := by decide +kernel
set_option maxRecDepth 100000 in
theorem full_b : ∀ g, g < 64 → gTag g = 3 → ∀ i, i < gCnt g → ∀ j, j < gN g → ¬ hInit g i j = 0 := by decide +kernel
theorem full_init : full hInit := ⟨fun g hg ht i hi k hk t hs hz => by
  have h1 := full_a g hg ht i hi k hk
  rw [hs, hz] at h1
  simp at h1, full_b⟩
set_option maxRecDepth 100000 in
theorem init_1 : hInit 0 0 1 = nI 1 ∧ hInit 28 0 0 = nI 1 ∧ (∀ i, i < 12 → hInit 1 0 i = hInit 29 0 i) ∧ hInit 1 0 0 = 0 ∧ hInit 0 0 6 = nI 0 ∧ hInit 28 0 8 = nI 0 ∧ (∀ k, k < 6 → hInit 27 0 k = hInit 57 0 k) ∧ hInit 0 0 8 = nI 0 ∧ hInit 28 0 9 = nI 0 ∧ (∀ i, i < 16 → hInit 26 0 i = hInit 56 0 i) ∧ (∀ j, j < 6 → hInit 9 0 j = hInit 42 0 j ∧ oLeast j ≤ hInit 9 0 j ∧ hInit 9 0 j ≤ oMost j) := by decide +kernel
set_option maxRecDepth 100000 in
theorem init_2 : hInit 2 0 1 = nI 0 ∧ hInit 28 0 1 = nI 0 ∧ (∀ i, i < 10 → hInit 4 i 2 = -1 ∧ hInit 4 i 3 = 0 ∧ hInit 4 i 4 = 1 ∧ hInit 4 i 6 = 0 ∧ hInit 4 i 7 = 0 ∧ hInit 4 i 8 = -1 ∧ hInit 4 i 9 = -1 ∧ hInit 4 i 10 = -1 ∧ hInit 4 i 11 = -1 ∧ hInit 4 i 12 = -1) ∧ hInit 2 0 5 = nI 0 ∧ hInit 28 0 4 = nI 0 ∧ hInit 8 0 3 = nI 0 ∧ hInit 28 0 2 = nI 0 ∧ (∀ i, i < 16 → hInit 11 i 3 = -1 ∧ hInit 11 i 4 = 0) ∧ hInit 15 0 3 = nI 0 ∧ hInit 28 0 3 = nI 0 ∧ hInit 21 0 3 = nI 0 ∧ hInit 28 0 5 = nI 0 ∧ hInit 21 0 4 = nI 0 ∧ hInit 28 0 6 = nI 0 ∧ hInit 28 0 7 = nI 0 := by decide +kernel
theorem inv_init : Inv hInit := by
  obtain ⟨a1, a2, a3, a4, a5, a6, a7, a8, a9, a10, a11⟩ := init_1
  obtain ⟨b1, b2, b3, b4, b5, b6, b7, b8, b9, b10, b11, b12, b13, b14, b15⟩ := init_2
  refine ⟨1, 0, 0, 0, 0, 0, 0, 0, ⟨a1, a2, by omega, by omega, a3, a4⟩, ⟨a5, a6, by omega⟩, a7, ⟨0, by omega, a8, a9, a10⟩, a11, ⟨b1, b2, by omega, fun i hi => absurd hi (Nat.not_lt_zero i), fun i _ hi => b3 i hi, fun i hi => absurd hi (Nat.not_lt_zero i)⟩, ⟨b4, b5, by omega, fun i hi => absurd hi (Nat.not_lt_zero i), fun i hi => absurd hi (Nat.not_lt_zero i)⟩, ⟨b6, b7, by omega, fun i hi => absurd hi (Nat.not_lt_zero i), fun i _ hi => b8 i hi⟩, ⟨b9, b10, by omega, fun i hi => absurd hi (Nat.not_lt_zero i)⟩, ⟨b11, b12, b13, b14, b15, by omega, by omega, rfl, fun i hi => absurd hi (Nat.not_lt_zero i), fun i hi => absurd hi (Nat.not_lt_zero i), fun i hi => absurd hi (Nat.not_lt_zero i), fun r _ i hi => absurd hi (Nat.not_lt_zero i), fun p => rfl⟩⟩
end Init
section Waivers
variable {E : EN} {h : TH} {a1 a2 a3 a4 x : Int32}
theorem up_up {g i k : Nat} {v w : Int32} : up (up h g i k v) g i k w = up h g i k w := by
  funext a b c
  unfold up
  by_cases q : a = g ∧ c = k ∧ b = i
  · rw [if_pos q, if_pos q]
  · rw [if_neg q, if_neg q, if_neg q]
theorem up_id {g i k : Nat} : up h g i k (h g i k) = h := by
  funext a b c
  unfold up
  by_cases q : a = g ∧ c = k ∧ b = i
  · rw [if_pos q, q.1, q.2.1, q.2.2]
  · rw [if_neg q]
/-- the cached WAIVED behind the first n waivers -/
def stl (f up cd : Nat → Int32) (c paid old : Int32) : Nat → Int32
  | 0 => old
  | n + 1 => if f n = c ∧ (cd n = 0 ∨ ¬ paid < up n) then (if stl f up cd c paid old n < up n then up n else stl f up cd c paid old n) else stl f up cd c paid old n
theorem x_settle {W c : Nat} {Q : TH → Prop} (hW : h 2 0 5 = nI W) (hW20 : W ≤ 20) (hc : c < 10) (hQ : Q (up h 4 c 7 (stl (h 5 0) (h 6 0) (h 7 0) (nI c) (h 4 c 6) (h 4 c 7) W))) : wv E MX1_settleWaived Q 0 [some (rf 2 0), some (.int (nI c)), none, none, none] [] h := by
  refine sX1_settleWaived_0 ?_
  unfold SX1_settleWaived_0
  rw [ncl (show c ≤ 100000 by omega)]
  refine ⟨vin hc (by omega), ?_⟩
  have key : wv E MX1_settleWaived Q 9 [some (rf 2 0), some (.int (nI c)), some (rf 4 c), some (.int (nI 0)), none] [] (up h 4 c 7 (stl (h 5 0) (h 6 0) (h 7 0) (nI c) (h 4 c 6) (h 4 c 7) 0)) := by
    refine run_dn W (fun i => wv E MX1_settleWaived Q 9 [some (rf 2 0), some (.int (nI c)), some (rf 4 c), some (.int (nI i)), none] [] (up h 4 c 7 (stl (h 5 0) (h 6 0) (h 7 0) (nI c) (h 4 c 6) (h 4 c 7) i))) ?_ ?_
    · refine sX1_settleWaived_9 hc ?_
      simp [-Int32.not_le, -Int32.not_lt, SX1_settleWaived_9, up_o, up_k, up_s, fx_o, fm_o, ne_eq, Nat.reduceEqDiff, not_false_eq_true, hW]
      exact hQ
    · intro i hi hw
      refine sX1_settleWaived_9 hc ?_
      simp only [SX1_settleWaived_9, up_o, up_k, up_s, fx_o, fm_o, ne_eq, Nat.reduceEqDiff, not_false_eq_true, up_up, hW, le_nI (show W < 2 ^ 31 by omega) (show i < 2 ^ 31 by omega), show (W ≤ i) = False from eq_false (by omega), false_implies, not_false_eq_true, true_implies, true_and, vin (show i < 20 by omega) (by omega), ncl (show i ≤ 100000 by omega), nI_1]
      simp only [stl] at hw
      refine ⟨fun g1 => ⟨fun g2 => ?_, fun g2 => ?_⟩, fun g1 => ⟨fun g3 => ⟨fun g2 => ?_, fun g2 => ?_⟩, fun g3 => ⟨fun g2 => ?_, fun g2 => ?_⟩⟩⟩
      · rw [if_neg (fun z => g2 z.1)] at hw; exact hw
      · rw [if_pos ⟨g2, Or.inl g1⟩] at hw; exact hw
      · rw [if_neg (fun z => g2 z.1)] at hw; exact hw
      · rw [if_neg (fun z => z.2.elim g1 (fun q => q g3))] at hw; exact hw
      · rw [if_neg (fun z => g2 z.1)] at hw; exact hw
      · rw [if_pos ⟨g2, Or.inr g3⟩] at hw; exact hw
  have e : up h 4 c 7 (stl (h 5 0) (h 6 0) (h 7 0) (nI c) (h 4 c 6) (h 4 c 7) 0) = h := up_id
  rw [e] at key
  exact key
theorem wvd_pos {f up cd : Nat → Int32} {c p : Int32} : ∀ n, 0 ≤ (wvd f up cd c p n).toInt
  | 0 => by
    show (0 : Int) ≤ (0 : Int32).toInt
    decide
  | n + 1 => by
    unfold wvd
    have ih := wvd_pos (f := f) (up := up) (cd := cd) (c := c) (p := p) n
    by_cases q : (f n = c ∧ (cd n = 0 ∨ ¬ p < up n)) ∧ ¬ up n ≤ wvd f up cd c p n
    · rw [if_pos q]
      have h1 := q.2
      rw [Int32.le_iff_toInt_le] at h1
      omega
    · rw [if_neg q]
      exact ih
theorem wvd_n {f up cd : Nat → Int32} {c p : Int32} (n : Nat) : (wvd f up cd c p n).toInt ≤ (wvd f up cd c p (n + 1)).toInt := by
  show _ ≤ (if (f n = c ∧ (cd n = 0 ∨ ¬ p < up n)) ∧ ¬ up n ≤ wvd f up cd c p n then up n else wvd f up cd c p n).toInt
  by_cases q : (f n = c ∧ (cd n = 0 ∨ ¬ p < up n)) ∧ ¬ up n ≤ wvd f up cd c p n
  · rw [if_pos q]
    have h1 := q.2
    rw [Int32.le_iff_toInt_le] at h1
    omega
  · rw [if_neg q]
    exact Int.le_refl _
theorem wvd_p {f up cd : Nat → Int32} {c p p' : Int32} (hp : p.toInt ≤ p'.toInt) : ∀ n, (wvd f up cd c p n).toInt ≤ (wvd f up cd c p' n).toInt
  | 0 => Int.le_refl _
  | n + 1 => by
    have ih := wvd_p (f := f) (up := up) (cd := cd) (c := c) hp n
    have h2 := wvd_n (f := f) (up := up) (cd := cd) (c := c) (p := p') n
    show (if (f n = c ∧ (cd n = 0 ∨ ¬ p < up n)) ∧ ¬ up n ≤ wvd f up cd c p n then up n else wvd f up cd c p n).toInt ≤ _
    by_cases q : (f n = c ∧ (cd n = 0 ∨ ¬ p < up n)) ∧ ¬ up n ≤ wvd f up cd c p n
    · rw [if_pos q]
      obtain ⟨⟨q1, q2⟩, q3⟩ := q
      have q2' : cd n = 0 ∨ ¬ p' < up n := q2.elim Or.inl (fun z => Or.inr (fun y => z (by
        rw [Int32.lt_iff_toInt_lt] at y ⊢
        omega)))
      by_cases r : up n ≤ wvd f up cd c p' n
      · rw [Int32.le_iff_toInt_le] at r
        omega
      · have : wvd f up cd c p' (n + 1) = up n := by
          show (if (f n = c ∧ (cd n = 0 ∨ ¬ p' < up n)) ∧ ¬ up n ≤ wvd f up cd c p' n then up n else wvd f up cd c p' n) = up n
          rw [if_pos ⟨⟨q1, q2'⟩, r⟩]
        rw [this]
        exact Int.le_refl _
    · rw [if_neg q]
      omega
theorem stl_max {f up cd : Nat → Int32} {c p old : Int32} (ho : 0 ≤ old.toInt) : ∀ n, old.toInt ≤ (stl f up cd c p old n).toInt ∧ (wvd f up cd c p n).toInt ≤ (stl f up cd c p old n).toInt ∧ (stl f up cd c p old n = old ∨ stl f up cd c p old n = wvd f up cd c p n)
  | 0 => ⟨Int.le_refl _, ho, Or.inl rfl⟩
  | n + 1 => by
    obtain ⟨i1, i2, i3⟩ := stl_max (f := f) (up := up) (cd := cd) (c := c) (p := p) ho n
    unfold stl wvd
    by_cases q1 : f n = c ∧ (cd n = 0 ∨ ¬ p < up n)
    · rw [if_pos q1]
      by_cases q2 : stl f up cd c p old n < up n
      · rw [if_pos q2]
        have q3 : ¬ up n ≤ wvd f up cd c p n := fun z => by
          rw [Int32.le_iff_toInt_le] at z
          rw [Int32.lt_iff_toInt_lt] at q2
          omega
        rw [if_pos ⟨q1, q3⟩]
        rw [Int32.lt_iff_toInt_lt] at q2
        exact ⟨by omega, Int.le_refl _, Or.inr rfl⟩
      · rw [if_neg q2]
        rw [Int32.lt_iff_toInt_lt] at q2
        by_cases q3 : up n ≤ wvd f up cd c p n
        · rw [if_neg (fun z => z.2 q3)]
          exact ⟨i1, i2, i3⟩
        · rw [if_pos ⟨q1, q3⟩]
          rw [Int32.le_iff_toInt_le] at q3
          refine ⟨i1, by omega, ?_⟩
          rcases i3 with i3 | i3
          · exact Or.inl i3
          · rw [i3] at q2
            omega
    · rw [if_neg q1, if_neg (fun z => q1 z.1)]
      exact ⟨i1, i2, i3⟩
theorem stl_wvd {f up cd : Nat → Int32} {c p old : Int32} {n : Nat} (ho : 0 ≤ old.toInt) (hle : old.toInt ≤ (wvd f up cd c p n).toInt) : stl f up cd c p old n = wvd f up cd c p n := by
  obtain ⟨i1, i2, i3⟩ := stl_max (f := f) (up := up) (cd := cd) (c := c) (p := p) ho n
  rcases i3 with i3 | i3
  · apply Int32.toInt_inj.mp
    rw [i3] at i2 ⊢
    omega
  · exact i3
theorem wvd_congr {f f' up up' cd cd' : Nat → Int32} {c p : Int32} : ∀ n, (∀ i, i < n → f i = f' i ∧ up i = up' i ∧ cd i = cd' i) → wvd f up cd c p n = wvd f' up' cd' c p n
  | 0, _ => rfl
  | n + 1, hh => by
    obtain ⟨h1, h2, h3⟩ := hh n (Nat.lt_succ_self n)
    unfold wvd
    rw [h1, h2, h3, wvd_congr n (fun i hi => hh i (Nat.lt_succ_of_lt hi))]
theorem stl_congr {f f' up up' cd cd' : Nat → Int32} {c p o : Int32} : ∀ n, (∀ i, i < n → f i = f' i ∧ up i = up' i ∧ cd i = cd' i) → stl f up cd c p o n = stl f' up' cd' c p o n
  | 0, _ => rfl
  | n + 1, hh => by
    obtain ⟨h1, h2, h3⟩ := hh n (Nat.lt_succ_self n)
    unfold stl
    rw [h1, h2, h3, stl_congr n (fun i hi => hh i (Nat.lt_succ_of_lt hi))]
theorem op_pay (I : Inv h) : wi E MX6_pay (fun r1 h1 => wi E MX7_pay (fun r2 h2 => Same r1 r2 h2) 0 [some (rf 28 0), some (.int a1), some (.int a2)] [] h1) 0 [some (rf 0 0), some (.int a1), some (.int a2), none] [] h := by
  obtain ⟨P, C, W, K, N, A, O, D, I⟩ := id I
  obtain ⟨JP0, JD0, JF0, JQ0, JL0, JC0, JV0, JK0, JN0, JA0⟩ := id I
  obtain ⟨c1, c2, c3, c4, c5, c6⟩ := id JC0
  obtain ⟨w1, w2, w3, w4, w5⟩ := id JV0
  refine sX6_pay ?_
  by_cases g1 : inn a1 0 (nI C - 1)
  · obtain ⟨i, hi, rfl⟩ := (inn_nI (by omega)).mp g1
    have v1 := vin (show i < 10 by omega) (by omega)
    have v2 := ncl (show i ≤ 100000 by omega)
    obtain ⟨⟨q0, q1, q5, q6, q8, q9, q10, q11, q12⟩, ⟨sm, pd, s1, s2, s3, s4, s5⟩, r1, r2, r3⟩ := id (c4 i hi)
    by_cases g2 : inn a2 1 100000
    · obtain ⟨m, m1, m2, rfl⟩ := inn_of (l := 1) (m := 100000) (by omega) (by omega) g2
      have e1 : (nI m ≤ nI sm - nI pd) ↔ m + pd ≤ sm := by
        rw [pk_sub (by omega), le_nI (by omega) (by omega)]
        omega
      have e2 : (nI pd + nI m ≤ nI sm) ↔ m + pd ≤ sm := by
        rw [nI_add, le_nI (by omega) (by omega)]
        omega
      by_cases g3 : m + pd ≤ sm
      · simp [-Int32.not_le, -Int32.not_lt, SX6_pay, SX3_owing, w_bhas, w_within, c1, g1, g2, v1, v2, q5, q6, s4, s5, e1, g3]
        refine x_settle (W := W) (by simp only [up_o, up_k, up_s, fx_o, fm_o, ne_eq, Nat.reduceEqDiff, not_false_eq_true]; exact w1) w3 (by omega) ?_
        simp only [up_o, up_k, up_s, fx_o, fm_o, ne_eq, Nat.reduceEqDiff, not_false_eq_true]
        refine sX7_pay ?_
        simp [-Int32.not_le, -Int32.not_lt, SX7_pay, SX7_owing, w_isContract, w_isIn, up_o, up_k, up_s, fx_o, fm_o, ne_eq, Nat.reduceEqDiff, not_false_eq_true, c2, g1, g2, v1, v2, s4, s5, e2, g3]
        have hst : stl (h 5 0) (h 6 0) (h 7 0) (nI i) (nI pd + nI m) (h 4 i 7) W = wvd (h 39 0) (h 40 0) (h 41 0) (nI i) (nI pd + nI m) W := by
          rw [stl_congr W (fun j hj => (w4 j hj).1)]
          refine stl_wvd ?_ ?_
          · rw [w5 i hi]; exact wvd_pos W
          · rw [w5 i hi, s5]
            refine wvd_p ?_ W
            rw [nI_add, nI_toInt (by omega), nI_toInt (by omega)]
            omega
        rw [hst]
        refine ⟨by rw [q5, s4], P, C, W, K, N, A, O, D, ?_⟩
        unfold InvC at I ⊢
        simp only [up_o, up_k, up_s, fx_o, fm_o, ne_eq, Nat.reduceEqDiff, not_false_eq_true]
        refine ⟨JP0, JD0, JF0, JQ0, JL0, JC_row JC0 (i := i) (fun j hj => by rw [up_i hj, up_i hj]) (fun j hj => ⟨rfl, by rw [up_a, if_neg hj]; simp only [up_o, up_k, up_s, fx_o, fm_o, ne_eq, Nat.reduceEqDiff, not_false_eq_true], rfl, rfl, rfl, rfl, rfl⟩) ⟨?_, ?_, ?_, ?_, ?_⟩ hi ?_, ⟨w1, w2, w3, w4, fun c hc => ?_⟩, JK0, JN0, JA0⟩
        all_goals try simp only [up_o, up_k, up_s, fx_o, fm_o, ne_eq, Nat.reduceEqDiff, not_false_eq_true]
        · refine ⟨⟨q0, q1, ?_, ?_, ?_, ?_, ?_, ?_, ?_⟩, ⟨sm, pd + m, s1, s2, by omega, s4, ?_⟩, r1, r2, r3⟩
          all_goals try simp only [up_o, up_k, up_s, fx_o, fm_o, ne_eq, Nat.reduceEqDiff, not_false_eq_true]
          all_goals first | assumption | exact nI_add _ _
        · by_cases hci : c = i
          · subst hci
            simp only [up_s]
          · simp only [up_i hci, up_a, if_neg hci, up_o, up_k, up_s, fx_o, fm_o, ne_eq, Nat.reduceEqDiff, not_false_eq_true]
            exact w5 c hc
      · simp [-Int32.not_le, -Int32.not_lt, SX6_pay, SX3_owing, w_bhas, w_within, c1, g1, g2, v1, v2, q5, q6, s4, s5, e1, g3, f3]
        refine sX7_pay ?_
        simp [-Int32.not_le, -Int32.not_lt, SX7_pay, w_isContract, w_isIn, up_o, up_k, up_s, fx_o, fm_o, ne_eq, Nat.reduceEqDiff, not_false_eq_true, c2, g1, g2, v1, v2, s4, s5, e2, g3, m3]
        exact fin_same I
    · simp [-Int32.not_le, -Int32.not_lt, SX6_pay, w_bhas, w_within, c1, g1, g2, f1]
      refine sX7_pay ?_
      simp [-Int32.not_le, -Int32.not_lt, SX7_pay, w_isContract, w_isIn, up_o, up_k, up_s, fx_o, fm_o, ne_eq, Nat.reduceEqDiff, not_false_eq_true, c2, g1, g2, m1]
      exact fin_same I
  · simp [-Int32.not_le, -Int32.not_lt, SX6_pay, w_bhas, c1, g1, f1]
    refine sX7_pay ?_
    simp [-Int32.not_le, -Int32.not_lt, SX7_pay, w_isContract, up_o, up_k, up_s, fx_o, fm_o, ne_eq, Nat.reduceEqDiff, not_false_eq_true, c2, g1, m1]
    exact fin_same I
end Waivers
