section Contract
variable {E : EN} {h hh : TH} {a1 a2 a3 a4 x : Int32}
theorem wvd_none {f up cd : Nat → Int32} {c p : Int32} : ∀ n, (∀ i, i < n → ¬ f i = c) → wvd f up cd c p n = 0
  | 0, _ => rfl
  | n + 1, hf => by
    rw [wvd_s, if_neg (fun z => hf n (Nat.lt_succ_self n) z.1.1)]
    exact wvd_none n (fun i hi => hf i (Nat.lt_succ_of_lt hi))
/-- the groups that a new contract leaves alone -/
def conG (g : Nat) : Bool := !(g == 2 || g == 4 || g == 28 || (30 ≤ g && g ≤ 38))
theorem con_inv {P C W K N A O D p q s : Nat} (I : InvC P C W K N A O D h) (hC : C < 10) (hq0 : q ≠ 0) (hq : q < P) (hs1 : 1 ≤ s) (hs2 : s ≤ 1000000) (hnq : ∀ i, i < C → ¬ h 31 0 i = nI q)
    (hO : ∀ g, conG g = true → hh g = h g) (h25 : hh 2 0 5 = h 2 0 5) (h28 : ∀ k, k ≠ 1 → hh 28 0 k = h 28 0 k) (hc1 : hh 2 0 1 = nI (C + 1)) (hc2 : hh 28 0 1 = nI (C + 1))
    (hR : ∀ i, i ≠ C → hh 4 i = h 4 i) (hr0 : hh 4 C 0 = nI p) (hr1 : hh 4 C 1 = nI q) (hr5 : hh 4 C 5 = nI s) (hrk : ∀ k, 6 ≤ k → hh 4 C k = h 4 C k)
    (ht : (nI p = 0 ∧ hh 4 C 2 = -1 ∧ hh 4 C 3 = 0 ∧ hh 4 C 4 = 1) ∨ (¬ nI p = 0 ∧ ∃ u : Nat, u < C ∧ h 31 0 u = nI p ∧ hh 4 C 2 = nI u ∧ hh 4 C 3 = (h 4 u 3 ||| (1 <<< (nI u &&& 31))) ∧ hh 4 C 4 = h 4 u 4 + 1))
    (e30 : hh 30 0 = upd (h 30 0) C (nI p)) (e31 : hh 31 0 = upd (h 31 0) C (nI q)) (e32 : hh 32 0 = upd (h 32 0) C (nI s)) (e33 : hh 33 0 = upd (h 33 0) C 0) (e34 : hh 34 0 = upd (h 34 0) C (-1)) (e35 : hh 35 0 = upd (h 35 0) C (-1)) (e36 : hh 36 0 = upd (h 36 0) C (-1)) (e37 : hh 37 0 = upd (h 37 0) C (-1)) (e38 : hh 38 0 = upd (h 38 0) C (-1)) :
    InvC P (C + 1) W K N A O D hh := by
  obtain ⟨JP0, JD0, JF0, JQ0, JL0, JC0, JV0, JK0, JN0, JA0⟩ := id I
  obtain ⟨c1, c2, c3, c4, c5, c6⟩ := id JC0
  obtain ⟨w1, w2, w3, w4, w5⟩ := id JV0
  obtain ⟨k1, k2, k3, k4, k5⟩ := id JK0
  obtain ⟨z2, z3, z4, z6, z7, z8, z9, z10, z11, z12⟩ := c5 C (Nat.le_refl _) hC
  unfold InvC
  simp only [hO 0 (by decide), hO 1 (by decide), hO 5 (by decide), hO 6 (by decide), hO 7 (by decide), hO 8 (by decide), hO 9 (by decide), hO 11 (by decide), hO 15 (by decide), hO 16 (by decide), hO 17 (by decide), hO 21 (by decide), hO 22 (by decide), hO 23 (by decide), hO 25 (by decide), hO 26 (by decide), hO 27 (by decide), hO 29 (by decide), hO 39 (by decide), hO 40 (by decide), hO 41 (by decide), hO 42 (by decide), hO 43 (by decide), hO 44 (by decide), hO 45 (by decide), hO 46 (by decide), hO 47 (by decide), hO 48 (by decide), hO 49 (by decide), hO 50 (by decide), hO 51 (by decide), hO 52 (by decide), hO 53 (by decide), hO 54 (by decide), hO 55 (by decide), hO 56 (by decide), hO 57 (by decide), h25, h28 0 (by decide), h28 2 (by decide), h28 3 (by decide), h28 4 (by decide), h28 5 (by decide), h28 6 (by decide), h28 7 (by decide), h28 8 (by decide), h28 9 (by decide), e30, e31, e32, e33, e34, e35, e36, e37, e38]
  refine ⟨JP0, JD0, JF0, JQ0, JL0, ⟨hc1, hc2, by omega, fun i hi => ?_, fun i h1 h2 => ?_, fun i hi => ?_⟩, ⟨w1, w2, w3, fun i hi => ?_, fun c hc => ?_⟩, ⟨k1, k2, k3, fun i hi => ?_, k5⟩, JN0, JA0⟩
  · by_cases hiC : i = C
    · subst hiC
      unfold rowC
      simp only [upd_a, if_true, hr0, hr1, hr5, hrk 6 (by decide), hrk 8 (by decide), hrk 9 (by decide), hrk 10 (by decide), hrk 11 (by decide), hrk 12 (by decide), z6, z8, z9, z10, z11, z12, and_self, true_and]
      exact ⟨⟨s, 0, hs1, hs2, by omega, rfl, rfl⟩, Or.inl rfl, Or.inl ⟨rfl, rfl⟩⟩
    · have := c4 i (by omega)
      unfold rowC at this ⊢
      simp only [upd_a, if_neg hiC, hR i hiC]
      exact this
  · have := c5 i (by omega) h2
    unfold rowF at this ⊢
    rw [hR i (by omega)]
    exact this
  · by_cases hiC : i = C
    · subst hiC
      unfold rowT
      simp only [upd_a, if_true]
      refine ⟨⟨q, hq, hq0, rfl⟩, fun j hj hjx => ?_, ?_⟩
      · by_cases hji : j = i
        · exact hji
        · rw [if_neg hji] at hjx
          exact absurd hjx (hnq j (by omega))
      · rcases ht with ⟨t1, t2, t3, t4⟩ | ⟨t1, u, u1, u2, u3, u4, u5⟩
        · exact Or.inl ⟨t1, t2, t3, t4⟩
        · refine Or.inr ⟨t1, u, u1, ?_, u3, ?_, ?_⟩
          · rw [if_neg (by omega)]; exact u2
          · rw [hR u (by omega)]; exact u4
          · rw [hR u (by omega)]; exact u5
    · obtain ⟨t1, t2, t3⟩ := c6 i (by omega)
      unfold rowT
      simp only [upd_a, if_neg hiC, hR i hiC]
      refine ⟨t1, fun j hj hjx => ?_, ?_⟩
      · by_cases hjC : j = C
        · rw [if_pos hjC] at hjx
          exact absurd hjx.symm (hnq i (by omega))
        · rw [if_neg hjC] at hjx
          exact t2 j (by omega) hjx
      · rcases t3 with t3 | ⟨s1, u, u1, u2, u3, u4, u5⟩
        · exact Or.inl t3
        · refine Or.inr ⟨s1, u, u1, ?_, u3, ?_, ?_⟩
          · rw [if_neg (by omega)]; exact u2
          · rw [hR u (by omega)]; exact u4
          · rw [hR u (by omega)]; exact u5
  · obtain ⟨b1, b2, ⟨c, b3, b4⟩, b5⟩ := w4 i hi
    exact ⟨b1, b2, ⟨c, by omega, b4⟩, b5⟩
  · by_cases hcC : c = C
    · subst hcC
      rw [hrk 7 (by decide), z7, wvd_none W]
      intro i hi z
      obtain ⟨-, -, ⟨c', b3, b4⟩, -⟩ := w4 i hi
      rw [b4, nI_eq (by omega) (by omega)] at z
      omega
    · rw [hR c hcC, upd_a, if_neg hcC]
      exact w5 c (by omega)
  · obtain ⟨b1, ⟨c, b2, b3, b4⟩, b5⟩ := k4 i hi
    refine ⟨b1, ⟨c, by omega, b3, ?_⟩, b5⟩
    rw [upd_a, if_neg (by omega)]
    exact b4
theorem wi_monoC {M : MD} {Q Q' : Int32 → TH → Prop} {pc : Nat} {ls : List (Option Value)} {st : List Value} (hq : ∀ r u, Q r u → Q' r u) (k : wi E M Q pc ls st h) : wi E M Q' pc ls st h := by
  intro p e s m args below meth c C H locs rl hP hS hl T hT X
  obtain ⟨t, a1, o, b1, b2, ⟨⟨r, u, hv, hp, hb⟩, hF⟩, b4⟩ := k p e s m args below meth c C H locs rl hP hS hl T hT X
  exact ⟨t, a1, o, b1, b2, ⟨⟨r, u, hv, hq r u hp, hb⟩, hF⟩, b4⟩
/-- the class agrees a contract -/
theorem x_agree {P C W K N A O D p q s : Nat} {Q : Int32 → TH → Prop} (I : InvC P C W K N A O D h) (hC : C < 10)
    (hQ0 : ∀ F, F = cto (h 31 0) (nI p) C → F = -1 → Q (nI C) (up (up (up (up (up h 4 C 0 (nI p)) 4 C 1 (nI q)) 4 C 5 (nI s)) 4 C 2 (-1)) 2 0 1 (nI C + 1)))
    (hQ1 : ∀ u : Nat, u < C → h 31 0 u = nI p → Q (nI C) (up (up (up (up (up (up (up h 4 C 0 (nI p)) 4 C 1 (nI q)) 4 C 5 (nI s)) 4 C 2 (nI u)) 4 C 3 (h 4 u 3 ||| (1 <<< (nI u &&& 31)))) 4 C 4 (h 4 u 4 + 1)) 2 0 1 (nI C + 1))) : SX1_agree E (nI p) (nI q) (nI s) h Q := by
  obtain ⟨JP0, JD0, JF0, JQ0, JL0, JC0, JV0, JK0, JN0, JA0⟩ := id I
  obtain ⟨c1, c2, c3, c4, c5, c6⟩ := id JC0
  have v1 := vin hC (by omega)
  have v2 := ncl (show C ≤ 100000 by omega)
  unfold SX1_agree
  rw [c1, v2]
  refine ⟨v1, ?_⟩
  refine x_who (C := C) (f := h 31 0) (by simp only [up_o, up_k, up_s, fx_o, fm_o, ne_eq, Nat.reduceEqDiff, not_false_eq_true]; exact c1) c3 (fun j hj => ?_) (uniq JC0) ?_
  · simp only [up_i (show j ≠ C by omega)]
    exact (c4 j hj).1.2.1
  · simp only [up_o, up_k, up_s, fx_o, fm_o, ne_eq, Nat.reduceEqDiff, not_false_eq_true]
    by_cases hex : ∃ u, u < C ∧ h 31 0 u = nI p
    · obtain ⟨u, u1, u2⟩ := hex
      have e := cto_some C u1 u2 (fun k hk hkx => uniq JC0 k u hk u1 (hkx.trans u2.symm))
      have v3 := vin (show u < 10 by omega) (by omega)
      have v4 := ncl (show u ≤ 100000 by omega)
      rw [e]
      refine ⟨fun z => absurd z (nI_m1 (by omega)), fun _ => ⟨v3, ?_⟩⟩
      simp only [c1, v4, up_i (show u ≠ C by omega), up_o, up_k, up_s, fx_o, fm_o, ne_eq, Nat.reduceEqDiff, not_false_eq_true]
      have := hQ1 u u1 u2
      simp only [show nI C + 1 - 1 = nI C by rw [nI_1, nI_pred]]
      exact this
    · have e := cto_none (f := h 31 0) (x := nI p) C (fun i hi z => hex ⟨i, hi, z⟩)
      rw [e]
      refine ⟨fun _ => ?_, fun z => absurd rfl z⟩
      simp only [c1, show nI C + 1 - 1 = nI C by rw [nI_1, nI_pred]]
      exact hQ0 _ rfl e
theorem zero_nI : (0 : Int32) = nI 0 := rfl
theorem op_contract (I : Inv h) : wi E MX6_contract (fun r1 h1 => wi E MX7_contract (fun r2 h2 => Same r1 r2 h2) 0 [some (rf 28 0), some (.int a1), some (.int a2), some (.int a3), none] [] h1) 0 [some (rf 0 0), some (.int a1), some (.int a2), some (.int a3), none] [] h := by
  obtain ⟨P, C, W, K, N, A, O, D, I⟩ := id I
  obtain ⟨JP0, JD0, JF0, JQ0, JL0, JC0, JV0, JK0, JN0, JA0⟩ := id I
  obtain ⟨p1, p2, p3, p4, p5, p6⟩ := id JP0
  obtain ⟨c1, c2, c3, c4, c5, c6⟩ := id JC0
  have e1 : (nI C < 10) ↔ C < 10 := lt_lit (by decide) (by omega) (by omega)
  have e2 : (nI C = 10) ↔ C = 10 := eq_lit (by decide) (by omega) (by omega)
  refine sX6_contract ?_
  by_cases g1 : inn a1 0 (nI P - 1)
  rotate_left
  · simp [-Int32.not_le, -Int32.not_lt, SX6_contract, w_xisParty, p1, g1, f1]
    refine sX7_contract ?_
    simp [-Int32.not_le, -Int32.not_lt, SX7_contract, w_misParty, up_o, up_k, up_s, fx_o, fm_o, ne_eq, Nat.reduceEqDiff, not_false_eq_true, p2, g1, m1]
    exact fin_same I
  by_cases g2 : inn a2 0 (nI P - 1)
  rotate_left
  · simp only [SX6_contract, w_xisParty, p1, if_pos g1, if_neg g2]
    refine ⟨fun z => absurd z (by decide), fun _ => ⟨fun _ => f1.mpr ?_, fun z => (z trivial).elim⟩⟩
    refine sX7_contract ?_
    simp only [SX7_contract, w_misParty, up_o, up_k, up_s, fx_o, fm_o, ne_eq, Nat.reduceEqDiff, not_false_eq_true, p2, if_pos g1, if_neg g2]
    exact ⟨fun z => absurd z (by decide), fun _ => ⟨fun _ => m1.mpr (fin_same I), fun z => (z trivial).elim⟩⟩
  by_cases g3 : inn a3 1 100000
  rotate_left
  · simp [-Int32.not_le, -Int32.not_lt, SX6_contract, w_xisParty, w_within, p1, g1, g2, g3, f1]
    refine sX7_contract ?_
    simp [-Int32.not_le, -Int32.not_lt, SX7_contract, w_misParty, w_isIn, up_o, up_k, up_s, fx_o, fm_o, ne_eq, Nat.reduceEqDiff, not_false_eq_true, p2, g1, g2, g3, m1]
    exact fin_same I
  obtain ⟨p, hp, rfl⟩ := (inn_nI (by omega)).mp g1
  obtain ⟨q, hq, rfl⟩ := (inn_nI (by omega)).mp g2
  obtain ⟨s, s1, s2, rfl⟩ := inn_of (l := 1) (m := 100000) (by omega) (by omega) g3
  have vp := vin (show p < 12 by omega) (by omega)
  have vq := vin (show q < 12 by omega) (by omega)
  have np := ncl (show p ≤ 100000 by omega)
  have nq := ncl (show q ≤ 100000 by omega)
  have kp := p5 p (by omega)
  have kq := p5 q (by omega)
  by_cases g4 : knd (h 29 0 q) 2
  rotate_left
  · simp only [SX6_contract, w_xisParty, w_within, w_isOfKind vq, p1, if_pos g1, if_pos g2, if_pos g3, nq, kq, if_neg g4]
    refine ⟨fun z => absurd z (by decide), fun _ => ⟨fun z => absurd z (by decide), fun _ => ⟨fun _ => ⟨fun _ => f5.mpr ?_, fun z => (z trivial).elim⟩, fun z => absurd z (by decide)⟩⟩⟩
    refine sX7_contract ?_
    simp only [SX7_contract, w_misParty, w_isIn, w_isUnder, up_o, up_k, up_s, fx_o, fm_o, ne_eq, Nat.reduceEqDiff, not_false_eq_true, p2, if_pos g1, if_pos g2, if_pos g3, nq, if_neg g4]
    exact ⟨fun z => absurd z (by decide), fun _ => ⟨fun z => absurd z (by decide), fun _ => ⟨fun _ => ⟨vq, fun _ => m5.mpr (fin_same I), fun z => (z trivial).elim⟩, fun z => absurd z (by decide)⟩⟩⟩
  have hq0 : q ≠ 0 := fun z => by
    subst z
    rw [← kq, p6] at g4
    exact absurd g4 (by decide)
  by_cases hp0' : p = 0
  · subst hp0'
    have hne : ¬ (0 : Int32) = nI q := by
      rw [zero_nI, nI_eq (by omega) (by omega)]
      omega
    simp only [SX6_contract, w_xisParty, w_within, w_isOfKind vq, p1, if_pos g1, if_pos g2, if_pos g3, nq, kq, if_pos g4]
    rw [show nI 0 = 0 from rfl] at g1 ⊢
    refine ⟨fun z => absurd z (by decide), fun _ => ⟨fun z => absurd z (by decide), fun _ => ⟨fun _ => ⟨fun z => absurd z (by decide), fun _ => ⟨fun _ => ⟨fun _ => ⟨fun z => absurd z hne, fun _ => ?_⟩, fun z => absurd rfl z⟩, fun z => absurd rfl z⟩⟩, fun z => absurd z (by decide)⟩⟩⟩
    refine x_who c1 c3 (fun j hj => (c4 j hj).1.2.1) (uniq JC0) ?_
    have mod : ∀ (hh : TH) (Q : Int32 → TH → Prop), (∀ g, 28 ≤ g → hh g = h g) → wi E MX7_contractTo (fun r22 h21 => ((¬ r22 = (-1) → SX7_finds E (-1000000003) h21 (fun r25 h24 => Q r25 h24)) ∧ (r22 = (-1) → ((¬ (h21 28 0 1) = 10 → vp_in (h21 28 0 1) 10 ∧ Q (h21 28 0 1) (up (up (up (up (up (up (up (up (up (up h21 30 0 ((h21 28 0 1).toNatClampNeg) 0) 31 0 ((h21 28 0 1).toNatClampNeg) (nI q)) 32 0 ((h21 28 0 1).toNatClampNeg) (nI s)) 33 0 ((h21 28 0 1).toNatClampNeg) 0) 34 0 ((h21 28 0 1).toNatClampNeg) (-1)) 35 0 ((h21 28 0 1).toNatClampNeg) (-1)) 36 0 ((h21 28 0 1).toNatClampNeg) (-1)) 37 0 ((h21 28 0 1).toNatClampNeg) (-1)) 38 0 ((h21 28 0 1).toNatClampNeg) (-1)) 28 0 1 ((h21 28 0 1) + 1))) ∧ ((h21 28 0 1) = 10 → SX7_finds E (-1000000004) h21 (fun r31 h30 => Q r31 h30)))))) 0 [some (rf 28 0), some (.int (nI q)), none, none] [] hh → wi E MX7_contract Q 0 [some (rf 28 0), some (.int 0), some (.int (nI q)), some (.int (nI s)), none] [] hh := by
      intro hh Q e28 hw
      refine sX7_contract ?_
      simp only [SX7_contract, w_misParty, w_isIn, w_isUnder, e28 28 (by decide), e28 29 (by decide), p2, if_pos g1, if_pos g2, if_pos g3, nq, if_pos g4]
      refine ⟨fun z => absurd z (by decide), fun _ => ⟨fun z => absurd z (by decide), fun _ => ⟨fun _ => ⟨vq, fun z => absurd z (by decide), fun _ => ⟨fun _ => ?_, fun z => (z trivial).elim⟩⟩, fun z => absurd z (by decide)⟩⟩⟩
      refine wi_monoC (fun r u hz => ⟨hz.1, fun hr => ⟨fun _ => ⟨fun _ => hz.2 hr, fun z => absurd z hne⟩, fun z => (z trivial).elim⟩⟩) hw
    by_cases T : ∃ i, i < C ∧ h 31 0 i = nI q
    · obtain ⟨i, i1, i2⟩ := T
      have e := cto_some C i1 i2 (fun k hk hkx => uniq JC0 k i hk i1 (hkx.trans i2.symm))
      rw [e]
      refine ⟨fun z => absurd z (nI_m1 (by omega)), fun _ => f3.mpr ?_⟩
      refine mod _ _ (fun g hg => fx_o (by omega)) ?_
      refine m_cto (by rw [fx_o (by decide)]; exact c2) c3 ?_
      rw [fx_o (by decide), e]
      exact ⟨fun _ => m3.mpr (fin_same I), fun z => absurd z (nI_m1 (by omega))⟩
    · have e := cto_none (f := h 31 0) (x := nI q) C (fun i hi z => T ⟨i, hi, z⟩)
      rw [e, c1]
      refine ⟨fun _ => ⟨fun g6 => ?_, fun g6 => f4.mpr ?_⟩, fun z => absurd rfl z⟩
      · rw [e1] at g6
        have v1 := vin g6 (by omega)
        have v2 := ncl (show C ≤ 100000 by omega)
        refine x_agree (p := 0) I g6 (fun F _ _ => ?_) (fun u u1 u2 => ?_)
        · refine mod _ _ (fun g hg => by rw [up_o (by omega), up_o (by omega), up_o (by omega), up_o (by omega), up_o (by omega)]) ?_
          refine m_cto (C := C) (by simp only [up_o, up_k, up_s, fx_o, fm_o, ne_eq, Nat.reduceEqDiff, not_false_eq_true]; exact c2) c3 ?_
          simp only [up_o, up_k, up_s, fx_o, fm_o, ne_eq, Nat.reduceEqDiff, not_false_eq_true, e, c2, v2]
          refine ⟨fun z => (z trivial).elim, fun _ => ⟨fun _ => ⟨v1, ?_⟩, fun z => absurd (e2.mp z) (by omega)⟩⟩
          refine ⟨rfl, P, C + 1, W, K, N, A, O, D, con_inv (p := 0) (q := q) (s := s) I g6 hq0 hq s1 (by omega) (fun i hi z => T ⟨i, hi, z⟩) (fun g hg => ?_) ?_ (fun k hk => ?_) ?_ ?_ (fun i hi => ?_) ?_ ?_ ?_ (fun k hk => ?_) ?_ ?_ ?_ ?_ ?_ ?_ ?_ ?_ ?_ ?_⟩
          · have n2 : g ≠ 2 := fun z => by subst z; exact absurd hg (by decide)
            have n4 : g ≠ 4 := fun z => by subst z; exact absurd hg (by decide)
            have n28 : g ≠ 28 := fun z => by subst z; exact absurd hg (by decide)
            have n30 : g ≠ 30 := fun z => by subst z; exact absurd hg (by decide)
            have n31 : g ≠ 31 := fun z => by subst z; exact absurd hg (by decide)
            have n32 : g ≠ 32 := fun z => by subst z; exact absurd hg (by decide)
            have n33 : g ≠ 33 := fun z => by subst z; exact absurd hg (by decide)
            have n34 : g ≠ 34 := fun z => by subst z; exact absurd hg (by decide)
            have n35 : g ≠ 35 := fun z => by subst z; exact absurd hg (by decide)
            have n36 : g ≠ 36 := fun z => by subst z; exact absurd hg (by decide)
            have n37 : g ≠ 37 := fun z => by subst z; exact absurd hg (by decide)
            have n38 : g ≠ 38 := fun z => by subst z; exact absurd hg (by decide)
            simp only [up_o n2, up_o n4, up_o n28, up_o n30, up_o n31, up_o n32, up_o n33, up_o n34, up_o n35, up_o n36, up_o n37, up_o n38]
          · simp only [up_o, up_k, up_s, fx_o, fm_o, ne_eq, Nat.reduceEqDiff, not_false_eq_true]
          · rw [up_k hk]
            simp only [up_o, up_k, up_s, fx_o, fm_o, ne_eq, Nat.reduceEqDiff, not_false_eq_true]
          · simp only [up_o, up_k, up_s, fx_o, fm_o, ne_eq, Nat.reduceEqDiff, not_false_eq_true, nI_1]
          · simp only [up_o, up_k, up_s, fx_o, fm_o, ne_eq, Nat.reduceEqDiff, not_false_eq_true, nI_1]
          · simp only [up_o, up_k, up_s, fx_o, fm_o, ne_eq, Nat.reduceEqDiff, not_false_eq_true, up_i hi]
          · simp only [up_o, up_k, up_s, fx_o, fm_o, ne_eq, Nat.reduceEqDiff, not_false_eq_true]
          · simp only [up_o, up_k, up_s, fx_o, fm_o, ne_eq, Nat.reduceEqDiff, not_false_eq_true]
          · simp only [up_o, up_k, up_s, fx_o, fm_o, ne_eq, Nat.reduceEqDiff, not_false_eq_true]
          · simp only [up_o, up_k, up_s, fx_o, fm_o, ne_eq, Nat.reduceEqDiff, not_false_eq_true, up_k (show k ≠ 0 by omega), up_k (show k ≠ 1 by omega), up_k (show k ≠ 2 by omega), up_k (show k ≠ 3 by omega), up_k (show k ≠ 4 by omega), up_k (show k ≠ 5 by omega)]
          · left
            have z := c5 C (Nat.le_refl _) g6
            simp only [up_o, up_k, up_s, fx_o, fm_o, ne_eq, Nat.reduceEqDiff, not_false_eq_true]
            exact ⟨by decide, trivial, z.2.1, z.2.2.1⟩
          all_goals first | (simp only [upF 30, upF 31, upF 32, upF 33, upF 34, upF 35, upF 36, upF 37, upF 38, up_o, up_k, up_s, fx_o, fm_o, ne_eq, Nat.reduceEqDiff, not_false_eq_true]; done) | (simp only [upF 30, upF 31, upF 32, upF 33, upF 34, upF 35, upF 36, upF 37, upF 38, up_o, up_k, up_s, fx_o, fm_o, ne_eq, Nat.reduceEqDiff, not_false_eq_true]; rfl)

        · obtain ⟨⟨q', t1, t2, t3⟩, -⟩ := c6 u u1
          rw [t3, nI_eq (by omega) (by omega)] at u2
          omega
      · refine mod _ _ (fun g hg => fx_o (by omega)) ?_
        refine m_cto (by rw [fx_o (by decide)]; exact c2) c3 ?_
        simp only [fx_o, ne_eq, Nat.reduceEqDiff, not_false_eq_true, e, c2]
        rw [e1] at g6
        exact ⟨fun z => (z trivial).elim, fun _ => ⟨fun z => absurd (e2.mpr (by omega)) z, fun _ => m4.mpr (fin_same I)⟩⟩
  · have hp0 : ¬ nI p = 0 := by
      rw [zero_nI, nI_eq (by omega) (by omega)]
      exact hp0'
    by_cases g5 : h 29 0 p = 2
    rotate_left
    · simp only [SX6_contract, w_xisParty, w_within, w_isOfKind vq, p1, if_pos g1, if_pos g2, if_pos g3, nq, np, kq, kp, if_pos g4]
      refine ⟨fun z => absurd z (by decide), fun _ => ⟨fun z => absurd z (by decide), fun _ => ⟨fun _ => ⟨fun z => absurd z (by decide), fun _ => ⟨fun z => absurd z hp0, fun _ => ⟨vp, fun z => absurd z g5, fun _ => f5.mpr ?_⟩⟩⟩, fun z => absurd z (by decide)⟩⟩⟩
      refine sX7_contract ?_
      simp only [SX7_contract, w_misParty, w_isIn, w_isUnder, up_o, up_k, up_s, fx_o, fm_o, ne_eq, Nat.reduceEqDiff, not_false_eq_true, p2, if_pos g1, if_pos g2, if_pos g3, nq, np, if_pos g4]
      exact ⟨fun z => absurd z (by decide), fun _ => ⟨fun z => absurd z (by decide), fun _ => ⟨fun _ => ⟨vq, fun z => absurd z (by decide), fun _ => ⟨fun z => absurd z hp0, fun _ => ⟨vp, fun z => absurd z g5, fun _ => m5.mpr (fin_same I)⟩⟩⟩, fun z => absurd z (by decide)⟩⟩⟩
    have mod : ∀ (hh : TH) (Q : Int32 → TH → Prop), (∀ g, 28 ≤ g → hh g = h g) → (((∃ i, i < C ∧ h 31 0 i = nI q) ∨ (¬ ∃ i, i < C ∧ h 31 0 i = nI p) ∨ p = q) → Q (-1000000003) (fm hh 3)) → (C = 10 → Q (-1000000004) (fm hh 4)) → (C < 10 → Q (nI C) (up (up (up (up (up (up (up (up (up (up hh 30 0 C (nI p)) 31 0 C (nI q)) 32 0 C (nI s)) 33 0 C 0) 34 0 C (-1)) 35 0 C (-1)) 36 0 C (-1)) 37 0 C (-1)) 38 0 C (-1)) 28 0 1 (nI C + 1))) → wi E MX7_contract Q 0 [some (rf 28 0), some (.int (nI p)), some (.int (nI q)), some (.int (nI s)), none] [] hh := by
      intro hh Q e28 h3 h4 h5
      refine sX7_contract ?_
      simp only [SX7_contract, w_misParty, w_isIn, w_isUnder, e28 28 (by decide), e28 29 (by decide), p2, if_pos g1, if_pos g2, if_pos g3, nq, np, if_pos g4]
      refine ⟨fun z => absurd z (by decide), fun _ => ⟨fun z => absurd z (by decide), fun _ => ⟨fun _ => ⟨vq, fun z => absurd z (by decide), fun _ => ⟨fun z => absurd z hp0, fun _ => ⟨vp, fun _ => ?_, fun z => absurd g5 z⟩⟩⟩, fun z => absurd z (by decide)⟩⟩⟩
      refine m_cto (C := C) (by rw [e28 28 (by decide)]; exact c2) c3 ?_
      rw [e28 31 (by decide)]
      by_cases T : ∃ i, i < C ∧ h 31 0 i = nI q
      · obtain ⟨i, i1, i2⟩ := id T
        have e := cto_some C i1 i2 (fun k hk hkx => uniq JC0 k i hk i1 (hkx.trans i2.symm))
        rw [e]
        exact ⟨fun _ => m3.mpr (h3 (Or.inl T)), fun z => absurd z (nI_m1 (by omega))⟩
      · have e := cto_none (f := h 31 0) (x := nI q) C (fun i hi z => T ⟨i, hi, z⟩)
        rw [e]
        refine ⟨fun z => absurd rfl z, fun _ => ⟨fun z => absurd z hp0, fun _ => ?_⟩⟩
        refine m_cto (C := C) (by rw [e28 28 (by decide)]; exact c2) c3 ?_
        rw [e28 31 (by decide)]
        by_cases F : ∃ i, i < C ∧ h 31 0 i = nI p
        · obtain ⟨u, u1, u2⟩ := id F
          have eF := cto_some C u1 u2 (fun k hk hkx => uniq JC0 k u hk u1 (hkx.trans u2.symm))
          rw [eF]
          refine ⟨fun z => absurd z (nI_m1 (by omega)), fun _ => ⟨fun hpq => ?_, fun hpq => ?_⟩⟩
          · simp only [e28 28 (by decide), c2, ncl (show C ≤ 100000 by omega)]
            refine ⟨fun z => ⟨vin (show C < 10 by have : ¬ C = 10 := fun y => z (e2.mpr y)
                                                  omega) (by omega), h5 (by have : ¬ C = 10 := fun y => z (e2.mpr y)
                                                                            omega)⟩, fun z => m4.mpr (h4 (e2.mp z))⟩
          · rw [nI_eq (by omega) (by omega)] at hpq
            exact m3.mpr (h3 (Or.inr (Or.inr hpq)))
        · have eF := cto_none (f := h 31 0) (x := nI p) C (fun i hi z => F ⟨i, hi, z⟩)
          rw [eF]
          exact ⟨fun _ => m3.mpr (h3 (Or.inr (Or.inl F))), fun z => absurd rfl z⟩
    simp only [SX6_contract, w_xisParty, w_within, w_isOfKind vq, p1, if_pos g1, if_pos g2, if_pos g3, nq, np, kq, kp, if_pos g4]
    refine ⟨fun z => absurd z (by decide), fun _ => ⟨fun z => absurd z (by decide), fun _ => ⟨fun _ => ⟨fun z => absurd z (by decide), fun _ => ⟨fun z => absurd z hp0, fun _ => ⟨vp, fun _ => ⟨fun z => absurd z hp0, fun _ => ?_⟩, fun z => absurd g5 z⟩⟩⟩, fun z => absurd z (by decide)⟩⟩⟩
    have bad : ((∃ i, i < C ∧ h 31 0 i = nI q) ∨ (¬ ∃ i, i < C ∧ h 31 0 i = nI p) ∨ p = q) → wi E MX7_contract (fun r2 h2 => Same (-1000000003) r2 h2) 0 [some (rf 28 0), some (.int (nI p)), some (.int (nI q)), some (.int (nI s)), none] [] (fx h 3) → True := fun _ _ => trivial
    have bad3 : ∀ (hb : (∃ i, i < C ∧ h 31 0 i = nI q) ∨ (¬ ∃ i, i < C ∧ h 31 0 i = nI p) ∨ p = q), SX6_finding E 3 h (fun r1 h1 => wi E MX7_contract (fun r2 h2 => Same r1 r2 h2) 0 [some (rf 28 0), some (.int (nI p)), some (.int (nI q)), some (.int (nI s)), none] [] h1) := fun hb => by
      refine f3.mpr ?_
      refine sX7_contract ?_
      simp only [SX7_contract, w_misParty, w_isIn, w_isUnder, up_o, up_k, up_s, fx_o, fm_o, ne_eq, Nat.reduceEqDiff, not_false_eq_true, p2, if_pos g1, if_pos g2, if_pos g3, nq, np, if_pos g4]
      refine ⟨fun z => absurd z (by decide), fun _ => ⟨fun z => absurd z (by decide), fun _ => ⟨fun _ => ⟨vq, fun z => absurd z (by decide), fun _ => ⟨fun z => absurd z hp0, fun _ => ⟨vp, fun _ => ?_, fun z => absurd g5 z⟩⟩⟩, fun z => absurd z (by decide)⟩⟩⟩
      refine m_cto (C := C) (by rw [fx_o (by decide)]; exact c2) c3 ?_
      rw [fx_o (by decide)]
      by_cases T : ∃ i, i < C ∧ h 31 0 i = nI q
      · obtain ⟨i, i1, i2⟩ := id T
        have e := cto_some C i1 i2 (fun k hk hkx => uniq JC0 k i hk i1 (hkx.trans i2.symm))
        rw [e]
        exact ⟨fun _ => m3.mpr (fin_same I), fun z => absurd z (nI_m1 (by omega))⟩
      · have e := cto_none (f := h 31 0) (x := nI q) C (fun i hi z => T ⟨i, hi, z⟩)
        rw [e]
        refine ⟨fun z => absurd rfl z, fun _ => ⟨fun z => absurd z hp0, fun _ => ?_⟩⟩
        refine m_cto (C := C) (by rw [fx_o (by decide)]; exact c2) c3 ?_
        rw [fx_o (by decide)]
        by_cases F : ∃ i, i < C ∧ h 31 0 i = nI p
        · obtain ⟨u, u1, u2⟩ := id F
          have eF := cto_some C u1 u2 (fun k hk hkx => uniq JC0 k u hk u1 (hkx.trans u2.symm))
          rw [eF]
          refine ⟨fun z => absurd z (nI_m1 (by omega)), fun _ => ⟨fun hpq => ?_, fun hpq => m3.mpr (fin_same I)⟩⟩
          rw [nI_eq (by omega) (by omega)] at hpq
          rcases hb with hb | hb | hb
          · exact absurd hb T
          · exact absurd F hb
          · exact absurd hb hpq
        · have eF := cto_none (f := h 31 0) (x := nI p) C (fun i hi z => F ⟨i, hi, z⟩)
          rw [eF]
          exact ⟨fun _ => m3.mpr (fin_same I), fun z => absurd rfl z⟩
    refine x_who c1 c3 (fun j hj => (c4 j hj).1.2.1) (uniq JC0) ?_
    by_cases F : ∃ i, i < C ∧ h 31 0 i = nI p
    · obtain ⟨u0, u1', u2'⟩ := id F
      have eF := cto_some C u1' u2' (fun k hk hkx => uniq JC0 k u0 hk u1' (hkx.trans u2'.symm))
      rw [eF]
      refine ⟨fun z => absurd z (nI_m1 (by omega)), fun _ => ⟨fun hpq => ?_, fun hpq => ?_⟩⟩
      · rw [nI_eq (by omega) (by omega)] at hpq
        exact bad3 (Or.inr (Or.inr hpq))
      · rw [nI_eq (by omega) (by omega)] at hpq
        refine x_who c1 c3 (fun j hj => (c4 j hj).1.2.1) (uniq JC0) ?_
        by_cases T : ∃ i, i < C ∧ h 31 0 i = nI q
        · obtain ⟨i, i1, i2⟩ := id T
          have e := cto_some C i1 i2 (fun k hk hkx => uniq JC0 k i hk i1 (hkx.trans i2.symm))
          rw [e]
          exact ⟨fun z => absurd z (nI_m1 (by omega)), fun _ => bad3 (Or.inl T)⟩
        · have e := cto_none (f := h 31 0) (x := nI q) C (fun i hi z => T ⟨i, hi, z⟩)
          rw [e, c1]
          have nb : ¬ ((∃ i, i < C ∧ h 31 0 i = nI q) ∨ (¬ ∃ i, i < C ∧ h 31 0 i = nI p) ∨ p = q) := fun z => by
            rcases z with z | z | z
            · exact T z
            · exact z F
            · exact hpq z
          refine ⟨fun _ => ⟨fun g6 => ?_, fun g6 => f4.mpr ?_⟩, fun z => absurd rfl z⟩
          · rw [e1] at g6
            refine x_agree I g6 (fun F' eF' eF'' => ?_) (fun u u1 u2 => ?_)
            · rw [eF', eF] at eF''
              exact absurd eF'' (nI_m1 (by omega))
            · refine mod _ _ (fun g hg => by rw [up_o (by omega), up_o (by omega), up_o (by omega), up_o (by omega), up_o (by omega), up_o (by omega), up_o (by omega)]) (fun z => absurd z nb) (fun z => by omega) (fun _ => ?_)
              refine ⟨rfl, P, C + 1, W, K, N, A, O, D, con_inv (p := p) (q := q) (s := s) I g6 hq0 hq s1 (by omega) (fun i hi z => T ⟨i, hi, z⟩) (fun g hg => ?_) ?_ (fun k hk => ?_) ?_ ?_ (fun i hi => ?_) ?_ ?_ ?_ (fun k hk => ?_) ?_ ?_ ?_ ?_ ?_ ?_ ?_ ?_ ?_ ?_⟩
              · have n2 : g ≠ 2 := fun z => by subst z; exact absurd hg (by decide)
                have n4 : g ≠ 4 := fun z => by subst z; exact absurd hg (by decide)
                have n28 : g ≠ 28 := fun z => by subst z; exact absurd hg (by decide)
                have n30 : g ≠ 30 := fun z => by subst z; exact absurd hg (by decide)
                have n31 : g ≠ 31 := fun z => by subst z; exact absurd hg (by decide)
                have n32 : g ≠ 32 := fun z => by subst z; exact absurd hg (by decide)
                have n33 : g ≠ 33 := fun z => by subst z; exact absurd hg (by decide)
                have n34 : g ≠ 34 := fun z => by subst z; exact absurd hg (by decide)
                have n35 : g ≠ 35 := fun z => by subst z; exact absurd hg (by decide)
                have n36 : g ≠ 36 := fun z => by subst z; exact absurd hg (by decide)
                have n37 : g ≠ 37 := fun z => by subst z; exact absurd hg (by decide)
                have n38 : g ≠ 38 := fun z => by subst z; exact absurd hg (by decide)
                simp only [up_o n2, up_o n4, up_o n28, up_o n30, up_o n31, up_o n32, up_o n33, up_o n34, up_o n35, up_o n36, up_o n37, up_o n38]
              · simp only [up_o, up_k, up_s, fx_o, fm_o, ne_eq, Nat.reduceEqDiff, not_false_eq_true]
              · rw [up_k hk]
                simp only [up_o, up_k, up_s, fx_o, fm_o, ne_eq, Nat.reduceEqDiff, not_false_eq_true]
              · simp only [up_o, up_k, up_s, fx_o, fm_o, ne_eq, Nat.reduceEqDiff, not_false_eq_true, nI_1]
              · simp only [up_o, up_k, up_s, fx_o, fm_o, ne_eq, Nat.reduceEqDiff, not_false_eq_true, nI_1]
              · simp only [up_o, up_k, up_s, fx_o, fm_o, ne_eq, Nat.reduceEqDiff, not_false_eq_true, up_i hi]
              · simp only [up_o, up_k, up_s, fx_o, fm_o, ne_eq, Nat.reduceEqDiff, not_false_eq_true]
              · simp only [up_o, up_k, up_s, fx_o, fm_o, ne_eq, Nat.reduceEqDiff, not_false_eq_true]
              · simp only [up_o, up_k, up_s, fx_o, fm_o, ne_eq, Nat.reduceEqDiff, not_false_eq_true]
              · simp only [up_o, up_k, up_s, fx_o, fm_o, ne_eq, Nat.reduceEqDiff, not_false_eq_true, up_k (show k ≠ 0 by omega), up_k (show k ≠ 1 by omega), up_k (show k ≠ 2 by omega), up_k (show k ≠ 3 by omega), up_k (show k ≠ 4 by omega), up_k (show k ≠ 5 by omega)]
              · right
                refine ⟨hp0, u, u1, u2, ?_, ?_, ?_⟩
                all_goals simp only [up_o, up_k, up_s, fx_o, fm_o, ne_eq, Nat.reduceEqDiff, not_false_eq_true]
              all_goals first | (simp only [upF 30, upF 31, upF 32, upF 33, upF 34, upF 35, upF 36, upF 37, upF 38, up_o, up_k, up_s, fx_o, fm_o, ne_eq, Nat.reduceEqDiff, not_false_eq_true]; done) | (simp only [upF 30, upF 31, upF 32, upF 33, upF 34, upF 35, upF 36, upF 37, upF 38, up_o, up_k, up_s, fx_o, fm_o, ne_eq, Nat.reduceEqDiff, not_false_eq_true]; rfl)
          · rw [e1] at g6
            exact mod _ _ (fun g hg => fx_o (by omega)) (fun z => absurd z nb) (fun _ => fin_same I) (fun z => absurd z g6)
    · have eF := cto_none (f := h 31 0) (x := nI p) C (fun i hi z => F ⟨i, hi, z⟩)
      rw [eF]
      refine ⟨fun _ => ⟨fun _ => bad3 (Or.inr (Or.inl F)), fun _ => bad3 (Or.inr (Or.inl F))⟩, fun z => absurd rfl z⟩
end Contract
