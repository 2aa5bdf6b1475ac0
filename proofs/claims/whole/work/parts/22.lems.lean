section Lems
variable {C D P W K N A O : Nat} {c1 c2 : Int32} {R R' : Nat → Nat → Int32} {payer payee sum paid noticed bf bl ef el sum' paid' noticed' bf' bl' ef' el' : Nat → Int32}
theorem JC_row (J : JC C D P c1 c2 R payer payee sum paid noticed bf bl ef el) {i : Nat} (hR : ∀ j, j ≠ i → R' j = R j)
    (hs : ∀ j, j ≠ i → sum' j = sum j ∧ paid' j = paid j ∧ noticed' j = noticed j ∧ bf' j = bf j ∧ bl' j = bl j ∧ ef' j = ef j ∧ el' j = el j)
    (ht : R' i 0 = R i 0 ∧ R' i 1 = R i 1 ∧ R' i 2 = R i 2 ∧ R' i 3 = R i 3 ∧ R' i 4 = R i 4) (hi : i < C)
    (hc : rowC D R' payer payee sum' paid' noticed' bf' bl' ef' el' i) : JC C D P c1 c2 R' payer payee sum' paid' noticed' bf' bl' ef' el' := by
  obtain ⟨q1, q2, q3, q4, q5, q6⟩ := J
  obtain ⟨t0, t1, t2, t3, t4⟩ := ht
  have e2 : ∀ j, R' j 2 = R j 2 := fun j => by
    by_cases hj : j = i
    · rw [hj]; exact t2
    · rw [hR j hj]
  have e3 : ∀ j, R' j 3 = R j 3 := fun j => by
    by_cases hj : j = i
    · rw [hj]; exact t3
    · rw [hR j hj]
  have e4 : ∀ j, R' j 4 = R j 4 := fun j => by
    by_cases hj : j = i
    · rw [hj]; exact t4
    · rw [hR j hj]
  refine ⟨q1, q2, q3, fun j hj => ?_, fun j h1 h2 => ?_, fun j hj => ?_⟩
  · by_cases hji : j = i
    · rw [hji]; exact hc
    · obtain ⟨a1, a2, a3, a4, a5, a6, a7⟩ := hs j hji
      have := q4 j hj
      unfold rowC at this ⊢
      rw [hR j hji, a1, a2, a3, a4, a5, a6, a7]
      exact this
  · have := q5 j h1 h2
    unfold rowF at this ⊢
    rw [hR j (by omega)]
    exact this
  · have := q6 j hj
    unfold rowT at this ⊢
    simp only [e2, e3, e4]
    exact this
theorem JV_row {w1 w2 : Int32} {f1 u1 d1 f2 u2 d2 : Nat → Int32} (J : JV W C w1 w2 f1 u1 d1 f2 u2 d2 R paid) (hR : ∀ c, c < C → R' c 7 = R c 7) (hp : ∀ c, c < C → paid' c = paid c) : JV W C w1 w2 f1 u1 d1 f2 u2 d2 R' paid' := by
  obtain ⟨q1, q2, q3, q4, q5⟩ := J
  exact ⟨q1, q2, q3, q4, fun c hc => by rw [hR c hc, hp c hc]; exact q5 c hc⟩
theorem JK_bf {k1 k2 : Int32} {Rk : Nat → Nat → Int32} {cof amt fil sue bnd : Nat → Int32} (J : JK K C D k1 k2 Rk cof amt fil sue bnd bf) (hb : ∀ c, c < C → ¬ bf c = -1 → ¬ bf' c = -1) : JK K C D k1 k2 Rk cof amt fil sue bnd bf' := by
  obtain ⟨q1, q2, q3, q4, q5⟩ := J
  refine ⟨q1, q2, q3, fun i hi => ?_, q5⟩
  obtain ⟨a1, ⟨c, b1, b2, b3⟩, a3⟩ := q4 i hi
  exact ⟨a1, ⟨c, b1, b2, hb c b1 b3⟩, a3⟩
/-- one claim's row is changed, at SUED or BONDED -/
theorem JK_row {k1 k2 : Int32} {Rk Rk' : Nat → Nat → Int32} {cof amt fil sue bnd sue' bnd' : Nat → Int32} (J : JK K C D k1 k2 Rk cof amt fil sue bnd bf) {i : Nat} (hi : i < K) (hR : ∀ j, j ≠ i → Rk' j = Rk j) (hs : ∀ j, j ≠ i → sue' j = sue j ∧ bnd' j = bnd j)
    (ht : Rk' i 0 = Rk i 0 ∧ Rk' i 1 = Rk i 1 ∧ Rk' i 2 = Rk i 2) (hc : Rk' i 3 = sue' i ∧ Rk' i 4 = bnd' i ∧ day0 D (sue' i) ∧ isB (bnd' i)) : JK K C D k1 k2 Rk' cof amt fil sue' bnd' bf := by
  obtain ⟨q1, q2, q3, q4, q5⟩ := J
  refine ⟨q1, q2, q3, fun j hj => ?_, fun j h1 h2 => ?_⟩
  · have := q4 j hj
    by_cases hji : j = i
    · subst hji
      obtain ⟨⟨b0, b1, b2, b3, b4⟩, b5, b6, b7, b8, b9⟩ := this
      exact ⟨⟨ht.1.trans b0, ht.2.1.trans b1, ht.2.2.trans b2, hc.1, hc.2.1⟩, b5, b6, b7, hc.2.2.1, hc.2.2.2⟩
    · rw [hR j hji, (hs j hji).1, (hs j hji).2]
      exact this
  · rw [hR j (by omega)]
    exact q5 j h1 h2
theorem day0_mono {D' : Nat} {x : Int32} (hD : D ≤ D') (h : day0 D x) : day0 D' x := h.elim Or.inl (fun ⟨d, a, b⟩ => Or.inr ⟨d, by omega, b⟩)
theorem span0_mono {D' : Nat} {x y : Int32} (hD : D ≤ D') (h : span0 D x y) : span0 D' x y := h.elim Or.inl (fun ⟨d, e, a, b, c⟩ => Or.inr ⟨d, e, a, by omega, c⟩)
theorem JC_mono {D' : Nat} (hD : D ≤ D') (J : JC C D P c1 c2 R payer payee sum paid noticed bf bl ef el) : JC C D' P c1 c2 R payer payee sum paid noticed bf bl ef el := by
  obtain ⟨q1, q2, q3, q4, q5, q6⟩ := J
  exact ⟨q1, q2, q3, fun i hi => ⟨(q4 i hi).1, (q4 i hi).2.1, day0_mono hD (q4 i hi).2.2.1, span0_mono hD (q4 i hi).2.2.2.1, span0_mono hD (q4 i hi).2.2.2.2⟩, q5, q6⟩
theorem JK_mono {D' : Nat} {k1 k2 : Int32} {Rk : Nat → Nat → Int32} {cof amt fil sue bnd : Nat → Int32} (hD : D ≤ D') (J : JK K C D k1 k2 Rk cof amt fil sue bnd bf) : JK K C D' k1 k2 Rk cof amt fil sue bnd bf := by
  obtain ⟨q1, q2, q3, q4, q5⟩ := J
  refine ⟨q1, q2, q3, fun i hi => ?_, q5⟩
  obtain ⟨a1, a2, a3, ⟨d, b1, b2⟩, a5, a6⟩ := q4 i hi
  exact ⟨a1, a2, a3, ⟨d, by omega, b2⟩, day0_mono hD a5, a6⟩
theorem JN_mono {D' : Nat} {n1 n2 : Int32} {s1 d1 s2 d2 : Nat → Int32} (hD : D ≤ D') (J : JN N D n1 n2 s1 d1 s2 d2) : JN N D' n1 n2 s1 d1 s2 d2 := by
  obtain ⟨q1, q2, q3, q4⟩ := J
  refine ⟨q1, q2, q3, fun i hi => ?_⟩
  obtain ⟨a1, a2, a3, d, b1, b2⟩ := q4 i hi
  exact ⟨a1, a2, a3, d, by omega, b2⟩
theorem span_nI {a b : Int32} {D : Nat} (hD : D < 2 ^ 31) (hs : span a b (nI D)) : ∃ d e : Nat, d ≤ e ∧ e ≤ D ∧ a = nI d ∧ b = nI e := by
  obtain ⟨h1, h2, h3⟩ := hs
  obtain ⟨d, hd, rfl⟩ := nI_of h1
  have hb : ¬ b < 0 := fun z => h2 (by
    rw [Int32.lt_iff_toInt_lt] at z ⊢
    rw [nI_toInt hd]
    rw [Int32.toInt_zero] at z
    omega)
  obtain ⟨e, he, rfl⟩ := nI_of hb
  refine ⟨d, e, ?_, ?_, rfl, rfl⟩
  · rcases Nat.lt_or_ge e d with q | q
    · exact absurd (nI_lt q hd) h2
    · exact q
  · rcases Nat.lt_or_ge D e with q | q
    · exact absurd (nI_lt q he) h3
    · exact q
/-- a number between two small ones -/
theorem inn_of {a : Int32} {l m : Nat} (hl : l < 2 ^ 31) (hm : m < 2 ^ 31) (hs : inn a (nI l) (nI m)) : ∃ d : Nat, l ≤ d ∧ d ≤ m ∧ a = nI d := by
  obtain ⟨h1, h2⟩ := hs
  have h0 : ¬ a < 0 := fun z => h1 (by
    rw [Int32.lt_iff_toInt_lt] at z ⊢
    rw [nI_toInt hl]
    rw [Int32.toInt_zero] at z
    omega)
  obtain ⟨d, hd, rfl⟩ := nI_of h0
  refine ⟨d, ?_, ?_, rfl⟩
  · rcases Nat.lt_or_ge d l with q | q
    · exact absurd (nI_lt q hl) h1
    · exact q
  · rcases Nat.lt_or_ge m d with q | q
    · exact absurd (nI_lt q hd) h2
    · exact q
theorem nI_m1 {n : Nat} (h : n < 2 ^ 31) : ¬ nI n = -1 := by
  intro z
  have := congrArg Int32.toInt z
  rw [nI_toInt h, show (-1 : Int32).toInt = -1 by decide] at this
  omega
end Lems
