section Pure
theorem up_o {h : TH} {g g' i k : Nat} {v : Int32} (hne : g ≠ g') : (up h g' i k v) g = h g := by
  funext a b
  unfold up
  rw [if_neg (fun z => hne z.1)]
theorem up_k {h : TH} {g i i' k k' : Nat} {v : Int32} (hk : k ≠ k') : (up h g i' k' v) g i k = h g i k := by
  unfold up
  rw [if_neg (fun z => hk z.2.1)]
theorem up_s {h : TH} {g i k : Nat} {v : Int32} : (up h g i k v) g i k = v := by
  unfold up
  rw [if_pos ⟨rfl, rfl, rfl⟩]
theorem up_i {h : TH} {g i i' k' : Nat} {v : Int32} (hi : i ≠ i') : (up h g i' k' v) g i = h g i := by
  funext b
  unfold up
  rw [if_neg (fun z => hi z.2.2)]
theorem up_a {h : TH} {g i k k' : Nat} {v : Int32} : (up h g i k' v) g i k = if k = k' then v else h g i k := by
  unfold up
  by_cases hk : k = k'
  · rw [if_pos ⟨rfl, hk, rfl⟩, if_pos hk]
  · rw [if_neg (fun z => hk z.2.1), if_neg hk]
theorem b01 (c : Prop) [Decidable c] : ((if c then (1 : Int32) else 0) = 0) = ¬ c := by
  by_cases h : c
  · simp [h]
  · simp [h]
theorem isB_ite (c : Prop) [Decidable c] : isB (if c then (1 : Int32) else 0) := by
  by_cases h : c
  · rw [if_pos h]; exact isB_1
  · rw [if_neg h]; exact isB_0
abbrev inn (a b c : Int32) : Prop := ¬ a < b ∧ ¬ c < a
variable {E : EN} {h : TH} {Q : Int32 → TH → Prop} {a b c a1 a2 : Int32} {o : Nat}
theorem w_within : SX6_within E a b c h Q ↔ Q (if inn a b c then 1 else 0) h := by
  unfold SX6_within inn
  by_cases h1 : a < b
  · simp [h1]
  · by_cases h2 : c < a
    · simp [h1, h2]
    · simp [h1, h2]
theorem w_isIn : SX7_isIn E a b c h Q ↔ Q (if inn a b c then 1 else 0) h := by
  unfold SX7_isIn inn
  by_cases h1 : a < b
  · simp [h1]
  · by_cases h2 : c < a
    · simp [h1, h2]
    · simp [h1, h2]
theorem w_isKindNumber : SX6_isKindNumber E a h Q ↔ Q (if inn a 0 3 then 1 else 0) h := by
  unfold SX6_isKindNumber
  simp only [w_within, isB_ite, true_and]
theorem w_isSaleCoin : SX6_isSaleCoin E a h Q ↔ Q (if inn a 0 10000000 then 1 else 0) h := by
  unfold SX6_isSaleCoin
  simp only [w_within, isB_ite, true_and]
theorem w_xisParty : SX6_isParty E a h Q ↔ Q (if inn a 0 (h 0 0 1 - 1) then 1 else 0) h := by
  unfold SX6_isParty
  simp only [w_within, isB_ite, true_and]
theorem w_bhas : SX1_has E a h Q ↔ Q (if inn a 0 (h 2 0 1 - 1) then 1 else 0) h := by
  unfold SX1_has
  simp only [w_within, isB_ite, true_and]
theorem w_khas : SX4_has E a h Q ↔ Q (if inn a 0 (h 8 0 3 - 1) then 1 else 0) h := by
  unfold SX4_has
  simp only [w_within, isB_ite, true_and]
theorem w_misParty : SX7_isParty E a h Q ↔ Q (if inn a 0 (h 28 0 0 - 1) then 1 else 0) h := by
  unfold SX7_isParty
  simp only [w_isIn, isB_ite, true_and]
theorem w_isContract : SX7_isContract E a h Q ↔ Q (if inn a 0 (h 28 0 1 - 1) then 1 else 0) h := by
  unfold SX7_isContract
  simp only [w_isIn, isB_ite, true_and]
theorem w_isClaim : SX7_isClaim E a h Q ↔ Q (if inn a 0 (h 28 0 2 - 1) then 1 else 0) h := by
  unfold SX7_isClaim
  simp only [w_isIn, isB_ite, true_and]
/-- a kind: the same, or under it -/
abbrev knd (own k : Int32) : Prop := k = 0 ∨ own = k ∨ (own = 3 ∧ k = 2)
theorem w_isOfKind (hi : vp_in a1 12) : SX6_isOfKind E a1 a2 h Q ↔ Q (if knd (h 1 0 a1.toNatClampNeg) a2 then 1 else 0) h := by
  unfold SX6_isOfKind knd
  by_cases h1 : a2 = 0
  · simp [h1, hi]
  · by_cases h2 : h 1 0 a1.toNatClampNeg = a2
    · simp [h1, h2, hi]
    · by_cases h3 : h 1 0 a1.toNatClampNeg = 3
      · by_cases h4 : a2 = 2
        · subst h4; simp [h3, hi]
        · simp [h1, h2, h3, h4, hi]
          rw [h3] at h2
          simp [h2]
      · simp [h1, h2, h3, hi]
theorem w_isUnder : SX7_isUnder E a1 a2 h Q ↔ Q (if knd a1 a2 then 1 else 0) h := by
  unfold SX7_isUnder knd
  by_cases h1 : a2 = 0
  · simp [h1]
  · by_cases h2 : a1 = a2
    · simp [h1, h2]
    · by_cases h3 : a1 = 3
      · by_cases h4 : a2 = 2
        · subst h4; simp [h3]
        · simp [h1, h3, h4]
          rw [h3] at h2
          simp [h2]
      · simp [h1, h2, h3]
abbrev span (a b d : Int32) : Prop := ¬ a < 0 ∧ ¬ b < a ∧ ¬ d < b
theorem w_xspan : SX6_isSpanUpToToday E a1 a2 h Q ↔ Q (if span a1 a2 (h 0 0 6) then 1 else 0) h := by
  unfold SX6_isSpanUpToToday span
  simp only [w_within, b01]
  by_cases h1 : a1 < 0
  · simp [h1, inn]
  · by_cases h2 : a2 < a1
    · simp [h1, h2, inn]
    · by_cases h3 : h 0 0 6 < a2
      · simp [h1, h2, h3, inn]
      · simp [h1, h2, h3, inn]
theorem w_mspan : SX7_isSpan E a1 a2 h Q ↔ Q (if span a1 a2 (h 28 0 8) then 1 else 0) h := by
  unfold SX7_isSpan span
  by_cases h1 : a1 < 0
  · simp [h1]
  · by_cases h2 : a2 < a1
    · simp [h1, h2]
    · by_cases h3 : h 28 0 8 < a2
      · simp [h1, h2, h3]
      · simp [h1, h2, h3]
def spanB (a b d : Int32) : Bool := decide (span a b d)
theorem spanB_ite (a b d : Int32) : (if spanB a b d = true then (1 : Int32) else 0) = (if span a b d then 1 else 0) := by
  unfold spanB
  simp only [decide_eq_true_eq]
theorem w_xspanB : SX6_isSpanUpToToday E a1 a2 h Q ↔ Q (if spanB a1 a2 (h 0 0 6) = true then 1 else 0) h := by rw [spanB_ite]; exact w_xspan
theorem w_mspanB : SX7_isSpan E a1 a2 h Q ↔ Q (if spanB a1 a2 (h 28 0 8) = true then 1 else 0) h := by rw [spanB_ite]; exact w_mspan
theorem w_hasBegun : SX3_hasBegun E o h Q ↔ Q (if h 4 o 9 = -1 then 0 else 1) h := by
  unfold SX3_hasBegun
  by_cases h1 : h 4 o 9 = -1 <;> simp [h1]
theorem w_hasEnded : SX3_hasEnded E o h Q ↔ Q (if h 4 o 11 = -1 then 0 else 1) h := by
  unfold SX3_hasEnded
  by_cases h1 : h 4 o 11 = -1 <;> simp [h1]
theorem b10 (c : Prop) [Decidable c] : ((if c then (0 : Int32) else 1) = 0) = c := by
  by_cases h : c
  · simp [h]
  · simp [h]
theorem w_xowing : SX3_owing E o h Q ↔ Q (h 4 o 5 - h 4 o 6) h := Iff.rfl
/-- findings -/
def fx (h : TH) (k : Nat) : TH := up h 27 0 k (h 27 0 k + 1)
def fm (h : TH) (k : Nat) : TH := up h 57 0 k (h 57 0 k + 1)
theorem f1 : SX6_finding E 1 h Q ↔ Q (-1000000001) (fx h 1) := by
  unfold SX6_finding fx
  rw [show (1 : Int32).toNatClampNeg = 1 by decide, show (-1000000000 : Int32) - 1 = -1000000001 by decide]
  exact and_iff_right (vp_c (by decide) (by decide))
theorem f3 : SX6_finding E 3 h Q ↔ Q (-1000000003) (fx h 3) := by
  unfold SX6_finding fx
  rw [show (3 : Int32).toNatClampNeg = 3 by decide, show (-1000000000 : Int32) - 3 = -1000000003 by decide]
  exact and_iff_right (vp_c (by decide) (by decide))
theorem f4 : SX6_finding E 4 h Q ↔ Q (-1000000004) (fx h 4) := by
  unfold SX6_finding fx
  rw [show (4 : Int32).toNatClampNeg = 4 by decide, show (-1000000000 : Int32) - 4 = -1000000004 by decide]
  exact and_iff_right (vp_c (by decide) (by decide))
theorem f5 : SX6_finding E 5 h Q ↔ Q (-1000000005) (fx h 5) := by
  unfold SX6_finding fx
  rw [show (5 : Int32).toNatClampNeg = 5 by decide, show (-1000000000 : Int32) - 5 = -1000000005 by decide]
  exact and_iff_right (vp_c (by decide) (by decide))
theorem m1 : SX7_finds E (-1000000001) h Q ↔ Q (-1000000001) (fm h 1) := by
  unfold SX7_finds fm
  rw [show (-1000000000 : Int32) - (-1000000001) = 1 by decide, show (1 : Int32).toNatClampNeg = 1 by decide]
  exact and_iff_right (vp_c (by decide) (by decide))
theorem m3 : SX7_finds E (-1000000003) h Q ↔ Q (-1000000003) (fm h 3) := by
  unfold SX7_finds fm
  rw [show (-1000000000 : Int32) - (-1000000003) = 3 by decide, show (3 : Int32).toNatClampNeg = 3 by decide]
  exact and_iff_right (vp_c (by decide) (by decide))
theorem m4 : SX7_finds E (-1000000004) h Q ↔ Q (-1000000004) (fm h 4) := by
  unfold SX7_finds fm
  rw [show (-1000000000 : Int32) - (-1000000004) = 4 by decide, show (4 : Int32).toNatClampNeg = 4 by decide]
  exact and_iff_right (vp_c (by decide) (by decide))
theorem m5 : SX7_finds E (-1000000005) h Q ↔ Q (-1000000005) (fm h 5) := by
  unfold SX7_finds fm
  rw [show (-1000000000 : Int32) - (-1000000005) = 5 by decide, show (5 : Int32).toNatClampNeg = 5 by decide]
  exact and_iff_right (vp_c (by decide) (by decide))
theorem fx_o {k g : Nat} (hne : g ≠ 27) : (fx h k) g = h g := up_o hne
theorem fm_o {k g : Nat} (hne : g ≠ 57) : (fm h k) g = h g := up_o hne
/-- an index within, as a number -/
theorem inn_nI {a : Int32} {C : Nat} (hC : C < 2 ^ 31) : inn a 0 (nI C - 1) ↔ ∃ i, i < C ∧ a = nI i := by
  unfold inn
  constructor
  · rintro ⟨h1, h2⟩
    obtain ⟨j, hj, rfl⟩ := nI_of h1
    refine ⟨j, ?_, rfl⟩
    cases C with
    | zero =>
      exfalso
      apply h2
      rw [show nI 0 - 1 = -1 by decide, Int32.lt_iff_toInt_lt, nI_toInt hj, show (-1 : Int32).toInt = -1 by decide]
      omega
    | succ C =>
      rw [nI_pred] at h2
      rcases Nat.lt_or_ge j (C + 1) with q | q
      · exact q
      · exact absurd (nI_lt (a := C) (b := j) (by omega) hj) h2
  · rintro ⟨i, hi, rfl⟩
    refine ⟨nI_pos (by omega), ?_⟩
    cases C with
    | zero => omega
    | succ C =>
      rw [nI_pred]
      exact nI_nlt (by omega) (by omega)
theorem vin {n N : Nat} (h : n < N) (hN : N ≤ 1000) : vp_in (nI n) N := vp_in_nI h (by omega)
theorem ncl {n : Nat} (h : n ≤ 100000) : (nI n).toNatClampNeg = n := nI_clamp (by omega)
end Pure
