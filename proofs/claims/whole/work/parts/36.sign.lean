section Sign
variable {E : EN} {h hh : TH} {a1 a2 a3 a4 x d w : Int32} {P C W K N A O D : Nat}
def blw (h : TH) (t i : Nat) : Bool := (msk h i).testBit t
def elg (h : TH) (t i : Nat) : Bool := (msk h i).testBit t && decide (¬ h 42 0 3 < h 4 i 4)
def osN (h : TH) (t i : Nat) : Nat := if elg h t i = true then opN h i else 0
theorem lft_zero {o : Nat → Nat} {s : Nat} : ∀ n, (∀ i, i < n → s.testBit i = true ∨ o i = 0) → lft o s n = 0
  | 0, _ => rfl
  | n + 1, hh => by
    have ih := lft_zero (o := o) (s := s) n (fun i hi => hh i (by omega))
    unfold lft
    rcases hh n (by omega) with g | g
    · rw [if_pos g, ih]
    · rw [g, ih]; simp
theorem osN_le (J : HC C D P h) (V : HV W C h) {t i : Nat} (hi : i < C) : osN h t i ≤ 1000000 := by
  obtain ⟨-, o2⟩ := op_ok J V hi
  unfold osN
  by_cases g : elg h t i = true
  · rw [if_pos g]; exact o2
  · rw [if_neg g]; omega
theorem x_openOfSet {s : Nat} {Q : Int32 → TH → Prop} (J : HC C D P h) (V : HV W C h) (hs : s < 1024) (hQ : Q (nI (tkn (opN h) s C)) h) : wi E MX1_openOfSet Q 0 [some (rf 2 0), some (.int (nI s)), none, none] [] h := by
  have c3 := J.2.2.1
  refine sX1_openOfSet_0 ?_
  unfold SX1_openOfSet_0
  refine run_dn C (fun i => wi E MX1_openOfSet Q 4 [some (rf 2 0), some (.int (nI s)), some (.int (nI (tkn (opN h) s i))), some (.int (nI i))] [] h) ?_ ?_
  · refine sX1_openOfSet_4 ?_
    unfold SX1_openOfSet_4
    rw [J.1]
    exact ⟨fun _ => hQ, fun z => absurd (Int32.le_refl _) z⟩
  · intro i hi ih
    refine sX1_openOfSet_4 ?_
    unfold SX1_openOfSet_4
    rw [J.1, ncl (show i ≤ 100000 by omega), nI_1, le_nI (by omega) (by omega), tst_nI hs (by omega), w_open, (op_ok J V hi).1, nI_add]
    refine ⟨fun z => absurd z (by omega), fun _ => ⟨fun g => ?_, fun g => ⟨vin (show i < 10 by omega) (by omega), ?_⟩⟩⟩
    · simp only [tkn, if_neg g] at ih; exact ih
    · simp only [tkn, if_pos g] at ih; exact ih
theorem all_bit {t k : Nat} : (mkS (elg h t) C).testBit k = (decide (k < C) && elg h t k) := mkS_bit _ _ _
theorem x_few {t a : Nat} {Q : Int32 → TH → Prop} (I : InvC P C W K N A O D h) (ht : t < C) (ha : a ≤ 1000000) (hQ : ∀ b, bst (mkS (elg h t) C) (osN h t) C a b → Q (nI b) h) : wi E MX1_fewestSigners Q 0 [some (rf 2 0), some (.int (nI t)), some (.int (nI a)), some (.int (h 9 0 3)), none, none, none, none, none] [] h := by
  obtain ⟨JP0, JD0, JF0, JQ0, JL0, JC0, JV0, JK0, JN0, JA0⟩ := id I
  have c3 := JC0.2.2.1
  have l3 := (JL0 3 (by omega)).1
  have hA : mkS (elg h t) C < 1024 := Nat.lt_of_lt_of_le (mkS_lt _ C) (show 2 ^ C ≤ 2 ^ 10 from Nat.pow_le_pow_right (by omega) c3)
  have hT := tot_le (o := osN h t) C (fun i hi => osN_le JC0 JV0 hi)
  -- the second loop
  have two : ∀ b, (b < 1024 ∧ gdS (mkS (elg h t) C) (osN h t) C a b ∧ (b < 0 ∨ b = mkS (elg h t) C) ∧ ∀ s, s < 0 → gdS (mkS (elg h t) C) (osN h t) C a s → lex b s) →
      wi E MX1_fewestSigners Q 90 [some (rf 2 0), none, some (.int (nI a)), none, some (.int (nI (mkS (elg h t) C))), some (.int (nI (tot (osN h t) C))), some (.int (nI b)), some (.int (nI (pcs b 10))), some (.int (nI 0))] [] h := by
    refine run_dn (mkS (elg h t) C) (fun j => ∀ b, (b < 1024 ∧ gdS (mkS (elg h t) C) (osN h t) C a b ∧ (b < j ∨ b = mkS (elg h t) C) ∧ ∀ s, s < j → gdS (mkS (elg h t) C) (osN h t) C a s → lex b s) →
      wi E MX1_fewestSigners Q 90 [some (rf 2 0), none, some (.int (nI a)), none, some (.int (nI (mkS (elg h t) C))), some (.int (nI (tot (osN h t) C))), some (.int (nI b)), some (.int (nI (pcs b 10))), some (.int (nI j))] [] h) ?_ ?_
    · intro b ⟨b1, b2, b3, b4⟩
      refine sX1_fewestSigners_90 ?_
      unfold SX1_fewestSigners_90
      refine ⟨fun _ => hQ b ⟨b1, b2, fun s hs g => ?_⟩, fun z => absurd (Int32.le_refl _) z⟩
      rcases Nat.lt_or_ge s (mkS (elg h t) C) with q | q
      · exact b4 s q g
      · have e : s = mkS (elg h t) C := Nat.le_antisymm (sbs_le g.1) q
        have p1 := pcs_mono b2.1 10
        have p2 := sbs_le b2.1
        unfold lex
        rw [e]
        omega
    · intro j hj ih b ⟨b1, b2, b3, b4⟩
      have hj2 : j < 1024 := by omega
      -- stays
      have keep : (gdS (mkS (elg h t) C) (osN h t) C a j → pcs b 10 ≤ pcs j 10) → wi E MX1_fewestSigners Q 90 [some (rf 2 0), none, some (.int (nI a)), none, some (.int (nI (mkS (elg h t) C))), some (.int (nI (tot (osN h t) C))), some (.int (nI b)), some (.int (nI (pcs b 10))), some (.int (nI (j + 1)))] [] h := by
        intro hk
        refine ih b ⟨b1, b2, by omega, fun s hs g => ?_⟩
        by_cases e : s = j
        · subst e
          have h1 := hk g
          rcases b3 with q | q
          · unfold lex; omega
          · exfalso
            rw [q] at h1
            exact absurd (pcs_same hj2 hA g.1 h1) (by omega)
        · exact b4 s (by omega) g
      have pb := pcs_le b 10
      have pj := pcs_le j 10
      refine sX1_fewestSigners_90 ?_
      unfold SX1_fewestSigners_90
      rw [nI_1, sub_nI hj2 hA, w_bc hj2, nI_leI (by omega) (by omega), nI_leI (by omega) (by omega)]
      refine ⟨fun z => absurd z (by omega), fun _ => ⟨fun g => keep (fun z => absurd z.1 g), fun g => ⟨fun g2 => keep (fun _ => g2), fun g2 => ?_⟩⟩⟩
      refine x_openOfSet JC0 JV0 hj2 ?_
      have e1 : tkn (opN h) j C = tkn (osN h t) j C := tkn_congr C (fun i hi hb => by
        have := g i hb
        rw [all_bit, Bool.and_eq_true] at this
        unfold osN
        rw [if_pos this.2])
      have e2 := lft_tkn (o := osN h t) (s := j) C
      rw [e1, pk_sub (by omega), show tot (osN h t) C - tkn (osN h t) j C = lft (osN h t) j C by omega, nI_ltI (by omega) (by omega), w_bc hj2]
      refine ⟨fun g3 => keep (fun z => absurd z.2 (by omega)), fun g3 => ?_⟩
      refine ih j ⟨hj2, ⟨g, by omega⟩, by omega, fun s hs gs => ?_⟩
      by_cases e : s = j
      · subst e; unfold lex; omega
      · have := b4 s (by omega) gs
        unfold lex at this ⊢
        omega
  refine sX1_fewestSigners_0 ?_
  unfold SX1_fewestSigners_0
  refine run_dn C (fun i => wi E MX1_fewestSigners Q 9 [some (rf 2 0), some (.int (nI t)), some (.int (nI a)), some (.int (h 9 0 3)), some (.int (nI (mkS (elg h t) i))), some (.int (nI (tot (osN h t) i))), some (.int (nI i)), none, none] [] h) ?_ ?_
  · refine sX1_fewestSigners_9 ?_
    unfold SX1_fewestSigners_9
    rw [JC0.1, w_bc hA]
    refine ⟨fun _ => ?_, fun z => absurd (Int32.le_refl _) z⟩
    refine two _ ⟨hA, ⟨fun k hk => hk, ?_⟩, Or.inr rfl, fun s hs => absurd hs (Nat.not_lt_zero s)⟩
    rw [lft_zero]
    · omega
    · intro i hi
      rw [all_bit]
      by_cases g : elg h t i = true
      · left; simp [hi, g]
      · right; unfold osN; rw [if_neg g]
  · intro i hi ih
    refine sX1_fewestSigners_9 ?_
    unfold SX1_fewestSigners_9
    rw [JC0.1, ncl (show i ≤ 100000 by omega), nI_1, le_nI (by omega) (by omega), w_isBelow JC0 hi (by omega), l3]
    refine ⟨fun z => absurd z (by omega), fun _ => ⟨vin (show i < 10 by omega) (by omega), ?_⟩⟩
    by_cases g : (msk h i).testBit t = true
    · rw [if_pos g]
      refine ⟨fun z => absurd z (by decide), fun _ => ⟨fun g2 => ?_, fun g2 => w_open.mpr ?_⟩⟩
      · have ge : ¬ elg h t i = true := by unfold elg; simp [g2]
        simp only [mkS, tot, osN, if_neg ge, Nat.add_zero] at ih
        rw [l3] at ih
        exact ih
      · have ge : elg h t i = true := by unfold elg; simp [-Int32.not_lt, g, g2]
        simp only [mkS, tot, osN, if_pos ge] at ih
        rw [one_shl (by omega), nI_or, (op_ok JC0 JV0 hi).1, nI_add]
        rw [l3] at ih
        exact ih
    · rw [if_neg g]
      have ge : ¬ elg h t i = true := by unfold elg; simp [g]
      simp only [mkS, tot, osN, if_neg ge, Nat.add_zero] at ih
      rw [l3] at ih
      exact ⟨fun _ => ih, fun z => absurd rfl z⟩
theorem shl_10 {t : Nat} (ht : t ≤ 10) : (1 : Int32) <<< (nI t &&& 31) = nI (2 ^ t) := by
  rcases Nat.lt_or_ge t 10 with q | q
  · exact one_shl q
  · have : t = 10 := by omega
    subst this
    decide
end Sign
