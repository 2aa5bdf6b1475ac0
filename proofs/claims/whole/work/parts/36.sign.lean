section Sign
variable {E : EN} {h hh : TH} {a1 a2 a3 a4 x d w : Int32} {P C W K N A O D : Nat}
def blw (h : TH) (t i : Nat) : Bool := (msk h i).testBit t
def elg (h : TH) (t i : Nat) : Bool := (msk h i).testBit t && decide (¬ h 42 0 3 < h 4 i 4)
def osN (h : TH) (t i : Nat) : Nat := if elg h t i = true then opN h i else 0
theorem lft_zero {o : Nat → Nat} {s : Nat} : ∀ n, (∀ i, i < n → s.testBit i = true ∨ o i = 0) → lft o s n = 0
  | 0, _ => rfl
  | n + 1, hh => by
    have ih := lft_zero (o := o) (s := s) n (fun i hi => hh i (by omega))
    unfold lft
    rcases hh n (by omega) with g | g
    · rw [if_pos g, ih]
    · rw [g, ih]; simp
theorem osN_le (J : HC C D P h) (V : HV W C h) {t i : Nat} (hi : i < C) : osN h t i ≤ 1000000 := by
  obtain ⟨-, o2⟩ := op_ok J V hi
  unfold osN
  by_cases g : elg h t i = true
  · rw [if_pos g]; exact o2
  · rw [if_neg g]; omega
theorem x_openOfSet {s : Nat} {Q : Int32 → TH → Prop} (J : HC C D P h) (V : HV W C h) (hs : s < 1024) (hQ : Q (nI (tkn (opN h) s C)) h) : wi E MX1_openOfSet Q 0 [some (rf 2 0), some (.int (nI s)), none, none] [] h := by
  have c3 := J.2.2.1
  refine sX1_openOfSet_0 ?_
  unfold SX1_openOfSet_0
  refine run_dn C (fun i => wi E MX1_openOfSet Q 4 [some (rf 2 0), some (.int (nI s)), some (.int (nI (tkn (opN h) s i))), some (.int (nI i))] [] h) ?_ ?_
  · refine sX1_openOfSet_4 ?_
    unfold SX1_openOfSet_4
    rw [J.1]
    exact ⟨fun _ => hQ, fun z => absurd (Int32.le_refl _) z⟩
  · intro i hi ih
    refine sX1_openOfSet_4 ?_
    unfold SX1_openOfSet_4
    rw [J.1, ncl (show i ≤ 100000 by omega), nI_1, le_nI (by omega) (by omega), tst_nI hs (by omega), w_open, (op_ok J V hi).1, nI_add]
    refine ⟨fun z => absurd z (by omega), fun _ => ⟨fun g => ?_, fun g => ⟨vin (show i < 10 by omega) (by omega), ?_⟩⟩⟩
    · simp only [tkn, if_neg g] at ih; exact ih
    · simp only [tkn, if_pos g] at ih; exact ih
theorem all_bit {t k : Nat} : (mkS (elg h t) C).testBit k = (decide (k < C) && elg h t k) := mkS_bit _ _ _
theorem x_few {t a : Nat} {Q : Int32 → TH → Prop} (I : InvC P C W K N A O D h) (ht : t < C) (ha : a ≤ 1000000) (hQ : ∀ b, bst (mkS (elg h t) C) (osN h t) C a b → Q (nI b) h) : wi E MX1_fewestSigners Q 0 [some (rf 2 0), some (.int (nI t)), some (.int (nI a)), some (.int (h 9 0 3)), none, none, none, none, none] [] h := by
  obtain ⟨JP0, JD0, JF0, JQ0, JL0, JC0, JV0, JK0, JN0, JA0⟩ := id I
  have c3 := JC0.2.2.1
  have l3 := (JL0 3 (by omega)).1
  have hA : mkS (elg h t) C < 1024 := Nat.lt_of_lt_of_le (mkS_lt _ C) (show 2 ^ C ≤ 2 ^ 10 from Nat.pow_le_pow_right (by omega) c3)
  have hT := tot_le (o := osN h t) C (fun i hi => osN_le JC0 JV0 hi)
  -- the second loop
  have two : ∀ b, (b < 1024 ∧ gdS (mkS (elg h t) C) (osN h t) C a b ∧ (b < 0 ∨ b = mkS (elg h t) C) ∧ ∀ s, s < 0 → gdS (mkS (elg h t) C) (osN h t) C a s → lex b s) →
      wi E MX1_fewestSigners Q 90 [some (rf 2 0), none, some (.int (nI a)), none, some (.int (nI (mkS (elg h t) C))), some (.int (nI (tot (osN h t) C))), some (.int (nI b)), some (.int (nI (pcs b 10))), some (.int (nI 0))] [] h := by
    refine run_dn (mkS (elg h t) C) (fun j => ∀ b, (b < 1024 ∧ gdS (mkS (elg h t) C) (osN h t) C a b ∧ (b < j ∨ b = mkS (elg h t) C) ∧ ∀ s, s < j → gdS (mkS (elg h t) C) (osN h t) C a s → lex b s) →
      wi E MX1_fewestSigners Q 90 [some (rf 2 0), none, some (.int (nI a)), none, some (.int (nI (mkS (elg h t) C))), some (.int (nI (tot (osN h t) C))), some (.int (nI b)), some (.int (nI (pcs b 10))), some (.int (nI j))] [] h) ?_ ?_
    · intro b ⟨b1, b2, b3, b4⟩
      refine sX1_fewestSigners_90 ?_
      unfold SX1_fewestSigners_90
      refine ⟨fun _ => hQ b ⟨b1, b2, fun s hs g => ?_⟩, fun z => absurd (Int32.le_refl _) z⟩
      rcases Nat.lt_or_ge s (mkS (elg h t) C) with q | q
      · exact b4 s q g
      · have e : s = mkS (elg h t) C := Nat.le_antisymm (sbs_le g.1) q
        have p1 := pcs_mono b2.1 10
        have p2 := sbs_le b2.1
        unfold lex
        rw [e]
        omega
    · intro j hj ih b ⟨b1, b2, b3, b4⟩
      have hj2 : j < 1024 := by omega
      -- stays
      have keep : (gdS (mkS (elg h t) C) (osN h t) C a j → pcs b 10 ≤ pcs j 10) → wi E MX1_fewestSigners Q 90 [some (rf 2 0), none, some (.int (nI a)), none, some (.int (nI (mkS (elg h t) C))), some (.int (nI (tot (osN h t) C))), some (.int (nI b)), some (.int (nI (pcs b 10))), some (.int (nI (j + 1)))] [] h := by
        intro hk
        refine ih b ⟨b1, b2, by omega, fun s hs g => ?_⟩
        by_cases e : s = j
        · subst e
          have h1 := hk g
          rcases b3 with q | q
          · unfold lex; omega
          · exfalso
            rw [q] at h1
            exact absurd (pcs_same hj2 hA g.1 h1) (by omega)
        · exact b4 s (by omega) g
      have pb := pcs_le b 10
      have pj := pcs_le j 10
      refine sX1_fewestSigners_90 ?_
      unfold SX1_fewestSigners_90
      rw [nI_1, sub_nI hj2 hA, w_bc hj2, nI_leI (by omega) (by omega), nI_leI (by omega) (by omega)]
      refine ⟨fun z => absurd z (by omega), fun _ => ⟨fun g => keep (fun z => absurd z.1 g), fun g => ⟨fun g2 => keep (fun _ => g2), fun g2 => ?_⟩⟩⟩
      refine x_openOfSet JC0 JV0 hj2 ?_
      have e1 : tkn (opN h) j C = tkn (osN h t) j C := tkn_congr C (fun i hi hb => by
        have := g i hb
        rw [all_bit, Bool.and_eq_true] at this
        unfold osN
        rw [if_pos this.2])
      have e2 := lft_tkn (o := osN h t) (s := j) C
      rw [e1, pk_sub (by omega), show tot (osN h t) C - tkn (osN h t) j C = lft (osN h t) j C by omega, nI_ltI (by omega) (by omega), w_bc hj2]
      refine ⟨fun g3 => keep (fun z => absurd z.2 (by omega)), fun g3 => ?_⟩
      refine ih j ⟨hj2, ⟨g, by omega⟩, by omega, fun s hs gs => ?_⟩
      by_cases e : s = j
      · subst e; unfold lex; omega
      · have := b4 s (by omega) gs
        unfold lex at this ⊢
        omega
  refine sX1_fewestSigners_0 ?_
  unfold SX1_fewestSigners_0
  refine run_dn C (fun i => wi E MX1_fewestSigners Q 9 [some (rf 2 0), some (.int (nI t)), some (.int (nI a)), some (.int (h 9 0 3)), some (.int (nI (mkS (elg h t) i))), some (.int (nI (tot (osN h t) i))), some (.int (nI i)), none, none] [] h) ?_ ?_
  · refine sX1_fewestSigners_9 ?_
    unfold SX1_fewestSigners_9
    rw [JC0.1, w_bc hA]
    refine ⟨fun _ => ?_, fun z => absurd (Int32.le_refl _) z⟩
    refine two _ ⟨hA, ⟨fun k hk => hk, ?_⟩, Or.inr rfl, fun s hs => absurd hs (Nat.not_lt_zero s)⟩
    rw [lft_zero]
    · omega
    · intro i hi
      rw [all_bit]
      by_cases g : elg h t i = true
      · left; simp [hi, g]
      · right; unfold osN; rw [if_neg g]
  · intro i hi ih
    refine sX1_fewestSigners_9 ?_
    unfold SX1_fewestSigners_9
    rw [JC0.1, ncl (show i ≤ 100000 by omega), nI_1, le_nI (by omega) (by omega), w_isBelow JC0 hi (by omega), l3]
    refine ⟨fun z => absurd z (by omega), fun _ => ⟨vin (show i < 10 by omega) (by omega), ?_⟩⟩
    by_cases g : (msk h i).testBit t = true
    · rw [if_pos g]
      refine ⟨fun z => absurd z (by decide), fun _ => ⟨fun g2 => ?_, fun g2 => w_open.mpr ?_⟩⟩
      · have ge : ¬ elg h t i = true := by unfold elg; simp [g2]
        simp only [mkS, tot, osN, if_neg ge, Nat.add_zero] at ih
        rw [l3] at ih
        exact ih
      · have ge : elg h t i = true := by unfold elg; simp [-Int32.not_lt, g, g2]
        simp only [mkS, tot, osN, if_pos ge] at ih
        rw [one_shl (by omega), nI_or, (op_ok JC0 JV0 hi).1, nI_add]
        rw [l3] at ih
        exact ih
    · rw [if_neg g]
      have ge : ¬ elg h t i = true := by unfold elg; simp [g]
      simp only [mkS, tot, osN, if_neg ge, Nat.add_zero] at ih
      rw [l3] at ih
      exact ⟨fun _ => ih, fun z => absurd rfl z⟩
theorem shl_10 {t : Nat} (ht : t ≤ 10) : (1 : Int32) <<< (nI t &&& 31) = nI (2 ^ t) := by
  rcases Nat.lt_or_ge t 10 with q | q
  · exact one_shl q
  · have : t = 10 := by omega
    subst this
    decide
theorem elg_ag {t i : Nat} (a : ag h hh) : elg hh t i = elg h t i := by
  unfold elg msk
  rw [a.1 4 rfl, a.1 42 rfl]
theorem blw_ag {t i : Nat} (a : ag h hh) : blw hh t i = blw h t i := by
  unfold blw msk
  rw [a.1 4 rfl]
theorem opN_ag {i : Nat} (a : ag h hh) : opN hh i = opN h i := by
  unfold opN
  rw [a.1 4 rfl]
/-- the sets, one after another -/
theorem m_sets {B a : Nat} {o : Nat → Nat} {Q : Int32 → TH → Prop} (hC : h 28 0 1 = nI C) (c3 : C ≤ 10) (hB : B < 2 ^ C) (ha : a ≤ 1000000) (ho : ∀ i, i < C → h 62 0 i = nI (o i) ∧ o i ≤ 1000000 ∧ (B.testBit i = true ∨ o i = 0))
    (hQ : ∀ b, bst B o C a b → Q (if a3 = 0 then nI b else nI (pcs b 10)) h) : wi E MX7_sign Q 142 [some (rf 28 0), none, some (.int (nI a)), some (.int a3), some (.int (nI B)), some (.int (-1)), some (.int (nI 0)), none, none] [] h := by
  have p2 : 2 ^ C ≤ 2 ^ 10 := Nat.pow_le_pow_right (by omega) c3
  have hB2 : B < 1024 := by omega
  have hT := tot_le (o := o) C (fun i hi => (ho i hi).2.1)
  have main : ∀ b : Int32, ((b = -1 ∧ ∀ s, s < 0 → ¬ gdS B o C a s) ∨ ∃ m, m < 1024 ∧ b = nI m ∧ m < 0 ∧ gdS B o C a m ∧ ∀ s, s < 0 → gdS B o C a s → lex m s) →
      wi E MX7_sign Q 142 [some (rf 28 0), none, some (.int (nI a)), some (.int a3), some (.int (nI B)), some (.int b), some (.int (nI 0)), none, none] [] h := by
    refine run_dn (2 ^ C) (fun j => ∀ b : Int32, ((b = -1 ∧ ∀ s, s < j → ¬ gdS B o C a s) ∨ ∃ m, m < 1024 ∧ b = nI m ∧ m < j ∧ gdS B o C a m ∧ ∀ s, s < j → gdS B o C a s → lex m s) →
      wi E MX7_sign Q 142 [some (rf 28 0), none, some (.int (nI a)), some (.int a3), some (.int (nI B)), some (.int b), some (.int (nI j)), none, none] [] h) ?_ ?_
    · intro b hb
      refine sX7_sign_142 ?_
      unfold SX7_sign_142
      rw [hC, shl_10 c3]
      refine ⟨fun _ => ?_, fun z => absurd (Int32.le_refl _) z⟩
      rcases hb with ⟨b1, b2⟩ | ⟨m, m1, m2, m3, m4, m5⟩
      · refine absurd ⟨fun k hk => hk, ?_⟩ (b2 B hB)
        rw [lft_zero C (fun i hi => (ho i hi).2.2)]
        omega
      · have hb := hQ m ⟨m1, m4, fun s hs g => m5 s (Nat.lt_of_le_of_lt (sbs_le g.1) hB) g⟩
        rw [m2]
        refine ⟨fun g => ?_, fun g => ?_⟩
        · rw [if_neg g] at hb
          exact m_bits m1 hb
        · rw [if_pos g] at hb
          exact hb
    · intro j hj ih b hb
      have hj2 : j < 1024 := by omega
      refine sX7_sign_142 ?_
      unfold SX7_sign_142
      rw [hC, shl_10 c3, nI_leI (by omega) (by omega)]
      refine ⟨fun z => absurd z (by omega), fun _ => ?_⟩
      refine run_dn C (fun k => wi E MX7_sign Q 159 [some (rf 28 0), none, some (.int (nI a)), some (.int a3), some (.int (nI B)), some (.int b), some (.int (nI j)), some (.int (nI (lft o j k))), some (.int (nI k))] [] h) ?_ ?_
      · have lt := lft_tkn (o := o) (s := j) C
        have pj := pcs_le j 10
        refine sX7_sign_159 ?_
        unfold SX7_sign_159
        rw [hC, nI_1, sub_nI hj2 hB2, nI_ltI (by omega) (by omega)]
        refine ⟨fun _ => ⟨fun g => ?_, fun g => ⟨fun g2 => ?_, fun g2 => ⟨fun g3 => ?_, fun g3 => ?_⟩⟩⟩, fun z => absurd (Int32.le_refl _) z⟩
        · refine ih b (hb.imp (fun q => ⟨q.1, fun s hs gs => ?_⟩) (fun ⟨m, m1, m2, m3, m4, m5⟩ => ⟨m, m1, m2, by omega, m4, fun s hs gs => ?_⟩))
          · by_cases e : s = j
            · subst e; exact g gs.1
            · exact q.2 s (by omega) gs
          · by_cases e : s = j
            · subst e; exact absurd gs.1 g
            · exact m5 s (by omega) gs
        · refine ih b (hb.imp (fun q => ⟨q.1, fun s hs gs => ?_⟩) (fun ⟨m, m1, m2, m3, m4, m5⟩ => ⟨m, m1, m2, by omega, m4, fun s hs gs => ?_⟩))
          · by_cases e : s = j
            · subst e; have := gs.2; omega
            · exact q.2 s (by omega) gs
          · by_cases e : s = j
            · subst e; have := gs.2; omega
            · exact m5 s (by omega) gs
        · refine ih (nI j) (Or.inr ⟨j, hj2, rfl, by omega, ⟨g, by omega⟩, fun s hs gs => ?_⟩)
          rcases hb with ⟨b1, b2⟩ | ⟨m, m1, m2, m3, m4, m5⟩
          · by_cases e : s = j
            · subst e; unfold lex; omega
            · exact absurd gs (b2 s (by omega))
          · rw [m2] at g3
            exact absurd g3 (nI_m1 (by omega))
        · rcases hb with ⟨b1, b2⟩ | ⟨m, m1, m2, m3, m4, m5⟩
          · exact absurd b1 g3
          · rw [m2]
            have pm := pcs_le m 10
            refine m_bits hj2 (m_bits m1 ?_)
            rw [nI_leI (by omega) (by omega)]
            refine ⟨fun g4 => ih _ (Or.inr ⟨m, m1, rfl, by omega, m4, fun s hs gs => ?_⟩), fun g4 => ih _ (Or.inr ⟨j, hj2, rfl, by omega, ⟨g, by omega⟩, fun s hs gs => ?_⟩)⟩
            · by_cases e : s = j
              · subst e; unfold lex; omega
              · exact m5 s (by omega) gs
            · by_cases e : s = j
              · subst e; unfold lex; omega
              · have := m5 s (by omega) gs
                unfold lex at this ⊢
                omega
      · intro k hk ih2
        obtain ⟨o1, o2, o3⟩ := ho k hk
        refine sX7_sign_159 ?_
        unfold SX7_sign_159
        rw [hC, le_nI (by omega) (by omega), bit_nI hj2 (by omega), ncl (show k ≤ 100000 by omega), o1, Int32.add_zero, nI_1 j, nI_1 k, nI_add]
        refine ⟨fun z => absurd z (by omega), fun _ => ?_⟩
        by_cases g : j.testBit k = true
        · rw [if_pos g]
          simp only [lft, if_pos g] at ih2
          exact ⟨fun _ => ih2, fun z => absurd z (by decide)⟩
        · rw [if_neg g]
          simp only [lft, if_neg g] at ih2
          exact ⟨fun z => absurd rfl z, fun _ => ⟨vin (show k < 10 by omega) (by omega), ih2⟩⟩
  exact main (-1) (Or.inl ⟨rfl, fun s hs => absurd hs (Nat.not_lt_zero s)⟩)
theorem m_sign {t a : Nat} {Q : Int32 → TH → Prop} (I : InvC P C W K N A O D h) (ht : t < C) (ha : a ≤ 1000000)
    (hQ : ∀ hh b, ag h hh → bst (mkS (blw h t) C) (osN h t) C a b → Q (if a3 = 0 then nI b else nI (pcs b 10)) hh) : wi E MX7_sign Q 56 [some (rf 28 0), some (.int (nI t)), some (.int (nI a)), some (.int a3), some (.int 0), some (.int 0), none, none, none] [] h := by
  obtain ⟨JP0, JD0, JF0, JQ0, JL0, JC0, JV0, JK0, JN0, JA0⟩ := id I
  have c3 := JC0.2.2.1
  have main : ∀ hh, ag h hh ∧ (∀ i, i < 0 → hh 62 0 i = nI (osN h t i)) → wi E MX7_sign Q 56 [some (rf 28 0), some (.int (nI t)), some (.int (nI a)), some (.int a3), some (.int (nI (mkS (blw h t) 0))), some (.int (nI 0)), none, none, none] [] hh := by
    refine run_dn C (fun k => ∀ hh, ag h hh ∧ (∀ i, i < k → hh 62 0 i = nI (osN h t i)) → wi E MX7_sign Q 56 [some (rf 28 0), some (.int (nI t)), some (.int (nI a)), some (.int a3), some (.int (nI (mkS (blw h t) k))), some (.int (nI k)), none, none, none] [] hh) ?_ ?_
    · intro hh ⟨a1, a2⟩
      have e1 : hh 28 0 1 = nI C := (a1.2.2 1 (by decide)).trans JC0.2.1
      refine sX7_sign_56 ?_
      unfold SX7_sign_56
      rw [e1]
      refine ⟨fun _ => ?_, fun z => absurd (Int32.le_refl _) z⟩
      refine m_sets e1 c3 (mkS_lt _ C) ha (fun i hi => ⟨a2 i hi, osN_le JC0 JV0 hi, ?_⟩) (fun b hb => hQ hh b a1 hb)
      rw [mkS_bit]
      by_cases g : elg h t i = true
      · left
        unfold elg at g
        rw [Bool.and_eq_true] at g
        unfold blw
        simp [hi, g.1]
      · right; unfold osN; rw [if_neg g]
    · intro k hk ih hh ⟨a1, a2⟩
      obtain ⟨JPh, JDh, JFh, JQh, JLh, JCh, JVh, JKh, JNh, JAh⟩ := inv_ag I a1
      have v1 := vin (show k < 10 by omega) (by omega)
      have v2 := ncl (show k ≤ 100000 by omega)
      have e1 : hh 28 0 1 = nI C := (a1.2.2 1 (by decide)).trans JC0.2.1
      have em : msk hh k = msk h k := by unfold msk; rw [a1.1 4 rfl]
      -- the next turn
      have nx : ∀ v : Int32, v = nI (osN h t k) → wi E MX7_sign Q 56 [some (rf 28 0), some (.int (nI t)), some (.int (nI a)), some (.int a3), some (.int (nI (mkS (blw h t) (k + 1)))), some (.int (nI (k + 1))), none, none, none] [] (up hh 62 0 k v) := by
        intro v ev
        refine ih _ ⟨ag_up a1 rfl (by decide) (by decide), fun i hi => ?_⟩
        rw [up_a]
        by_cases e : i = k
        · rw [if_pos e, e, ev]
        · rw [if_neg e]; exact a2 i (by omega)
      refine sX7_sign_56 ?_
      unfold SX7_sign_56
      rw [e1, v2, nI_1, le_nI (by omega) (by omega)]
      refine ⟨fun z => absurd z (by omega), fun _ => m_isBelow JCh hk (by omega) ?_⟩
      rw [em]
      by_cases g : (msk h k).testBit t = true
      · have eb : mkS (blw h t) (k + 1) = mkS (blw h t) k ||| 2 ^ k := by
          show (if blw h t k = true then _ else _) = _
          unfold blw; rw [if_pos g]
        rw [if_pos g, one_shl (by omega), nI_or, ← eb]
        refine ⟨fun z => absurd z (by decide), fun _ => m_isBelow JCh hk (by omega) ?_⟩
        rw [em, if_pos g]
        refine ⟨fun z => absurd z (by decide), fun _ => m_degree JCh hk ?_⟩
        rw [a1.1 42 rfl, a1.1 4 rfl]
        refine ⟨fun g2 => ⟨v1, nx 0 ?_⟩, fun g2 => m_open JCh JVh hk ⟨v1, nx _ ?_⟩⟩
        · have ge : ¬ elg h t k = true := by unfold elg; simp [g2]
          unfold osN; rw [if_neg ge]; rfl
        · have ge : elg h t k = true := by unfold elg; simp [-Int32.not_lt, g, g2]
          rw [(op_ok JCh JVh hk).1, opN_ag a1]
          unfold osN; rw [if_pos ge]
      · have eb : mkS (blw h t) (k + 1) = mkS (blw h t) k := by
          show (if blw h t k = true then _ else _) = _
          unfold blw; rw [if_neg g]
        rw [if_neg g, Int32.or_zero, ← eb]
        refine ⟨fun _ => m_isBelow JCh hk (by omega) ?_, fun z => absurd rfl z⟩
        rw [em, if_neg g]
        refine ⟨fun _ => ⟨v1, nx 0 ?_⟩, fun z => absurd rfl z⟩
        have ge : ¬ elg h t k = true := by unfold elg; simp [g]
        unfold osN; rw [if_neg ge]; rfl
  exact main h ⟨ag_rf, fun i hi => absurd hi (Nat.not_lt_zero i)⟩
theorem bst_el {t a b : Nat} (h1 : bst (mkS (elg h t) C) (osN h t) C a b) : bst (mkS (blw h t) C) (osN h t) C a b := by
  refine bst_part (fun k hk => ?_) (fun i hi g => ?_) h1
  · rw [mkS_bit, Bool.and_eq_true] at hk ⊢
    refine ⟨hk.1, ?_⟩
    have := hk.2
    unfold elg at this
    rw [Bool.and_eq_true] at this
    exact this.1
  · rw [mkS_bit] at g
    unfold osN
    rw [if_neg]
    intro z
    rw [z] at g
    simp at g
    omega
theorem op_sign (I : Inv h) : wi E MX6_sign (fun r1 h1 => wi E MX7_sign (fun r2 h2 => Same r1 r2 h2) 0 [some (rf 28 0), some (.int a1), some (.int a2), some (.int a3), none, none, none, none, none] [] h1) 0 [some (rf 0 0), some (.int a1), some (.int a2), some (.int a3), none] [] h := by
  obtain ⟨P, C, W, K, N, A, O, D, I⟩ := id I
  obtain ⟨JP0, JD0, JF0, JQ0, JL0, JC0, JV0, JK0, JN0, JA0⟩ := id I
  obtain ⟨c1, c2, c3, c4, c5, c6⟩ := id JC0
  refine sX6_sign ?_
  by_cases g1 : inn a1 0 (nI C - 1)
  · obtain ⟨t, ht, rfl⟩ := (inn_nI (by omega)).mp g1
    have v1 := vin (show t < 10 by omega) (by omega)
    have v2 := ncl (show t ≤ 100000 by omega)
    by_cases g2 : inn a2 0 1000000
    · obtain ⟨a, -, ha, rfl⟩ := inn_of (l := 0) (m := 1000000) (by omega) (by omega) g2
      by_cases g3 : inn a3 0 1
      · by_cases g4 : h 4 t 4 = 1
        · simp only [SX6_sign, w_bhas, w_within, c1, v1, v2, if_pos g1, if_pos g2, if_pos g3]
          refine ⟨fun z => absurd z (by decide), fun _ => ⟨fun z => absurd z (by decide), fun _ => ⟨fun _ => ⟨trivial, fun _ => ?_, fun z => absurd g4 z⟩, fun z => absurd z (by decide)⟩⟩⟩
          refine x_few I ht ha (fun b hb => ?_)
          have hm : wi E MX7_sign (fun r2 h2 => Same (if a3 = 0 then nI b else nI (pcs b 10)) r2 h2) 0 [some (rf 28 0), some (.int (nI t)), some (.int (nI a)), some (.int a3), none, none, none, none, none] [] h := by
            refine sX7_sign_0 ?_
            simp only [SX7_sign_0, w_isContract, w_isIn, c2, if_pos g1, if_pos g2, if_pos g3]
            refine ⟨fun z => absurd z (by decide), fun _ => ⟨fun z => absurd z (by decide), fun _ => ⟨fun _ => m_degree JC0 ht ⟨fun _ => ?_, fun z => absurd g4 z⟩, fun z => absurd z (by decide)⟩⟩⟩
            refine m_sign I ht ha (fun hh b' ah hb' => ⟨?_, P, C, W, K, N, A, O, D, inv_ag I ah⟩)
            rw [bst_one (bst_el hb) hb']
          rw [w_bc hb.1]
          refine ⟨fun g => ?_, fun g => ?_⟩
          · rw [if_neg g] at hm; exact hm
          · rw [if_pos g] at hm; exact hm
        · simp only [SX6_sign, w_bhas, w_within, c1, v1, v2, if_pos g1, if_pos g2, if_pos g3]
          refine ⟨fun z => absurd z (by decide), fun _ => ⟨fun z => absurd z (by decide), fun _ => ⟨fun _ => ⟨trivial, fun z => absurd z g4, fun _ => f3.mpr ?_⟩, fun z => absurd z (by decide)⟩⟩⟩
          refine sX7_sign_0 ?_
          simp only [SX7_sign_0, w_isContract, w_isIn, up_o, up_k, up_s, fx_o, fm_o, ne_eq, Nat.reduceEqDiff, not_false_eq_true, c2, if_pos g1, if_pos g2, if_pos g3]
          have JF : HC C D P (fx h 3) := by
            have := JC0
            simp only [HC, up_o, up_k, up_s, fx_o, fm_o, ne_eq, Nat.reduceEqDiff, not_false_eq_true]
            exact this
          refine ⟨fun z => absurd z (by decide), fun _ => ⟨fun z => absurd z (by decide), fun _ => ⟨fun _ => m_degree JF ht ?_, fun z => absurd z (by decide)⟩⟩⟩
          simp only [up_o, up_k, up_s, fx_o, fm_o, ne_eq, Nat.reduceEqDiff, not_false_eq_true]
          exact ⟨fun z => absurd z g4, fun _ => m3.mpr (fin_same I)⟩
      · simp only [SX6_sign, w_bhas, w_within, c1, v1, v2, if_pos g1, if_pos g2, if_neg g3]
        refine ⟨fun z => absurd z (by decide), fun _ => ⟨fun z => absurd z (by decide), fun _ => ⟨fun z => (z trivial).elim, fun _ => f1.mpr ?_⟩⟩⟩
        refine sX7_sign_0 ?_
        simp only [SX7_sign_0, w_isContract, w_isIn, up_o, up_k, up_s, fx_o, fm_o, ne_eq, Nat.reduceEqDiff, not_false_eq_true, c2, if_pos g1, if_pos g2, if_neg g3]
        exact ⟨fun z => absurd z (by decide), fun _ => ⟨fun z => absurd z (by decide), fun _ => ⟨fun z => (z trivial).elim, fun _ => m1.mpr (fin_same I)⟩⟩⟩
    · simp only [SX6_sign, w_bhas, w_within, c1, v1, v2, if_pos g1, if_neg g2]
      refine ⟨fun z => absurd z (by decide), fun _ => ⟨fun _ => f1.mpr ?_, fun z => (z trivial).elim⟩⟩
      refine sX7_sign_0 ?_
      simp only [SX7_sign_0, w_isContract, w_isIn, up_o, up_k, up_s, fx_o, fm_o, ne_eq, Nat.reduceEqDiff, not_false_eq_true, c2, if_pos g1, if_neg g2]
      exact ⟨fun z => absurd z (by decide), fun _ => ⟨fun _ => m1.mpr (fin_same I), fun z => (z trivial).elim⟩⟩
  · simp only [SX6_sign, w_bhas, c1, if_neg g1]
    refine ⟨fun _ => f1.mpr ?_, fun z => (z trivial).elim⟩
    refine sX7_sign_0 ?_
    simp only [SX7_sign_0, w_isContract, up_o, up_k, up_s, fx_o, fm_o, ne_eq, Nat.reduceEqDiff, not_false_eq_true, c2, if_neg g1]
    exact ⟨fun _ => m1.mpr (fin_same I), fun z => (z trivial).elim⟩
end Sign
