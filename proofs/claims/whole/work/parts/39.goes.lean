section Goes
variable {E : EN} {h hh : TH} {a1 a2 a3 a4 x d w p wh : Int32} {P C W K N A O D : Nat} {ok : Nat → Bool} {l : Nat → Nat} {r s n : Nat}
def ag63 (h hh : TH) : Prop := ∀ g, g ≠ 63 → hh g = h g
theorem ag63_up {i : Nat} {v : Int32} (a : ag63 h hh) : ag63 h (up hh 63 0 i v) := fun g hg => by rw [up_o hg]; exact a g hg
theorem ag63_ag (a : ag63 h hh) : ag h hh := ⟨fun g hg => a g (fun z => by rw [z] at hg; exact absurd hg (by decide)), by rw [a 15 (by decide)], fun k _ => by rw [a 28 (by decide)]⟩
/-- which INS an OUT's pass means -/
abbrev mnt (h : TH) (p wh : Int32) (i : Nat) : Prop := h 50 0 i = p ∧ (2 ≤ wh ∨ (¬ 2 ≤ wh ∧ ¬ h 51 0 i = -1 ∧ ¬ wh = 0) ∨ (¬ 2 ≤ wh ∧ h 51 0 i = -1 ∧ wh = 0))
theorem m_goesF {Q : Int32 → TH → Prop} (hn : n ≤ 40) (hok : ∀ i, i < n → (ok i = true ↔ mnt h p wh i)) (hl : ∀ i, i < n → h 63 0 i = nI (l i) ∧ l i ≤ 100000) (hs : s ≤ 1000000)
    (hQ : ∀ hh, ag63 h hh → (∀ i, i < n → hh 63 0 i = nI (fwd ok l s i)) → Q (nI (s - sT ok l n)) hh) : wi E MX7_goes Q 0 [some (rf 28 0), some (.int p), some (.int (nI n)), some (.int (nI s)), some (.int 0), some (.int wh), none, none, none, none] [] h := by
  refine sX7_goes_0 ?_
  unfold SX7_goes_0
  have main : ∀ hh, ag63 h hh ∧ (∀ i, i < n → hh 63 0 i = nI (if i < 0 then fwd ok l s i else l i)) → wi E MX7_goes Q 6 [some (rf 28 0), some (.int p), some (.int (nI n)), none, some (.int 0), some (.int wh), some (.int (nI (s - sT ok l 0))), some (.int (nI 0)), none, none] [] hh := by
    refine run_dn n (fun k => ∀ hh, ag63 h hh ∧ (∀ i, i < n → hh 63 0 i = nI (if i < k then fwd ok l s i else l i)) → wi E MX7_goes Q 6 [some (rf 28 0), some (.int p), some (.int (nI n)), none, some (.int 0), some (.int wh), some (.int (nI (s - sT ok l k))), some (.int (nI k)), none, none] [] hh) ?_ ?_
    · intro hh ⟨b1, b2⟩
      refine sX7_goes_6 ?_
      unfold SX7_goes_6
      refine ⟨fun _ => hQ hh b1 (fun i hi => ?_), fun z => absurd (Int32.le_refl _) z⟩
      rw [b2 i hi, if_pos hi]
    · intro k hk ih hh ⟨b1, b2⟩
      have e63 : hh 63 0 k = nI (l k) := by rw [b2 k hk, if_neg (Nat.lt_irrefl k)]
      have lk := (hl k hk).2
      have no : ¬ mnt h p wh k → wi E MX7_goes Q 6 [some (rf 28 0), some (.int p), some (.int (nI n)), none, some (.int 0), some (.int wh), some (.int (nI (s - sT ok l k))), some (.int (nI (k + 1))), none, none] [] hh := by
        intro gm
        have gk : ¬ ok k = true := fun z => gm ((hok k hk).mp z)
        have e1 := sT_n (l := l) gk
        rw [← e1]
        refine ih _ ⟨b1, fun i hi => ?_⟩
        rw [b2 i hi]
        by_cases e : i = k
        · rw [if_neg (by omega), if_pos (by omega), e]
          unfold fwd
          rw [if_neg gk]
        · by_cases e2 : i < k
          · rw [if_pos e2, if_pos (by omega)]
          · rw [if_neg e2, if_neg (by omega)]
      have nx : mnt h p wh k → ∀ v : Int32, v = nI (l k - (s - sT ok l k)) → ∀ y : Int32, y = nI (s - sT ok l k - l k) → wi E MX7_goes Q 6 [some (rf 28 0), some (.int p), some (.int (nI n)), none, some (.int 0), some (.int wh), some (.int y), some (.int (nI (k + 1))), none, none] [] (up hh 63 0 k v) := by
        intro gm v ev y ey
        have gk := (hok k hk).mpr gm
        have e1 := sT_s (l := l) gk
        rw [ey, show s - sT ok l k - l k = s - sT ok l (k + 1) by omega]
        refine ih _ ⟨ag63_up b1, fun i hi => ?_⟩
        rw [up_a]
        by_cases e : i = k
        · rw [if_pos e, if_pos (by omega), e, ev]
          unfold fwd
          rw [if_pos gk]
        · rw [if_neg e, b2 i hi]
          by_cases e2 : i < k
          · rw [if_pos e2, if_pos (by omega)]
          · rw [if_neg e2, if_neg (by omega)]
      have yes : mnt h p wh k → ((nI (s - sT ok l k) ≤ nI (l k) → wi E MX7_goes Q 6 [some (rf 28 0), some (.int p), some (.int (nI n)), none, some (.int 0), some (.int wh), some (.int (nI (s - sT ok l k) - nI (s - sT ok l k))), some (.int (nI (k + 1))), none, none] [] (up hh 63 0 k (nI (l k) - nI (s - sT ok l k)))) ∧ (¬ nI (s - sT ok l k) ≤ nI (l k) → wi E MX7_goes Q 6 [some (rf 28 0), some (.int p), some (.int (nI n)), none, some (.int 0), some (.int wh), some (.int (nI (s - sT ok l k) - nI (l k))), some (.int (nI (k + 1))), none, none] [] (up hh 63 0 k (nI (l k) - nI (l k))))) := by
        intro gm
        rw [le_nI (by omega) (by omega)]
        refine ⟨fun g => nx gm _ (pk_sub g) _ ?_, fun g => nx gm _ ?_ _ (pk_sub (by omega))⟩
        · rw [pk_sub (Nat.le_refl _)]; congr 1; omega
        · rw [pk_sub (Nat.le_refl _)]; congr 1; omega
      refine sX7_goes_6 ?_
      unfold SX7_goes_6
      rw [le_nI (by omega) (by omega), nI_1, ncl (show k ≤ 100000 by omega), b1 50 (by decide), b1 51 (by decide), e63]
      refine ⟨fun z => absurd z (by omega), fun _ => ⟨fun _ => ⟨vin (show k < 40 by omega) (by omega), fun g1 => no (fun z => g1 z.1), fun g1 => ⟨fun g2 => yes ⟨g1, Or.inl g2⟩, fun g2 => ⟨fun g3 => ⟨fun g4 => yes ⟨g1, Or.inr (Or.inl ⟨g2, g3, g4⟩)⟩, fun g4 => no ?_⟩, fun g3 => ⟨fun g4 => no ?_, fun g4 => yes ⟨g1, Or.inr (Or.inr ⟨g2, g3, g4⟩)⟩⟩⟩⟩⟩, fun z => absurd rfl z⟩⟩
      · rintro ⟨-, z | ⟨-, -, z⟩ | ⟨-, z, -⟩⟩
        · exact g2 z
        · exact z g4
        · exact g3 z
      · rintro ⟨-, z | ⟨-, z, -⟩ | ⟨-, -, z⟩⟩
        · exact g2 z
        · exact z g3
        · exact g4 z
  exact main h ⟨fun _ _ => rfl, fun i hi => by rw [if_neg (Nat.not_lt_zero i)]; exact (hl i hi).1⟩
theorem m_goesB {Q : Int32 → TH → Prop} (hn : n ≤ 40) (hok : ∀ i, i < n → (ok i = true ↔ h 50 0 i = p)) (hl : ∀ i, i < n → h 63 0 i = nI (l i) ∧ l i ≤ 100000) (hs : s ≤ 1000000)
    (hQ : ∀ hh, ag63 h hh → (∀ i, i < n → hh 63 0 i = nI (bwd ok l s n i)) → Q (nI (s - sT ok l n)) hh) : wi E MX7_goes Q 0 [some (rf 28 0), some (.int p), some (.int (nI n)), some (.int (nI s)), some (.int 1), some (.int 2), none, none, none, none] [] h := by
  refine sX7_goes_0 ?_
  unfold SX7_goes_0
  have main : ∀ hh, ag63 h hh ∧ (∀ i, i < n → hh 63 0 i = nI (if n - 0 ≤ i then bwd ok l s n i else l i)) → wi E MX7_goes Q 6 [some (rf 28 0), some (.int p), some (.int (nI n)), none, some (.int 1), some (.int 2), some (.int (nI (s - (sT ok l n - sT ok l (n - 0))))), some (.int (nI 0)), none, none] [] hh := by
    refine run_dn n (fun k => ∀ hh, ag63 h hh ∧ (∀ i, i < n → hh 63 0 i = nI (if n - k ≤ i then bwd ok l s n i else l i)) → wi E MX7_goes Q 6 [some (rf 28 0), some (.int p), some (.int (nI n)), none, some (.int 1), some (.int 2), some (.int (nI (s - (sT ok l n - sT ok l (n - k))))), some (.int (nI k)), none, none] [] hh) ?_ ?_
    · intro hh ⟨b1, b2⟩
      refine sX7_goes_6 ?_
      unfold SX7_goes_6
      refine ⟨fun _ => ?_, fun z => absurd (Int32.le_refl _) z⟩
      rw [Nat.sub_self]
      refine hQ hh b1 (fun i hi => ?_)
      rw [b2 i hi, if_pos (by omega)]
    · intro k hk ih hh ⟨b1, b2⟩
      obtain ⟨j, ej⟩ : ∃ j, n - k = j + 1 := ⟨n - k - 1, by omega⟩
      have ej2 : n - (k + 1) = j := by omega
      rw [ej] at b2 ⊢
      rw [ej2] at ih
      have e63 : hh 63 0 j = nI (l j) := by rw [b2 j (by omega), if_neg (by omega)]
      have lk := (hl j (by omega)).2
      have mo := sT_mono (ok := ok) (l := l) (m := j + 1) n (by omega)
      have no : ¬ h 50 0 j = p → wi E MX7_goes Q 6 [some (rf 28 0), some (.int p), some (.int (nI n)), none, some (.int 1), some (.int 2), some (.int (nI (s - (sT ok l n - sT ok l (j + 1))))), some (.int (nI (k + 1))), none, none] [] hh := by
        intro gm
        have gk : ¬ ok j = true := fun z => gm ((hok j (by omega)).mp z)
        have e1 := sT_n (l := l) gk
        rw [e1]
        refine ih _ ⟨b1, fun i hi => ?_⟩
        rw [b2 i hi]
        by_cases e : i = j
        · rw [if_neg (by omega), if_pos (by omega), e]
          unfold bwd
          rw [if_neg gk]
        · by_cases e2 : j + 1 ≤ i
          · rw [if_pos e2, if_pos (by omega)]
          · rw [if_neg e2, if_neg (by omega)]
      have nx : h 50 0 j = p → ∀ v : Int32, v = nI (l j - (s - (sT ok l n - sT ok l (j + 1)))) → ∀ y : Int32, y = nI (s - (sT ok l n - sT ok l (j + 1)) - l j) → wi E MX7_goes Q 6 [some (rf 28 0), some (.int p), some (.int (nI n)), none, some (.int 1), some (.int 2), some (.int y), some (.int (nI (k + 1))), none, none] [] (up hh 63 0 j v) := by
        intro gm v ev y ey
        have gk := (hok j (by omega)).mpr gm
        have e1 := sT_s (l := l) gk
        rw [ey, show s - (sT ok l n - sT ok l (j + 1)) - l j = s - (sT ok l n - sT ok l j) by omega]
        refine ih _ ⟨ag63_up b1, fun i hi => ?_⟩
        rw [up_a]
        by_cases e : i = j
        · rw [if_pos e, if_pos (by omega), e, ev]
          unfold bwd
          rw [if_pos gk]
        · rw [if_neg e, b2 i hi]
          by_cases e2 : j + 1 ≤ i
          · rw [if_pos e2, if_pos (by omega)]
          · rw [if_neg e2, if_neg (by omega)]
      refine sX7_goes_6 ?_
      unfold SX7_goes_6
      have ei : nI n - 1 - nI k = nI j := by rw [show nI n - 1 = nI (n - 1) from pk_sub (b := 1) (by omega), pk_sub (by omega)]; congr 1; omega
      rw [le_nI (by omega) (by omega), nI_1, ei, ncl (show j ≤ 100000 by omega), b1 50 (by decide), b1 51 (by decide), e63]
      refine ⟨fun z => absurd z (by omega), fun _ => ⟨fun z => absurd z (by decide), fun _ => ⟨vin (show j < 40 by omega) (by omega), fun g1 => no g1, fun g1 => ⟨fun _ => ?_, fun z => absurd (by decide) z⟩⟩⟩⟩
      rw [le_nI (by omega) (by omega)]
      refine ⟨fun g => nx g1 _ (pk_sub g) _ ?_, fun g => nx g1 _ ?_ _ (pk_sub (by omega))⟩
      · rw [pk_sub (Nat.le_refl _)]; congr 1; omega
      · rw [pk_sub (Nat.le_refl _)]; congr 1; omega
  have := main h ⟨fun _ _ => rfl, fun i hi => by rw [if_neg (by omega)]; exact (hl i hi).1⟩
  rw [Nat.sub_zero, Nat.sub_self, Nat.sub_zero] at this
  exact this
abbrev HA (A O : Nat) (h : TH) : Prop := JA A O (h 21 0 3) (h 21 0 4) (h 28 0 5) (h 28 0 6) (h 28 0 7) (h 22 0) (h 23 0) (h 25) (h 50 0) (h 51 0) (h 52 0) (h 53 0) (h 54 0) (h 55 0)
abbrev tN (r : Nat) (h : TH) (e : Nat) : Nat → Nat := trN r (h 50 0) (h 51 0) (h 52 0) (h 53 0) (h 54 0) (h 55 0) e
/-- two passes of an OUT, by the rules -/
theorem m_out {p : Int32} {o : Nat} {Q : TH → Prop} (hr : r < 3) (hn : n ≤ 40) (ho : o < 40) (hl : ∀ i, i < n → h 63 0 i = nI (l i) ∧ l i ≤ 100000) (hs : s ≤ 1000000) (ep : h 53 0 o = p) (es : h 54 0 o = nI s) (x3 : Int32)
    (hQ : ∀ hh, ag63 h hh → (∀ i, i < n → hh 63 0 i = nI (outN r n (h 50 0) (h 51 0) p l s i)) → wv E MX7_traces Q 4 [some (rf 28 0), some (.int (nI r)), some (.int (nI n)), some (.int x3), none, none] [] hh) :
    ((¬ nI r = 1 → ((¬ nI r = 2 → wi E MX7_goes (fun r8 h7 => ((¬ nI r = 2 → wi E MX7_goes (fun r11 h10 => wv E MX7_traces Q 4 [some (rf 28 0), some (.int (nI r)), some (.int (nI n)), some (.int x3), none, none] [] h10) 0 [some (rf 28 0), some (.int (h7 53 0 o)), some (.int (nI n)), some (.int r8), some (.int 0), some (.int 2), none, none, none, none] [] h7) ∧ (nI r = 2 → wi E MX7_goes (fun r13 h12 => wv E MX7_traces Q 4 [some (rf 28 0), some (.int (nI r)), some (.int (nI n)), some (.int x3), none, none] [] h12) 0 [some (rf 28 0), some (.int (h7 53 0 o)), some (.int (nI n)), some (.int r8), some (.int 0), some (.int 1), none, none, none, none] [] h7))) 0 [some (rf 28 0), some (.int (h 53 0 o)), some (.int (nI n)), some (.int (h 54 0 o)), some (.int 0), some (.int 2), none, none, none, none] [] h) ∧ (nI r = 2 → wi E MX7_goes (fun r15 h14 => ((¬ nI r = 2 → wi E MX7_goes (fun r18 h17 => wv E MX7_traces Q 4 [some (rf 28 0), some (.int (nI r)), some (.int (nI n)), some (.int x3), none, none] [] h17) 0 [some (rf 28 0), some (.int (h14 53 0 o)), some (.int (nI n)), some (.int r15), some (.int 0), some (.int 2), none, none, none, none] [] h14) ∧ (nI r = 2 → wi E MX7_goes (fun r20 h19 => wv E MX7_traces Q 4 [some (rf 28 0), some (.int (nI r)), some (.int (nI n)), some (.int x3), none, none] [] h19) 0 [some (rf 28 0), some (.int (h14 53 0 o)), some (.int (nI n)), some (.int r15), some (.int 0), some (.int 1), none, none, none, none] [] h14))) 0 [some (rf 28 0), some (.int (h 53 0 o)), some (.int (nI n)), some (.int (h 54 0 o)), some (.int 0), some (.int 0), none, none, none, none] [] h))) ∧ (nI r = 1 → ((¬ nI r = 2 → wi E MX7_goes (fun r23 h22 => ((¬ nI r = 2 → wi E MX7_goes (fun r26 h25 => wv E MX7_traces Q 4 [some (rf 28 0), some (.int (nI r)), some (.int (nI n)), some (.int x3), none, none] [] h25) 0 [some (rf 28 0), some (.int (h22 53 0 o)), some (.int (nI n)), some (.int r23), some (.int 0), some (.int 2), none, none, none, none] [] h22) ∧ (nI r = 2 → wi E MX7_goes (fun r28 h27 => wv E MX7_traces Q 4 [some (rf 28 0), some (.int (nI r)), some (.int (nI n)), some (.int x3), none, none] [] h27) 0 [some (rf 28 0), some (.int (h22 53 0 o)), some (.int (nI n)), some (.int r23), some (.int 0), some (.int 1), none, none, none, none] [] h22))) 0 [some (rf 28 0), some (.int (h 53 0 o)), some (.int (nI n)), some (.int (h 54 0 o)), some (.int 1), some (.int 2), none, none, none, none] [] h) ∧ (nI r = 2 → wi E MX7_goes (fun r30 h29 => ((¬ nI r = 2 → wi E MX7_goes (fun r33 h32 => wv E MX7_traces Q 4 [some (rf 28 0), some (.int (nI r)), some (.int (nI n)), some (.int x3), none, none] [] h32) 0 [some (rf 28 0), some (.int (h29 53 0 o)), some (.int (nI n)), some (.int r30), some (.int 0), some (.int 2), none, none, none, none] [] h29) ∧ (nI r = 2 → wi E MX7_goes (fun r35 h34 => wv E MX7_traces Q 4 [some (rf 28 0), some (.int (nI r)), some (.int (nI n)), some (.int x3), none, none] [] h34) 0 [some (rf 28 0), some (.int (h29 53 0 o)), some (.int (nI n)), some (.int r30), some (.int 0), some (.int 1), none, none, none, none] [] h29))) 0 [some (rf 28 0), some (.int (h 53 0 o)), some (.int (nI n)), some (.int (h 54 0 o)), some (.int 1), some (.int 0), none, none, none, none] [] h)))) := by
  rw [ep, es]
  have okP2 : ∀ i, i < n → (isP (h 50 0) p i = true ↔ mnt h p 2 i) := fun i hi => by
    unfold isP mnt
    rw [decide_eq_true_eq]
    exact ⟨fun z => ⟨z, Or.inl (by decide)⟩, fun z => z.1⟩
  have okP1 : ∀ i, i < n → (isP (h 50 0) p i = true ↔ h 50 0 i = p) := fun i hi => by unfold isP; rw [decide_eq_true_eq]
  have okO : ∀ i, i < n → (isO (h 50 0) (h 51 0) p i = true ↔ mnt h p 0 i) := fun i hi => by
    unfold isO mnt
    rw [decide_eq_true_eq]
    refine ⟨fun z => ⟨z.1, Or.inr (Or.inr ⟨by decide, z.2, rfl⟩)⟩, fun z => ⟨z.1, ?_⟩⟩
    rcases z.2 with y | ⟨_, _, y⟩ | ⟨_, y, _⟩
    · exact absurd y (by decide)
    · exact absurd rfl y
    · exact y
  have okT : ∀ i, i < n → (isT (h 50 0) (h 51 0) p i = true ↔ mnt h p 1 i) := fun i hi => by
    unfold isT mnt
    rw [decide_eq_true_eq]
    refine ⟨fun z => ⟨z.1, Or.inr (Or.inl ⟨by decide, z.2, by decide⟩)⟩, fun z => ⟨z.1, ?_⟩⟩
    rcases z.2 with y | ⟨_, y, _⟩ | ⟨_, _, y⟩
    · exact absurd y (by decide)
    · exact y
    · exact absurd y (by decide)
  have mnt_ag : ∀ {hh : TH} {wh : Int32} {i : Nat}, ag63 h hh → (mnt hh p wh i ↔ mnt h p wh i) := fun a => by unfold mnt; rw [a 50 (by decide), a 51 (by decide)]
  rcases (show r = 0 ∨ r = 1 ∨ r = 2 by omega) with e | e | e
  · subst e
    refine ⟨fun _ => ⟨fun _ => ?_, fun z => absurd z (by decide)⟩, fun z => absurd z (by decide)⟩
    refine m_goesF (ok := isP (h 50 0) p) hn okP2 hl hs (fun h1 a1 b1 => ⟨fun _ => ?_, fun z => absurd z (by decide)⟩)
    rw [a1 53 (by decide), ep]
    refine m_goesF (ok := isP (h 50 0) p) (l := fwd (isP (h 50 0) p) l s) hn (fun i hi => (okP2 i hi).trans (mnt_ag a1).symm) (fun i hi => ⟨b1 i hi, Nat.le_trans fwd_le (hl i hi).2⟩) (by omega) (fun h2 a2 b2 => ?_)
    refine hQ h2 (fun g hg => (a2 g hg).trans (a1 g hg)) (fun i hi => ?_)
    rw [b2 i hi, idle_f hi]
    rfl
  · subst e
    refine ⟨fun z => absurd (by decide) z, fun _ => ⟨fun _ => ?_, fun z => absurd z (by decide)⟩⟩
    refine m_goesB (ok := isP (h 50 0) p) hn okP1 hl hs (fun h1 a1 b1 => ⟨fun _ => ?_, fun z => absurd z (by decide)⟩)
    rw [a1 53 (by decide), ep]
    refine m_goesF (ok := isP (h 50 0) p) (l := bwd (isP (h 50 0) p) l s n) hn (fun i hi => (okP2 i hi).trans (mnt_ag a1).symm) (fun i hi => ⟨b1 i hi, Nat.le_trans bwd_le (hl i hi).2⟩) (by omega) (fun h2 a2 b2 => ?_)
    refine hQ h2 (fun g hg => (a2 g hg).trans (a1 g hg)) (fun i hi => ?_)
    rw [b2 i hi, idle_b hi]
    rfl
  · subst e
    refine ⟨fun _ => ⟨fun z => absurd (by decide) z, fun _ => ?_⟩, fun z => absurd z (by decide)⟩
    refine m_goesF (ok := isO (h 50 0) (h 51 0) p) hn okO hl hs (fun h1 a1 b1 => ⟨fun z => absurd (by decide) z, fun _ => ?_⟩)
    rw [a1 53 (by decide), ep]
    refine m_goesF (ok := isT (h 50 0) (h 51 0) p) (l := fwd (isO (h 50 0) (h 51 0) p) l s) hn (fun i hi => (okT i hi).trans (mnt_ag a1).symm) (fun i hi => ⟨b1 i hi, Nat.le_trans fwd_le (hl i hi).2⟩) (by omega) (fun h2 a2 b2 => ?_)
    refine hQ h2 (fun g hg => (a2 g hg).trans (a1 g hg)) (fun i hi => ?_)
    rw [b2 i hi]
    rfl
theorem m_traces {Q : TH → Prop} (J : HA A O h) (hr : r < 3) (hQ : ∀ hh, ag63 h hh → (∀ i, i < A → hh 63 0 i = nI (tN r h (A + O) i)) → Q hh) : wv E MX7_traces Q 0 [some (rf 28 0), some (.int (nI r)), none, none, none, none] [] h := by
  obtain ⟨q1, q2, q3, q4, q5, q6, q7, q8, q9, q10, q11, q12, q13⟩ := J
  refine sX7_traces_0 ?_
  unfold SX7_traces_0
  have main : ∀ hh, ag63 h hh ∧ (∀ i, i < evI (h 55 0) 0 → hh 63 0 i = nI (tN r h 0 i)) → wv E MX7_traces Q 4 [some (rf 28 0), some (.int (nI r)), some (.int (nI (evI (h 55 0) 0))), some (.int (nI 0)), none, none] [] hh := by
    refine run_dn (A + O) (fun e => ∀ hh, ag63 h hh ∧ (∀ i, i < evI (h 55 0) e → hh 63 0 i = nI (tN r h e i)) → wv E MX7_traces Q 4 [some (rf 28 0), some (.int (nI r)), some (.int (nI (evI (h 55 0) e))), some (.int (nI e)), none, none] [] hh) ?_ ?_
    · intro hh ⟨b1, b2⟩
      refine sX7_traces_4 ?_
      unfold SX7_traces_4
      rw [b1 28 (by decide), q5]
      refine ⟨fun _ => hQ hh b1 (fun i hi => b2 i (by rw [q8]; exact hi)), fun z => absurd (Int32.le_refl _) z⟩
    · intro e he ih hh ⟨b1, b2⟩
      have ok := q9 e he
      have bl := trN_le (r := r) (par := h 50 0) (pur := h 51 0) (opar := h 53 0) (ocoin := h 54 0) (fun i hi => (q10 i hi).2.2) e (fun j hj => q9 j (by omega))
      have le := evI_le (ev := h 55 0) e
      refine sX7_traces_4 ?_
      unfold SX7_traces_4
      rw [b1 28 (by decide), q5, le_nI (by omega) (by omega), ncl (show e ≤ 100000 by omega), nI_1 e, b1 55 (by decide)]
      refine ⟨fun z => absurd z (by omega), fun _ => ⟨vin (show e < 80 by omega) (by omega), fun g => ?_, fun g => ?_⟩⟩
      · rcases ok with ⟨z1, z2, z3⟩ | ⟨z1, z2, z3, z4⟩
        · exact absurd (Int32.lt_of_lt_of_le z2 g) (Int32.lt_irrefl)
        · obtain ⟨c, c1, c2, c3⟩ := q11 _ z4
          have ei : h 55 0 e - 100 = nI (e - evI (h 55 0) e) := by
            rw [z1]
            show nI _ - nI 100 = _
            rw [pk_sub (by omega)]; congr 1; omega
          rw [ei, ncl (show e - evI (h 55 0) e ≤ 100000 by omega)]
          refine ⟨vin (show e - evI (h 55 0) e < 40 by omega) (by omega), ?_⟩
          refine m_out (p := h 53 0 (e - evI (h 55 0) e)) (s := c) (l := tN r h e) hr (by omega) (by omega) (fun i hi => ⟨b2 i hi, bl i⟩) c2 (by rw [b1 53 (by decide)]) (by rw [b1 54 (by decide)]; exact c3) _ (fun h1 a1 d1 => ?_)
          have e1 := evI_out z2
          rw [← e1]
          refine ih h1 ⟨fun g hg => (a1 g hg).trans (b1 g hg), fun i hi => ?_⟩
          rw [e1] at hi
          rw [d1 i hi, b1 50 (by decide), b1 51 (by decide)]
          show _ = nI (trN _ _ _ _ _ _ _ (e + 1) i)
          rw [trN_out z2, show cN (h 54 0) (e - evI (h 55 0) e) = c by unfold cN; rw [c3, nI_clamp (by omega)]]
      · rcases ok with ⟨z1, z2, z3⟩ | ⟨z1, z2, z3, z4⟩
        · rw [ncl (show evI (h 55 0) e ≤ 100000 by omega), nI_1]
          refine ⟨vin (show evI (h 55 0) e < 40 by omega) (by omega), ?_⟩
          rw [← evI_in z2]
          refine ih _ ⟨ag63_up b1, fun i hi => ?_⟩
          rw [evI_in z2] at hi
          show _ = nI (trN _ _ _ _ _ _ _ (e + 1) i)
          rw [up_a, trN_in z2]
          by_cases g2 : i = evI (h 55 0) e
          · rw [if_pos g2, if_pos g2, b1 52 (by decide), g2]
            obtain ⟨c, c1, c2, c3⟩ := (q10 _ z3).2.2
            unfold cN
            rw [c3, nI_clamp (by omega)]
          · rw [if_neg g2, if_neg g2]
            exact b2 i (by omega)
        · exact absurd (Int32.not_lt.mp z2) g
  exact main h ⟨fun _ _ => rfl, fun i hi => absurd hi (Nat.not_lt_zero i)⟩
end Goes
