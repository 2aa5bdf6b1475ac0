section Moves
variable {E : EN} {h hh : TH} {a1 a2 a3 a4 x d w p : Int32} {P C W K N A O D : Nat} {ok : Nat → Bool} {l : Nat → Nat} {r s : Nat}
def ag25 (r : Nat) (h hh : TH) : Prop := (∀ g, g ≠ 25 → hh g = h g) ∧ ∀ r', r' ≠ r → hh 25 r' = h 25 r'
theorem ag25_rf : ag25 r h h := ⟨fun _ _ => rfl, fun _ _ => rfl⟩
theorem ag25_up {i : Nat} {v : Int32} (a : ag25 r h hh) : ag25 r h (up hh 25 r i v) :=
  ⟨fun g hg => by rw [up_o hg]; exact a.1 g hg, fun r' hr => by rw [up_i hr]; exact a.2 r' hr⟩
theorem x_take {i m v : Nat} {Q : Int32 → TH → Prop} (hr : r < 3) (hi : i < 40) (hl : h 25 r i = nI v) (hv : v ≤ 100000) (hm : m ≤ 1000000)
    (hy : h 22 0 i = p → Q (nI (min v m)) (up h 25 r i (nI (v - m)))) (hn : ¬ h 22 0 i = p → Q 0 h) : SX0_take E (nI r) (nI i) p (nI m) h Q := by
  unfold SX0_take
  rw [ncl (show i ≤ 100000 by omega), ncl (show r ≤ 100000 by omega), hl]
  refine ⟨vin hi (by omega), fun g => ⟨vin hr (by omega), ?_⟩, hn⟩
  have e : (if nI m < nI v then nI m else nI v) = nI (min v m) := by
    by_cases g2 : m < v
    · rw [if_pos (nI_lt g2 (by omega)), Nat.min_eq_right (by omega)]
    · rw [if_neg (nI_nlt (by omega) (by omega)), Nat.min_eq_left (by omega)]
  rw [e, pk_sub (by omega), show v - min v m = v - m by omega]
  exact hy g
theorem x_spendF {Q : TH → Prop} (hr : r < 3) (hA : h 21 0 3 = nI A) (hA40 : A ≤ 40) (hok : ∀ i, i < A → (h 22 0 i = p ↔ ok i = true)) (hl : ∀ i, i < A → h 25 r i = nI (l i) ∧ l i ≤ 100000) (hs : s ≤ 1000000)
    (hQ : ∀ hh, ag25 r h hh → (∀ i, i < A → hh 25 r i = nI (fwd ok l s i)) → Q hh) : wv E MX0_spendForward Q 0 [some (rf 21 0), some (.int (nI r)), some (.int p), some (.int (nI s)), none, none] [] h := by
  refine sX0_spendForward_0 ?_
  unfold SX0_spendForward_0
  have main : ∀ hh, ag25 r h hh ∧ (∀ i, i < A → hh 25 r i = nI (if i < 0 then fwd ok l s i else l i)) → wv E MX0_spendForward Q 6 [some (rf 21 0), some (.int (nI r)), some (.int p), none, some (.int (nI (s - sT ok l 0))), some (.int (nI 0))] [] hh := by
    refine run_dn A (fun k => ∀ hh, ag25 r h hh ∧ (∀ i, i < A → hh 25 r i = nI (if i < k then fwd ok l s i else l i)) → wv E MX0_spendForward Q 6 [some (rf 21 0), some (.int (nI r)), some (.int p), none, some (.int (nI (s - sT ok l k))), some (.int (nI k))] [] hh) ?_ ?_
    · intro hh ⟨b1, b2⟩
      refine sX0_spendForward_6 ?_
      unfold SX0_spendForward_6
      rw [b1.1 21 (by decide), hA]
      refine ⟨fun _ => hQ hh b1 (fun i hi => ?_), fun z => absurd (Int32.le_refl _) z⟩
      rw [b2 i hi, if_pos hi]
    · intro k hk ih hh ⟨b1, b2⟩
      have e25 : hh 25 r k = nI (l k) := by rw [b2 k hk, if_neg (Nat.lt_irrefl k)]
      refine sX0_spendForward_6 ?_
      unfold SX0_spendForward_6
      rw [b1.1 21 (by decide), hA, le_nI (by omega) (by omega), nI_1]
      refine ⟨fun z => absurd z (by omega), fun _ => x_take hr (by omega) e25 (hl k hk).2 (by omega) (fun g => ?_) (fun g => ?_)⟩
      · rw [b1.1 22 (by decide)] at g
        have gk := (hok k hk).mp g
        have e1 := sT_s (l := l) gk
        rw [pk_sub (by omega), show s - sT ok l k - min (l k) (s - sT ok l k) = s - sT ok l (k + 1) by omega]
        refine ih _ ⟨ag25_up b1, fun i hi => ?_⟩
        rw [up_a]
        by_cases e : i = k
        · rw [if_pos e, if_pos (by omega), e]
          unfold fwd
          rw [if_pos gk]
        · rw [if_neg e, b2 i hi]
          by_cases e2 : i < k
          · rw [if_pos e2, if_pos (by omega)]
          · rw [if_neg e2, if_neg (by omega)]
      · rw [b1.1 22 (by decide)] at g
        have gk : ¬ ok k = true := fun z => g ((hok k hk).mpr z)
        have e1 := sT_n (l := l) gk
        rw [Int32.sub_zero, ← e1]
        refine ih _ ⟨b1, fun i hi => ?_⟩
        rw [b2 i hi]
        by_cases e : i = k
        · rw [if_neg (by omega), if_pos (by omega), e]
          unfold fwd
          rw [if_neg gk]
        · by_cases e2 : i < k
          · rw [if_pos e2, if_pos (by omega)]
          · rw [if_neg e2, if_neg (by omega)]
  exact main h ⟨ag25_rf, fun i hi => by rw [if_neg (Nat.not_lt_zero i)]; exact (hl i hi).1⟩
theorem x_spendB {Q : TH → Prop} (hA : h 21 0 3 = nI A) (hA40 : A ≤ 40) (hok : ∀ i, i < A → (h 22 0 i = p ↔ ok i = true)) (hl : ∀ i, i < A → h 25 1 i = nI (l i) ∧ l i ≤ 100000) (hs : s ≤ 1000000)
    (hQ : ∀ hh, ag25 1 h hh → (∀ i, i < A → hh 25 1 i = nI (bwd ok l s A i)) → wv E MX0_spend Q 55 [some (rf 21 0), some (.int p), none, some (.int (nI s)), some (.int 0)] [] hh) :
    ∀ m, m ≤ A → ∀ hh, ag25 1 h hh ∧ (∀ i, i < A → hh 25 1 i = nI (if m ≤ i then bwd ok l s A i else l i)) → wv E MX0_spend Q 27 [some (rf 21 0), some (.int p), some (.int (nI s)), some (.int (nI (s - (sT ok l A - sT ok l m)))), some (.int (nI m - 1))] [] hh := by
  intro m
  induction m with
  | zero =>
    intro _ hh ⟨b1, b2⟩
    refine sX0_spend_27 ?_
    unfold SX0_spend_27
    refine ⟨fun _ => hQ hh b1 (fun i hi => ?_), fun z => absurd (by decide) z⟩
    rw [b2 i hi, if_pos (Nat.zero_le i)]
  | succ m ih =>
    intro hm hh ⟨b1, b2⟩
    have e25 : hh 25 1 m = nI (l m) := by rw [b2 m (by omega), if_neg (by omega)]
    have mo := sT_mono (ok := ok) (l := l) (m := m + 1) A hm
    refine sX0_spend_27 ?_
    unfold SX0_spend_27
    rw [nI_pred, show nI m + (-1) = nI m - 1 from (Int32.sub_eq_add_neg (a := nI m) (b := 1)).symm]
    refine ⟨fun z => absurd z (nI_pos (by omega)), fun _ => x_take (r := 1) (by omega) (by omega) e25 (hl m (by omega)).2 (by omega) (fun g => ?_) (fun g => ?_)⟩
    · rw [b1.1 22 (by decide)] at g
      have gk := (hok m (by omega)).mp g
      have e1 := sT_s (l := l) gk
      rw [pk_sub (by omega), show s - (sT ok l A - sT ok l (m + 1)) - min (l m) (s - (sT ok l A - sT ok l (m + 1))) = s - (sT ok l A - sT ok l m) by omega]
      refine ih (by omega) _ ⟨ag25_up b1, fun i hi => ?_⟩
      rw [up_a]
      by_cases e : i = m
      · rw [if_pos e, if_pos (by omega), e]
        unfold bwd
        rw [if_pos gk]
      · rw [if_neg e, b2 i hi]
        by_cases e2 : m + 1 ≤ i
        · rw [if_pos e2, if_pos (by omega)]
        · rw [if_neg e2, if_neg (by omega)]
    · rw [b1.1 22 (by decide)] at g
      have gk : ¬ ok m = true := fun z => g ((hok m (by omega)).mpr z)
      have e1 := sT_n (l := l) gk
      rw [Int32.sub_zero, e1]
      refine ih (by omega) _ ⟨b1, fun i hi => ?_⟩
      rw [b2 i hi]
      by_cases e : i = m
      · rw [if_neg (by omega), if_pos (by omega), e]
        unfold bwd
        rw [if_neg gk]
      · by_cases e2 : m + 1 ≤ i
        · rw [if_pos e2, if_pos (by omega)]
        · rw [if_neg e2, if_neg (by omega)]
theorem x_spendO {Q : TH → Prop} (hA : h 21 0 3 = nI A) (hA40 : A ≤ 40) (hok : ∀ i, i < A → (h 23 0 i = -1 ∧ h 22 0 i = p ↔ ok i = true)) (hl : ∀ i, i < A → h 25 2 i = nI (l i) ∧ l i ≤ 100000) (hs : s ≤ 1000000)
    (hQ : ∀ hh, ag25 2 h hh → (∀ i, i < A → hh 25 2 i = nI (fwd ok l s i)) → wv E MX0_spendForward (fun h2 => Q h2) 0 [some (rf 21 0), some (.int 2), some (.int p), some (.int (nI (s - sT ok l A))), none, none] [] hh) : wv E MX0_spend Q 55 [some (rf 21 0), some (.int p), none, some (.int (nI s)), some (.int 0)] [] h := by
  have main : ∀ hh, ag25 2 h hh ∧ (∀ i, i < A → hh 25 2 i = nI (if i < 0 then fwd ok l s i else l i)) → wv E MX0_spend Q 55 [some (rf 21 0), some (.int p), none, some (.int (nI (s - sT ok l 0))), some (.int (nI 0))] [] hh := by
    refine run_dn A (fun k => ∀ hh, ag25 2 h hh ∧ (∀ i, i < A → hh 25 2 i = nI (if i < k then fwd ok l s i else l i)) → wv E MX0_spend Q 55 [some (rf 21 0), some (.int p), none, some (.int (nI (s - sT ok l k))), some (.int (nI k))] [] hh) ?_ ?_
    · intro hh ⟨b1, b2⟩
      refine sX0_spend_55 ?_
      unfold SX0_spend_55
      rw [b1.1 21 (by decide), hA]
      refine ⟨fun _ => hQ hh b1 (fun i hi => ?_), fun z => absurd (Int32.le_refl _) z⟩
      rw [b2 i hi, if_pos hi]
    · intro k hk ih hh ⟨b1, b2⟩
      have e25 : hh 25 2 k = nI (l k) := by rw [b2 k hk, if_neg (Nat.lt_irrefl k)]
      have no : ¬ ok k = true → wv E MX0_spend Q 55 [some (rf 21 0), some (.int p), none, some (.int (nI (s - sT ok l k))), some (.int (nI (k + 1)))] [] hh := by
        intro gk
        have e1 := sT_n (l := l) gk
        rw [← e1]
        refine ih _ ⟨b1, fun i hi => ?_⟩
        rw [b2 i hi]
        by_cases e : i = k
        · rw [if_neg (by omega), if_pos (by omega), e]
          unfold fwd
          rw [if_neg gk]
        · by_cases e2 : i < k
          · rw [if_pos e2, if_pos (by omega)]
          · rw [if_neg e2, if_neg (by omega)]
      refine sX0_spend_55 ?_
      unfold SX0_spend_55
      rw [b1.1 21 (by decide), hA, le_nI (by omega) (by omega), nI_1, ncl (show k ≤ 100000 by omega), b1.1 23 (by decide)]
      refine ⟨fun z => absurd z (by omega), fun _ => ⟨vin (show k < 40 by omega) (by omega), fun g => no (fun z => g ((hok k hk).mpr z).1), fun g => x_take (r := 2) (by omega) (by omega) e25 (hl k hk).2 (by omega) (fun g2 => ?_) (fun g2 => ?_)⟩⟩
      · rw [b1.1 22 (by decide)] at g2
        have gk := (hok k hk).mp ⟨g, g2⟩
        have e1 := sT_s (l := l) gk
        rw [pk_sub (by omega), show s - sT ok l k - min (l k) (s - sT ok l k) = s - sT ok l (k + 1) by omega]
        refine ih _ ⟨ag25_up b1, fun i hi => ?_⟩
        rw [up_a]
        by_cases e : i = k
        · rw [if_pos e, if_pos (by omega), e]
          unfold fwd
          rw [if_pos gk]
        · rw [if_neg e, b2 i hi]
          by_cases e2 : i < k
          · rw [if_pos e2, if_pos (by omega)]
          · rw [if_neg e2, if_neg (by omega)]
      · rw [b1.1 22 (by decide)] at g2
        rw [Int32.sub_zero]
        exact no (fun z => g2 ((hok k hk).mpr z).2)
  exact main h ⟨ag25_rf, fun i hi => by rw [if_neg (Nat.not_lt_zero i)]; exact (hl i hi).1⟩
theorem x_spend {par pur : Nat → Int32} {L : Nat → Nat → Nat} {Q : TH → Prop} (hA : h 21 0 3 = nI A) (hA40 : A ≤ 40) (hp : ∀ i, i < A → h 22 0 i = par i ∧ h 23 0 i = pur i) (hl : ∀ r, r < 3 → ∀ i, i < A → h 25 r i = nI (L r i) ∧ L r i ≤ 100000) (hs : s ≤ 1000000)
    (hQ : ∀ hh, (∀ g, g ≠ 25 → hh g = (up h 21 0 4 (h 21 0 4 + 1)) g) → (∀ r, r < 3 → ∀ i, i < A → hh 25 r i = nI (outN r A par pur p (L r) s i)) → Q hh) : wv E MX0_spend Q 0 [some (rf 21 0), some (.int p), some (.int (nI s)), none, none] [] h := by
  refine sX0_spend_0 ?_
  unfold SX0_spend_0
  have okP : ∀ i, i < A → (h 22 0 i = p ↔ isP par p i = true) := fun i hi => by unfold isP; rw [(hp i hi).1, decide_eq_true_eq]
  have okO : ∀ i, i < A → (h 23 0 i = -1 ∧ h 22 0 i = p ↔ isO par pur p i = true) := fun i hi => by unfold isO; rw [(hp i hi).1, (hp i hi).2, decide_eq_true_eq]; exact And.comm
  refine x_spendF (r := 0) (ok := isP par p) (l := L 0) (by omega) (by rw [up_k (by decide)]; exact hA) hA40 (fun i hi => by rw [up_o (by decide)]; exact okP i hi) (fun i hi => by rw [up_o (by decide)]; exact hl 0 (by omega) i hi) hs (fun h1 b1 b2 => ?_)
  have e21 : h1 21 0 3 = nI A := by rw [b1.1 21 (by decide), up_k (by decide)]; exact hA
  have e22 : h1 22 = h 22 := by rw [b1.1 22 (by decide), up_o (by decide)]
  have e23 : h1 23 = h 23 := by rw [b1.1 23 (by decide), up_o (by decide)]
  have r1 : h1 25 1 = h 25 1 := by rw [b1.2 1 (by decide), up_o (by decide)]
  have r2 : h1 25 2 = h 25 2 := by rw [b1.2 2 (by decide), up_o (by decide)]
  rw [e21]
  have := x_spendB (E := E) (Q := Q) (ok := isP par p) (l := L 1) (s := s) e21 hA40 (fun i hi => by rw [e22]; exact okP i hi) (fun i hi => by rw [r1]; exact hl 1 (by omega) i hi) hs (fun h2 d1 d2 => by
    have f21 : h2 21 0 3 = nI A := by rw [d1.1 21 (by decide)]; exact e21
    have f22 : h2 22 = h 22 := by rw [d1.1 22 (by decide)]; exact e22
    have f23 : h2 23 = h 23 := by rw [d1.1 23 (by decide)]; exact e23
    have s0 : h2 25 0 = h1 25 0 := d1.2 0 (by decide)
    have s2 : h2 25 2 = h 25 2 := (d1.2 2 (by decide)).trans r2
    refine x_spendO (ok := isO par pur p) (l := L 2) f21 hA40 (fun i hi => by rw [f22, f23]; exact okO i hi) (fun i hi => by rw [s2]; exact hl 2 (by omega) i hi) hs (fun h3 m1 m2 => ?_)
    have k21 : h3 21 0 3 = nI A := by rw [m1.1 21 (by decide)]; exact f21
    have k22 : h3 22 = h 22 := by rw [m1.1 22 (by decide)]; exact f22
    refine x_spendF (r := 2) (ok := isP par p) (l := fwd (isO par pur p) (L 2) s) (s := s - sT (isO par pur p) (L 2) A) (by omega) k21 hA40 (fun i hi => by rw [k22]; exact okP i hi) (fun i hi => ⟨m2 i hi, Nat.le_trans fwd_le (hl 2 (by omega) i hi).2⟩) (by omega) (fun h4 n1 n2 => ?_)
    refine hQ h4 (fun g hg => ?_) (fun r hr i hi => ?_)
    · rw [n1.1 g hg, m1.1 g hg, d1.1 g hg, b1.1 g hg]
    · rcases (show r = 0 ∨ r = 1 ∨ r = 2 by omega) with e | e | e
      · rw [e, n1.2 0 (by decide), m1.2 0 (by decide), s0, b2 i hi]
        rfl
      · rw [e, n1.2 1 (by decide), m1.2 1 (by decide), d2 i hi]
        rfl
      · rw [e, n2 i hi, own_f hi]
        rfl) A (Nat.le_refl _) h1 ⟨ag25_rf, fun i hi => by rw [if_neg (by omega), r1]; exact (hl 1 (by omega) i hi).1⟩
  rw [Nat.sub_self, Nat.sub_zero] at this
  exact this
end Moves
