section MShare
variable {tk : Nat → Bool} {rk wt : Nat → Nat} {E : EN} {h hh : TH} {L : Nat} {s : Nat → Nat}
theorem lg_lt {a b : Nat} (ha : a < 2 ^ 63) (hb : b < 2 ^ 63) : (lg_cmp (lN a) (lN b) < 0) ↔ a < b := by
  unfold lg_cmp
  by_cases g : lN a > lN b
  · rw [if_pos g]
    have := (pk_lLT hb ha).mp g
    exact ⟨fun z => absurd z (by decide), fun z => by omega⟩
  · rw [if_neg g]
    have g' : ¬ b < a := fun z => g ((pk_lLT hb ha).mpr z)
    by_cases e : lN a = lN b
    · rw [if_pos e]
      have := (pk_lEQ ha hb).mp e
      exact ⟨fun z => absurd z (by decide), fun z => by omega⟩
    · rw [if_neg e]
      have e' : ¬ a = b := fun z => e ((pk_lEQ ha hb).mpr z)
      exact ⟨fun _ => by omega, fun _ => by decide⟩
theorem lg_ge {a b : Nat} (ha : a < 2 ^ 63) (hb : b < 2 ^ 63) : (0 ≤ lg_cmp (lN a) (lN b)) ↔ b ≤ a := by
  have := lg_lt ha hb
  rw [← Int32.not_lt, this]
  omega
theorem lg_eq {a b : Nat} (ha : a < 2 ^ 63) (hb : b < 2 ^ 63) : (lg_cmp (lN a) (lN b) = 0) ↔ a = b := by
  unfold lg_cmp
  by_cases g : lN a > lN b
  · rw [if_pos g]
    have := (pk_lLT hb ha).mp g
    exact ⟨fun z => absurd z (by decide), fun z => by omega⟩
  · rw [if_neg g, ← pk_lEQ ha hb]
    by_cases e : lN a = lN b
    · rw [if_pos e]; exact ⟨fun _ => e, fun _ => rfl⟩
    · rw [if_neg e]; exact ⟨fun z => absurd z (by decide), fun z => absurd z e⟩
def MS (tk : Nat → Bool) (rk wt : Nat → Nat) (h hh : TH) (s : Nat → Nat) : Prop :=
  ag h hh ∧ (∀ i, i < 22 → hh 58 0 i = if tk i = true then 1 else 0) ∧ (∀ i, i < 22 → tk i = true → hh 59 0 i = nI (rk i) ∧ hh 60 0 i = nI (wt i)) ∧ ∀ i, i < 22 → hh 61 0 i = nI (s i)
theorem MS_up {i : Nat} {v : Nat} {a : Int32} {s' : Nat → Nat} (c : MS tk rk wt h hh s) (ea : a = nI v) (hs : ∀ j, j < 22 → s' j = if j = i then v else s j) : MS tk rk wt h (up hh 61 0 i a) s' := by
  obtain ⟨c1, c2, c3, c5⟩ := c
  refine ⟨ag_up c1 rfl (by decide) (by decide), fun j hj => ?_, fun j hj => ?_, fun j hj => ?_⟩
  · rw [up_o (by decide)]; exact c2 j hj
  · rw [up_o (by decide), up_o (by decide)]; exact c3 j hj
  · rw [up_a, hs j hj]
    by_cases e : j = i
    · rw [if_pos e, if_pos e]; exact ea
    · rw [if_neg e, if_neg e]; exact c5 j hj
theorem MS_s {s' : Nat → Nat} (c : MS tk rk wt h hh s) (hs : ∀ j, j < 22 → s' j = s j) : MS tk rk wt h hh s' := by
  obtain ⟨c1, c2, c3, c5⟩ := c
  exact ⟨c1, c2, c3, fun j hj => by rw [hs j hj]; exact c5 j hj⟩
theorem MS_0 {i : Nat} (c : MS tk rk wt h hh s) (hi : i < 22) : (hh 58 0 i = 0) ↔ ¬ tk i = true := by
  rw [c.2.1 i hi]
  by_cases g : tk i = true
  · rw [if_pos g]; exact ⟨fun z => absurd z (by decide), fun z => absurd g z⟩
  · rw [if_neg g]; exact ⟨fun _ => g, fun _ => rfl⟩
theorem MS_r {r i : Nat} (c : MS tk rk wt h hh s) (hr : ∀ i, i < 22 → tk i = true → rk i ≤ 5000) (hr5 : r ≤ 5000) (hi : i < 22) (ti : tk i = true) : (hh 59 0 i = nI r) ↔ mem tk rk r i = true := by
  have b := hr i hi ti
  rw [(c.2.2.1 i hi ti).1, nI_eq (by omega) (by omega)]
  unfold mem
  rw [ti]
  simp
theorem mem_n {r i : Nat} (g : ¬ tk i = true) : ¬ mem tk rk r i = true := fun z => g (mem_tk z)
theorem m_nextRank {f : Nat} {Q : Int32 → TH → Prop} (c : MS tk rk wt h hh s) (hr : ∀ i, i < 22 → tk i = true → rk i ≤ 5000) (hf : f ≤ 5001) (hQ : Q (nxr tk rk f 22) hh) : wi E MX7_nextRank Q 0 [some (rf 28 0), some (.int (nI f)), none, none] [] hh := by
  refine sX7_nextRank_0 ?_
  unfold SX7_nextRank_0
  refine run_dn 22 (fun k => wi E MX7_nextRank Q 4 [some (rf 28 0), some (.int (nI f)), some (.int (nxr tk rk f k)), some (.int (nI k))] [] hh) ?_ ?_
  · refine sX7_nextRank_4 ?_
    unfold SX7_nextRank_4
    exact ⟨fun _ => hQ, fun z => absurd (show (22 : Int32) ≤ nI 22 by decide) z⟩
  · intro k hk ih
    refine sX7_nextRank_4 ?_
    unfold SX7_nextRank_4
    rw [ncl (show k ≤ 100000 by omega), nI_1, MS_0 c hk]
    refine ⟨fun z => absurd z (le22 hk), fun _ => ⟨vin hk (by omega), fun g => ?_, fun g => ?_⟩⟩
    · simp only [nxr, if_neg (show ¬ (tk k = true ∧ f ≤ rk k) from fun z => g z.1)] at ih
      exact ih
    · have ti : tk k = true := Classical.byContradiction g
      have b := hr k hk ti
      rw [(c.2.2.1 k hk ti).1, nI_ltI (by omega) (by omega)]
      refine ⟨fun g2 => ?_, fun g2 => ?_⟩
      · simp only [nxr, if_neg (show ¬ (tk k = true ∧ f ≤ rk k) from fun z => by omega)] at ih
        exact ih
      · simp only [nxr, if_pos (show tk k = true ∧ f ≤ rk k from ⟨ti, by omega⟩)] at ih
        refine ⟨fun g3 => ?_, fun g3 => ⟨fun g4 => ?_, fun g4 => ?_⟩⟩
        · rw [if_pos g3] at ih; exact ih
        · rw [if_neg g3, if_pos g4] at ih; exact ih
        · rw [if_neg g3, if_neg g4] at ih; exact ih
/-- what a rank has, before the odd coin -/
def g1R (tk : Nat → Bool) (rk wt : Nat → Nat) (r L i : Nat) : Nat := if alR tk rk wt r ≤ L then wt i else flR tk rk wt r L i
theorem g1_sum {r L n : Nat} (hn : n ≤ 22) (hL : L ≤ 10000000) : sT (mem tk rk r) (g1R tk rk wt r L) n ≤ L := by
  by_cases g : alR tk rk wt r ≤ L
  · have e : g1R tk rk wt r L = wt := by funext i; unfold g1R; rw [if_pos g]
    rw [e]
    exact Nat.le_trans (sT_mono 22 hn) g
  · have e : g1R tk rk wt r L = flR tk rk wt r L := by funext i; unfold g1R; rw [if_neg g]
    rw [e]
    exact fl_sum hn (by omega)
theorem m_odd {r : Nat} {Q : TH → Prop} (hr : ∀ i, i < 22 → tk i = true → rk i ≤ 5000) (hw : ∀ i, i < 22 → tk i = true → wt i ≤ 1000000) (hr5 : r ≤ 5000) (hL7 : L ≤ 10000000) (c : MS tk rk wt h hh (fun i => if mem tk rk r i = true then g1R tk rk wt r L i else s i))
    (hQ : ∀ h2, MS tk rk wt h h2 (nS tk rk wt r L s) → wi E MX7_nextRank (fun r3 h2 => wv E MX7_sell Q 15 [some (rf 28 0), none, none, some (.long (lN (nL tk rk wt r L))), none, some (.int r3), none, none, none, none, none] [] h2) 0 [some (rf 28 0), some (.int (nI (r + 1))), none, none] [] h2) :
    wv E MX7_sell Q 177 [some (rf 28 0), none, none, some (.long (lN L)), none, some (.int (nI r)), some (.long (lN (alR tk rk wt r))), none, some (.long (lN (sT (mem tk rk r) (g1R tk rk wt r L) 22))), none, some (.int 0)] [] hh := by
  have al := al_le (r := r) (rk := rk) hw
  by_cases g : alR tk rk wt r ≤ L
  · have e : g1R tk rk wt r L = wt := by funext i; unfold g1R; rw [if_pos g]
    refine sX7_sell_177 ?_
    unfold SX7_sell_177
    rw [lg_ge (by omega) (by omega), e, nI_1, show sT (mem tk rk r) wt 22 = alR tk rk wt r from rfl, lN_sub g]
    have en : L - alR tk rk wt r = nL tk rk wt r L := by unfold nL; rw [if_pos g]
    rw [en]
    have := hQ hh (MS_s c (fun j hj => by
      unfold nS
      by_cases gj : mem tk rk r j = true
      · rw [if_pos gj, if_pos gj, if_pos g, e]
      · rw [if_neg gj, if_neg gj]))
    exact ⟨fun _ => this, fun _ => ⟨fun _ => this, fun z => absurd g z⟩⟩
  · have e : g1R tk rk wt r L = flR tk rk wt r L := by funext i; unfold g1R; rw [if_neg g]
    have fs := fl_sum (tk := tk) (rk := rk) (wt := wt) (r := r) (L := L) (n := 22) (Nat.le_refl _) (by omega)
    have od : odR tk rk wt r L + sT (mem tk rk r) (flR tk rk wt r L) 22 = L := by unfold odR; omega
    have nb22 := nb_le (tk := tk) (rk := rk) (r := r) 22
    rw [e] at c ⊢
    -- gone behind k slots
    have main : ∀ h2, MS tk rk wt h h2 (fun i => if mem tk rk r i = true then flR tk rk wt r L i + (if i < 0 ∧ nbR tk rk r i < odR tk rk wt r L then 1 else 0) else s i) → wv E MX7_sell Q 177 [some (rf 28 0), none, none, some (.long (lN L)), none, some (.int (nI r)), some (.long (lN (alR tk rk wt r))), none, some (.long (lN (L - (odR tk rk wt r L - nbR tk rk r 0)))), none, some (.int (nI 0))] [] h2 := by
      refine run_dn 22 (fun k => ∀ h2, MS tk rk wt h h2 (fun i => if mem tk rk r i = true then flR tk rk wt r L i + (if i < k ∧ nbR tk rk r i < odR tk rk wt r L then 1 else 0) else s i) → wv E MX7_sell Q 177 [some (rf 28 0), none, none, some (.long (lN L)), none, some (.int (nI r)), some (.long (lN (alR tk rk wt r))), none, some (.long (lN (L - (odR tk rk wt r L - nbR tk rk r k)))), none, some (.int (nI k))] [] h2) ?_ ?_
      · intro h2 c2
        refine sX7_sell_177 ?_
        unfold SX7_sell_177
        rw [nI_1 r, lN_sub (by omega), show L - (L - (odR tk rk wt r L - nbR tk rk r 22)) = nL tk rk wt r L by unfold nL; rw [if_neg g]; omega]
        refine ⟨fun _ => hQ h2 (MS_s c2 (fun j hj => ?_)), fun z => absurd (show (22 : Int32) ≤ nI 22 by decide) z⟩
        unfold nS
        rw [if_neg g]
        by_cases gj : mem tk rk r j = true
        · rw [if_pos gj, if_pos gj]
          by_cases g2 : nbR tk rk r j < odR tk rk wt r L
          · rw [if_pos g2, if_pos ⟨hj, g2⟩]
          · rw [if_neg g2, if_neg (fun z => g2 z.2)]
        · rw [if_neg gj, if_neg gj]
      · intro k hk ih h2 c2
        -- nothing for k
        have no : ((mem tk rk r k = true → ¬ nbR tk rk r k < odR tk rk wt r L)) → wv E MX7_sell Q 177 [some (rf 28 0), none, none, some (.long (lN L)), none, some (.int (nI r)), some (.long (lN (alR tk rk wt r))), none, some (.long (lN (L - (odR tk rk wt r L - nbR tk rk r k)))), none, some (.int (nI (k + 1)))] [] h2 := by
          intro hn
          have en : L - (odR tk rk wt r L - nbR tk rk r k) = L - (odR tk rk wt r L - nbR tk rk r (k + 1)) := by
            by_cases gk : mem tk rk r k = true
            · have := hn gk
              rw [nb_s gk]; omega
            · rw [nb_n gk]
          rw [en]
          refine ih h2 (MS_s c2 (fun j hj => ?_))
          by_cases gj : mem tk rk r j = true
          · rw [if_pos gj, if_pos gj]
            by_cases e1 : j = k
            · rw [if_neg (fun z => hn (by rw [← e1]; exact gj) (by rw [← e1]; exact z.2)), if_neg (fun z => by omega)]
            · by_cases e2 : j < k ∧ nbR tk rk r j < odR tk rk wt r L
              · rw [if_pos e2, if_pos ⟨by omega, e2.2⟩]
              · rw [if_neg e2, if_neg (fun z => e2 ⟨by omega, z.2⟩)]
          · rw [if_neg gj, if_neg gj]
        have nbk : nbR tk rk r k ≤ nbR tk rk r 22 := nb_mono (by omega)
        refine sX7_sell_177 ?_
        unfold SX7_sell_177
        rw [lg_ge (by omega) (by omega), ncl (show k ≤ 100000 by omega), nI_1 k, MS_0 c2 hk, lg_eq (by omega) (by omega)]
        refine ⟨fun z => absurd z (le22 hk), fun _ => ⟨fun z => absurd z g, fun _ => ⟨vin hk (by omega), fun g0 => no (fun z => absurd z (mem_n g0)), fun g0 => ?_⟩⟩⟩
        have ti : tk k = true := Classical.byContradiction g0
        rw [MS_r c2 hr hr5 hk ti]
        refine ⟨fun g1 => no (fun z => absurd z g1), fun g1 => ⟨fun g2 => ?_, fun g2 => no (fun _ z => by omega)⟩⟩
        have ek := c2.2.2.2 k hk
        dsimp only at ek
        rw [if_pos g1, if_neg (fun z => absurd z.1 (Nat.lt_irrefl k)), Nat.add_zero] at ek
        rw [ek, nI_1, lN_1, show L - (odR tk rk wt r L - nbR tk rk r k) + 1 = L - (odR tk rk wt r L - nbR tk rk r (k + 1)) by rw [nb_s g1]; omega]
        refine ih _ (MS_up (v := flR tk rk wt r L k + 1) c2 rfl (fun j hj => ?_))
        by_cases e : j = k
        · rw [e, if_pos rfl, if_pos g1, if_pos ⟨by omega, by omega⟩]
        · rw [if_neg e]
          by_cases gj : mem tk rk r j = true
          · rw [if_pos gj, if_pos gj]
            by_cases e2 : j < k ∧ nbR tk rk r j < odR tk rk wt r L
            · rw [if_pos e2, if_pos ⟨by omega, e2.2⟩]
            · rw [if_neg e2, if_neg (fun z => e2 ⟨by omega, z.2⟩)]
          · rw [if_neg gj, if_neg gj]
    have := main hh (MS_s c (fun j hj => by
      by_cases gj : mem tk rk r j = true
      · rw [if_pos gj, if_pos gj, if_neg (fun z => absurd z.1 (Nat.not_lt_zero j))]
        rfl
      · rw [if_neg gj, if_neg gj]))
    rw [show L - (odR tk rk wt r L - nbR tk rk r 0) = sT (mem tk rk r) (flR tk rk wt r L) 22 by show L - (odR tk rk wt r L - 0) = _; omega] at this
    exact this
theorem m_rank {r : Nat} {Q : TH → Prop} (hr : ∀ i, i < 22 → tk i = true → rk i ≤ 5000) (hw : ∀ i, i < 22 → tk i = true → wt i ≤ 1000000) (hr5 : r ≤ 5000) (hL7 : L ≤ 10000000) (c : MS tk rk wt h hh s)
    (hQ : ∀ h2, MS tk rk wt h h2 (nS tk rk wt r L s) → wi E MX7_nextRank (fun r3 h2 => wv E MX7_sell Q 15 [some (rf 28 0), none, none, some (.long (lN (nL tk rk wt r L))), none, some (.int r3), none, none, none, none, none] [] h2) 0 [some (rf 28 0), some (.int (nI (r + 1))), none, none] [] h2) :
    wv E MX7_sell Q 27 [some (rf 28 0), none, none, some (.long (lN L)), none, some (.int (nI r)), some (.long 0), none, some (.int 0), none, none] [] hh := by
  have al := al_le (r := r) (rk := rk) hw
  have two : ∀ h2, MS tk rk wt h h2 (fun i => if i < 0 ∧ mem tk rk r i = true then g1R tk rk wt r L i else s i) → wv E MX7_sell Q 85 [some (rf 28 0), none, none, some (.long (lN L)), none, some (.int (nI r)), some (.long (lN (alR tk rk wt r))), none, some (.long (lN (sT (mem tk rk r) (g1R tk rk wt r L) 0))), none, some (.int (nI 0))] [] h2 := by
    refine run_dn 22 (fun k => ∀ h2, MS tk rk wt h h2 (fun i => if i < k ∧ mem tk rk r i = true then g1R tk rk wt r L i else s i) → wv E MX7_sell Q 85 [some (rf 28 0), none, none, some (.long (lN L)), none, some (.int (nI r)), some (.long (lN (alR tk rk wt r))), none, some (.long (lN (sT (mem tk rk r) (g1R tk rk wt r L) k))), none, some (.int (nI k))] [] h2) ?_ ?_
    · intro h2 c2
      refine sX7_sell_85 ?_
      unfold SX7_sell_85
      refine ⟨fun _ => m_odd hr hw hr5 hL7 (MS_s c2 (fun j hj => ?_)) hQ, fun z => absurd (show (22 : Int32) ≤ nI 22 by decide) z⟩
      by_cases g : mem tk rk r j = true
      · rw [if_pos g, if_pos ⟨hj, g⟩]
      · rw [if_neg g, if_neg (fun z => g z.2)]
    · intro k hk ih h2 c2
      have no : ¬ mem tk rk r k = true → wv E MX7_sell Q 85 [some (rf 28 0), none, none, some (.long (lN L)), none, some (.int (nI r)), some (.long (lN (alR tk rk wt r))), none, some (.long (lN (sT (mem tk rk r) (g1R tk rk wt r L) k))), none, some (.int (nI (k + 1)))] [] h2 := by
        intro gk
        rw [← sT_n (l := g1R tk rk wt r L) gk]
        refine ih h2 (MS_s c2 (fun j hj => ?_))
        by_cases e : j = k
        · rw [e, if_neg (fun z => gk z.2), if_neg (fun z => gk z.2)]
        · by_cases e2 : j < k ∧ mem tk rk r j = true
          · rw [if_pos e2, if_pos ⟨by omega, e2.2⟩]
          · rw [if_neg e2, if_neg (fun z => e2 ⟨by omega, z.2⟩)]
      have yes : mem tk rk r k = true → ∀ v : Int32, v = nI (g1R tk rk wt r L k) → wv E MX7_sell Q 85 [some (rf 28 0), none, none, some (.long (lN L)), none, some (.int (nI r)), some (.long (lN (alR tk rk wt r))), none, some (.long (lN (sT (mem tk rk r) (g1R tk rk wt r L) k) + v.toInt64)), none, some (.int (nI (k + 1)))] [] (up h2 61 0 k v) := by
        intro gk v ev
        have m1 := g1_sum (tk := tk) (rk := rk) (wt := wt) (r := r) (n := k + 1) (by omega) hL7
        have m2 := sT_s (l := g1R tk rk wt r L) gk
        rw [ev, nI_l (by omega), lN_add, ← m2]
        refine ih _ (MS_up (v := g1R tk rk wt r L k) c2 rfl (fun j hj => ?_))
        by_cases e : j = k
        · rw [e, if_pos rfl, if_pos ⟨by omega, gk⟩]
        · rw [if_neg e]
          by_cases e2 : j < k ∧ mem tk rk r j = true
          · rw [if_pos e2, if_pos ⟨by omega, e2.2⟩]
          · rw [if_neg e2, if_neg (fun z => e2 ⟨by omega, z.2⟩)]
      refine sX7_sell_85 ?_
      unfold SX7_sell_85
      rw [ncl (show k ≤ 100000 by omega), nI_1, MS_0 c2 hk, lg_lt (by omega) (by omega)]
      refine ⟨fun z => absurd z (le22 hk), fun _ => ⟨vin hk (by omega), fun g0 => no (mem_n g0), fun g0 => ?_⟩⟩
      have ti : tk k = true := Classical.byContradiction g0
      rw [MS_r c2 hr hr5 hk ti, (c2.2.2.1 k hk ti).2]
      refine ⟨fun g1 => ⟨fun g2 => ⟨?_, ?_⟩, fun g2 => ?_⟩, fun g1 => no g1⟩
      · intro z
        rw [show (0 : Int64) = lN 0 from rfl, pk_lEQ (by omega) (by omega)] at z
        omega
      · obtain ⟨f1, -⟩ := fl_I (i := k) hw hL7 g2 hk ti
        rw [nI_l (show alR tk rk wt r < 2 ^ 31 by omega)] at f1
        rw [f1]
        exact yes g1 _ (by unfold g1R; rw [if_neg (by omega)])
      · exact yes g1 _ (by unfold g1R; rw [if_pos (by omega)])
  refine run_dn 22 (fun k => wv E MX7_sell Q 27 [some (rf 28 0), none, none, some (.long (lN L)), none, some (.int (nI r)), some (.long (lN (sT (mem tk rk r) wt k))), none, some (.int (nI k)), none, none] [] hh) ?_ ?_
  · refine sX7_sell_27 ?_
    unfold SX7_sell_27
    refine ⟨fun _ => two hh (MS_s c (fun j hj => ?_)), fun z => absurd (show (22 : Int32) ≤ nI 22 by decide) z⟩
    rw [if_neg (fun z => absurd z.1 (Nat.not_lt_zero j))]
  · intro k hk ih
    refine sX7_sell_27 ?_
    unfold SX7_sell_27
    rw [ncl (show k ≤ 100000 by omega), nI_1, MS_0 c hk, Int64.add_zero]
    refine ⟨fun z => absurd z (le22 hk), fun _ => ⟨vin hk (by omega), fun g0 => ?_, fun g0 => ?_⟩⟩
    · rw [sT_n (mem_n g0)] at ih; exact ih
    · have ti : tk k = true := Classical.byContradiction g0
      have b := hw k hk ti
      rw [MS_r c hr hr5 hk ti, (c.2.2.1 k hk ti).2, nI_l (by omega), lN_add]
      refine ⟨fun g => ?_, fun g => ?_⟩
      · rw [sT_n g] at ih; exact ih
      · rw [sT_s g] at ih; exact ih
theorem m_rounds {Q : TH → Prop} (hr : ∀ i, i < 22 → tk i = true → rk i ≤ 5000) (hw : ∀ i, i < 22 → tk i = true → wt i ≤ 1000000) : ∀ (k f L : Nat) (s : Nat → Nat) (hh : TH), cnF tk rk f 22 ≤ k → f ≤ 5001 → L ≤ 10000000 → MS tk rk wt h hh s →
    (∀ h2, MS tk rk wt h h2 (slP tk rk wt k f L s).2 → h2 28 0 43 = nI (slP tk rk wt k f L s).1 → Q h2) → wv E MX7_sell Q 15 [some (rf 28 0), none, none, some (.long (lN L)), none, some (.int (nxr tk rk f 22)), none, none, none, none, none] [] hh := by
  intro k
  induction k with
  | zero =>
    intro f L s hh hk hf hL c hQ
    refine sX7_sell_15 ?_
    unfold SX7_sell_15
    rw [lN_i]
    refine ⟨fun _ => hQ _ ⟨ag_28 c.1, fun i hi => ?_, fun i hi => ?_, fun i hi => ?_⟩ (by rw [up_s]; rfl), fun g => ?_⟩
    · rw [up_o (by decide)]; exact c.2.1 i hi
    · rw [up_o (by decide), up_o (by decide)]; exact c.2.2.1 i hi
    · rw [up_o (by decide)]; exact c.2.2.2 i hi
    · rcases nxr_spec (f := f) hr 22 (Nat.le_refl _) with ⟨z, -⟩ | ⟨m, m1, m2, m3, i, j1, j2, j3⟩
      · exact absurd z g
      · have := cnF_lt m2 j2 j3 22 j1
        omega
  | succ k ih =>
    intro f L s hh hk hf hL c hQ
    refine sX7_sell_15 ?_
    unfold SX7_sell_15
    rw [lN_i]
    unfold slP at hQ
    refine ⟨fun g => ?_, fun g => ?_⟩
    · rw [if_pos g] at hQ
      refine hQ _ ⟨ag_28 c.1, fun i hi => ?_, fun i hi => ?_, fun i hi => ?_⟩ (by rw [up_s])
      · rw [up_o (by decide)]; exact c.2.1 i hi
      · rw [up_o (by decide), up_o (by decide)]; exact c.2.2.1 i hi
      · rw [up_o (by decide)]; exact c.2.2.2 i hi
    · rcases nxr_spec (f := f) hr 22 (Nat.le_refl _) with ⟨z, -⟩ | ⟨m, m1, m2, m3, i, j1, j2, j3⟩
      · exact absurd z g
      · rw [if_neg g] at hQ
        rw [m3, nI_clamp (by omega)] at hQ
        rw [m3]
        have cl := cnF_lt m2 j2 j3 22 j1
        refine m_rank hr hw m1 hL c (fun h2 c2 => ?_)
        refine m_nextRank c2 hr (by omega) ?_
        exact ih (m + 1) _ _ h2 (by omega) (by omega) (Nat.le_trans nL_le hL) c2 hQ
end MShare
