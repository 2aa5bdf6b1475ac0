section Share
variable {tk : Nat → Bool} {rk wt : Nat → Nat}
def mem (tk : Nat → Bool) (rk : Nat → Nat) (r i : Nat) : Bool := tk i && decide (rk i = r)
/-- what a rank has to have -/
def alR (tk : Nat → Bool) (rk wt : Nat → Nat) (r : Nat) : Nat := sT (mem tk rk r) wt 22
/-- shares, rounded down -/
def flR (tk : Nat → Bool) (rk wt : Nat → Nat) (r L i : Nat) : Nat := L * wt i / alR tk rk wt r
/-- odd coin -/
def odR (tk : Nat → Bool) (rk wt : Nat → Nat) (r L : Nat) : Nat := L - sT (mem tk rk r) (flR tk rk wt r L) 22
def nbR (tk : Nat → Bool) (rk : Nat → Nat) (r n : Nat) : Nat := sT (mem tk rk r) (fun _ => 1) n
def nS (tk : Nat → Bool) (rk wt : Nat → Nat) (r L : Nat) (s : Nat → Nat) (i : Nat) : Nat :=
  if mem tk rk r i = true then (if alR tk rk wt r ≤ L then wt i else flR tk rk wt r L i + (if nbR tk rk r i < odR tk rk wt r L then 1 else 0)) else s i
def nL (tk : Nat → Bool) (rk wt : Nat → Nat) (r L : Nat) : Nat := if alR tk rk wt r ≤ L then L - alR tk rk wt r else odR tk rk wt r L - nbR tk rk r 22
/-- the least rank of those that take, from f on -/
def nxr (tk : Nat → Bool) (rk : Nat → Nat) (f : Nat) : Nat → Int32
  | 0 => -1
  | n + 1 => if tk n = true ∧ f ≤ rk n then (if nxr tk rk f n = -1 then nI (rk n) else if nxr tk rk f n ≤ nI (rk n) then nxr tk rk f n else nI (rk n)) else nxr tk rk f n
def slP (tk : Nat → Bool) (rk wt : Nat → Nat) : Nat → Nat → Nat → (Nat → Nat) → Nat × (Nat → Nat)
  | 0, _, L, s => (L, s)
  | k + 1, f, L, s => if nxr tk rk f 22 = -1 then (L, s) else slP tk rk wt k ((nxr tk rk f 22).toNatClampNeg + 1) (nL tk rk wt (nxr tk rk f 22).toNatClampNeg L) (nS tk rk wt (nxr tk rk f 22).toNatClampNeg L s)
theorem sT_ubB {ok : Nat → Bool} {l : Nat → Nat} {B : Nat} : ∀ n, (∀ i, i < n → ok i = true → l i ≤ B) → sT ok l n ≤ n * B
  | 0, _ => Nat.zero_le _
  | n + 1, hh => by
    have ih := sT_ubB n (fun i hi => hh i (by omega))
    rw [Nat.succ_mul]
    by_cases g : ok n = true
    · rw [sT_s g]
      exact Nat.add_le_add ih (hh n (by omega) g)
    · rw [sT_n g]
      exact Nat.le_trans ih (Nat.le_add_right _ _)
theorem fl_mul {ok : Nat → Bool} {L al : Nat} : ∀ n, sT ok (fun i => L * wt i / al) n * al ≤ L * sT ok wt n
  | 0 => by
    show 0 * al ≤ _
    rw [Nat.zero_mul]; exact Nat.zero_le _
  | n + 1 => by
    have ih := fl_mul (ok := ok) (L := L) (al := al) n
    by_cases g : ok n = true
    · rw [sT_s g, sT_s g, Nat.add_mul, Nat.mul_add]
      exact Nat.add_le_add ih (Nat.div_mul_le_self _ _)
    · rw [sT_n g, sT_n g]; exact ih
theorem fl_sum {r L n : Nat} (hn : n ≤ 22) (h0 : L < alR tk rk wt r) : sT (mem tk rk r) (flR tk rk wt r L) n ≤ L := by
  have h1 := fl_mul (wt := wt) (ok := mem tk rk r) (L := L) (al := alR tk rk wt r) n
  have h2 : sT (mem tk rk r) wt n ≤ alR tk rk wt r := sT_mono 22 hn
  have h3 : L * sT (mem tk rk r) wt n ≤ L * alR tk rk wt r := Nat.mul_le_mul_left _ h2
  exact Nat.le_of_mul_le_mul_right (Nat.le_trans h1 h3) (by omega)
theorem nb_le {r : Nat} (n : Nat) : nbR tk rk r n ≤ n := by
  have := sT_ubB (ok := mem tk rk r) (l := fun _ => 1) (B := 1) n (fun _ _ _ => Nat.le_refl _)
  unfold nbR
  omega
theorem al_le {r : Nat} (hw : ∀ i, i < 22 → tk i = true → wt i ≤ 1000000) : alR tk rk wt r ≤ 22000000 := by
  have := sT_ubB (ok := mem tk rk r) (l := wt) (B := 1000000) 22 (fun i hi g => hw i hi (by unfold mem at g; rw [Bool.and_eq_true] at g; exact g.1))
  unfold alR
  omega
theorem nL_le {r L : Nat} : nL tk rk wt r L ≤ L := by
  unfold nL odR
  by_cases g : alR tk rk wt r ≤ L
  · rw [if_pos g]; omega
  · rw [if_neg g]; omega
theorem nxr_spec {f : Nat} (hr : ∀ i, i < 22 → tk i = true → rk i ≤ 5000) : ∀ n, n ≤ 22 → (nxr tk rk f n = -1 ∧ ∀ i, i < n → tk i = true → ¬ f ≤ rk i) ∨ ∃ m, m ≤ 5000 ∧ f ≤ m ∧ nxr tk rk f n = nI m ∧ ∃ i, i < n ∧ tk i = true ∧ rk i = m
  | 0, _ => Or.inl ⟨rfl, fun i hi => absurd hi (Nat.not_lt_zero i)⟩
  | n + 1, hn => by
    have ih := nxr_spec (f := f) hr n (by omega)
    unfold nxr
    by_cases g : tk n = true ∧ f ≤ rk n
    · rw [if_pos g]
      have b := hr n (by omega) g.1
      rcases ih with ⟨i1, i2⟩ | ⟨m, m1, m2, m3, i, j1, j2, j3⟩
      · rw [if_pos i1]
        exact Or.inr ⟨rk n, b, g.2, rfl, n, by omega, g.1, rfl⟩
      · rw [m3, if_neg (nI_m1 (by omega))]
        by_cases g2 : nI m ≤ nI (rk n)
        · rw [if_pos g2]
          exact Or.inr ⟨m, m1, m2, rfl, i, by omega, j2, j3⟩
        · rw [if_neg g2]
          exact Or.inr ⟨rk n, b, g.2, rfl, n, by omega, g.1, rfl⟩
    · rw [if_neg g]
      rcases ih with ⟨i1, i2⟩ | ⟨m, m1, m2, m3, i, j1, j2, j3⟩
      · refine Or.inl ⟨i1, fun i hi ti hf => ?_⟩
        by_cases e : i = n
        · rw [e] at ti hf
          exact g ⟨ti, hf⟩
        · exact i2 i (by omega) ti hf
      · exact Or.inr ⟨m, m1, m2, m3, i, by omega, j2, j3⟩
/-- how many take, from f on -/
def cnF (tk : Nat → Bool) (rk : Nat → Nat) (f n : Nat) : Nat := sT (fun i => tk i && decide (f ≤ rk i)) (fun _ => 1) n
theorem cnF_mono {f g : Nat} (h : f ≤ g) : ∀ n, cnF tk rk g n ≤ cnF tk rk f n
  | 0 => Nat.le_refl _
  | n + 1 => by
    have ih := cnF_mono h n
    unfold cnF at ih ⊢
    by_cases a : (tk n && decide (g ≤ rk n)) = true
    · have b : (tk n && decide (f ≤ rk n)) = true := by simp at a ⊢; exact ⟨a.1, by omega⟩
      rw [sT_s (ok := fun i => tk i && decide (g ≤ rk i)) a, sT_s (ok := fun i => tk i && decide (f ≤ rk i)) b]
      omega
    · rw [sT_n (ok := fun i => tk i && decide (g ≤ rk i)) a]
      by_cases b : (tk n && decide (f ≤ rk n)) = true
      · rw [sT_s (ok := fun i => tk i && decide (f ≤ rk i)) b]; omega
      · rw [sT_n (ok := fun i => tk i && decide (f ≤ rk i)) b]; exact ih
theorem cnF_lt {f m i : Nat} (hf : f ≤ m) (ti : tk i = true) (ri : rk i = m) : ∀ n, i < n → cnF tk rk (m + 1) n < cnF tk rk f n
  | 0, h => absurd h (Nat.not_lt_zero i)
  | n + 1, h => by
    have mo := cnF_mono (tk := tk) (rk := rk) (show f ≤ m + 1 by omega) n
    have ih := cnF_lt hf ti ri n
    unfold cnF at ih mo ⊢
    by_cases e : i = n
    · have a : ¬ (tk n && decide (m + 1 ≤ rk n)) = true := by rw [← e, ri]; simp
      have b : (tk n && decide (f ≤ rk n)) = true := by rw [← e, ri, ti]; simp [hf]
      rw [sT_n (ok := fun i => tk i && decide (m + 1 ≤ rk i)) a, sT_s (ok := fun i => tk i && decide (f ≤ rk i)) b]
      omega
    · have ih := ih (by omega)
      by_cases a : (tk n && decide (m + 1 ≤ rk n)) = true
      · have b : (tk n && decide (f ≤ rk n)) = true := by simp at a ⊢; exact ⟨a.1, by omega⟩
        rw [sT_s (ok := fun i => tk i && decide (m + 1 ≤ rk i)) a, sT_s (ok := fun i => tk i && decide (f ≤ rk i)) b]
        omega
      · rw [sT_n (ok := fun i => tk i && decide (m + 1 ≤ rk i)) a]
        by_cases b : (tk n && decide (f ≤ rk n)) = true
        · rw [sT_s (ok := fun i => tk i && decide (f ≤ rk i)) b]; omega
        · rw [sT_n (ok := fun i => tk i && decide (f ≤ rk i)) b]; exact ih
theorem cnF_22 {f : Nat} : cnF tk rk f 22 ≤ 22 := by
  have := sT_ubB (ok := fun i => tk i && decide (f ≤ rk i)) (l := fun _ => 1) (B := 1) 22 (fun _ _ _ => Nat.le_refl _)
  unfold cnF
  omega
variable {E : EN} {h hh : TH} {L : Nat} {s : Nat → Nat}
/-- what the class has written while it shares -/
def CS (tk : Nat → Bool) (rk wt : Nat → Nat) (h hh : TH) (L : Nat) (s : Nat → Nat) : Prop :=
  ag h hh ∧ (∀ i, i < 22 → hh 18 0 i = if tk i = true then nI (rk i) else -1) ∧ (∀ i, i < 22 → tk i = true → hh 19 0 i = nI (wt i)) ∧ hh 15 0 7 = nI L ∧ ∀ i, i < 22 → hh 20 0 i = nI (s i)
theorem CS_up {i : Nat} {v : Nat} {L' : Nat} {a b : Int32} {s' : Nat → Nat} (c : CS tk rk wt h hh L s) (ea : a = nI v) (eb : b = nI L') (hs : ∀ j, j < 22 → s' j = if j = i then v else s j) : CS tk rk wt h (up (up hh 20 0 i a) 15 0 7 b) L' s' := by
  obtain ⟨c1, c2, c3, c4, c5⟩ := c
  refine ⟨ag_15 (ag_up c1 rfl (by decide) (by decide)), fun j hj => ?_, fun j hj => ?_, by rw [up_s]; exact eb, fun j hj => ?_⟩
  · rw [up_o (by decide), up_o (by decide)]; exact c2 j hj
  · rw [up_o (by decide), up_o (by decide)]; exact c3 j hj
  · rw [up_o (by decide), up_a, hs j hj]
    by_cases e : j = i
    · rw [if_pos e, if_pos e]; exact ea
    · rw [if_neg e, if_neg e]; exact c5 j hj
theorem CS_s {s' : Nat → Nat} {L' : Nat} (c : CS tk rk wt h hh L s) (e : L = L') (hs : ∀ j, j < 22 → s' j = s j) : CS tk rk wt h hh L' s' := by
  obtain ⟨c1, c2, c3, c4, c5⟩ := c
  exact ⟨c1, c2, c3, by rw [← e]; exact c4, fun j hj => by rw [hs j hj]; exact c5 j hj⟩
/-- a slot is of the rank -/
theorem CS_mem {r i : Nat} (c : CS tk rk wt h hh L s) (hr : ∀ i, i < 22 → tk i = true → rk i ≤ 5000) (hr5 : r ≤ 5000) (hi : i < 22) : (hh 18 0 i = nI r) ↔ mem tk rk r i = true := by
  rw [c.2.1 i hi]
  unfold mem
  by_cases g : tk i = true
  · have b := hr i hi g
    rw [if_pos g, g, nI_eq (by omega) (by omega)]
    simp
  · rw [if_neg g, Bool.eq_false_iff.mpr g]
    constructor
    · intro z; exact absurd z.symm (nI_m1 (by omega))
    · intro z; exact absurd z (by simp)
theorem mem_tk {r i : Nat} (g : mem tk rk r i = true) : tk i = true := by unfold mem at g; rw [Bool.and_eq_true] at g; exact g.1
theorem le22 {k : Nat} (h : k < 22) : ¬ (22 : Int32) ≤ nI k := by
  rw [show (22 : Int32) = nI 22 from rfl, le_nI (by omega) (by omega)]; omega
theorem x_rankAfter {f : Nat} {Q : Int32 → TH → Prop} (c : CS tk rk wt h hh L s) (hr : ∀ i, i < 22 → tk i = true → rk i ≤ 5000) (hf : f ≤ 5001) (hQ : Q (nxr tk rk f 22) hh) : wi E MX5_rankAfter Q 0 [some (rf 15 0), some (.int (nI f - 1)), none, none] [] hh := by
  refine sX5_rankAfter_0 ?_
  unfold SX5_rankAfter_0
  refine run_dn 22 (fun k => wi E MX5_rankAfter Q 4 [some (rf 15 0), some (.int (nI f - 1)), some (.int (nxr tk rk f k)), some (.int (nI k))] [] hh) ?_ ?_
  · refine sX5_rankAfter_4 ?_
    unfold SX5_rankAfter_4
    exact ⟨fun _ => hQ, fun z => absurd (show (22 : Int32) ≤ nI 22 by decide) z⟩
  · intro k hk ih
    have key : (hh 18 0 k ≤ nI f - 1) ↔ ¬ (tk k = true ∧ f ≤ rk k) := by
      rw [c.2.1 k hk]
      by_cases g : tk k = true
      · have b := hr k hk g
        rw [if_pos g]
        cases f with
        | zero =>
          constructor
          · intro z
            exfalso
            rw [show nI 0 - 1 = -1 by decide, Int32.le_iff_toInt_le, nI_toInt (by omega), show (-1 : Int32).toInt = -1 by decide] at z
            omega
          · intro z; exact absurd ⟨g, Nat.zero_le _⟩ z
        | succ f =>
          rw [nI_pred, le_nI (by omega) (by omega)]
          constructor
          · intro z y; omega
          · intro z
            rcases Nat.lt_or_ge f (rk k) with q | q
            · exact absurd ⟨g, q⟩ z
            · exact q
      · rw [if_neg g]
        refine ⟨fun _ z => g z.1, fun _ => ?_⟩
        cases f with
        | zero => rw [show nI 0 - 1 = -1 by decide]; exact Int32.le_refl _
        | succ f =>
          rw [nI_pred, Int32.le_iff_toInt_le, nI_toInt (by omega), show (-1 : Int32).toInt = -1 by decide]
          omega
    have kn : ¬ hh 18 0 k ≤ nI f - 1 → hh 18 0 k = nI (rk k) := fun g => by
      have : tk k = true ∧ f ≤ rk k := Classical.byContradiction (fun z => g (key.mpr z))
      rw [c.2.1 k hk, if_pos this.1]
    refine sX5_rankAfter_4 ?_
    unfold SX5_rankAfter_4
    rw [ncl (show k ≤ 100000 by omega), nI_1]
    refine ⟨fun z => absurd z (le22 hk), fun _ => ⟨vin hk (by omega), fun g => ?_, fun g => ?_⟩⟩
    · simp only [nxr, if_neg (key.mp g)] at ih
      exact ih
    · have g2 : tk k = true ∧ f ≤ rk k := Classical.byContradiction (fun z => g (key.mpr z))
      simp only [nxr, if_pos g2] at ih
      rw [kn g]
      refine ⟨fun g3 => ?_, fun g3 => ⟨fun g4 => ?_, fun g4 => ?_⟩⟩
      · rw [if_pos g3] at ih; exact ih
      · rw [if_neg g3, if_pos g4] at ih; exact ih
      · rw [if_neg g3, if_neg g4] at ih; exact ih
theorem x_payWhole {r : Nat} {Q : TH → Prop} (c : CS tk rk wt h hh L s) (hr : ∀ i, i < 22 → tk i = true → rk i ≤ 5000) (hr5 : r ≤ 5000) (hL : alR tk rk wt r ≤ L)
    (hQ : ∀ h2, CS tk rk wt h h2 (nL tk rk wt r L) (nS tk rk wt r L s) → Q h2) : wv E MX5_payWhole Q 0 [some (rf 15 0), some (.int (nI r)), none] [] hh := by
  refine sX5_payWhole_0 ?_
  unfold SX5_payWhole_0
  have main : ∀ h2, CS tk rk wt h h2 (L - sT (mem tk rk r) wt 0) (fun i => if i < 0 ∧ mem tk rk r i = true then wt i else s i) → wv E MX5_payWhole Q 2 [some (rf 15 0), some (.int (nI r)), some (.int (nI 0))] [] h2 := by
    refine run_dn 22 (fun k => ∀ h2, CS tk rk wt h h2 (L - sT (mem tk rk r) wt k) (fun i => if i < k ∧ mem tk rk r i = true then wt i else s i) → wv E MX5_payWhole Q 2 [some (rf 15 0), some (.int (nI r)), some (.int (nI k))] [] h2) ?_ ?_
    · intro h2 c2
      refine sX5_payWhole_2 ?_
      unfold SX5_payWhole_2
      refine ⟨fun _ => hQ h2 (CS_s c2 ?_ (fun j hj => ?_)), fun z => absurd (show (22 : Int32) ≤ nI 22 by decide) z⟩
      · unfold nL; rw [if_pos hL]; rfl
      · unfold nS
        rw [if_pos hL]
        by_cases g : mem tk rk r j = true
        · rw [if_pos g, if_pos ⟨hj, g⟩]
        · rw [if_neg g, if_neg (fun z => g z.2)]
    · intro k hk ih h2 c2
      refine sX5_payWhole_2 ?_
      unfold SX5_payWhole_2
      rw [ncl (show k ≤ 100000 by omega), nI_1, CS_mem c2 hr hr5 hk]
      refine ⟨fun z => absurd z (le22 hk), fun _ => ⟨vin hk (by omega), fun g => ih _ (CS_s c2 ?_ (fun j hj => ?_)), fun g => ?_⟩⟩
      · rw [sT_n g]
      · by_cases e : j = k
        · rw [e, if_neg (fun z => g z.2), if_neg (fun z => g z.2)]
        · by_cases e2 : j < k ∧ mem tk rk r j = true
          · rw [if_pos e2, if_pos ⟨by omega, e2.2⟩]
          · rw [if_neg e2, if_neg (fun z => e2 ⟨by omega, z.2⟩)]
      · have m1 : sT (mem tk rk r) wt (k + 1) ≤ L := Nat.le_trans (sT_mono 22 (by omega)) hL
        rw [sT_s g] at m1
        rw [c2.2.2.1 k hk (mem_tk g), c2.2.2.2.1]
        refine ih _ (CS_up (v := wt k) c2 rfl ?_ (fun j hj => ?_))
        · rw [sT_s g, pk_sub (by omega)]; congr 1; omega
        · by_cases e : j = k
          · rw [e, if_pos rfl, if_pos ⟨by omega, g⟩]
          · rw [if_neg e]
            by_cases e2 : j < k ∧ mem tk rk r j = true
            · rw [if_pos e2, if_pos ⟨by omega, e2.2⟩]
            · rw [if_neg e2, if_neg (fun z => e2 ⟨by omega, z.2⟩)]
  exact main hh (CS_s c (Nat.sub_zero L).symm (fun j hj => by rw [if_neg (fun z => absurd z.1 (Nat.not_lt_zero j))]))
theorem fl_I {r i : Nat} (hw : ∀ i, i < 22 → tk i = true → wt i ≤ 1000000) (hL : L ≤ 10000000) (hl : L < alR tk rk wt r) (hi : i < 22) (ti : tk i = true) : (lN L * (nI (wt i)).toInt64 / (nI (alR tk rk wt r)).toInt64).toInt32 = nI (flR tk rk wt r L i) ∧ flR tk rk wt r L i ≤ 10000000000000 := by
  have b := hw i hi ti
  have a := al_le (r := r) (rk := rk) hw
  have m : L * wt i ≤ 10000000 * 1000000 := Nat.mul_le_mul hL b
  refine ⟨?_, ?_⟩
  · rw [nI_l (by omega), nI_l (by omega), lN_mul, pk_lDiv (by omega) (by omega) (by omega), lN_i]
    rfl
  · unfold flR
    exact Nat.le_trans (Nat.div_le_self _ _) (by omega)
theorem nb_s {r n : Nat} (g : mem tk rk r n = true) : nbR tk rk r (n + 1) = nbR tk rk r n + 1 := sT_s g
theorem nb_n {r n : Nat} (g : ¬ mem tk rk r n = true) : nbR tk rk r (n + 1) = nbR tk rk r n := sT_n g
theorem nb_mono {r m n : Nat} (h : m ≤ n) : nbR tk rk r m ≤ nbR tk rk r n := sT_mono n h
theorem x_shareLeft {r : Nat} {Q : TH → Prop} (c : CS tk rk wt h hh L s) (hr : ∀ i, i < 22 → tk i = true → rk i ≤ 5000) (hw : ∀ i, i < 22 → tk i = true → wt i ≤ 1000000) (hr5 : r ≤ 5000) (hL7 : L ≤ 10000000) (hL : L < alR tk rk wt r)
    (hQ : ∀ h2, CS tk rk wt h h2 (nL tk rk wt r L) (nS tk rk wt r L s) → Q h2) : wv E MX5_shareLeft Q 0 [some (rf 15 0), some (.int (nI r)), some (.int (nI (alR tk rk wt r))), none, none, none] [] hh := by
  have al := al_le (r := r) (rk := rk) hw
  have od : odR tk rk wt r L ≤ L := by unfold odR; omega
  have nb22 := nb_le (tk := tk) (rk := rk) (r := r) 22
  -- the odd coin
  have two : ∀ h2, CS tk rk wt h h2 (odR tk rk wt r L - nbR tk rk r 0) (fun i => if mem tk rk r i = true then flR tk rk wt r L i + (if i < 0 ∧ nbR tk rk r i < odR tk rk wt r L then 1 else 0) else s i) → wv E MX5_shareLeft Q 73 [some (rf 15 0), some (.int (nI r)), none, none, none, some (.int (nI 0))] [] h2 := by
    refine run_dn 22 (fun k => ∀ h2, CS tk rk wt h h2 (odR tk rk wt r L - nbR tk rk r k) (fun i => if mem tk rk r i = true then flR tk rk wt r L i + (if i < k ∧ nbR tk rk r i < odR tk rk wt r L then 1 else 0) else s i) → wv E MX5_shareLeft Q 73 [some (rf 15 0), some (.int (nI r)), none, none, none, some (.int (nI k))] [] h2) ?_ ?_
    · intro h2 c2
      refine sX5_shareLeft_73 ?_
      unfold SX5_shareLeft_73
      refine ⟨fun _ => hQ h2 (CS_s c2 ?_ (fun j hj => ?_)), fun z => absurd (show (22 : Int32) ≤ nI 22 by decide) z⟩
      · unfold nL; rw [if_neg (by omega)]
      · unfold nS
        rw [if_neg (show ¬ alR tk rk wt r ≤ L by omega)]
        by_cases g : mem tk rk r j = true
        · rw [if_pos g, if_pos g]
          by_cases g2 : nbR tk rk r j < odR tk rk wt r L
          · rw [if_pos g2, if_pos ⟨hj, g2⟩]
          · rw [if_neg g2, if_neg (fun z => g2 z.2)]
        · rw [if_neg g, if_neg g]
    · intro k hk ih h2 c2
      refine sX5_shareLeft_73 ?_
      unfold SX5_shareLeft_73
      rw [ncl (show k ≤ 100000 by omega), nI_1, CS_mem c2 hr hr5 hk, c2.2.2.2.1]
      refine ⟨fun z => absurd z (le22 hk), fun _ => ⟨fun g0 => hQ h2 (CS_s c2 ?_ (fun j hj => ?_)), fun g0 => ⟨vin hk (by omega), fun g => ih _ (CS_s c2 ?_ (fun j hj => ?_)), fun g => ?_⟩⟩⟩
      · rw [show (0 : Int32) = nI 0 from rfl, le_nI (by omega) (by omega)] at g0
        have mo := nb_mono (tk := tk) (rk := rk) (r := r) (show k ≤ 22 by omega)
        unfold nL; rw [if_neg (by omega)]; omega
      · rw [show (0 : Int32) = nI 0 from rfl, le_nI (by omega) (by omega)] at g0
        unfold nS
        rw [if_neg (show ¬ alR tk rk wt r ≤ L by omega)]
        by_cases g : mem tk rk r j = true
        · rw [if_pos g, if_pos g]
          by_cases g2 : nbR tk rk r j < odR tk rk wt r L
          · have : j < k := by
              rcases Nat.lt_or_ge j k with q | q
              · exact q
              · have mo := nb_mono (tk := tk) (rk := rk) (r := r) q
                omega
            rw [if_pos g2, if_pos ⟨this, g2⟩]
          · rw [if_neg g2, if_neg (fun z => g2 z.2)]
        · rw [if_neg g, if_neg g]
      · rw [nb_n g]
      · by_cases gj : mem tk rk r j = true
        · rw [if_pos gj, if_pos gj]
          have e : j ≠ k := fun z => g (by rw [← z]; exact gj)
          by_cases e2 : j < k ∧ nbR tk rk r j < odR tk rk wt r L
          · rw [if_pos e2, if_pos ⟨by omega, e2.2⟩]
          · rw [if_neg e2, if_neg (fun z => e2 ⟨by omega, z.2⟩)]
        · rw [if_neg gj, if_neg gj]
      · rw [show (0 : Int32) = nI 0 from rfl, le_nI (by omega) (by omega)] at g0
        have ek := c2.2.2.2.2 k hk
        dsimp only at ek
        rw [if_pos g, if_neg (fun z => absurd z.1 (Nat.lt_irrefl k)), Nat.add_zero] at ek
        rw [ek, nI_1]
        refine ih _ (CS_up (v := flR tk rk wt r L k + 1) c2 rfl ?_ (fun j hj => ?_))
        · rw [nb_s g, show (1 : Int32) = nI 1 from rfl, pk_sub (by omega)]; congr 1
        · by_cases e : j = k
          · rw [e, if_pos rfl, if_pos g, if_pos ⟨by omega, by omega⟩]
          · rw [if_neg e]
            by_cases gj : mem tk rk r j = true
            · rw [if_pos gj, if_pos gj]
              by_cases e2 : j < k ∧ nbR tk rk r j < odR tk rk wt r L
              · rw [if_pos e2, if_pos ⟨by omega, e2.2⟩]
              · rw [if_neg e2, if_neg (fun z => e2 ⟨by omega, z.2⟩)]
            · rw [if_neg gj, if_neg gj]
  refine sX5_shareLeft_0 ?_
  unfold SX5_shareLeft_0
  rw [c.2.2.2.1, nI_l (by omega)]
  have one : ∀ h2, CS tk rk wt h h2 (L - sT (mem tk rk r) (flR tk rk wt r L) 0) (fun i => if i < 0 ∧ mem tk rk r i = true then flR tk rk wt r L i else s i) → wv E MX5_shareLeft Q 9 [some (rf 15 0), some (.int (nI r)), some (.int (nI (alR tk rk wt r))), some (.long (lN L)), none, some (.int (nI 0))] [] h2 := by
    refine run_dn 22 (fun k => ∀ h2, CS tk rk wt h h2 (L - sT (mem tk rk r) (flR tk rk wt r L) k) (fun i => if i < k ∧ mem tk rk r i = true then flR tk rk wt r L i else s i) → wv E MX5_shareLeft Q 9 [some (rf 15 0), some (.int (nI r)), some (.int (nI (alR tk rk wt r))), some (.long (lN L)), none, some (.int (nI k))] [] h2) ?_ ?_
    · intro h2 c2
      refine sX5_shareLeft_9 ?_
      unfold SX5_shareLeft_9
      refine ⟨fun _ => two h2 (CS_s c2 ?_ (fun j hj => ?_)), fun z => absurd (show (22 : Int32) ≤ nI 22 by decide) z⟩
      · show _ = odR tk rk wt r L - 0
        rfl
      · by_cases g : mem tk rk r j = true
        · rw [if_pos g, if_neg (fun z => absurd z.1 (Nat.not_lt_zero j)), if_pos ⟨hj, g⟩]
          rfl
        · rw [if_neg g, if_neg (fun z => g z.2)]
    · intro k hk ih h2 c2
      refine sX5_shareLeft_9 ?_
      unfold SX5_shareLeft_9
      rw [ncl (show k ≤ 100000 by omega), nI_1, CS_mem c2 hr hr5 hk]
      refine ⟨fun z => absurd z (le22 hk), fun _ => ⟨vin hk (by omega), fun g => ih _ (CS_s c2 ?_ (fun j hj => ?_)), fun g => ⟨?_, ?_⟩⟩⟩
      · rw [sT_n g]
      · by_cases e : j = k
        · rw [e, if_neg (fun z => g z.2), if_neg (fun z => g z.2)]
        · by_cases e2 : j < k ∧ mem tk rk r j = true
          · rw [if_pos e2, if_pos ⟨by omega, e2.2⟩]
          · rw [if_neg e2, if_neg (fun z => e2 ⟨by omega, z.2⟩)]
      · rw [nI_l (by omega)]
        intro z
        rw [show (0 : Int64) = lN 0 from rfl, pk_lEQ (by omega) (by omega)] at z
        omega
      · obtain ⟨f1, f2⟩ := fl_I (i := k) hw hL7 hL hk (mem_tk g)
        rw [c2.2.2.1 k hk (mem_tk g), f1, c2.2.2.2.1]
        have m1 := fl_sum (n := k + 1) (by omega) hL
        rw [sT_s g] at m1
        refine ih _ (CS_up (v := flR tk rk wt r L k) c2 rfl ?_ (fun j hj => ?_))
        · rw [sT_s g, pk_sub (by omega)]; congr 1; omega
        · by_cases e : j = k
          · rw [e, if_pos rfl, if_pos ⟨by omega, g⟩]
          · rw [if_neg e]
            by_cases e2 : j < k ∧ mem tk rk r j = true
            · rw [if_pos e2, if_pos ⟨by omega, e2.2⟩]
            · rw [if_neg e2, if_neg (fun z => e2 ⟨by omega, z.2⟩)]
  exact one hh (CS_s c (Nat.sub_zero L).symm (fun j hj => by rw [if_neg (fun z => absurd z.1 (Nat.not_lt_zero j))]))
theorem x_payRank {r : Nat} {Q : TH → Prop} (c : CS tk rk wt h hh L s) (hr : ∀ i, i < 22 → tk i = true → rk i ≤ 5000) (hw : ∀ i, i < 22 → tk i = true → wt i ≤ 1000000) (hr5 : r ≤ 5000) (hL7 : L ≤ 10000000)
    (hQ : ∀ h2, CS tk rk wt h h2 (nL tk rk wt r L) (nS tk rk wt r L s) → Q h2) : wv E MX5_payRank Q 0 [some (rf 15 0), some (.int (nI r)), none, none] [] hh := by
  have al := al_le (r := r) (rk := rk) hw
  refine sX5_payRank_0 ?_
  unfold SX5_payRank_0
  refine run_dn 22 (fun k => wv E MX5_payRank Q 4 [some (rf 15 0), some (.int (nI r)), some (.int (nI (sT (mem tk rk r) wt k))), some (.int (nI k))] [] hh) ?_ ?_
  · refine sX5_payRank_4 ?_
    unfold SX5_payRank_4
    refine ⟨fun _ => ?_, fun z => absurd (show (22 : Int32) ≤ nI 22 by decide) z⟩
    rw [show sT (mem tk rk r) wt 22 = alR tk rk wt r from rfl, c.2.2.2.1, le_nI (by omega) (by omega)]
    refine ⟨fun g => x_payWhole c hr hr5 g hQ, fun g => ⟨fun g2 => ?_, fun g2 => x_shareLeft c hr hw hr5 hL7 (by omega) hQ⟩⟩
    exfalso
    have : nI (alR tk rk wt r) ≤ nI 0 := g2
    rw [le_nI (by omega) (by omega)] at this
    omega
  · intro k hk ih
    refine sX5_payRank_4 ?_
    unfold SX5_payRank_4
    rw [ncl (show k ≤ 100000 by omega), nI_1, CS_mem c hr hr5 hk]
    refine ⟨fun z => absurd z (le22 hk), fun _ => ⟨vin hk (by omega), fun g => ?_, fun g => ?_⟩⟩
    · rw [sT_n g] at ih; exact ih
    · rw [sT_s g] at ih
      rw [c.2.2.1 k hk (mem_tk g), nI_add]
      exact ih
/-- rank after rank -/
theorem x_rounds {Q : TH → Prop} (hr : ∀ i, i < 22 → tk i = true → rk i ≤ 5000) (hw : ∀ i, i < 22 → tk i = true → wt i ≤ 1000000) : ∀ (k j f L : Nat) (s : Nat → Nat) (hh : TH), j + k = 22 → f ≤ 5001 → L ≤ 10000000 → CS tk rk wt h hh L s →
    (∀ h2, CS tk rk wt h h2 (slP tk rk wt k f L s).1 (slP tk rk wt k f L s).2 → Q h2) → wv E MX5_sell Q 25 [some (rf 15 0), none, none, none, some (.int (nxr tk rk f 22)), some (.int (nI j))] [] hh := by
  intro k
  induction k with
  | zero =>
    intro j f L s hh hj hf hL c hQ
    have : j = 22 := by omega
    subst this
    refine sX5_sell_25 ?_
    unfold SX5_sell_25
    exact ⟨fun _ => hQ hh c, fun z => absurd (show (22 : Int32) ≤ nI 22 by decide) z⟩
  | succ k ih =>
    intro j f L s hh hj hf hL c hQ
    refine sX5_sell_25 ?_
    unfold SX5_sell_25
    refine ⟨fun z => absurd z (le22 (by omega)), fun _ => ⟨fun g => ?_, fun g => ?_⟩⟩
    · unfold slP at hQ
      rw [if_pos g] at hQ
      exact hQ hh c
    · rcases nxr_spec (f := f) hr 22 (Nat.le_refl _) with ⟨z, -⟩ | ⟨m, m1, m2, m3, -⟩
      · exact absurd z g
      · unfold slP at hQ
        rw [if_neg g] at hQ
        rw [m3, nI_clamp (by omega)] at hQ
        rw [m3, nI_1]
        refine x_payRank c hr hw m1 hL (fun h2 c2 => ?_)
        rw [← nI_pred m]
        refine x_rankAfter c2 hr (by omega) ?_
        exact ih (j + 1) (m + 1) _ _ h2 (by omega) (by omega) (Nat.le_trans nL_le hL) c2 hQ
end Share
