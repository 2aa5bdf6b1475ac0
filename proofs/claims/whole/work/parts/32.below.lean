section Below
variable {E : EN} {h hh : TH} {a1 a2 a3 a4 x d : Int32} {P C W D K : Nat}
theorem nI_or (a b : Nat) : nI a ||| nI b = nI (a ||| b) := by
  apply Int32.toBitVec_inj.mp
  show BitVec.ofNat 32 a ||| BitVec.ofNat 32 b = BitVec.ofNat 32 (a ||| b)
  exact BitVec.ofNat_or.symm
theorem sh_t {t : Nat} (ht : t < 10) : ((nI t &&& 31).toBitVec.smod 32).toNat = t := by
  rcases (show t = 0 ∨ t = 1 ∨ t = 2 ∨ t = 3 ∨ t = 4 ∨ t = 5 ∨ t = 6 ∨ t = 7 ∨ t = 8 ∨ t = 9 by omega) with rfl | rfl | rfl | rfl | rfl | rfl | rfl | rfl | rfl | rfl <;> decide
theorem one_shl {t : Nat} (ht : t < 10) : (1 : Int32) <<< (nI t &&& 31) = nI (2 ^ t) := by
  rw [show (1 : Int32) = nI 1 from rfl, pk_shlN (n := 1) (nI t &&& 31) t (sh_t ht) (by
    have : 2 ^ t ≤ 2 ^ 10 := Nat.pow_le_pow_right (by omega) (by omega)
    omega), Nat.one_mul]
def msk (h : TH) (c : Nat) : Nat := (h 4 c 3).toNatClampNeg
theorem msk_ex (J : HC C D P h) : ∀ (k c : Nat), c < k → c < C → ∃ M : Nat, M < 2 ^ c ∧ h 4 c 3 = nI M := by
  intro k
  induction k with
  | zero => intro c hc; omega
  | succ k ih =>
    intro c hck hc
    have c3 := J.2.2.1
    obtain ⟨-, -, t⟩ := J.2.2.2.2.2 c hc
    rcases t with ⟨t1, t2, t3, t4⟩ | ⟨t1, u, u1, u2, u3, u4, u5⟩
    · exact ⟨0, Nat.two_pow_pos c, t3⟩
    · obtain ⟨M, m1, m2⟩ := ih u (by omega) (by omega)
      refine ⟨M ||| 2 ^ u, ?_, ?_⟩
      · have h1 : 2 ^ (u + 1) ≤ 2 ^ c := Nat.pow_le_pow_right (by omega) u1
        have h2 : M ||| 2 ^ u < 2 ^ (u + 1) := Nat.or_lt_two_pow (by rw [Nat.pow_succ]; omega) (Nat.pow_lt_pow_right (by omega) (by omega))
        omega
      · rw [u4, m2, one_shl (by omega), nI_or]
theorem msk_ok (J : HC C D P h) {c : Nat} (hc : c < C) : h 4 c 3 = nI (msk h c) ∧ msk h c < 2 ^ c ∧ msk h c < 1024 := by
  have c3 := J.2.2.1
  obtain ⟨M, m1, m2⟩ := msk_ex J (c + 1) c (by omega) hc
  have h1 : 2 ^ c ≤ 2 ^ 10 := Nat.pow_le_pow_right (by omega) (by omega)
  have e : msk h c = M := by
    unfold msk
    rw [m2, nI_clamp (by omega)]
  rw [e]
  exact ⟨m2, m1, by omega⟩
theorem msk_top (J : HC C D P h) {c : Nat} (hc : c < C) (e : h 4 c 2 = -1) : msk h c = 0 := by
  have c3 := J.2.2.1
  obtain ⟨-, -, t⟩ := J.2.2.2.2.2 c hc
  rcases t with ⟨t1, t2, t3, t4⟩ | ⟨t1, u, u1, u2, u3, u4, u5⟩
  · unfold msk
    rw [t3]
    decide
  · rw [u3] at e
    exact absurd e (nI_m1 (by omega))
theorem msk_up (J : HC C D P h) {c u : Nat} (hc : c < C) (e : h 4 c 2 = nI u) (hu : u < 10) : msk h c = msk h u ||| 2 ^ u ∧ u < c := by
  have c3 := J.2.2.1
  obtain ⟨-, -, t⟩ := J.2.2.2.2.2 c hc
  rcases t with ⟨t1, t2, t3, t4⟩ | ⟨t1, u', u1, u2, u3, u4, u5⟩
  · rw [t2] at e
    exact absurd e.symm (nI_m1 (by omega))
  · rw [u3, nI_eq (by omega) (by omega)] at e
    subst e
    obtain ⟨m1, m2, m3⟩ := msk_ok J (c := u') (by omega)
    refine ⟨?_, u1⟩
    rw [m1, one_shl (by omega), nI_or] at u4
    have h2 : msk h u' ||| 2 ^ u' < 2 ^ 10 := Nat.or_lt_two_pow (by omega) (Nat.pow_lt_pow_right (by omega) (by omega))
    show (h 4 c 3).toNatClampNeg = _
    rw [u4, nI_clamp (by omega)]
/-- the row's UPPER: none, or one before it -/
theorem up_cases (J : HC C D P h) {c : Nat} (hc : c < C) : h 4 c 2 = -1 ∨ ∃ u : Nat, u < c ∧ h 4 c 2 = nI u := by
  obtain ⟨-, -, t⟩ := J.2.2.2.2.2 c hc
  rcases t with ⟨t1, t2, t3, t4⟩ | ⟨t1, u, u1, u2, u3, u4, u5⟩
  · exact Or.inl t2
  · exact Or.inr ⟨u, u1, u3⟩
theorem tst_nI {M t : Nat} (hM : M < 1024) (ht : t < 10) : ((nI M >>> (nI t &&& 31)) &&& 1 = 1) ↔ M.testBit t = true := by
  rw [pk_shrN (by omega) _ t (sh_t ht), pk_andN (by
    have : M / 2 ^ t ≤ M := Nat.div_le_self _ _
    omega) 1 (by decide), show (1 : Int32) = nI 1 from rfl, nI_eq (by omega) (by omega), Nat.testBit_eq_decide_div_mod_eq, decide_eq_true_eq]
theorem w_isBelow {o t : Nat} {Q : Int32 → TH → Prop} (J : HC C D P h) (ho : o < C) (ht : t < 10) : SX3_isBelow E o (nI t) h Q ↔ Q (if (msk h o).testBit t = true then 1 else 0) h := by
  obtain ⟨m1, m2, m3⟩ := msk_ok J ho
  unfold SX3_isBelow
  rw [m1, tst_nI m3 ht]
  by_cases g : (msk h o).testBit t = true
  · rw [if_pos g]
    exact ⟨fun z => z.2 g, fun z => ⟨fun y => absurd g y, fun _ => z⟩⟩
  · rw [if_neg g]
    exact ⟨fun z => z.1 g, fun z => ⟨fun _ => z, fun y => absurd y g⟩⟩
theorem m_below_loop {t : Nat} {Q : Int32 → TH → Prop} (J : HC C D P h) (ht : t < 10) : ∀ (k u : Nat), u < k → u < C → ∀ f : Bool, Q (if (f || decide (u = t) || (msk h u).testBit t) = true then 1 else 0) h → wi E MX7_isBelow Q 9 [some (rf 28 0), none, some (.int (nI t)), some (.int (if f = true then 1 else 0)), some (.int (nI u))] [] h := by
  intro k
  induction k with
  | zero => intro u hu; omega
  | succ k ih =>
    intro u huk hu f hQ
    have c3 := J.2.2.1
    have nxt : ∀ f2 : Bool, f2 = (f || decide (u = t)) → SX7_upper E (nI u) h (fun r4 h3 => wi E MX7_isBelow Q 9 [some (rf 28 0), none, some (.int (nI t)), some (.int (if f2 = true then 1 else 0)), some (.int r4)] [] h3) := by
      intro f2 e2
      refine m_upper J hu ?_
      rcases up_cases J hu with e | ⟨v, v1, v2⟩
      · rw [e]
        refine sX7_isBelow_9 ?_
        unfold SX7_isBelow_9
        refine ⟨fun _ => ⟨isB_ite _, ?_⟩, fun z => absurd rfl z⟩
        rw [msk_top J hu e, ← e2] at hQ
        simpa using hQ
      · rw [v2]
        refine ih v (by omega) (by omega) f2 ?_
        obtain ⟨m1, -⟩ := msk_up J hu v2 (by omega)
        rw [m1, Nat.testBit_or, Nat.testBit_two_pow, ← e2] at hQ
        have e3 : (f2 || decide (v = t) || (msk h v).testBit t) = (f2 || ((msk h v).testBit t || decide (v = t))) := by
          cases f2 <;> cases (msk h v).testBit t <;> cases decide (v = t) <;> rfl
        rw [e3]
        exact hQ
    refine sX7_isBelow_9 ?_
    unfold SX7_isBelow_9
    refine ⟨fun z => absurd z (nI_m1 (by omega)), fun _ => ⟨fun g => ?_, fun g => ⟨fun g2 => ?_, fun g2 => ?_⟩⟩⟩
    · have hf : f = true := by
        cases f with
        | true => rfl
        | false => exact absurd rfl g
      exact nxt true (by rw [hf]; rfl)
    · have hf : f = false := by
        cases f with
        | true => exact absurd g (by decide)
        | false => rfl
      rw [nI_eq (by omega) (by omega)] at g2
      exact nxt false (by rw [hf]; simp [g2])
    · rw [nI_eq (by omega) (by omega)] at g2
      exact nxt true (by rw [g2]; simp)
theorem m_isBelow {c t : Nat} {Q : Int32 → TH → Prop} (J : HC C D P h) (hc : c < C) (ht : t < 10) (hQ : Q (if (msk h c).testBit t = true then 1 else 0) h) : wi E MX7_isBelow Q 0 [some (rf 28 0), some (.int (nI c)), some (.int (nI t)), none, none] [] h := by
  have c3 := J.2.2.1
  refine sX7_isBelow_0 ?_
  unfold SX7_isBelow_0
  refine m_upper J hc ?_
  rcases up_cases J hc with e | ⟨v, v1, v2⟩
  · rw [e]
    refine sX7_isBelow_9 ?_
    unfold SX7_isBelow_9
    refine ⟨fun _ => ⟨isB_0, ?_⟩, fun z => absurd rfl z⟩
    rw [msk_top J hc e] at hQ
    simpa using hQ
  · rw [v2]
    refine m_below_loop J ht (v + 1) v (by omega) (by omega) false ?_
    obtain ⟨m1, -⟩ := msk_up J hc v2 (by omega)
    rw [m1, Nat.testBit_or, Nat.testBit_two_pow, Bool.or_comm] at hQ
    simpa using hQ
/-- the least of m and of all ow i, i < n, that S has -/
def bnd (S : Nat → Bool) (ow : Nat → Nat) (m : Nat) : Nat → Nat
  | 0 => m
  | n + 1 => if S n = true then min (ow n) (bnd S ow m n) else bnd S ow m n
theorem bnd_min {S : Nat → Bool} {ow : Nat → Nat} {m y : Nat} : ∀ n, bnd S ow (min m y) n = min y (bnd S ow m n)
  | 0 => Nat.min_comm m y
  | n + 1 => by
    unfold bnd
    rw [bnd_min n]
    by_cases g : S n = true
    · rw [if_pos g, if_pos g]
      omega
    · rw [if_neg g, if_neg g]
theorem bnd_add {S S' : Nat → Bool} {ow : Nat → Nat} {m u : Nat} (hS : ∀ i, S' i = (S i || decide (u = i))) : ∀ n, u < n → bnd S' ow m n = min (ow u) (bnd S ow m n)
  | 0, hu => absurd hu (Nat.not_lt_zero u)
  | n + 1, hu => by
    have low : ∀ k, k ≤ u → bnd S' ow m k = bnd S ow m k := by
      intro k
      induction k with
      | zero => intro _; rfl
      | succ k ih =>
        intro hk
        unfold bnd
        rw [hS k, ih (by omega)]
        simp [show ¬ u = k by omega]
    unfold bnd
    rw [hS n]
    by_cases hun : u = n
    · subst hun
      rw [low u (Nat.le_refl _)]
      by_cases g : S u = true
      · simp [g]
      · simp [g]
    · rw [bnd_add hS n (by omega)]
      simp only [hun, decide_false, Bool.or_false]
      by_cases g : S n = true
      · rw [if_pos g, if_pos g]
        omega
      · rw [if_neg g, if_neg g]
theorem bnd_none {S : Nat → Bool} {ow : Nat → Nat} {m : Nat} (hS : ∀ i, S i = false) : ∀ n, bnd S ow m n = m
  | 0 => rfl
  | n + 1 => by
    unfold bnd
    rw [hS n, bnd_none hS n]
    rfl
def owN (h : TH) (i : Nat) : Nat := (h 32 0 i - h 33 0 i).toNatClampNeg
theorem ow_ok (J : HC C D P h) {i : Nat} (hi : i < C) : h 32 0 i - h 33 0 i = nI (owN h i) ∧ owN h i ≤ 1000000 ∧ h 4 i 5 - h 4 i 6 = nI (owN h i) := by
  obtain ⟨⟨q0, q1, q5, q6, -⟩, ⟨s, p, s1, s2, s3, s4, s5⟩, -⟩ := J.2.2.2.1 i hi
  have e : owN h i = s - p := by
    unfold owN
    rw [s4, s5, pk_sub s3, nI_clamp (by omega)]
  rw [e, q5, q6, s4, s5, pk_sub s3]
  exact ⟨rfl, by omega, rfl⟩
def opN (h : TH) (i : Nat) : Nat := (opn (h 4 i 5) (h 4 i 6) (h 4 i 7)).toNatClampNeg
theorem op_ok (J : HC C D P h) (V : HV W C h) {i : Nat} (hi : i < C) : opn (h 4 i 5) (h 4 i 6) (h 4 i 7) = nI (opN h i) ∧ opN h i ≤ 1000000 := by
  obtain ⟨s, p, w, s1, s2, s3, s4, e1, e2, e3, e4, e5, e6⟩ := row_nat J V hi
  have e : opN h i = s - max p w := by
    unfold opN
    rw [e3, e4, e5, opn_nat s2 s3 s4, nI_clamp (by omega)]
  rw [e, e3, e4, e5, opn_nat s2 s3 s4]
  exact ⟨rfl, by omega⟩
/-- what a claim of contract c may be worth at most -/
def bdN (h : TH) (C c : Nat) : Nat := if h 42 0 5 = 1 then bnd (fun i => (msk h c).testBit i) (owN h) (opN h c) C else opN h c
theorem bnd_le {S : Nat → Bool} {ow : Nat → Nat} {m : Nat} : ∀ n, bnd S ow m n ≤ m
  | 0 => Nat.le_refl _
  | n + 1 => by
    unfold bnd
    have := bnd_le (S := S) (ow := ow) (m := m) n
    by_cases g : S n = true
    · rw [if_pos g]; omega
    · rw [if_neg g]; exact this
theorem x_boundOf {c : Nat} {Q : Int32 → TH → Prop} (J : HC C D P h) (V : HV W C h) (hc : c < C) (a : Int32) (ha : a = if h 42 0 5 = 1 then 1 else 0) (hQ : Q (nI (bdN h C c)) h) : wi E MX1_boundOf Q 0 [some (rf 2 0), some (rf 4 c), some (.int a), none, none] [] h := by
  have c3 := J.2.2.1
  obtain ⟨o1, o2⟩ := op_ok J V hc
  refine sX1_boundOf_0 (by omega) ?_
  unfold SX1_boundOf_0
  rw [w_open, o1]
  unfold bdN at hQ
  by_cases g : h 42 0 5 = 1
  · rw [if_pos g] at hQ ha
    rw [ha]
    refine ⟨fun z => absurd z (by decide), fun _ => ?_⟩
    refine run_dn C (fun i => wi E MX1_boundOf Q 12 [some (rf 2 0), some (rf 4 c), none, some (.int (nI (bnd (fun i => (msk h c).testBit i) (owN h) (opN h c) i))), some (.int (nI i))] [] h) ?_ ?_
    · refine sX1_boundOf_12 (by omega) ?_
      simp [-Int32.not_le, -Int32.not_lt, SX1_boundOf_12, J.1]
      exact hQ
    · intro i hi hw
      refine sX1_boundOf_12 (by omega) ?_
      unfold SX1_boundOf_12
      rw [J.1, le_nI (by omega) (by omega)]
      refine ⟨fun z => absurd z (by omega), fun _ => ?_⟩
      rw [w_isBelow J hc (by omega), nI_1, ncl (show i ≤ 100000 by omega)]
      have hb := bnd_le (S := fun i => (msk h c).testBit i) (ow := owN h) (m := opN h c) i
      obtain ⟨w1, w2, w3⟩ := ow_ok J hi
      unfold bnd at hw
      by_cases g2 : (msk h c).testBit i = true
      · rw [if_pos g2]
        rw [if_pos g2] at hw
        refine ⟨fun z => absurd z (by decide), fun _ => ⟨vin (by omega) (by omega), ?_⟩⟩
        rw [w_xowing, w3]
        have e : (if nI (owN h i) < nI (bnd (fun i => (msk h c).testBit i) (owN h) (opN h c) i) then nI (owN h i) else nI (bnd (fun i => (msk h c).testBit i) (owN h) (opN h c) i)) = nI (min (owN h i) (bnd (fun i => (msk h c).testBit i) (owN h) (opN h c) i)) := by
          by_cases g3 : owN h i < bnd (fun i => (msk h c).testBit i) (owN h) (opN h c) i
          · rw [if_pos (nI_lt g3 (by omega)), Nat.min_eq_left (by omega)]
          · rw [if_neg (nI_nlt (by omega) (by omega)), Nat.min_eq_right (by omega)]
        rw [e]
        exact hw
      · rw [if_neg g2]
        rw [if_neg g2] at hw
        exact ⟨fun _ => hw, fun z => absurd rfl z⟩
  · rw [if_neg g] at hQ ha
    rw [ha]
    exact ⟨fun _ => hQ, fun z => absurd rfl z⟩
theorem m_bound_loop {Q : Int32 → TH → Prop} (J : HC C D P h) (g : h 42 0 5 = 1) : ∀ (k u : Nat), u < k → u < C → ∀ m : Nat, m ≤ 1000000 → Q (nI (bnd (fun i => (msk h u).testBit i || decide (u = i)) (owN h) m C)) h → wi E MX7_bound Q 12 [some (rf 28 0), none, some (.int (nI m)), some (.int (nI u))] [] h := by
  intro k
  induction k with
  | zero => intro u hu; omega
  | succ k ih =>
    intro u huk hu m hm hQ
    have c3 := J.2.2.1
    obtain ⟨w1, w2, w3⟩ := ow_ok J hu
    have v1 := vin (show u < 10 by omega) (by omega)
    have v2 := ncl (show u ≤ 100000 by omega)
    rw [bnd_add (S := fun i => (msk h u).testBit i) (fun i => rfl) C hu, ← bnd_min] at hQ
    have nxt : ∀ m2 : Nat, m2 = min m (owN h u) → SX7_upper E (nI u) h (fun r7 h6 => wi E MX7_bound Q 12 [some (rf 28 0), none, some (.int (nI m2)), some (.int r7)] [] h6) := by
      intro m2 e2
      rw [← e2] at hQ
      refine m_upper J hu ?_
      rcases up_cases J hu with e | ⟨v, q1, q2⟩
      · rw [e]
        refine sX7_bound_12 ?_
        unfold SX7_bound_12
        refine ⟨fun _ => ?_, fun z => absurd rfl z⟩
        rw [msk_top J hu e, bnd_none (fun i => Nat.zero_testBit i)] at hQ
        exact hQ
      · rw [q2]
        refine ih v (by omega) (by omega) m2 (by omega) ?_
        obtain ⟨m1, -⟩ := msk_up J hu q2 (by omega)
        have e3 : (fun i => (msk h u).testBit i) = (fun i => (msk h v).testBit i || decide (v = i)) := by
          funext i
          rw [m1, Nat.testBit_or, Nat.testBit_two_pow]
        rw [e3] at hQ
        exact hQ
    refine sX7_bound_12 ?_
    unfold SX7_bound_12 SX7_owing
    rw [v2]
    refine ⟨fun z => absurd z (nI_m1 (by omega)), fun _ => ⟨fun z => absurd g z, fun _ => ⟨v1, ?_⟩⟩⟩
    dsimp only
    rw [w1, le_nI (by omega) (by omega)]
    refine ⟨fun g2 => nxt m (by omega), fun g2 => ⟨v1, ?_⟩⟩
    exact nxt (owN h u) (by omega)
theorem m_bound {c : Nat} {Q : Int32 → TH → Prop} (J : HC C D P h) (V : HV W C h) (hc : c < C) (hQ : Q (nI (bdN h C c)) h) : wi E MX7_bound Q 0 [some (rf 28 0), some (.int (nI c)), none, none] [] h := by
  have c3 := J.2.2.1
  obtain ⟨o1, o2⟩ := op_ok J V hc
  refine sX7_bound_0 ?_
  unfold SX7_bound_0
  refine m_open J V hc (m_upper J hc ?_)
  rw [o1]
  unfold bdN at hQ
  rcases up_cases J hc with e | ⟨v, q1, q2⟩
  · rw [e]
    refine sX7_bound_12 ?_
    unfold SX7_bound_12
    refine ⟨fun _ => ?_, fun z => absurd rfl z⟩
    by_cases g : h 42 0 5 = 1
    · rw [if_pos g, msk_top J hc e, bnd_none (fun i => Nat.zero_testBit i)] at hQ
      exact hQ
    · rw [if_neg g] at hQ
      exact hQ
  · rw [q2]
    by_cases g : h 42 0 5 = 1
    · rw [if_pos g] at hQ
      refine m_bound_loop J g (v + 1) v (by omega) (by omega) _ o2 ?_
      obtain ⟨m1, -⟩ := msk_up J hc q2 (by omega)
      have e3 : (fun i => (msk h c).testBit i) = (fun i => (msk h v).testBit i || decide (v = i)) := by
        funext i
        rw [m1, Nat.testBit_or, Nat.testBit_two_pow]
      rw [e3] at hQ
      exact hQ
    · rw [if_neg g] at hQ
      refine sX7_bound_12 ?_
      unfold SX7_bound_12
      exact ⟨fun z => absurd z (nI_m1 (by omega)), fun _ => ⟨fun _ => hQ, fun z => absurd z g⟩⟩
end Below
