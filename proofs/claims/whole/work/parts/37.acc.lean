section Acc
variable {ok ok' : Nat → Bool} {l l' : Nat → Nat} {r s A O : Nat} {par pur coin opar ocoin ev par' pur' coin' opar' ocoin' ev' : Nat → Int32} {p : Int32}
theorem sT_congr : ∀ n, (∀ i, i < n → ok' i = ok i ∧ (ok i = true → l' i = l i)) → sT ok' l' n = sT ok l n
  | 0, _ => rfl
  | n + 1, hh => by
    have ih := sT_congr n (fun i hi => hh i (by omega))
    unfold sT
    rw [(hh n (by omega)).1, ih]
    by_cases g : ok n = true
    · rw [if_pos g, if_pos g, (hh n (by omega)).2 g]
    · rw [if_neg g, if_neg g]
theorem sT_s {n : Nat} (g : ok n = true) : sT ok l (n + 1) = sT ok l n + l n := by
  show (if ok n = true then _ else _) = _
  rw [if_pos g]
theorem sT_n {n : Nat} (g : ¬ ok n = true) : sT ok l (n + 1) = sT ok l n := by
  show (if ok n = true then _ else _) = _
  rw [if_neg g]
theorem sT_mono {m : Nat} : ∀ n, m ≤ n → sT ok l m ≤ sT ok l n
  | 0, hh => by rw [Nat.le_zero.mp hh]; exact Nat.le_refl _
  | n + 1, hh => by
    by_cases e : m = n + 1
    · rw [e]; exact Nat.le_refl _
    · have ih := sT_mono (m := m) n (by omega)
      by_cases g : ok n = true
      · rw [sT_s g]; omega
      · rw [sT_n g]; exact ih
theorem sT_ub : ∀ n, (∀ i, i < n → l i ≤ 100000) → sT ok l n ≤ n * 100000
  | 0, _ => Nat.zero_le _
  | n + 1, hh => by
    have ih := sT_ub n (fun i hi => hh i (by omega))
    have := hh n (by omega)
    by_cases g : ok n = true
    · rw [sT_s g]; omega
    · rw [sT_n g]; exact Nat.le_trans ih (Nat.mul_le_mul_right _ (Nat.le_succ n))
theorem fwd_le {i : Nat} : fwd ok l s i ≤ l i := by
  unfold fwd
  by_cases g : ok i = true
  · rw [if_pos g]; omega
  · rw [if_neg g]; exact Nat.le_refl _
theorem bwd_le {i n : Nat} : bwd ok l s n i ≤ l i := by
  unfold bwd
  by_cases g : ok i = true
  · rw [if_pos g]; omega
  · rw [if_neg g]; exact Nat.le_refl _
theorem fwd_congr {n i : Nat} (hh : ∀ i, i < n → ok' i = ok i ∧ l' i = l i) (hi : i < n) : fwd ok' l' s i = fwd ok l s i := by
  unfold fwd
  rw [(hh i hi).1, (hh i hi).2, sT_congr (ok := ok) (l := l) i (fun j hj => ⟨(hh j (by omega)).1, fun _ => (hh j (by omega)).2⟩)]
theorem bwd_congr {n i : Nat} (hh : ∀ i, i < n → ok' i = ok i ∧ l' i = l i) (hi : i < n) : bwd ok' l' s n i = bwd ok l s n i := by
  unfold bwd
  rw [(hh i hi).1, (hh i hi).2, sT_congr (ok := ok) (l := l) n (fun j hj => ⟨(hh j (by omega)).1, fun _ => (hh j (by omega)).2⟩), sT_congr (ok := ok) (l := l) (i + 1) (fun j hj => ⟨(hh j (by omega)).1, fun _ => (hh j (by omega)).2⟩)]
theorem sT_fwd : ∀ n, sT ok (fwd ok l s) n = sT ok l n - s
  | 0 => (Nat.zero_sub s).symm
  | n + 1 => by
    have ih := sT_fwd n
    by_cases g : ok n = true
    · rw [sT_s g, sT_s g, ih]
      unfold fwd
      rw [if_pos g]
      omega
    · rw [sT_n g, sT_n g, ih]
/-- a second pass takes nothing -/
theorem idle_f {n i : Nat} (hi : i < n) : fwd ok (fwd ok l s) (s - sT ok l n) i = fwd ok l s i := by
  by_cases g : ok i = true
  · have m1 := sT_mono (ok := ok) (l := l) (m := i + 1) n (by omega)
    rw [sT_s g] at m1
    have e : fwd ok l s i = l i - (s - sT ok l i) := by unfold fwd; rw [if_pos g]
    show (if ok i = true then _ else _) = _
    rw [if_pos g, e]
    omega
  · show (if ok i = true then _ else _) = _
    rw [if_neg g]
theorem idle_b {n i : Nat} (hi : i < n) : fwd ok (bwd ok l s n) (s - sT ok l n) i = bwd ok l s n i := by
  by_cases g : ok i = true
  · have m1 := sT_mono (ok := ok) (l := l) (m := i + 1) n (by omega)
    have m2 := sT_s (l := l) g
    have e : bwd ok l s n i = l i - (s - (sT ok l n - sT ok l (i + 1))) := by unfold bwd; rw [if_pos g]
    show (if ok i = true then _ else _) = _
    rw [if_pos g, e]
    omega
  · show (if ok i = true then _ else _) = _
    rw [if_neg g]
/-- behind the own coin, the party's other coin and all its coin are the same -/
theorem own_f {n i : Nat} (hi : i < n) : fwd (isP par p) (fwd (isO par pur p) l s) (s - sT (isO par pur p) l n) i = fwd (isT par pur p) (fwd (isO par pur p) l s) (s - sT (isO par pur p) l n) i := by
  rcases Nat.eq_zero_or_pos (s - sT (isO par pur p) l n) with z | z
  · rw [z]
    unfold fwd
    simp
  · have h0 : ∀ j, j < n → isO par pur p j = true → fwd (isO par pur p) l s j = 0 := by
      intro j hj g
      have m1 := sT_mono (ok := isO par pur p) (l := l) (m := j + 1) n (by omega)
      rw [sT_s g] at m1
      unfold fwd
      rw [if_pos g]
      omega
    have hs : ∀ j, j ≤ n → sT (isP par p) (fwd (isO par pur p) l s) j = sT (isT par pur p) (fwd (isO par pur p) l s) j := by
      intro j
      induction j with
      | zero => intro _; rfl
      | succ j ih =>
        intro hj
        have ih := ih (by omega)
        by_cases g : par j = p
        · have g1 : isP par p j = true := by unfold isP; simp [g]
          by_cases g2 : pur j = -1
          · have g3 : isO par pur p j = true := by unfold isO; simp [g, g2]
            have g4 : ¬ isT par pur p j = true := by unfold isT; simp [g2]
            rw [sT_s g1, sT_n g4, h0 j (by omega) g3, ih]
            rfl
          · have g4 : isT par pur p j = true := by unfold isT; simp [g, g2]
            rw [sT_s g1, sT_s g4, ih]
        · have g1 : ¬ isP par p j = true := by unfold isP; simp [g]
          have g4 : ¬ isT par pur p j = true := by unfold isT; simp [g]
          rw [sT_n g1, sT_n g4, ih]
    by_cases g : par i = p
    · have g1 : isP par p i = true := by unfold isP; simp [g]
      by_cases g2 : pur i = -1
      · have g3 : isO par pur p i = true := by unfold isO; simp [g, g2]
        have g4 : ¬ isT par pur p i = true := by unfold isT; simp [g2]
        show (if isP par p i = true then _ else _) = (if isT par pur p i = true then _ else _)
        rw [if_pos g1, if_neg g4, h0 i hi g3]
        omega
      · have g4 : isT par pur p i = true := by unfold isT; simp [g, g2]
        show (if isP par p i = true then _ else _) = (if isT par pur p i = true then _ else _)
        rw [if_pos g1, if_pos g4, hs i (by omega)]
    · have g1 : ¬ isP par p i = true := by unfold isP; simp [g]
      have g4 : ¬ isT par pur p i = true := by unfold isT; simp [g]
      show (if isP par p i = true then _ else _) = (if isT par pur p i = true then _ else _)
      rw [if_neg g1, if_neg g4]
theorem outN_le {n i : Nat} : outN r n par pur p l s i ≤ l i := by
  unfold outN
  by_cases g : r = 1
  · rw [if_pos g]; exact bwd_le
  · rw [if_neg g]
    by_cases g2 : r = 2
    · rw [if_pos g2]; exact Nat.le_trans fwd_le fwd_le
    · rw [if_neg g2]; exact fwd_le
theorem outN_congr {n i : Nat} (hp : ∀ i, i < n → par' i = par i ∧ pur' i = pur i) (hl : ∀ i, i < n → l' i = l i) (hi : i < n) : outN r n par' pur' p l' s i = outN r n par pur p l s i := by
  have e1 : ∀ i, i < n → isP par' p i = isP par p i := fun i hi => by unfold isP; rw [(hp i hi).1]
  have e2 : ∀ i, i < n → isO par' pur' p i = isO par pur p i := fun i hi => by unfold isO; rw [(hp i hi).1, (hp i hi).2]
  have e3 : ∀ i, i < n → isT par' pur' p i = isT par pur p i := fun i hi => by unfold isT; rw [(hp i hi).1, (hp i hi).2]
  unfold outN
  by_cases g : r = 1
  · rw [if_pos g, if_pos g]
    exact bwd_congr (fun i hi => ⟨e1 i hi, hl i hi⟩) hi
  · rw [if_neg g, if_neg g]
    by_cases g2 : r = 2
    · rw [if_pos g2, if_pos g2, sT_congr (ok := isO par pur p) (l := l) n (fun j hj => ⟨e2 j hj, fun _ => hl j hj⟩)]
      exact fwd_congr (fun i hi => ⟨e3 i hi, fwd_congr (fun i hi => ⟨e2 i hi, hl i hi⟩) hi⟩) hi
    · rw [if_neg g2, if_neg g2]
      exact fwd_congr (fun i hi => ⟨e1 i hi, hl i hi⟩) hi
theorem evI_congr : ∀ n, (∀ e, e < n → ev' e = ev e) → evI ev' n = evI ev n
  | 0, _ => rfl
  | n + 1, hh => by
    unfold evI
    rw [hh n (by omega), evI_congr n (fun e he => hh e (by omega))]
theorem evI_le : ∀ n, evI ev n ≤ n
  | 0 => Nat.le_refl _
  | n + 1 => by
    have ih := evI_le n
    unfold evI
    by_cases g : ev n < 100
    · rw [if_pos g]; omega
    · rw [if_neg g]; omega
theorem evI_in {e : Nat} (g : ev e < 100) : evI ev (e + 1) = evI ev e + 1 := by
  show (if ev e < 100 then _ else _) = _
  rw [if_pos g]
theorem evI_out {e : Nat} (g : ¬ ev e < 100) : evI ev (e + 1) = evI ev e := by
  show (if ev e < 100 then _ else _) = _
  rw [if_neg g]
theorem trN_in {e i : Nat} (g : ev e < 100) : trN r par pur coin opar ocoin ev (e + 1) i = if i = evI ev e then cN coin i else trN r par pur coin opar ocoin ev e i := by
  have : trN r par pur coin opar ocoin ev (e + 1) = fun i => if i = evI ev e then cN coin i else trN r par pur coin opar ocoin ev e i := by
    conv => lhs; unfold trN
    rw [if_pos g]
  rw [this]
theorem trN_out {e i : Nat} (g : ¬ ev e < 100) : trN r par pur coin opar ocoin ev (e + 1) i = outN r (evI ev e) par pur (opar (e - evI ev e)) (trN r par pur coin opar ocoin ev e) (cN ocoin (e - evI ev e)) i := by
  show (trN r par pur coin opar ocoin ev (e + 1)) i = _
  have : trN r par pur coin opar ocoin ev (e + 1) = outN r (evI ev e) par pur (opar (e - evI ev e)) (trN r par pur coin opar ocoin ev e) (cN ocoin (e - evI ev e)) := by
    conv => lhs; unfold trN
    rw [if_neg g]
  rw [this]
theorem trN_congr (hp : ∀ i, i < A → par' i = par i ∧ pur' i = pur i ∧ coin' i = coin i) (ho : ∀ o, o < O → opar' o = opar o ∧ ocoin' o = ocoin o) : ∀ m, (∀ e, e < m → ev' e = ev e ∧ evOk A O ev e) → ∀ i, i < evI ev m → trN r par' pur' coin' opar' ocoin' ev' m i = trN r par pur coin opar ocoin ev m i
  | 0, _ => fun i hi => absurd hi (Nat.not_lt_zero i)
  | m + 1, hm => by
    have ih := trN_congr hp ho m (fun e he => hm e (by omega))
    obtain ⟨e1, e2⟩ := hm m (by omega)
    have e3 := evI_congr (ev := ev) (ev' := ev') m (fun e he => (hm e (by omega)).1)
    intro i hi
    unfold trN
    unfold evI at hi
    rw [e1, e3]
    rcases e2 with ⟨a1, a2, a3⟩ | ⟨a1, a2, a3, a4⟩
    · rw [if_pos a2] at hi
      rw [if_pos a2, if_pos a2]
      by_cases g : i = evI ev m
      · rw [if_pos g, if_pos g]
        unfold cN
        rw [(hp i (by omega)).2.2]
      · rw [if_neg g, if_neg g]
        exact ih i (by omega)
    · rw [if_neg a2] at hi
      rw [if_neg a2, if_neg a2, (ho _ a4).1]
      have e4 : cN ocoin' (m - evI ev m) = cN ocoin (m - evI ev m) := by unfold cN; rw [(ho _ a4).2]
      rw [e4]
      exact outN_congr (fun i hi => ⟨(hp i (by omega)).1, (hp i (by omega)).2.1⟩) ih hi
theorem trN_le (hc : ∀ i, i < A → ∃ c : Nat, 1 ≤ c ∧ c ≤ 100000 ∧ coin i = nI c) : ∀ m, (∀ e, e < m → evOk A O ev e) → ∀ i, trN r par pur coin opar ocoin ev m i ≤ 100000
  | 0, _ => fun i => Nat.zero_le _
  | m + 1, hm => by
    have ih := trN_le hc m (fun e he => hm e (by omega))
    intro i
    unfold trN
    rcases hm m (by omega) with ⟨a1, a2, a3⟩ | ⟨a1, a2, a3, a4⟩
    · rw [if_pos a2]
      by_cases g : i = evI ev m
      · rw [if_pos g]
        obtain ⟨c, c1, c2, c3⟩ := hc i (by omega)
        unfold cN
        rw [c3, nI_clamp (by omega)]
        exact c2
      · rw [if_neg g]; exact ih i
    · rw [if_neg a2]
      exact Nat.le_trans outN_le (ih i)
variable {i1 o1 i2 o2 e2 : Int32} {hold purp hold' purp' : Nat → Int32} {left left' : Nat → Nat → Int32}
theorem lt100 {n : Nat} (h : n < 100) : nI n < 100 := nI_lt (b := 100) h (by omega)
theorem nlt100 {n : Nat} (h : n ≤ 1000) : ¬ nI (100 + n) < 100 := nI_nlt (b := 100) (by omega) (by omega)
/-- an IN -/
theorem JA_in {v : Nat} {c : Int32} (J : JA A O i1 o1 i2 o2 e2 hold purp left par pur coin opar ocoin ev) (hA : A < 40) (hv1 : 1 ≤ v) (hv2 : v ≤ 100000)
    (a1 : ∀ i, hold' i = if i = A then p else hold i) (a2 : ∀ i, purp' i = if i = A then c else purp i) (a3 : ∀ r, r < 3 → ∀ i, i ≤ A → left' r i = if i = A then nI v else left r i)
    (b1 : ∀ i, par' i = if i = A then p else par i) (b2 : ∀ i, pur' i = if i = A then c else pur i) (b3 : ∀ i, coin' i = if i = A then nI v else coin i) (b4 : ∀ i, ev' i = if i = A + O then nI A else ev i) :
    JA (A + 1) O (i1 + 1) o1 (i2 + 1) o2 (e2 + 1) hold' purp' left' par' pur' coin' opar ocoin ev' := by
  obtain ⟨q1, q2, q3, q4, q5, q6, q7, q8, q9, q10, q11, q12, q13⟩ := J
  have ev_o : ∀ e, e < A + O → ev' e = ev e := fun e he => by rw [b4, if_neg (by omega)]
  have ev_n : ev' (A + O) = nI A := by rw [b4, if_pos rfl]
  have eI : ∀ e, e ≤ A + O → evI ev' e = evI ev e := fun e he => evI_congr e (fun j hj => ev_o j (by omega))
  have lt := lt100 (show A < 100 by omega)
  have pa : ∀ i, i < A → par' i = par i ∧ pur' i = pur i ∧ coin' i = coin i := fun i hi => by rw [b1, b2, b3, if_neg (by omega), if_neg (by omega), if_neg (by omega)]; exact ⟨rfl, rfl, rfl⟩
  have tr : ∀ r i, i < A → trN r par' pur' coin' opar ocoin ev' (A + O) i = trN r par pur coin opar ocoin ev (A + O) i := fun r i hi => trN_congr pa (fun o _ => ⟨rfl, rfl⟩) (A + O) (fun e he => ⟨ev_o e he, q9 e he⟩) i (by rw [q8]; exact hi)
  have t1 : ∀ r i, trN r par' pur' coin' opar ocoin ev' (A + 1 + O) i = if i = A then cN coin' i else trN r par' pur' coin' opar ocoin ev' (A + O) i := by
    intro r i
    rw [show A + 1 + O = (A + O) + 1 by omega]
    rw [trN_in (by rw [ev_n]; exact lt), eI _ (Nat.le_refl _), q8]
  refine ⟨by rw [q1, nI_1], by rw [q2, nI_1], q3, q4, by rw [q5, nI_1, show A + 1 + O = A + O + 1 by omega], by omega, q7, ?_, ?_, ?_, q11, ?_, ?_⟩
  · rw [show A + 1 + O = (A + O) + 1 by omega]
    rw [evI_in (by rw [ev_n]; exact lt), eI _ (Nat.le_refl _), q8]
  · intro e he
    unfold evOk
    rw [eI e (by omega)]
    by_cases g : e = A + O
    · rw [g, ev_n, q8]
      exact Or.inl ⟨rfl, lt, by omega⟩
    · rw [ev_o e (by omega)]
      rcases q9 e (by omega) with ⟨z1, z2, z3⟩ | ⟨z1, z2, z3, z4⟩
      · exact Or.inl ⟨z1, z2, by omega⟩
      · exact Or.inr ⟨z1, z2, by omega, z4⟩
  · intro i hi
    rw [a1, a2, b1, b2, b3]
    by_cases g : i = A
    · simp only [if_pos g]
      exact ⟨trivial, trivial, v, hv1, hv2, rfl⟩
    · simp only [if_neg g]
      exact q10 i (by omega)
  · intro r hr i hi
    rw [a3 r hr i (by omega), t1]
    by_cases g : i = A
    · rw [if_pos g, if_pos g]
      unfold cN
      rw [b3, if_pos g, nI_clamp (by omega)]
    · rw [if_neg g, if_neg g, tr r i (by omega)]
      exact q12 r hr i (by omega)
  · intro x
    have := q13 x
    have c1 : sT (isP par' x) (trN 0 par' pur' coin' opar ocoin ev' (A + 1 + O)) A = sT (isP par x) (trN 0 par pur coin opar ocoin ev (A + O)) A :=
      sT_congr A (fun i hi => ⟨by unfold isP; rw [(pa i hi).1], fun _ => by rw [t1, if_neg (by omega), tr 0 i hi]⟩)
    have c2 : sT (isP par' x) (cN coin') A = sT (isP par x) (cN coin) A :=
      sT_congr A (fun i hi => ⟨by unfold isP; rw [(pa i hi).1], fun _ => by unfold cN; rw [(pa i hi).2.2]⟩)
    by_cases g : isP par' x A = true
    · rw [sT_s g, sT_s g, c1, c2, t1, if_pos rfl]
      omega
    · rw [sT_n g, sT_n g, c1, c2]
      exact this
/-- an OUT -/
theorem JA_out {v : Nat} (J : JA A O i1 o1 i2 o2 e2 hold purp left par pur coin opar ocoin ev) (hO : O < 40) (hv1 : 1 ≤ v) (hv2 : v ≤ 1000000)
    (hb : v ≤ sT (isP par p) (trN 0 par pur coin opar ocoin ev (A + O)) A)
    (a3 : ∀ r, r < 3 → ∀ i, i < A → left' r i = nI (outN r A par pur p (trN r par pur coin opar ocoin ev (A + O)) v i))
    (b1 : ∀ i, opar' i = if i = O then p else opar i) (b2 : ∀ i, ocoin' i = if i = O then nI v else ocoin i) (b4 : ∀ i, ev' i = if i = A + O then nI (100 + O) else ev i) :
    JA A (O + 1) i1 (o1 + 1) i2 (o2 + 1) (e2 + 1) hold purp left' par pur coin opar' ocoin' ev' := by
  obtain ⟨q1, q2, q3, q4, q5, q6, q7, q8, q9, q10, q11, q12, q13⟩ := J
  have ev_o : ∀ e, e < A + O → ev' e = ev e := fun e he => by rw [b4, if_neg (by omega)]
  have ev_n : ev' (A + O) = nI (100 + O) := by rw [b4, if_pos rfl]
  have eI : ∀ e, e ≤ A + O → evI ev' e = evI ev e := fun e he => evI_congr e (fun j hj => ev_o j (by omega))
  have lt := nlt100 (show O ≤ 1000 by omega)
  have pa : ∀ o, o < O → opar' o = opar o ∧ ocoin' o = ocoin o := fun i hi => by rw [b1, b2, if_neg (by omega), if_neg (by omega)]; exact ⟨rfl, rfl⟩
  have tr : ∀ r i, i < A → trN r par pur coin opar' ocoin' ev' (A + O) i = trN r par pur coin opar ocoin ev (A + O) i := fun r i hi => trN_congr (fun i _ => ⟨rfl, rfl, rfl⟩) pa (A + O) (fun e he => ⟨ev_o e he, q9 e he⟩) i (by rw [q8]; exact hi)
  have t1 : ∀ r i, i < A → trN r par pur coin opar' ocoin' ev' (A + (O + 1)) i = outN r A par pur p (trN r par pur coin opar ocoin ev (A + O)) v i := by
    intro r i hi
    rw [show A + (O + 1) = (A + O) + 1 by omega, trN_out (by rw [ev_n]; exact lt), eI _ (Nat.le_refl _), q8, show A + O - A = O by omega, b1, if_pos rfl, show cN ocoin' O = v by unfold cN; rw [b2, if_pos rfl, nI_clamp (by omega)]]
    exact outN_congr (fun i _ => ⟨rfl, rfl⟩) (fun i hi => tr r i hi) hi
  refine ⟨q1, q2, by rw [q3, nI_1], by rw [q4, nI_1], by rw [q5, nI_1]; rfl, q6, by omega, ?_, ?_, q10, ?_, ?_, ?_⟩
  · rw [show A + (O + 1) = (A + O) + 1 by omega, evI_out (by rw [ev_n]; exact lt), eI _ (Nat.le_refl _), q8]
  · intro e he
    unfold evOk
    rw [eI e (by omega)]
    by_cases g : e = A + O
    · rw [g, ev_n, q8, show A + O - A = O by omega]
      exact Or.inr ⟨rfl, lt, by omega, by omega⟩
    · rw [ev_o e (by omega)]
      rcases q9 e (by omega) with ⟨z1, z2, z3⟩ | ⟨z1, z2, z3, z4⟩
      · exact Or.inl ⟨z1, z2, by omega⟩
      · exact Or.inr ⟨z1, z2, by omega, by omega⟩
  · intro i hi
    rw [b2]
    by_cases g : i = O
    · rw [if_pos g]; exact ⟨v, hv1, hv2, rfl⟩
    · rw [if_neg g]; exact q11 i (by omega)
  · intro r hr i hi
    rw [a3 r hr i hi, t1 r i hi]
  · intro x
    have := q13 x
    have c2 : sT (isP opar' x) (cN ocoin') O = sT (isP opar x) (cN ocoin) O :=
      sT_congr O (fun i hi => ⟨by unfold isP; rw [(pa i hi).1], fun _ => by unfold cN; rw [(pa i hi).2]⟩)
    have c3 : cN ocoin' O = v := by unfold cN; rw [b2, if_pos rfl, nI_clamp (by omega)]
    by_cases g : p = x
    · have g1 : isP opar' x O = true := by unfold isP; rw [b1, if_pos rfl]; simp [g]
      have c1 : sT (isP par x) (trN 0 par pur coin opar' ocoin' ev' (A + (O + 1))) A = sT (isP par x) (trN 0 par pur coin opar ocoin ev (A + O)) A - v := by
        rw [← sT_fwd A]
        refine sT_congr A (fun i hi => ⟨rfl, fun _ => ?_⟩)
        rw [t1 0 i hi, g]
        rfl
      rw [g] at hb
      rw [sT_s g1, c1, c2, c3]
      omega
    · have g1 : ¬ isP opar' x O = true := by unfold isP; rw [b1, if_pos rfl]; simp [g]
      have c1 : sT (isP par x) (trN 0 par pur coin opar' ocoin' ev' (A + (O + 1))) A = sT (isP par x) (trN 0 par pur coin opar ocoin ev (A + O)) A := by
        refine sT_congr A (fun i hi => ⟨rfl, fun gi => ?_⟩)
        rw [t1 0 i hi]
        show (if isP par p i = true then _ else _) = _
        rw [if_neg]
        unfold isP at gi ⊢
        simp at gi ⊢
        rw [gi]
        exact fun z => g z.symm
      rw [sT_n g1, c1, c2]
      exact this
end Acc
