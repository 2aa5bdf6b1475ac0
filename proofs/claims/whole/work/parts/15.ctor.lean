section Ctor
/-! the picture while the constructors run: n cells are made; a reference that isn't set yet is null (0 in the picture) -/
def slV2 (E : EN) (hv : Nat → Int32) (g k : Nat) : Value := match gSlot g k with
  | none => .int (hv k)
  | some t => if hv k = 0 then .null else .ref (eB E + gBase t)
def en2 (E : EN) (h : TH) (g i : Nat) : va_E :=
  if gTag g = 0 then .inr (gCi g, (List.range (gN g)).map (slV2 E (h g i) g))
  else if gTag g = 1 then .inl (eC E 0, gN g, .inl (h g i))
  else if gTag g = 2 then .inl (eC E 1, gN g, .inl (h g i))
  else .inl (eC E (gCi g), gN g, .inr (.inr (.inr (.inr (fun j => if h g i j = 0 then none else some (eB E + (gBase (gTgt g) + j)))))))
def wd2 (E : EN) (n : Nat) (h : TH) : va_W := (List.range n).map (fun p => (eB E + p, en2 E h (gOf p) (iOf p)))
def PC (E : EN) (n : Nat) (h : TH) (H : Heap) : Prop := n ≤ NP ∧ H.size = eB E + n ∧ va_P (eD E) classes (wd2 E n h) H ∧ ∀ p, n ≤ p → p < NP → ∀ k, h (gOf p) (iOf p) k = 0
theorem wd2_at (E : EN) (h : TH) {n p : Nat} (hp : p < n) : (wd2 E n h)[p]? = some (eB E + p, en2 E h (gOf p) (iOf p)) := by
  unfold wd2
  rw [List.getElem?_map, List.getElem?_range hp]
  rfl
theorem wd2_g (E : EN) (h : TH) {n g i : Nat} (hi : i < gCnt g) (hn : gBase g + i < n) : (wd2 E n h)[gBase g + i]? = some (eB E + (gBase g + i), en2 E h g i) := by
  obtain ⟨h1, h2, h3⟩ := g_ok g (g_lt g i hi) i hi
  rw [wd2_at E h hn, h2, h3]
theorem wd2_D (E : EN) (n : Nat) (h : TH) : va_D (eA E) (wd2 E n h) := by
  have hl : ∀ (k : Nat) (q : Nat × va_E), (wd2 E n h)[k]? = some q → q.1 = eB E + k := by
    intro k q hq
    have hk : k < n := by
      have := (List.getElem?_eq_some_iff.mp hq).1
      simpa [wd2] using this
    rw [wd2_at E h hk] at hq
    cases hq
    rfl
  refine ⟨fun i j p q hi hj e => ?_, fun k q hq => ?_⟩
  · have e1 := hl i p hi
    have e2 := hl j q hj
    omega
  · have e1 := hl k q hq
    show eB E ≤ q.1
    omega
theorem wd2_set (E : EN) (h h' : TH) {n g i : Nat} (hnp : n ≤ NP) (hi : i < gCnt g) (e : va_E) (he : e = en2 E h' g i) (hs : ∀ g' i', (g' ≠ g ∨ i' ≠ i) → en2 E h' g' i' = en2 E h g' i') :
    (wd2 E n h).set (gBase g + i) (eB E + (gBase g + i), e) = wd2 E n h' := by
  obtain ⟨h1, h2, h3⟩ := g_ok g (g_lt g i hi) i hi
  apply List.ext_getElem?
  intro k
  rcases Nat.lt_or_ge k n with hk | hk
  · rw [wd2_at E h' hk]
    by_cases hkp : gBase g + i = k
    · subst hkp
      rw [List.getElem?_set_self (by simpa [wd2] using hk), h2, h3, he]
    · rw [List.getElem?_set_ne hkp, wd2_at E h hk]
      rw [hs]
      by_cases hg : gOf k = g
      · right
        intro hi2
        apply hkp
        have := (g_all k (Nat.lt_of_lt_of_le hk hnp)).1
        rw [hg, hi2] at this
        exact this
      · exact Or.inl hg
  · rw [List.getElem?_eq_none (by simpa [wd2] using hk), List.getElem?_eq_none (by simpa [wd2] using hk)]
theorem en2_up {E : EN} {h : TH} {g i k : Nat} {v : Int32} {g' i' : Nat} (hn : g' ≠ g ∨ i' ≠ i) : en2 E (up h g i k v) g' i' = en2 E h g' i' := by
  have e : (up h g i k v) g' i' = h g' i' := by
    funext j
    unfold up
    rw [if_neg]
    rintro ⟨a, -, c⟩
    rcases hn with q | q
    · exact q a
    · exact q c
  unfold en2
  rw [e]
theorem wd2_push (E : EN) (n : Nat) (h : TH) : wd2 E (n + 1) h = wd2 E n h ++ [(eB E + n, en2 E h (gOf n) (iOf n))] := by
  unfold wd2
  rw [List.range_succ, List.map_append]
  rfl
theorem PC.push {E : EN} {n : Nat} {h : TH} {H H1 : Heap} (hp : PC E n h H) (hn : n < NP) (z : H1.size = eB E + n + 1) (o : ∀ q : Nat, q < eB E + n → H1[q]? = H[q]?) (ha : va_at (eD E) classes (eB E + n, en2 E h (gOf n) (iOf n)) H1) : PC E (n + 1) h H1 := by
  refine ⟨hn, by omega, ?_, fun p h1 h2 k => hp.2.2.2 p (by omega) h2 k⟩
  rw [wd2_push]
  refine (hp.2.2.1.kept (fun k x hx => o x.1 ?_)).app (fun k x hx => ?_)
  · have := (hp.2.2.1 k x hx).lt
    rw [hp.2.1] at this
    exact this
  · have hz : k < 1 := (List.getElem?_eq_some_iff.mp hx).1
    rw [show k = 0 by omega] at hx
    cases hx
    exact ha
/-- a write to a made cell -/
theorem PC.wr {E : EN} {n g i k : Nat} {v : Int32} {h : TH} {H H1 : Heap} {e : va_E} (hp : PC E n h H) (hi : i < gCnt g) (hn : gBase g + i < n) (z : H1.size = H.size) (hP1 : va_P (eD E) classes ((wd2 E n h).set (gBase g + i) (eB E + (gBase g + i), e)) H1) (he : e = en2 E (up h g i k v) g i) : PC E n (up h g i k v) H1 := by
  refine ⟨hp.1, by rw [z]; exact hp.2.1, ?_, fun p h1 h2 j => ?_⟩
  · rw [wd2_set E h (up h g i k v) hp.1 hi e he (fun g' i' q => en2_up q)] at hP1
    exact hP1
  · unfold up
    rw [if_neg]
    · exact hp.2.2.2 p h1 h2 j
    · rintro ⟨a, -, c⟩
      have := (g_all p h2).1
      rw [a, c] at this
      omega
theorem vrf_at {E : EN} {n g i : Nat} (hn : n < NP) (hgi : gOf n = g ∧ iOf n = i) : V E (rf g i) = .ref (eB E + n) := by
  obtain ⟨h1, h2⟩ := g_all n hn
  rw [hgi.1, hgi.2] at h1 h2
  rw [V_rf h2, h1]
theorem S_push {E : EN} {s : State} {H H1 : Heap} {locs : List Loc} {n : Nat} (hS : va_S (eA E) s.heap H locs) (hs : H.size = eB E + n) (z : H1.size = eB E + n + 1) (o : ∀ q : Nat, q < eB E + n → H1[q]? = H[q]?) : va_S (eA E) s.heap H1 locs :=
  ⟨by have := hS.1; omega, fun q h1 h2 => (o q (by have := hS.1; omega)).trans (hS.2.1 q h1 h2), hS.2.2⟩
variable {E : EN} {M : MD} {ce sl n : Nat} {Z : List Frame → Array Value → State → State → Prop} {pc : Nat} {ls : List (Option Value)} {st : List Value} {h : TH}
theorem c_newI {N g i : Nat} {v : Int32} (hd : decode M.2.1 pc = .ok (.newarray .int, 2)) (hw : Cond.arrayClass .int ∈ tw) (hn : n < NP) (hgi : gOf n = g ∧ iOf n = i) (hg : gTag g = 1 ∧ gN g = N) (hv : ¬ v < 0) (hN : v.toNatClampNeg = N) (hb : N ≤ 1000) (hc : ce + 1 ≤ M.2.2.2.2.cells) (hs : sl + N ≤ M.2.2.2.2.slots)
    (k : wg E (PC E (n + 1)) M (ce + 1) (sl + N) Z (pc + 2) ls (rf g i :: st) h) : wg E (PC E n) M ce sl Z pc ls (.int v :: st) h := by
  intro p e s m args below meth c C H locs rl hP hS hl
  refine va_newaK (atype := .int) C.1 C.2.1 (C.2.2.2.2.2.1 _ hw) rfl hd rfl hv hN (by show N * 4 ≤ 536870912; omega) hc hs hP.2.1 (fun H1 cA e1 z1 o1 hAr hNm => ?_)
  have hcA : cA = eC E 0 := by
    have h1 : s.vm.findClass ("[" ++ FieldType.int.toString) = some (eC E 0) := (C.2.2.2.2.2.2.2.1.2 0 _ rfl).2
    exact Option.some.inj (hNm.symm.trans h1)
  subst hcA
  have h3 := k p e s m args below meth c C H1 locs rl (hP.push hn z1 o1 ?_) (S_push hS hP.2.1 z1 o1) hl
  · rw [List.map_cons, vrf_at hn hgi] at h3
    exact h3
  · rw [hgi.1, hgi.2]
    unfold en2
    rw [if_neg (by rw [hg.1]; decide), if_pos hg.1]
    show H1[eB E + n]? = some (vp_cell _ _)
    rw [vp_cell_i, e1, hg.2]
    congr 2
    funext j
    have := hP.2.2.2 n (Nat.le_refl n) hn j
    rw [hgi.1, hgi.2] at this
    rw [this]
    rfl
theorem c_newZ {N g i : Nat} {v : Int32} (hd : decode M.2.1 pc = .ok (.newarray .boolean, 2)) (hw : Cond.arrayClass .boolean ∈ tw) (hn : n < NP) (hgi : gOf n = g ∧ iOf n = i) (hg : gTag g = 2 ∧ gN g = N) (hv : ¬ v < 0) (hN : v.toNatClampNeg = N) (hb : N ≤ 1000) (hc : ce + 1 ≤ M.2.2.2.2.cells) (hs : sl + N ≤ M.2.2.2.2.slots)
    (k : wg E (PC E (n + 1)) M (ce + 1) (sl + N) Z (pc + 2) ls (rf g i :: st) h) : wg E (PC E n) M ce sl Z pc ls (.int v :: st) h := by
  intro p e s m args below meth c C H locs rl hP hS hl
  refine va_newaK (atype := .boolean) C.1 C.2.1 (C.2.2.2.2.2.1 _ hw) rfl hd rfl hv hN (by show N * 1 ≤ 536870912; omega) hc hs hP.2.1 (fun H1 cA e1 z1 o1 hAr hNm => ?_)
  have hcA : cA = eC E 1 := by
    have h1 : s.vm.findClass ("[" ++ FieldType.boolean.toString) = some (eC E 1) := (C.2.2.2.2.2.2.2.1.2 1 _ rfl).2
    exact Option.some.inj (hNm.symm.trans h1)
  subst hcA
  have h3 := k p e s m args below meth c C H1 locs rl (hP.push hn z1 o1 ?_) (S_push hS hP.2.1 z1 o1) hl
  · rw [List.map_cons, vrf_at hn hgi] at h3
    exact h3
  · rw [hgi.1, hgi.2]
    unfold en2
    rw [if_neg (by rw [hg.1]; decide), if_neg (by rw [hg.1]; decide), if_pos hg.1]
    show H1[eB E + n]? = some (vp_cell _ _)
    rw [vp_cell_i, e1, hg.2]
    congr 2
    funext j
    have := hP.2.2.2 n (Nat.le_refl n) hn j
    rw [hgi.1, hgi.2] at this
    rw [this]
    rfl
theorem c_newQ {N g i t0 idx : Nat} {v : Int32} {C0 : String} (hd : decode M.2.1 pc = .ok (.anewarray idx, 3)) (hw : Cond.classLink M.1.cls idx C0 ∈ tw) (hao : ∀ U : State, NW U → va_AO C0 U) (ht0 : (tys E)[t0]? = some (eC E t0, .object C0)) (hn : n < NP) (hgi : gOf n = g ∧ iOf n = i) (hg : gTag g = 3 ∧ gN g = N ∧ gCi g = t0) (hv : ¬ v < 0) (hN : v.toNatClampNeg = N) (hb : N ≤ 1000) (hc : ce + 1 ≤ M.2.2.2.2.cells) (hs : sl + N ≤ M.2.2.2.2.slots)
    (k : wg E (PC E (n + 1)) M (ce + 1) (sl + N) Z (pc + 3) ls (rf g i :: st) h) : wg E (PC E n) M ce sl Z pc ls (.int v :: st) h := by
  intro p e s m args below meth c C H locs rl hP hS hl
  subst hN
  refine W.anew C.1 C.2.1 C.2.2.2.2.1 (C.2.2.2.2.2.1 _ hw) (va_AO.use (hao s C.2.2.2.2.2.2.2.2.2.1)) rfl hd rfl hv (by omega) hc hs fun cA kA comp f1 f2 f3 f4 => ?_
  have hcA : cA = eC E t0 := by
    obtain ⟨kA', comp', -, -, -, h1⟩ := (C.2.2.2.2.2.2.2.1.2 t0 _ ht0).2
    exact Option.some.inj (f1.symm.trans h1)
  subst hcA
  generalize hH1 : H.push ({ cls := eC E t0, slots := Array.replicate v.toNatClampNeg .null, vm := .none } : Cell) = H1
  have z1 : H1.size = eB E + n + 1 := by rw [← hH1, Array.size_push, hP.2.1]
  have e1 : H1[eB E + n]? = some (arrV (eC E t0) v.toNatClampNeg (fun _ => .null)) := by rw [← hP.2.1, ← hH1, Array.getElem?_push_size, ← arrV_new]
  have o1 : ∀ q : Nat, q < eB E + n → H1[q]? = H[q]? := fun q hq => by rw [← hH1, Array.getElem?_push, if_neg (by rw [hP.2.1]; exact Nat.ne_of_lt hq)]
  have h3 := k p e s m args below meth c C H1 locs rl (hP.push hn z1 o1 ?_) (S_push hS hP.2.1 z1 o1) hl
  · rw [List.map_cons, vrf_at hn hgi] at h3
    rw [hP.2.1]
    exact h3
  · rw [hgi.1, hgi.2]
    unfold en2
    rw [if_neg (by rw [hg.1]; decide), if_neg (by rw [hg.1]; decide), if_neg (by rw [hg.1]; decide), hg.2.2]
    show H1[eB E + n]? = some (vp_cell _ _)
    rw [vp_cell_q, e1, hg.2.1]
    congr 2
    funext j
    have := hP.2.2.2 n (Nat.le_refl n) hn j
    rw [hgi.1, hgi.2] at this
    rw [if_pos this]
    rfl
theorem c_new {N g i ci idx : Nat} {C0 : String} {T : u_T} {ty : Nat → FieldType} (hd : decode M.2.1 pc = .ok (.new idx, 3)) (cf : CF ci C0 T N ty) (hw : Cond.classLink M.1.cls idx C0 ∈ tw ∧ Cond.instantiable C0 N ∈ tw ∧ Cond.initialized C0 ∈ tw) (hn : n < NP) (hgi : gOf n = g ∧ iOf n = i) (hg : gTag g = 0 ∧ gN g = N ∧ gCi g = ci) (hdf : ∀ j, j < N → defaultValue (ty j) = (match gSlot g j with | none => Value.int 0 | some _ => Value.null)) (hc : ce + 1 ≤ M.2.2.2.2.cells) (hs : sl + N ≤ M.2.2.2.2.slots)
    (k : wg E (PC E (n + 1)) M (ce + 1) (sl + N) Z (pc + 3) ls (rf g i :: st) h) : wg E (PC E n) M ce sl Z pc ls st h := by
  intro p e s m args below meth c C H locs rl hP hS hl
  have hKn := C.2.2.2.2.2.2.2.1.1 ci _ cf.1
  refine W.newcK C.1 C.2.1 C.2.2.2.2.1 (C.2.2.2.2.2.1 _ hw.1) (C.2.2.2.2.2.1 _ hw.2.1) (C.2.2.2.2.2.1 _ hw.2.2) rfl hd hc hs hKn.2.1 hP.2.1 fun H1 kC hkC e1 z1 o1 => ?_
  have h3 := k p e s m args below meth c C H1 locs rl (hP.push hn z1 o1 ?_) (S_push hS hP.2.1 z1 o1) hl
  · rw [List.map_cons, vrf_at hn hgi] at h3
    exact h3
  · rw [hgi.1, hgi.2]
    unfold en2
    rw [if_pos hg.1, hg.2.2]
    refine ⟨_, cf.1, (u_born ty C.2.2.2.2.2.1 cf.2.1 hKn hkC e1 cf.2.2.1).to (fun j hj => ?_)⟩
    rw [hdf j hj]
    unfold vp_V
    rw [List.getD_eq_getElem?_getD, List.getElem?_map, List.getElem?_range (by rw [hg.2.1]; exact hj)]
    have := hP.2.2.2 n (Nat.le_refl n) hn j
    rw [hgi.1, hgi.2] at this
    simp only [Option.map_some, Option.getD_some, slV2, this]
    cases gSlot g j with
    | none => rfl
    | some t => rfl
theorem en2_obj (E : EN) (h : TH) {g : Nat} (i : Nat) (ht : gTag g = 0) : en2 E h g i = .inr (gCi g, (List.range (gN g)).map (slV2 E (h g i) g)) := by
  unfold en2
  rw [if_pos ht]
theorem slV2_set {E : EN} {h : TH} {g i kf N : Nat} {v : Int32} {w : Value} (hk : kf < N) (hw : slV2 E ((up h g i kf v) g i) g kf = w) : ((List.range N).map (slV2 E (h g i) g)).set kf w = (List.range N).map (slV2 E ((up h g i kf v) g i) g) := by
  apply List.ext_getElem?
  intro j
  rw [List.getElem?_set]
  by_cases hj : kf = j
  · subst hj
    rw [if_pos rfl, if_pos (by simpa using hk), List.getElem?_map, List.getElem?_range hk]
    simp only [Option.map_some, hw]
  · rw [if_neg hj, List.getElem?_map, List.getElem?_map]
    rcases Nat.lt_or_ge j N with hjn | hjn
    · rw [List.getElem?_range hjn]
      simp only [Option.map_some, slV2]
      have : (up h g i kf v) g i j = h g i j := by
        unfold up
        rw [if_neg (fun q => hj q.2.1.symm)]
      rw [this]
    · rw [List.getElem?_eq_none (by simpa using hjn)]
      rfl
theorem c_putI {idx ci N g i kf : Nat} {C0 : String} {T : u_T} {ty : Nat → FieldType} {v : Int32} {h2 : TH} (hd : decode M.2.1 pc = .ok (.putfield idx, 3)) (cf : CF ci C0 T N ty) (hw : Cond.fieldLink M.1.cls idx (T kf).1 (T kf).2.1 (T kf).2.2.1 ∈ tw)
    (hg : gTag g = 0 ∧ gCi g = ci ∧ gN g = N ∧ kf < N ∧ gSlot g kf = none ∧ (T kf).2.2.2 = false ∧ (T kf).2.2.1 = "I") (hi : i < gCnt g) (hn : gBase g + i < n) (hh : up h g i kf v = h2) (k : wg E (PC E n) M ce sl Z (pc + 3) ls st h2) : wg E (PC E n) M ce sl Z pc ls (.int v :: rf g i :: st) h := by
  intro p e s m args below meth c C H locs rl hP hS hl
  obtain ⟨g1, g2, g3, g4, g5, g6, g7⟩ := hg
  subst hh
  have he := wd2_g E h hi hn
  rw [en2_obj E h i g1, g2, g3] at he
  show W p (eL E) e M.2.2.2.2 s m args below meth c H locs ce sl (Z below args s) (F0 m pc rl (.int v :: V E (rf g i) :: st.map (V E)))
  rw [V_rf hi]
  have hap := va_apart (own := M.1.cls) C.2.2.2.2.2.1 cf.2.1 ty cf.2.2.1 cf.2.2.2 C.2.2.2.2.2.2.2.1 cf.1
  obtain ⟨r, h1, cell, q1, q2, q3, q4⟩ := hP.2.2.1 _ _ he
  have hr : r = (C0, T, N) := Option.some.inj (h1.symm.trans cf.1)
  subst hr
  obtain ⟨hS1, hfc, kC, hkC, hkind⟩ := C.2.2.2.2.2.2.2.1.1 ci _ cf.1
  obtain ⟨cf1, kf1, fi, f, hi1, hsl⟩ := hS1 kf g4
  have hlay := C.2.2.2.2.2.1 _ (cf.2.1 _ (u_in_lay g4))
  unfold u_lay at hlay
  rw [if_neg (by rw [g6]; decide)] at hlay
  have hst := (u_facts hfc hkC (u_lays C.2.2.2.2.2.1 cf.2.1 g4) hi1).1
  have h6 := u_store hfc hkC hkind hlay hi1 (show parseFieldDescriptor (T kf).2.2.1 = some .int by rw [g7]; decide +kernel) (v := .int v) rfl rfl
  refine W.putK C.1 C.2.1 (f := f) ⟨C.2.2.2.2.1, C.2.2.2.2.2.1 _ hw, ⟨_, _, _, hi1⟩, hst⟩ (by rw [q2]; exact h6) q1 q3 (by rw [hsl]; exact k2_hasslot (q4 kf g4)) rfl rfl hd fun H' e1 e2 e3 => ?_
  rw [hsl] at e1 ⊢
  have hA : eA E (eB E + (gBase g + i)) := Nat.le_add_right _ _
  refine k p e s m args below meth c C H' _ rl (PC.wr hP hi hn e2 (hP.2.2.1.set (wd2_D E n h) he (e := .inr (ci, ((List.range N).map (slV2 E (h g i) g)).set kf (.int v))) ⟨_, cf.1, t_OB.to (V := updV (vp_V ((List.range N).map (slV2 E (h g i) g))) kf (.int v)) ⟨_, e1, q2, q3, t_set q4 hap g4 (.int v)⟩ (fun j _ => vp_updV_set (by simpa using g4) (.int v) j)⟩ e3) ?_) (hS.put e2 e3 hA) hl
  rw [en2_obj E _ i g1, g2, g3, slV2_set g4]
  simp only [slV2, g5, up, and_self, if_true]
theorem c_putR {idx ci N g i kf t : Nat} {C0 : String} {T : u_T} {ty : Nat → FieldType} {ft : FieldType} {h2 : TH} (hd : decode M.2.1 pc = .ok (.putfield idx, 3)) (cf : CF ci C0 T N ty) (hw : Cond.fieldLink M.1.cls idx (T kf).1 (T kf).2.1 (T kf).2.2.1 ∈ tw)
    (hg : gTag g = 0 ∧ gCi g = ci ∧ gN g = N ∧ kf < N ∧ gSlot g kf = some t ∧ (T kf).2.2.2 = true ∧ (T kf).1 = M.1.cls) (hty : parseFieldDescriptor (T kf).2.2.1 = some ft ∧ (∀ a : Nat, narrow ft (.ref a) = .ref a) ∧ ∀ a : Nat, fits ft (.ref a) = true) (hin : M.1.name = "<init>") (hi : i < gCnt g) (hn : gBase g + i < n) (ht : 0 < gCnt t) (hh : up h g i kf 1 = h2) (k : wg E (PC E n) M ce sl Z (pc + 3) ls st h2) : wg E (PC E n) M ce sl Z pc ls (rf t 0 :: rf g i :: st) h := by
  intro p e s m args below meth c C H locs rl hP hS hl
  obtain ⟨g1, g2, g3, g4, g5, g6, g7⟩ := hg
  subst hh
  have he := wd2_g E h hi hn
  rw [en2_obj E h i g1, g2, g3] at he
  show W p (eL E) e M.2.2.2.2 s m args below meth c H locs ce sl (Z below args s) (F0 m pc rl (V E (rf t 0) :: V E (rf g i) :: st.map (V E)))
  rw [V_rf hi, V_rf ht]
  have hap := va_apart (own := M.1.cls) C.2.2.2.2.2.1 cf.2.1 ty cf.2.2.1 cf.2.2.2 C.2.2.2.2.2.2.2.1 cf.1
  obtain ⟨r, h1, cell, q1, q2, q3, q4⟩ := hP.2.2.1 _ _ he
  have hr : r = (C0, T, N) := Option.some.inj (h1.symm.trans cf.1)
  subst hr
  obtain ⟨hS1, hfc, kC, hkC, hkind⟩ := C.2.2.2.2.2.2.2.1.1 ci _ cf.1
  obtain ⟨cf1, kf1, fi, f, hi1, hsl⟩ := hS1 kf g4
  have hlay := C.2.2.2.2.2.1 _ (cf.2.1 _ (u_in_lay g4))
  unfold u_lay at hlay
  rw [if_pos g6] at hlay
  have hst := (u_facts hfc hkC (u_lays C.2.2.2.2.2.1 cf.2.1 g4) hi1).1
  have hcf : m.cls = cf1 := by
    obtain ⟨_, _, c', _, _, _, -, -, hf', -, -, -, hown2, -⟩ := Cond.laysFinal_spec hlay
    have e1 : c' = cf1 := by have := hi1.symm.trans hf'; simp at this; exact this.1.symm
    rw [g7] at hown2
    rw [← e1]; exact Option.some.inj (C.2.2.2.2.1.symm.trans hown2)
  have h6 := u_fits hfc hkC hkind (Or.inr hlay) hi1 hty.1 (hty.2.1 (eB E + (gBase t + 0))) (hty.2.2 (eB E + (gBase t + 0)))
  refine W.putFinK C.1 C.2.1 C.2.2.2.2.1 (C.2.2.2.2.2.1 _ hw) hi1 hst hcf (C.2.2.2.2.2.2.2.2.2.2 hin) (by rw [q2]; exact h6) q1 q3 (by rw [hsl]; exact k2_hasslot (q4 kf g4)) rfl rfl hd fun H' e1 e2 e3 => ?_
  rw [hsl] at e1 ⊢
  have hA : eA E (eB E + (gBase g + i)) := Nat.le_add_right _ _
  refine k p e s m args below meth c C H' _ rl (PC.wr hP hi hn e2 (hP.2.2.1.set (wd2_D E n h) he (e := .inr (ci, ((List.range N).map (slV2 E (h g i) g)).set kf (.ref (eB E + (gBase t + 0))))) ⟨_, cf.1, t_OB.to (V := updV (vp_V ((List.range N).map (slV2 E (h g i) g))) kf (.ref (eB E + (gBase t + 0)))) ⟨_, e1, q2, q3, t_set q4 hap g4 (.ref (eB E + (gBase t + 0)))⟩ (fun j _ => vp_updV_set (by simpa using g4) (.ref (eB E + (gBase t + 0))) j)⟩ e3) ?_) (hS.put e2 e3 hA) hl
  rw [en2_obj E _ i g1, g2, g3, slV2_set g4]
  simp only [slV2, g5, up, and_self, if_true, Nat.add_zero]
  rw [if_neg (by decide)]
theorem c_getR {idx ci N g i kf t : Nat} {C0 : String} {T : u_T} {ty : Nat → FieldType} (hd : decode M.2.1 pc = .ok (.getfield idx, 3)) (cf : CF ci C0 T N ty) (hw : Cond.fieldLink M.1.cls idx (T kf).1 (T kf).2.1 (T kf).2.2.1 ∈ tw)
    (hg : gTag g = 0 ∧ gCi g = ci ∧ gN g = N ∧ kf < N ∧ gSlot g kf = some t ∧ 0 < gCnt t) (hi : i < gCnt g) (hn : gBase g + i < n) (hz : ¬ h g i kf = 0) (k : wg E (PC E n) M ce sl Z (pc + 3) ls (rf t 0 :: st) h) : wg E (PC E n) M ce sl Z pc ls (rf g i :: st) h := by
  intro p e s m args below meth c C H locs rl hP hS hl
  obtain ⟨g1, g2, g3, g4, g5, g6⟩ := hg
  have he := wd2_g E h hi hn
  rw [en2_obj E h i g1, g2, g3] at he
  show W p (eL E) e M.2.2.2.2 s m args below meth c H locs ce sl (Z below args s) (F0 m pc rl (V E (rf g i) :: st.map (V E)))
  rw [V_rf hi]
  refine va_get C.1 C.2.1 C.2.2.2.2.2.1 cf.2.1 C.2.2.2.2.1 C.2.2.2.2.2.2.2.1 hP.2.2.1 _ he cf.1 _ g4 (C.2.2.2.2.2.1 _ hw) (fun _ q => q) (v := V E (rf t 0)) ?_ hd (k p e s m args below meth c C H locs rl hP hS hl)
  rw [List.getElem?_map, List.getElem?_range g4]
  simp only [Option.map_some, slV2, g5, V_rf g6, Nat.add_zero]
  rw [if_neg hz]
theorem c_iast {g i : Nat} {j v : Int32} {h2 : TH} (hd : decode M.2.1 pc = .ok (.iastore, 1)) (ht : gTag g = 1) (hi : i < gCnt g) (hn : gBase g + i < n) (hin : vp_in j (gN g)) (hh : up h g i j.toNatClampNeg v = h2) (k : wg E (PC E n) M ce sl Z (pc + 1) ls st h2) : wg E (PC E n) M ce sl Z pc ls (.int v :: .int j :: rf g i :: st) h := by
  intro p e s m args below meth c C H locs rl hP hS hl
  subst hh
  have hen : ∀ h0 : TH, en2 E h0 g i = .inl (eC E 0, gN g, .inl (h0 g i)) := fun h0 => by
    unfold en2
    rw [if_neg (by rw [ht]; decide), if_pos ht]
  have he := wd2_g E h hi hn
  rw [hen] at he
  show W p (eL E) e M.2.2.2.2 s m args below meth c H locs ce sl (Z below args s) (F0 m pc rl (.int v :: .int j :: V E (rf g i) :: st.map (V E)))
  rw [V_rf hi]
  have hA : eA E (eB E + (gBase g + i)) := Nat.le_add_right _ _
  refine W.iast C.1 C.2.1 (hP.2.2.1 _ _ he) ((C.2.2.2.2.2.2.2.1.2 0 _ rfl).1 (gN g) (fun q => .int (h g i q))) (fun q => by cases q) (by show ¬ (j < 0 ∨ (arrV _ _ _).slots.size ≤ _); rw [arrV_size]; exact hin) rfl rfl hd fun H1 e1 z oq => ?_
  refine k p e s m args below meth c C H1 _ rl (PC.wr hP hi hn z (hP.2.2.1.set (wd2_D E n h) he (e := .inl (eC E 0, gN g, .inl ((up h g i j.toNatClampNeg v) g i))) ?_ oq) (hen _).symm) (hS.put z oq hA) hl
  show H1[eB E + (gBase g + i)]? = some (vp_cell _ _)
  rw [e1, vp_cell_i, vp_cell_i, arrV_store]
  congr 2
  funext q
  unfold up
  by_cases hq : q = j.toNatClampNeg
  · subst hq
    simp [updV]
  · simp [updV, hq]
theorem c_aast {g i t ci t0 : Nat} {j : Int32} {r : vw_C} {h2 : TH} (hd : decode M.2.1 pc = .ok (.aastore, 1)) (hg : gTag g = 3 ∧ gTgt g = t ∧ gCi g = t0) (hg2 : gTag t = 0 ∧ gCi t = ci) (ht0 : (tys E)[t0]? = some (eC E t0, .object r.1)) (hc : classes[ci]? = some r) (hi : i < gCnt g) (hn : gBase g + i < n) (hi2 : j.toNatClampNeg < gCnt t) (hn2 : gBase t + j.toNatClampNeg < n) (hin : vp_in j (gN g)) (hh : up h g i j.toNatClampNeg 1 = h2) (k : wg E (PC E n) M ce sl Z (pc + 1) ls st h2) : wg E (PC E n) M ce sl Z pc ls (rf t j.toNatClampNeg :: .int j :: rf g i :: st) h := by
  intro p e s m args below meth c C H locs rl hP hS hl
  subst hh
  obtain ⟨g1, g2, g3⟩ := hg
  have hen : ∀ h0 : TH, en2 E h0 g i = .inl (eC E t0, gN g, .inr (.inr (.inr (.inr (fun j => if h0 g i j = 0 then none else some (eB E + (gBase t + j))))))) := fun h0 => by
    unfold en2
    rw [if_neg (by rw [g1]; decide), if_neg (by rw [g1]; decide), if_neg (by rw [g1]; decide), g2, g3]
  have he := wd2_g E h hi hn
  rw [hen] at he
  have he2 := wd2_g E h hi2 hn2
  rw [en2_obj E h _ hg2.1, hg2.2] at he2
  show W p (eL E) e M.2.2.2.2 s m args below meth c H locs ce sl (Z below args s) (F0 m pc rl (V E (rf t j.toNatClampNeg) :: .int j :: V E (rf g i) :: st.map (V E)))
  rw [V_rf hi, V_rf hi2]
  have hK := C.2.2.2.2.2.2.2.1
  have hlt : j.toNatClampNeg < gN g := Nat.not_le.mp fun q => hin (Or.inr q)
  have h0 : ¬ j < 0 := fun q => hin (Or.inl q)
  obtain ⟨r', hr', cellV, q1, q2, q3, -⟩ := hP.2.2.1 _ _ he2
  have hcls := (hK.1 ci r hc).2
  obtain ⟨kA, comp, k1, k2, k3, -⟩ := (hK.2 t0 _ ht0).2
  have hcomp : comp = (eD E).1 ci := Option.some.inj (k3.symm.trans hcls.1)
  subst hcomp
  obtain ⟨kC, hkC, -⟩ := hcls.2
  have hA : eA E (eB E + (gBase g + i)) := Nat.le_add_right _ _
  refine W.aast C.1 C.2.1 (hP.2.2.1 _ _ he) (fun q h => by cases h) (fun h => by cases h) k1 k2 rfl hkC ⟨h0, by show _ < (arrV _ _ _).slots.size; rw [arrV_size]; exact hlt⟩ q1 (fun q h => by rw [q3] at h; cases h) (by rw [q2]; exact hkC) (by rw [q2]; exact va_assign hcls) rfl rfl hd fun H1 e1 z oq => ?_
  refine k p e s m args below meth c C H1 _ rl (PC.wr hP hi hn z (hP.2.2.1.set (wd2_D E n h) he (e := .inl (eC E t0, gN g, .inr (.inr (.inr (.inr (fun q => if (up h g i j.toNatClampNeg 1) g i q = 0 then none else some (eB E + (gBase t + q)))))))) ?_ oq) (hen _).symm) (hS.put z oq hA) hl
  show H1[eB E + (gBase g + i)]? = some (vp_cell _ _)
  rw [e1, vp_cell_q, vp_cell_q, arrV_store]
  congr 2
  funext q
  unfold up
  by_cases hq : q = j.toNatClampNeg
  · subst hq
    simp [updV, va_rf]
  · simp [updV, hq]
/-- Object's own constructor does nothing -/
theorem c_obj {PP : TH → Heap → Prop} {idx x : Nat} (hd : decode M.2.1 pc = .ok (.invokespecial idx, 3)) (hw : Cond.methodLink M.1.cls idx Lib.objectInit ∈ tw ∧ Cond.instanceMethod Lib.objectInit ∈ tw ∧ Cond.code Lib.objectInit ⟨#[0xb1]⟩ 1 none ∈ tw) (hr : 1 ≤ M.2.2.2.2.frames ∧ (st.map fun v => v.category).sum + 12 ≤ M.2.2.2.2.locals)
    (k : wg E PP M ce sl Z (pc + 3) ls st h) : wg E PP M ce sl Z pc ls (.ref x :: st) h := by
  intro p e s m args below meth c C H locs rl hP hS hl
  exact W.objInit C.1 C.2.1 C.2.2.2.2.1 (C.2.2.2.2.2.1 _ hw.1) (C.2.2.2.2.2.1 _ hw.2.1) (C.2.2.2.2.2.1 _ hw.2.2) rfl (hl.2.1.trans C.2.2.2.1.symm) rfl hd hr.1 (by
    have h1 := V_sum E st
    have h2 := hr.2
    show 2 * (F0 m pc rl (Value.ref (ad E x) :: st.map (V E))).monitorRoom + ((st.map (V E)).map fun v => v.category).sum + 12 ≤ M.2.2.2.2.locals
    rw [h1]
    have h3 : (F0 m pc rl (Value.ref (ad E x) :: st.map (V E))).monitorRoom = 0 := rfl
    rw [h3]
    omega) (k p e s m args below meth c C H locs rl hP hS hl)
def RpC (E : EN) (n : Nat) (h : TH) (U : State) (H : Heap) : Prop := PC E n h H ∧ va_K (eD E) classes (tys E) U ∧ OUT E U H ∧ NW U
def Zc (E : EN) (n mc ms : Nat) (Q : TH → Prop) : List Frame → Array Value → State → State → Prop := fun below args s => MQ below (va_Qv (fun u => Q u) (fun u t => RpC E n u t t.heap) (eA E)) args s mc ms (eA E)
theorem RpC_of {p : Program} {s t : State} {m : MethodId} {args : Array Value} {meth : Method} {c : Code} {H : Heap} {locs : List Loc} (C : Cx E M p s m args meth c) (hP : PC E n h H) (hS : va_S (eA E) s.heap H locs) (ht : t.heap = H) (hW : s.WarmedH t.vm) : RpC E n h t t.heap := by
  rw [ht]
  exact ⟨hP, C.2.2.2.2.2.2.2.1.moved hW.alike, (C.2.2.2.2.2.2.2.2.1.moved hW.alike).kept hS.2.1, C.2.2.2.2.2.2.2.2.2.1.warm hW⟩
theorem c_ret {Q : TH → Prop} (hd : decode M.2.1 pc = .ok (.return_, 1)) (hr : M.2.2.2.1 = none) (hq : Q h) : wg E (PC E n) M ce sl (Zc E n ce sl Q) pc ls [] h := by
  intro p e s m args below meth c C H locs rl hP hS hl
  exact W.vret C.1 C.2.1 (C.2.2.1.trans hr) (fun t ht hW => ⟨⟨h, rfl, hq, RpC_of C hP hS ht hW⟩, hS.F ht⟩) hS.2.2 hd C.2.2.2.2.2.2.1
theorem met_ofC {As : List Value} {mc ms : Nat} {Qc : Array Value → State → Outcome → State → Prop} (hy : plainName M.1.cls = true) (hc : ∀ w ∈ As, w.category = 1) (hn : As.length ≤ M.2.2.1)
    (k : wg E (PC E n) M 0 0 (fun below args s => MQ below Qc args s mc ms (eA E)) 0 (ent As M.2.2.1) [] h) :
    Met (eL E) M.1 (wsOf M) M.2.2.2.2 (va_Pc (As.map (V E)) (fun U => RpC E n h U U.heap)) Qc mc ms (eA E) := by
  refine Met.ofW (cc := M.2.1) (maxL := M.2.2.1) (ret := M.2.2.2.1) hy rfl ?_
  intro p e s m args below meth c s₁ B hml hv
  obtain ⟨rfl, hR⟩ := hv
  have hts : ∀ w ∈ wsOf M, w.before (As.map (V E)).toArray s = true := atoms_spec (ws := wsOf M) B.pre
  have hcv : ∀ w ∈ As.map (V E), w.category = 1 := by
    intro w hw
    obtain ⟨v, hv, rfl⟩ := List.mem_map.mp hw
    rw [V_cat]
    exact hc v hv
  have hlen : (lg_sl (As.map (V E))).length ≤ M.2.2.1 := by
    rw [lg_sl_one _ hcv, List.length_map]
    exact hn
  have hl := lv_entry (As.map (V E)) (n := M.2.2.1) hlen
  rw [lg_entry_eq]
  refine k p e s m _ below meth c ⟨B.exec, B.bytes, B.returns, hml, findClass_of_methodNamed B.named, fun w hw => hts w (List.mem_cons_of_mem _ hw), B.notSynchronized, hR.2.1, hR.2.2.1, hR.2.2.2, fun q => (name_of_methodNamed B.named B.method).1.trans q⟩ s.heap [] _ hR.1 va_S.rf ⟨?_, hl.1, hl.2.1, fun j v hj => ?_⟩
  · unfold ent
    rw [List.length_append, List.length_map, List.length_replicate]
    omega
  · have hjl : As[j]? = some v := by
      unfold ent at hj
      rcases Nat.lt_or_ge j As.length with q | q
      · rw [List.getElem?_append_left (by simpa using q), List.getElem?_map] at hj
        cases hA : As[j]? with
        | none => rw [hA] at hj; cases hj
        | some w => rw [hA] at hj; cases hj; rfl
      · rw [List.getElem?_append_right (by simpa using q)] at hj
        have := List.mem_of_getElem? hj
        have := List.eq_of_mem_replicate this
        cases this
    have h3 := lv_args_one (As.map (V E)) 0 j (V E v) hcv (by rw [List.getElem?_map, hjl]; rfl)
    rw [Nat.zero_add] at h3
    exact hl.2.2 _ h3
/-- a constructor of ours: mc cells of ms slots come, n2 stand behind it -/
theorem c_init {M' : MD} {idx na n2 mc ms g i : Nat} {As : List Value} {Q : TH → Prop} (hd : decode M.2.1 pc = .ok (.invokespecial idx, 3)) (hi : i < gCnt g) (hn : As.length = na) (hcat : ∀ w ∈ As, w.category = 1)
    (ok : plainName M'.1.cls = true ∧ (M'.1.cls ≠ "java/lang/invoke/MethodHandle" ∧ M'.1.cls ≠ "java/lang/invoke/VarHandle" ∧ (parseMethodDescriptor M'.1.desc).map (fun d => d.parameters.length) = some na) ∧ M'.2.2.2.2.cells = mc ∧ M'.2.2.2.2.slots = ms ∧ M'.2.2.2.2.frames + 1 ≤ M.2.2.2.2.frames ∧ 8 + (M'.2.2.1 + 11) + M'.2.2.2.2.locals ≤ M.2.2.2.2.locals ∧ na + 1 ≤ M'.2.2.1 ∧ M'.2.2.2.1 = none ∧ M'.1.name = "<init>")
    (hw : Cond.code M'.1 M'.2.1 M'.2.2.1 none ∈ tw ∧ Cond.initialized M'.1.cls ∈ tw ∧ Cond.methodLink M.1.cls idx M'.1 ∈ tw ∧ Cond.instanceMethod M'.1 ∈ tw) (hroom : (st.map fun v => v.category).sum ≤ 8) (hcs : ce + mc ≤ M.2.2.2.2.cells ∧ sl + ms ≤ M.2.2.2.2.slots) {st0 : List Value} (hst : As.reverse ++ rf g i :: st = st0) {ls0 : List (Option Value)} (hent : ent (rf g i :: As) M'.2.2.1 = ls0)
    (kc : wg E (PC E n) M' 0 0 (Zc E n2 mc ms Q) 0 ls0 [] h) (k : ∀ (h1 : TH), Q h1 → wg E (PC E n2) M (ce + mc) (sl + ms) Z (pc + 3) ls st h1) : wg E (PC E n) M ce sl Z pc ls st0 h := by
  intro p e s m args below meth c C H locs rl hP hS hl
  subst hst
  subst hent
  obtain ⟨o1, o2, o3, o4, o5, o6, o7, o8, o9⟩ := ok
  have hM := met_ofC (As := rf g i :: As) o1 (fun w hw => (List.mem_cons.mp hw).elim (fun q => by rw [q]; rfl) (hcat w)) (by rw [List.length_cons, hn]; exact o7) kc
  have hpre : PreS s H (va_Pc ((rf g i :: As).map (V E)) (fun U => RpC E n h U U.heap)) ((rf g i :: As).map (V E)) := by
    refine ⟨?_, fun U hU hW => ⟨rfl, RpC_of C hP hS hU hW⟩⟩
    intro a U g' mk q
    refine ⟨q.1, ?_⟩
    have h1 : RpC E n h U U.heap := q.2
    exact ⟨h1.1, va_K.moved (u := U) (U := U.calling g' mk a) (Vm.Alike.refl U.vm) h1.2.1, OUT.moved (u := U) (U := U.calling g' mk a) (Vm.Alike.refl U.vm) h1.2.2.1, NW.same (u := U) (U := U.calling g' mk a) rfl h1.2.2.2⟩
  have hv : (rf g i :: As).map (V E) = .ref (eB E + (gBase g + i)) :: As.map (V E) := by rw [List.map_cons, V_rf hi]
  rw [hv] at hM hpre
  have hws : wsOf M' = .code M'.1 M'.2.1 M'.2.2.1 none :: tw := by unfold wsOf; rw [o8]
  have hgood : GoodIn tw (wsOf M') := by
    intro w h1
    rw [hws] at h1
    rcases List.mem_cons.mp h1 with q | q
    · rw [q]
      exact ⟨hw.1, good_of_word (tbl_good _ hw.1)⟩
    · exact ⟨q, good_of_word (tbl_good _ q)⟩
  refine va_callv (va_runI (As := As.map (V E)) (b := eB E + (gBase g + i)) (rest := st.map (V E)) (n := na) (fix_of C) hM (cwI na C.2.2.2.2.2.1 hgood hws o3 o4 (C.2.2.2.2.2.1 _ hw.2.1) (C.2.2.2.2.2.1 _ hw.2.2.1) (C.2.2.2.2.2.1 _ hw.2.2.2) o9 o2 ⟨o5, o6⟩) hpre rfl (by rw [List.length_map, hn]) hl.2.1 ?_ (lv_room (by rw [V_sum]; exact hroom)) hd hcs) hS (fun q _ z => z) (fun q z => z) (fun u t H1 locs1 ht hvm hpost hB hz1 hk1 hS1 => ?_)
  · show List.map (V E) (As.reverse ++ rf g i :: st) = _
    rw [List.map_append, List.map_reverse, List.map_cons, V_rf hi]
  · rw [ht] at hB
    exact k u hpost p e s m args below meth c C H1 locs1 rl hB.1 hS1 hl
/-- all is made: the picture of the calls -/
def full (h : TH) : Prop := (∀ g, g < 64 → gTag g = 0 → ∀ i, i < gCnt g → ∀ k, k < gN g → ∀ t, gSlot g k = some t → ¬ h g i k = 0) ∧ ∀ g, g < 64 → gTag g = 3 → ∀ i, i < gCnt g → ∀ j, j < gN g → ¬ h g i j = 0
theorem arrV_congr {cA : ClassId} {n : Nat} {f f' : Nat → Value} (h : ∀ j, j < n → f j = f' j) : arrV cA n f = arrV cA n f' := by
  have hs : (arrV cA n f).slots = (arrV cA n f').slots := by
    apply Array.ext_getElem?
    intro j
    rcases Nat.lt_or_ge j n with q | q
    · rw [arrV_read _ _ q, arrV_read _ _ q, h j q]
    · rw [Array.getElem?_eq_none (by rw [arrV_size]; exact q), Array.getElem?_eq_none (by rw [arrV_size]; exact q)]
  unfold arrV at hs ⊢
  simp only at hs
  rw [hs]
theorem tags : ∀ g, g < 64 → gTag g = 0 ∨ gTag g = 1 ∨ gTag g = 2 ∨ gTag g = 3 := by decide +kernel
theorem c_done (hf : full h) (k : wz E M ce sl Z pc ls st h) : wg E (PC E NP) M ce sl Z pc ls st h := by
  intro p e s m args below meth c C H locs rl hP hS hl
  refine k p e s m args below meth c C H locs rl ?_ hS hl
  intro q x hx
  have hq : q < NP := by
    have := (List.getElem?_eq_some_iff.mp hx).1
    simpa [wd] using this
  rw [wd_at E h hq] at hx
  cases hx
  have h2 := hP.2.2.1 q _ (wd2_at E h hq)
  obtain ⟨a1, a2⟩ := g_all q hq
  have hg64 := g_lt _ _ a2
  rcases tags _ hg64 with t | t | t | t
  · rw [en_obj E h _ t]
    rw [en2_obj E h _ t] at h2
    have e1 : (List.range (gN (gOf q))).map (slV2 E (h (gOf q) (iOf q)) (gOf q)) = (List.range (gN (gOf q))).map (slV E (h (gOf q) (iOf q)) (gOf q)) := by
      apply List.map_congr_left
      intro kk hkk
      unfold slV2 slV
      cases hsl : gSlot (gOf q) kk with
      | none => rfl
      | some t' =>
        have := hf.1 _ hg64 t _ a2 kk (List.mem_range.mp hkk) t' hsl
        simp only [if_neg this]
    rw [e1] at h2
    exact h2
  · rw [en_int E h _ t]
    unfold en2 at h2
    rw [if_neg (by rw [t]; decide), if_pos t] at h2
    exact h2
  · rw [en_bool E h _ t]
    unfold en2 at h2
    rw [if_neg (by rw [t]; decide), if_neg (by rw [t]; decide), if_pos t] at h2
    exact h2
  · rw [en_ref E h _ t]
    unfold en2 at h2
    rw [if_neg (by rw [t]; decide), if_neg (by rw [t]; decide), if_neg (by rw [t]; decide)] at h2
    have h3 : H[eB E + q]? = some (vp_cell _ _) := h2
    show H[eB E + q]? = some (vp_cell _ _)
    rw [h3, vp_cell_q, vp_cell_q]
    congr 1
    apply arrV_congr
    intro j hj
    rw [if_neg (hf.2 _ hg64 t _ a2 j hj)]
/-- new int[3][40] at cell n: the outer array, then the inner ones -/
theorem c_newM {idx go gi : Nat} {h2 : TH} (hd : decode M.2.1 pc = .ok (.multianewarray idx 2, 4)) (hw : Cond.classLink M.1.cls idx "[[I" ∈ tw ∧ Cond.arrayClass .int ∈ tw) (hn : n + 3 < NP) (ho : gOf n = go ∧ iOf n = 0 ∧ gTag go = 3 ∧ gN go = 3 ∧ gCi go = 4 ∧ gTgt go = gi ∧ gBase gi = n + 1 ∧ gCnt go = 1)
    (hin : ∀ j, j < 3 → gOf (n + 1 + j) = gi ∧ iOf (n + 1 + j) = j) (hgi : gTag gi = 1 ∧ gN gi = 40 ∧ gi ≠ go) (hc : ce + 4 ≤ M.2.2.2.2.cells) (hs : sl + 123 ≤ M.2.2.2.2.slots) (hh : up (up (up h go 0 0 1) go 0 1 1) go 0 2 1 = h2)
    (k : wg E (PC E (n + 4)) M (ce + 4) (sl + 123) Z (pc + 4) ls (rf go 0 :: st) h2) : wg E (PC E n) M ce sl Z pc ls (.int 40 :: .int 3 :: st) h := by
  intro p e s m args below meth c C H locs rl hP hS hl
  obtain ⟨o1, o2, o3, o4, o5, o6, o7, o8⟩ := ho
  intro T hT Xs
  obtain ⟨vm₁, cA, comp, fA, fC, X', step⟩ := ir_new Xs C.1 C.2.2.2.2.1 (C.2.2.2.2.2.1 _ hw.1) C.2.2.2.2.2.2.2.2.2.1.2.2.2 (C.2.2.2.2.2.1 _ hw.2) (g := F0 m pc rl (.int 40 :: .int 3 :: st.map (V E))) rfl (by rw [C.2.1]; exact hd) rfl hc hs
  have eA : cA = eC E 4 := by
    have h1 : s.vm.findClass ("[" ++ (FieldType.array .int).toString) = some (eC E 4) := (C.2.2.2.2.2.2.2.1.2 4 _ rfl).2
    exact Option.some.inj (fA.symm.trans h1)
  have eI : comp = eC E 0 := by
    have h1 : s.vm.findClass ("[" ++ FieldType.int.toString) = some (eC E 0) := (C.2.2.2.2.2.2.2.1.2 0 _ rfl).2
    exact Option.some.inj (fC.symm.trans h1)
  subst eA
  subst eI
  generalize hF : ir_t (T.setVm vm₁) (eC E 4) (eC E 0) = F at X' step
  have hTh : (T.setVm vm₁).heap = H := hT
  have f1 := ir_t_size (T.setVm vm₁) (eC E 4) (eC E 0)
  have f2 := ir_t_out (T.setVm vm₁) (eC E 4) (eC E 0)
  rw [hF, hTh] at f1 f2
  have hsz := hP.2.1
  have hold : ∀ x : Nat, x < eB E + n → F.heap[x]? = H[x]? := fun x hx => by
    have := ir_t_old (T.setVm vm₁) (eC E 4) (eC E 0) (q := x) (by rw [hTh, hsz]; exact hx)
    rw [hF, hTh] at this
    exact this
  have hrow : ∀ j : Nat, j < 3 → F.heap[eB E + (n + 1 + j)]? = some (vp_cell (eC E 0) (40, .inl (fun _ => 0))) := fun j hj => by
    have := ir_t_in (T.setVm vm₁) (eC E 4) (eC E 0) hj
    rw [hF, hTh, hsz] at this
    rw [show eB E + (n + 1 + j) = eB E + n + 1 + j by omega, this, vp_cell_i]
    congr 1
  have hout : F.heap[eB E + n]? = some (vp_cell (eC E 4) (3, .inr (.inr (.inr (.inr (fun i => if i < 3 then some (eB E + n + 1 + i) else none)))))) := by
    rw [← hsz, f2, vp_cell_q]
    congr 1
  subst hh
  have hzero : ∀ p, n ≤ p → p < NP → ∀ kk, h (gOf p) (iOf p) kk = 0 := hP.2.2.2
  have hup : ∀ g' i' kk, g' ≠ go → (up (up (up h go 0 0 1) go 0 1 1) go 0 2 1) g' i' kk = h g' i' kk := fun g' i' kk hne => by
    unfold up
    rw [if_neg (fun z => hne z.1), if_neg (fun z => hne z.1), if_neg (fun z => hne z.1)]
  have hne : ∀ q, q < NP → q ≠ n → gOf q ≠ go := fun q hq hqn hg => by
    obtain ⟨b1, b2⟩ := g_all q hq
    obtain ⟨c1, -⟩ := g_all n (by have : n + 3 < 90 := hn; omega)
    rw [hg, o8] at b2
    rw [hg] at b1
    rw [o1, o2] at c1
    omega
  have henq : ∀ q, q < NP → q ≠ n → en2 E (up (up (up h go 0 0 1) go 0 1 1) go 0 2 1) (gOf q) (iOf q) = en2 E h (gOf q) (iOf q) := fun q hq hqn => by
    have : (up (up (up h go 0 0 1) go 0 1 1) go 0 2 1) (gOf q) (iOf q) = h (gOf q) (iOf q) := funext fun kk => hup _ _ kk (hne q hq hqn)
    unfold en2
    rw [this]
  have hPC : PC E (n + 4) (up (up (up h go 0 0 1) go 0 1 1) go 0 2 1) F.heap := by
    refine ⟨by omega, by rw [f1, hsz]; omega, fun q x hx => ?_, fun p h1 h2 kk => ?_⟩
    · have hq : q < n + 4 := by
        have := (List.getElem?_eq_some_iff.mp hx).1
        simpa [wd2] using this
      rw [wd2_at E _ hq] at hx
      cases hx
      by_cases hqn : q = n
      · subst hqn
        rw [o1, o2]
        unfold en2
        rw [if_neg (by rw [o3]; decide), if_neg (by rw [o3]; decide), if_neg (by rw [o3]; decide), o5, o4, o6, o7]
        show F.heap[eB E + q]? = some (vp_cell _ _)
        rw [hout, vp_cell_q, vp_cell_q]
        congr 1
        apply arrV_congr
        intro j hj
        have : ¬ (up (up (up h go 0 0 1) go 0 1 1) go 0 2 1) go 0 j = 0 := by
          rcases (show j = 0 ∨ j = 1 ∨ j = 2 by omega) with rfl | rfl | rfl <;> simp [up]
        rw [if_pos hj, if_neg this]
        congr 2
        omega
      · rw [henq q (by omega) hqn]
        rcases Nat.lt_or_ge q n with h1 | h1
        · exact (hP.2.2.1 q _ (wd2_at E h h1)).kept (hold _ (by show eB E + q < eB E + n; omega))
        · obtain ⟨j, hj, rfl⟩ : ∃ j, j < 3 ∧ q = n + 1 + j := ⟨q - (n + 1), by omega, by omega⟩
          obtain ⟨i1, i2⟩ := hin j hj
          have hz := hzero (n + 1 + j) (by omega) (by omega)
          rw [i1, i2] at hz ⊢
          unfold en2
          rw [if_neg (by rw [hgi.1]; decide), if_pos hgi.1, hgi.2.1]
          show F.heap[eB E + (n + 1 + j)]? = some (vp_cell _ _)
          rw [hrow j hj, show h gi j = fun _ => 0 from funext hz]
    · rw [hup _ _ _ (hne p h2 (by omega))]
      exact hzero p (by omega) h2 kk
  have hS1 : va_S (Jvm.Pilot.CLienTowerLaw_law_r5602_4f7334.eA E) s.heap F.heap (locs ++ [⟨T.heap.size, 0⟩, ⟨T.heap.size, 1⟩, ⟨T.heap.size, 2⟩]) := ⟨by rw [f1]; have := hS.1; omega, fun x h1 h2 => (hold x (by have := hS.1; omega)).trans (hS.2.1 x h1 h2), fun q hq => by
    rcases List.mem_append.mp hq with h1 | h1
    · exact hS.2.2 q h1
    · have hb : q.base = T.heap.size := by
        simp only [List.mem_cons, List.not_mem_nil, or_false] at h1
        rcases h1 with rfl | rfl | rfl <;> rfl
      show eB E ≤ q.base
      rw [hb, hT, hsz]
      omega⟩
  obtain ⟨t, a1, b1⟩ := k p e s m args below meth c C F.heap _ rl hPC hS1 hl F rfl X'
  refine ⟨t, step t ?_, b1⟩
  have e : T.heap.size = eB E + n := by rw [hT, hsz]
  have hV : V E (rf go 0) = .ref (eB E + n) := vrf_at (by omega) ⟨o1, o2⟩
  rw [List.map_cons, hV] at a1
  rw [e]
  exact a1
end Ctor
