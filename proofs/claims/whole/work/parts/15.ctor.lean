section Ctor
/-! the picture while the constructors run: n cells are made; a reference that isn't set yet is null (0 in the picture) -/
def slV2 (E : EN) (hv : Nat → Int32) (g k : Nat) : Value := match gSlot g k with
  | none => .int (hv k)
  | some t => if hv k = 0 then .null else .ref (eB E + gBase t)
def en2 (E : EN) (h : TH) (g i : Nat) : va_E :=
  if gTag g = 0 then .inr (gCi g, (List.range (gN g)).map (slV2 E (h g i) g))
  else if gTag g = 1 then .inl (eC E 0, gN g, .inl (h g i))
  else if gTag g = 2 then .inl (eC E 1, gN g, .inl (h g i))
  else .inl (eC E (gCi g), gN g, .inr (.inr (.inr (.inr (fun j => if h g i j = 0 then none else some (eB E + (gBase (gTgt g) + j)))))))
def wd2 (E : EN) (n : Nat) (h : TH) : va_W := (List.range n).map (fun p => (eB E + p, en2 E h (gOf p) (iOf p)))
def PC (E : EN) (n : Nat) (h : TH) (H : Heap) : Prop := n ≤ NP ∧ H.size = eB E + n ∧ va_P (eD E) classes (wd2 E n h) H ∧ ∀ p, n ≤ p → p < NP → ∀ k, h (gOf p) (iOf p) k = 0
theorem wd2_at (E : EN) (h : TH) {n p : Nat} (hp : p < n) : (wd2 E n h)[p]? = some (eB E + p, en2 E h (gOf p) (iOf p)) := by
  unfold wd2
  rw [List.getElem?_map, List.getElem?_range hp]
  rfl
theorem wd2_g (E : EN) (h : TH) {n g i : Nat} (hi : i < gCnt g) (hn : gBase g + i < n) : (wd2 E n h)[gBase g + i]? = some (eB E + (gBase g + i), en2 E h g i) := by
  obtain ⟨h1, h2, h3⟩ := g_ok g (g_lt g i hi) i hi
  rw [wd2_at E h hn, h2, h3]
theorem wd2_D (E : EN) (n : Nat) (h : TH) : va_D (eA E) (wd2 E n h) := by
  have hl : ∀ (k : Nat) (q : Nat × va_E), (wd2 E n h)[k]? = some q → q.1 = eB E + k := by
    intro k q hq
    have hk : k < n := by
      have := (List.getElem?_eq_some_iff.mp hq).1
      simpa [wd2] using this
    rw [wd2_at E h hk] at hq
    cases hq
    rfl
  refine ⟨fun i j p q hi hj e => ?_, fun k q hq => ?_⟩
  · have e1 := hl i p hi
    have e2 := hl j q hj
    omega
  · have e1 := hl k q hq
    show eB E ≤ q.1
    omega
theorem wd2_set (E : EN) (h h' : TH) {n g i : Nat} (hnp : n ≤ NP) (hi : i < gCnt g) (e : va_E) (he : e = en2 E h' g i) (hs : ∀ g' i', (g' ≠ g ∨ i' ≠ i) → en2 E h' g' i' = en2 E h g' i') :
    (wd2 E n h).set (gBase g + i) (eB E + (gBase g + i), e) = wd2 E n h' := by
  obtain ⟨h1, h2, h3⟩ := g_ok g (g_lt g i hi) i hi
  apply List.ext_getElem?
  intro k
  rcases Nat.lt_or_ge k n with hk | hk
  · rw [wd2_at E h' hk]
    by_cases hkp : gBase g + i = k
    · subst hkp
      rw [List.getElem?_set_self (by simpa [wd2] using hk), h2, h3, he]
    · rw [List.getElem?_set_ne hkp, wd2_at E h hk]
      rw [hs]
      by_cases hg : gOf k = g
      · right
        intro hi2
        apply hkp
        have := (g_all k (Nat.lt_of_lt_of_le hk hnp)).1
        rw [hg, hi2] at this
        exact this
      · exact Or.inl hg
  · rw [List.getElem?_eq_none (by simpa [wd2] using hk), List.getElem?_eq_none (by simpa [wd2] using hk)]
theorem en2_up {E : EN} {h : TH} {g i k : Nat} {v : Int32} {g' i' : Nat} (hn : g' ≠ g ∨ i' ≠ i) : en2 E (up h g i k v) g' i' = en2 E h g' i' := by
  have e : (up h g i k v) g' i' = h g' i' := by
    funext j
    unfold up
    rw [if_neg]
    rintro ⟨a, -, c⟩
    rcases hn with q | q
    · exact q a
    · exact q c
  unfold en2
  rw [e]
theorem wd2_push (E : EN) (n : Nat) (h : TH) : wd2 E (n + 1) h = wd2 E n h ++ [(eB E + n, en2 E h (gOf n) (iOf n))] := by
  unfold wd2
  rw [List.range_succ, List.map_append]
  rfl
theorem PC.push {E : EN} {n : Nat} {h : TH} {H H1 : Heap} (hp : PC E n h H) (hn : n < NP) (z : H1.size = eB E + n + 1) (o : ∀ q : Nat, q < eB E + n → H1[q]? = H[q]?) (ha : va_at (eD E) classes (eB E + n, en2 E h (gOf n) (iOf n)) H1) : PC E (n + 1) h H1 := by
  refine ⟨hn, by omega, ?_, fun p h1 h2 k => hp.2.2.2 p (by omega) h2 k⟩
  rw [wd2_push]
  refine (hp.2.2.1.kept (fun k x hx => o x.1 ?_)).app (fun k x hx => ?_)
  · have := (hp.2.2.1 k x hx).lt
    rw [hp.2.1] at this
    exact this
  · have hz : k < 1 := (List.getElem?_eq_some_iff.mp hx).1
    rw [show k = 0 by omega] at hx
    cases hx
    exact ha
/-- a write to a made cell -/
theorem PC.wr {E : EN} {n g i k : Nat} {v : Int32} {h : TH} {H H1 : Heap} {e : va_E} (hp : PC E n h H) (hi : i < gCnt g) (hn : gBase g + i < n) (z : H1.size = H.size) (hP1 : va_P (eD E) classes ((wd2 E n h).set (gBase g + i) (eB E + (gBase g + i), e)) H1) (he : e = en2 E (up h g i k v) g i) : PC E n (up h g i k v) H1 := by
  refine ⟨hp.1, by rw [z]; exact hp.2.1, ?_, fun p h1 h2 j => ?_⟩
  · rw [wd2_set E h (up h g i k v) hp.1 hi e he (fun g' i' q => en2_up q)] at hP1
    exact hP1
  · unfold up
    rw [if_neg]
    · exact hp.2.2.2 p h1 h2 j
    · rintro ⟨a, -, c⟩
      have := (g_all p h2).1
      rw [a, c] at this
      omega
theorem vrf_at {E : EN} {n g i : Nat} (hn : n < NP) (hgi : gOf n = g ∧ iOf n = i) : V E (rf g i) = .ref (eB E + n) := by
  obtain ⟨h1, h2⟩ := g_all n hn
  rw [hgi.1, hgi.2] at h1 h2
  rw [V_rf h2, h1]
theorem S_push {E : EN} {s : State} {H H1 : Heap} {locs : List Loc} {n : Nat} (hS : va_S (eA E) s.heap H locs) (hs : H.size = eB E + n) (z : H1.size = eB E + n + 1) (o : ∀ q : Nat, q < eB E + n → H1[q]? = H[q]?) : va_S (eA E) s.heap H1 locs :=
  ⟨by have := hS.1; omega, fun q h1 h2 => (o q (by have := hS.1; omega)).trans (hS.2.1 q h1 h2), hS.2.2⟩
variable {E : EN} {M : MD} {ce sl n : Nat} {Z : List Frame → Array Value → State → State → Prop} {pc : Nat} {ls : List (Option Value)} {st : List Value} {h : TH}
theorem c_newI {N g i : Nat} {v : Int32} (hd : decode M.2.1 pc = .ok (.newarray .int, 2)) (hw : Cond.arrayClass .int ∈ tw) (hn : n < NP) (hgi : gOf n = g ∧ iOf n = i) (hg : gTag g = 1 ∧ gN g = N) (hv : ¬ v < 0) (hN : v.toNatClampNeg = N) (hb : N ≤ 1000) (hc : ce + 1 ≤ M.2.2.2.2.cells) (hs : sl + N ≤ M.2.2.2.2.slots)
    (k : wg E (PC E (n + 1)) M (ce + 1) (sl + N) Z (pc + 2) ls (rf g i :: st) h) : wg E (PC E n) M ce sl Z pc ls (.int v :: st) h := by
  intro p e s m args below meth c C H locs rl hP hS hl
  refine va_newaK C.1 C.2.1 (C.2.2.2.2.2.1 _ hw) rfl hd rfl hv hN (by show N * 4 ≤ 536870912; omega) hc hs hP.2.1 (fun H1 cA e1 z1 o1 hAr hNm => ?_)
  have hcA : cA = eC E 0 := by
    have h1 : s.vm.findClass ("[" ++ FieldType.int.toString) = some (eC E 0) := (C.2.2.2.2.2.2.2.1.2 0 _ rfl).2
    exact Option.some.inj (hNm.symm.trans h1)
  subst hcA
  have h3 := k p e s m args below meth c C H1 locs rl (hP.push hn z1 o1 ?_) (S_push hS hP.2.1 z1 o1) hl
  · rw [List.map_cons, vrf_at hn hgi] at h3
    exact h3
  · rw [hgi.1, hgi.2]
    unfold en2
    rw [if_neg (by rw [hg.1]; decide), if_pos hg.1]
    show H1[eB E + n]? = some (vp_cell _ _)
    rw [vp_cell_i, e1, hg.2]
    congr 2
    funext j
    have := hP.2.2.2 n (Nat.le_refl n) hn j
    rw [hgi.1, hgi.2] at this
    rw [this]
    rfl
theorem c_newZ {N g i : Nat} {v : Int32} (hd : decode M.2.1 pc = .ok (.newarray .boolean, 2)) (hw : Cond.arrayClass .boolean ∈ tw) (hn : n < NP) (hgi : gOf n = g ∧ iOf n = i) (hg : gTag g = 2 ∧ gN g = N) (hv : ¬ v < 0) (hN : v.toNatClampNeg = N) (hb : N ≤ 1000) (hc : ce + 1 ≤ M.2.2.2.2.cells) (hs : sl + N ≤ M.2.2.2.2.slots)
    (k : wg E (PC E (n + 1)) M (ce + 1) (sl + N) Z (pc + 2) ls (rf g i :: st) h) : wg E (PC E n) M ce sl Z pc ls (.int v :: st) h := by
  intro p e s m args below meth c C H locs rl hP hS hl
  refine va_newaK C.1 C.2.1 (C.2.2.2.2.2.1 _ hw) rfl hd rfl hv hN (by show N * 1 ≤ 536870912; omega) hc hs hP.2.1 (fun H1 cA e1 z1 o1 hAr hNm => ?_)
  have hcA : cA = eC E 1 := by
    have h1 : s.vm.findClass ("[" ++ FieldType.boolean.toString) = some (eC E 1) := (C.2.2.2.2.2.2.2.1.2 1 _ rfl).2
    exact Option.some.inj (hNm.symm.trans h1)
  subst hcA
  have h3 := k p e s m args below meth c C H1 locs rl (hP.push hn z1 o1 ?_) (S_push hS hP.2.1 z1 o1) hl
  · rw [List.map_cons, vrf_at hn hgi] at h3
    exact h3
  · rw [hgi.1, hgi.2]
    unfold en2
    rw [if_neg (by rw [hg.1]; decide), if_neg (by rw [hg.1]; decide), if_pos hg.1]
    show H1[eB E + n]? = some (vp_cell _ _)
    rw [vp_cell_i, e1, hg.2]
    congr 2
    funext j
    have := hP.2.2.2 n (Nat.le_refl n) hn j
    rw [hgi.1, hgi.2] at this
    rw [this]
    rfl
theorem c_newQ {N g i t0 idx : Nat} {v : Int32} {C0 : String} (hd : decode M.2.1 pc = .ok (.anewarray idx, 3)) (hw : Cond.classLink M.1.cls idx C0 ∈ tw) (hao : ∀ U : State, NW U → va_AO C0 U) (ht0 : (tys E)[t0]? = some (eC E t0, .object C0)) (hn : n < NP) (hgi : gOf n = g ∧ iOf n = i) (hg : gTag g = 3 ∧ gN g = N ∧ gCi g = t0) (hv : ¬ v < 0) (hN : v.toNatClampNeg = N) (hb : N ≤ 1000) (hc : ce + 1 ≤ M.2.2.2.2.cells) (hs : sl + N ≤ M.2.2.2.2.slots)
    (k : wg E (PC E (n + 1)) M (ce + 1) (sl + N) Z (pc + 3) ls (rf g i :: st) h) : wg E (PC E n) M ce sl Z pc ls (.int v :: st) h := by
  intro p e s m args below meth c C H locs rl hP hS hl
  subst hN
  refine W.anew C.1 C.2.1 C.2.2.2.2.1 (C.2.2.2.2.2.1 _ hw) (va_AO.use (hao s C.2.2.2.2.2.2.2.2.2.1)) rfl hd rfl hv (by omega) hc hs fun cA kA comp f1 f2 f3 f4 => ?_
  have hcA : cA = eC E t0 := by
    obtain ⟨kA', comp', -, -, -, h1⟩ := (C.2.2.2.2.2.2.2.1.2 t0 _ ht0).2
    exact Option.some.inj (f1.symm.trans h1)
  subst hcA
  generalize hH1 : H.push ({ cls := eC E t0, slots := Array.replicate v.toNatClampNeg .null, vm := .none } : Cell) = H1
  have z1 : H1.size = eB E + n + 1 := by rw [← hH1, Array.size_push, hP.2.1]
  have e1 : H1[eB E + n]? = some (arrV (eC E t0) v.toNatClampNeg (fun _ => .null)) := by rw [← hP.2.1, ← hH1, Array.getElem?_push_size, ← arrV_new]
  have o1 : ∀ q : Nat, q < eB E + n → H1[q]? = H[q]? := fun q hq => by rw [← hH1, Array.getElem?_push, if_neg (by rw [hP.2.1]; exact Nat.ne_of_lt hq)]
  have h3 := k p e s m args below meth c C H1 locs rl (hP.push hn z1 o1 ?_) (S_push hS hP.2.1 z1 o1) hl
  · rw [List.map_cons, vrf_at hn hgi] at h3
    rw [hP.2.1]
    exact h3
  · rw [hgi.1, hgi.2]
    unfold en2
    rw [if_neg (by rw [hg.1]; decide), if_neg (by rw [hg.1]; decide), if_neg (by rw [hg.1]; decide), hg.2.2]
    show H1[eB E + n]? = some (vp_cell _ _)
    rw [vp_cell_q, e1, hg.2.1]
    congr 2
    funext j
    have := hP.2.2.2 n (Nat.le_refl n) hn j
    rw [hgi.1, hgi.2] at this
    rw [if_pos this]
    rfl
theorem c_new {N g i ci idx : Nat} {C0 : String} {T : u_T} {ty : Nat → FieldType} (hd : decode M.2.1 pc = .ok (.new idx, 3)) (cf : CF ci C0 T N ty) (hw : Cond.classLink M.1.cls idx C0 ∈ tw ∧ Cond.instantiable C0 N ∈ tw ∧ Cond.initialized C0 ∈ tw) (hn : n < NP) (hgi : gOf n = g ∧ iOf n = i) (hg : gTag g = 0 ∧ gN g = N ∧ gCi g = ci) (hdf : ∀ j, j < N → defaultValue (ty j) = (match gSlot g j with | none => Value.int 0 | some _ => Value.null)) (hc : ce + 1 ≤ M.2.2.2.2.cells) (hs : sl + N ≤ M.2.2.2.2.slots)
    (k : wg E (PC E (n + 1)) M (ce + 1) (sl + N) Z (pc + 3) ls (rf g i :: st) h) : wg E (PC E n) M ce sl Z pc ls st h := by
  intro p e s m args below meth c C H locs rl hP hS hl
  have hKn := C.2.2.2.2.2.2.2.1.1 ci _ cf.1
  refine W.newcK C.1 C.2.1 C.2.2.2.2.1 (C.2.2.2.2.2.1 _ hw.1) (C.2.2.2.2.2.1 _ hw.2.1) (C.2.2.2.2.2.1 _ hw.2.2) rfl hd hc hs hKn.2.1 hP.2.1 fun H1 kC hkC e1 z1 o1 => ?_
  have h3 := k p e s m args below meth c C H1 locs rl (hP.push hn z1 o1 ?_) (S_push hS hP.2.1 z1 o1) hl
  · rw [List.map_cons, vrf_at hn hgi] at h3
    exact h3
  · rw [hgi.1, hgi.2]
    unfold en2
    rw [if_pos hg.1, hg.2.2]
    refine ⟨_, cf.1, (u_born ty C.2.2.2.2.2.1 cf.2.1 hKn hkC e1 cf.2.2.1).to (fun j hj => ?_)⟩
    rw [hdf j hj]
    unfold vp_V
    rw [List.getD_eq_getElem?_getD, List.getElem?_map, List.getElem?_range (by rw [hg.2.1]; exact hj)]
    have := hP.2.2.2 n (Nat.le_refl n) hn j
    rw [hgi.1, hgi.2] at this
    simp only [Option.map_some, Option.getD_some, slV2, this]
    cases gSlot g j with
    | none => rfl
    | some t => rfl
theorem en2_obj (E : EN) (h : TH) {g : Nat} (i : Nat) (ht : gTag g = 0) : en2 E h g i = .inr (gCi g, (List.range (gN g)).map (slV2 E (h g i) g)) := by
  unfold en2
  rw [if_pos ht]
theorem slV2_set {E : EN} {h : TH} {g i kf N : Nat} {v : Int32} {w : Value} (hk : kf < N) (hw : slV2 E ((up h g i kf v) g i) g kf = w) : ((List.range N).map (slV2 E (h g i) g)).set kf w = (List.range N).map (slV2 E ((up h g i kf v) g i) g) := by
  apply List.ext_getElem?
  intro j
  rw [List.getElem?_set]
  by_cases hj : kf = j
  · subst hj
    rw [if_pos rfl, if_pos (by simpa using hk), List.getElem?_map, List.getElem?_range hk]
    simp only [Option.map_some, hw]
  · rw [if_neg hj, List.getElem?_map, List.getElem?_map]
    rcases Nat.lt_or_ge j N with hjn | hjn
    · rw [List.getElem?_range hjn]
      simp only [Option.map_some, slV2]
      have : (up h g i kf v) g i j = h g i j := by
        unfold up
        rw [if_neg (fun q => hj q.2.1.symm)]
      rw [this]
    · rw [List.getElem?_eq_none (by simpa using hjn)]
      rfl
theorem c_putI {idx ci N g i kf : Nat} {C0 : String} {T : u_T} {ty : Nat → FieldType} {v : Int32} {h2 : TH} (hd : decode M.2.1 pc = .ok (.putfield idx, 3)) (cf : CF ci C0 T N ty) (hw : Cond.fieldLink M.1.cls idx (T kf).1 (T kf).2.1 (T kf).2.2.1 ∈ tw)
    (hg : gTag g = 0 ∧ gCi g = ci ∧ gN g = N ∧ kf < N ∧ gSlot g kf = none ∧ (T kf).2.2.2 = false ∧ (T kf).2.2.1 = "I") (hi : i < gCnt g) (hn : gBase g + i < n) (hh : up h g i kf v = h2) (k : wg E (PC E n) M ce sl Z (pc + 3) ls st h2) : wg E (PC E n) M ce sl Z pc ls (.int v :: rf g i :: st) h := by
  intro p e s m args below meth c C H locs rl hP hS hl
  obtain ⟨g1, g2, g3, g4, g5, g6, g7⟩ := hg
  subst hh
  have he := wd2_g E h hi hn
  rw [en2_obj E h i g1, g2, g3] at he
  show W p (eL E) e M.2.2.2.2 s m args below meth c H locs ce sl (Z below args s) (F0 m pc rl (.int v :: V E (rf g i) :: st.map (V E)))
  rw [V_rf hi]
  have hz : ∀ (H1 : Heap), H1.size = H.size → True := fun _ _ => trivial
  have hap := va_apart (own := M.1.cls) C.2.2.2.2.2.1 cf.2.1 ty cf.2.2.1 cf.2.2.2 C.2.2.2.2.2.2.2.1 cf.1
  obtain ⟨r, h1, cell, q1, q2, q3, q4⟩ := hP.2.2.1 _ _ he
  have hr : r = (C0, T, N) := Option.some.inj (h1.symm.trans cf.1)
  subst hr
  obtain ⟨hS1, hfc, kC, hkC, hkind⟩ := C.2.2.2.2.2.2.2.1.1 ci _ cf.1
  obtain ⟨cf1, kf1, fi, f, hi1, hsl⟩ := hS1 kf g4
  have hlay := C.2.2.2.2.2.1 _ (cf.2.1 _ (u_in_lay g4))
  unfold u_lay at hlay
  rw [if_neg (by rw [g6]; decide)] at hlay
  have hst := (u_facts hfc hkC (u_lays C.2.2.2.2.2.1 cf.2.1 g4) hi1).1
  have h6 := u_store hfc hkC hkind hlay hi1 (show parseFieldDescriptor (T kf).2.2.1 = some .int by rw [g7]; decide +kernel) (v := .int v) rfl rfl
  refine W.putK C.1 C.2.1 (f := f) ⟨C.2.2.2.2.1, C.2.2.2.2.2.1 _ hw, ⟨_, _, _, hi1⟩, hst⟩ (by rw [q2]; exact h6) q1 q3 (by rw [hsl]; exact k2_hasslot (q4 kf g4)) rfl rfl hd fun H' e1 e2 e3 => ?_
  rw [hsl] at e1 ⊢
  have hA : eA E (eB E + (gBase g + i)) := Nat.le_add_right _ _
  refine k p e s m args below meth c C H' _ rl (PC.wr hP hi hn e2 (hP.2.2.1.set (wd2_D E n h) he (e := .inr (ci, ((List.range N).map (slV2 E (h g i) g)).set kf (.int v))) ⟨_, cf.1, t_OB.to (V := updV (vp_V ((List.range N).map (slV2 E (h g i) g))) kf (.int v)) ⟨_, e1, q2, q3, t_set q4 hap g4 (.int v)⟩ (fun j _ => vp_updV_set (by simpa using g4) (.int v) j)⟩ e3) ?_) (hS.put e2 e3 hA) hl
  rw [en2_obj E _ i g1, g2, g3, slV2_set g4]
  simp only [slV2, g5, up, and_self, if_true]
theorem c_putR {idx ci N g i kf t : Nat} {C0 : String} {T : u_T} {ty : Nat → FieldType} {ft : FieldType} {h2 : TH} (hd : decode M.2.1 pc = .ok (.putfield idx, 3)) (cf : CF ci C0 T N ty) (hw : Cond.fieldLink M.1.cls idx (T kf).1 (T kf).2.1 (T kf).2.2.1 ∈ tw)
    (hg : gTag g = 0 ∧ gCi g = ci ∧ gN g = N ∧ kf < N ∧ gSlot g kf = some t ∧ (T kf).2.2.2 = true ∧ (T kf).1 = M.1.cls) (hty : parseFieldDescriptor (T kf).2.2.1 = some ft ∧ (∀ a : Nat, narrow ft (.ref a) = .ref a) ∧ ∀ a : Nat, fits ft (.ref a) = true) (hin : M.1.name = "<init>") (hi : i < gCnt g) (hn : gBase g + i < n) (ht : 0 < gCnt t) (hh : up h g i kf 1 = h2) (k : wg E (PC E n) M ce sl Z (pc + 3) ls st h2) : wg E (PC E n) M ce sl Z pc ls (rf t 0 :: rf g i :: st) h := by
  intro p e s m args below meth c C H locs rl hP hS hl
  obtain ⟨g1, g2, g3, g4, g5, g6, g7⟩ := hg
  subst hh
  have he := wd2_g E h hi hn
  rw [en2_obj E h i g1, g2, g3] at he
  show W p (eL E) e M.2.2.2.2 s m args below meth c H locs ce sl (Z below args s) (F0 m pc rl (V E (rf t 0) :: V E (rf g i) :: st.map (V E)))
  rw [V_rf hi, V_rf ht]
  have hap := va_apart (own := M.1.cls) C.2.2.2.2.2.1 cf.2.1 ty cf.2.2.1 cf.2.2.2 C.2.2.2.2.2.2.2.1 cf.1
  obtain ⟨r, h1, cell, q1, q2, q3, q4⟩ := hP.2.2.1 _ _ he
  have hr : r = (C0, T, N) := Option.some.inj (h1.symm.trans cf.1)
  subst hr
  obtain ⟨hS1, hfc, kC, hkC, hkind⟩ := C.2.2.2.2.2.2.2.1.1 ci _ cf.1
  obtain ⟨cf1, kf1, fi, f, hi1, hsl⟩ := hS1 kf g4
  have hlay := C.2.2.2.2.2.1 _ (cf.2.1 _ (u_in_lay g4))
  unfold u_lay at hlay
  rw [if_pos g6] at hlay
  have hst := (u_facts hfc hkC (u_lays C.2.2.2.2.2.1 cf.2.1 g4) hi1).1
  have hcf : m.cls = cf1 := by
    obtain ⟨_, _, c', _, _, _, -, -, hf', -, -, -, hown2, -⟩ := Cond.laysFinal_spec hlay
    have e1 : c' = cf1 := by have := hi1.symm.trans hf'; simp at this; exact this.1.symm
    rw [g7] at hown2
    rw [← e1]; exact Option.some.inj (C.2.2.2.2.1.symm.trans hown2)
  have h6 := u_fits hfc hkC hkind (Or.inr hlay) hi1 hty.1 (hty.2.1 (eB E + (gBase t + 0))) (hty.2.2 (eB E + (gBase t + 0)))
  refine W.putFinK C.1 C.2.1 C.2.2.2.2.1 (C.2.2.2.2.2.1 _ hw) hi1 hst hcf (C.2.2.2.2.2.2.2.2.2.2 hin) (by rw [q2]; exact h6) q1 q3 (by rw [hsl]; exact k2_hasslot (q4 kf g4)) rfl rfl hd fun H' e1 e2 e3 => ?_
  rw [hsl] at e1 ⊢
  have hA : eA E (eB E + (gBase g + i)) := Nat.le_add_right _ _
  refine k p e s m args below meth c C H' _ rl (PC.wr hP hi hn e2 (hP.2.2.1.set (wd2_D E n h) he (e := .inr (ci, ((List.range N).map (slV2 E (h g i) g)).set kf (.ref (eB E + (gBase t + 0))))) ⟨_, cf.1, t_OB.to (V := updV (vp_V ((List.range N).map (slV2 E (h g i) g))) kf (.ref (eB E + (gBase t + 0)))) ⟨_, e1, q2, q3, t_set q4 hap g4 (.ref (eB E + (gBase t + 0)))⟩ (fun j _ => vp_updV_set (by simpa using g4) (.ref (eB E + (gBase t + 0))) j)⟩ e3) ?_) (hS.put e2 e3 hA) hl
  rw [en2_obj E _ i g1, g2, g3, slV2_set g4]
  simp only [slV2, g5, up, and_self, if_true, Nat.add_zero]
  rw [if_neg (by decide)]
end Ctor
