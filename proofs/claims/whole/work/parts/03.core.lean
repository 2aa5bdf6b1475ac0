/-! the picture of the heap: 64 groups of cells; (first place, how many, tag, class, fields or length, aim); tag 0 an object, 1 int[], 2 boolean[], 3 an array of references -/
abbrev TH : Type := Nat → Nat → Nat → Int32
def up (h : TH) (g i k : Nat) (v : Int32) : TH := fun g' i' k' => if g' = g ∧ k' = k ∧ i' = i then v else h g' i' k'
def gT : List (Nat × Nat × Nat × Nat × Nat × Nat) := [(0, 1, 0, 6, 10, 0), (1, 1, 1, 0, 12, 0), (2, 1, 0, 1, 6, 0), (3, 1, 3, 2, 10, 4), (4, 10, 0, 3, 13, 0), (14, 1, 1, 0, 20, 0), (15, 1, 1, 0, 20, 0), (16, 1, 1, 0, 20, 0), (17, 1, 0, 4, 7, 0), (18, 1, 1, 0, 6, 0), (19, 1, 3, 3, 16, 11), (20, 16, 0, 2, 5, 0), (36, 1, 1, 0, 16, 0), (37, 1, 1, 0, 16, 0), (38, 1, 1, 0, 10, 0), (39, 1, 0, 5, 8, 0), (40, 1, 1, 0, 6, 0), (41, 1, 1, 0, 6, 0), (42, 1, 1, 0, 22, 0), (43, 1, 1, 0, 22, 0), (44, 1, 1, 0, 22, 0), (45, 1, 0, 0, 5, 0), (46, 1, 1, 0, 40, 0), (47, 1, 1, 0, 40, 0), (48, 1, 3, 4, 3, 25), (49, 3, 1, 0, 40, 0), (52, 1, 1, 0, 16, 0), (53, 1, 1, 0, 6, 0), (54, 1, 0, 7, 46, 0), (55, 1, 1, 0, 12, 0), (56, 1, 1, 0, 10, 0), (57, 1, 1, 0, 10, 0), (58, 1, 1, 0, 10, 0), (59, 1, 1, 0, 10, 0), (60, 1, 1, 0, 10, 0), (61, 1, 1, 0, 10, 0), (62, 1, 1, 0, 10, 0), (63, 1, 1, 0, 10, 0), (64, 1, 1, 0, 10, 0), (65, 1, 1, 0, 20, 0), (66, 1, 1, 0, 20, 0), (67, 1, 2, 1, 20, 0), (68, 1, 1, 0, 6, 0), (69, 1, 1, 0, 16, 0), (70, 1, 1, 0, 16, 0), (71, 1, 1, 0, 16, 0), (72, 1, 1, 0, 16, 0), (73, 1, 2, 1, 16, 0), (74, 1, 1, 0, 6, 0), (75, 1, 1, 0, 6, 0), (76, 1, 1, 0, 40, 0), (77, 1, 1, 0, 40, 0), (78, 1, 1, 0, 40, 0), (79, 1, 1, 0, 40, 0), (80, 1, 1, 0, 40, 0), (81, 1, 1, 0, 80, 0), (82, 1, 1, 0, 16, 0), (83, 1, 1, 0, 6, 0), (84, 1, 2, 1, 22, 0), (85, 1, 1, 0, 22, 0), (86, 1, 1, 0, 22, 0), (87, 1, 1, 0, 22, 0), (88, 1, 1, 0, 10, 0), (89, 1, 1, 0, 40, 0)]
def gR : List (List (Option Nat)) := [[some 1, none, some 2, some 8, some 15, some 21, none, some 26, none, some 27], [], [some 3, none, some 5, some 6, some 7, none], [], [none, none, none, none, none, none, none, none, none, none, none, none, none], [], [], [], [some 2, some 9, some 10, none, some 12, some 13, some 14], [], [], [none, none, none, none, none], [], [], [], [some 8, some 16, some 17, none, some 18, some 19, some 20, none], [], [], [], [], [], [some 22, some 23, some 24, none, none], [], [], [], [], [], [], [none, none, none, none, none, none, none, none, none, none, some 29, some 30, some 31, some 32, some 33, some 34, some 35, some 36, some 37, some 38, some 39, some 40, some 41, some 42, some 43, some 44, some 45, some 46, some 47, some 48, some 49, some 50, some 51, some 52, some 53, some 54, some 55, some 56, some 57, some 58, some 59, some 60, some 61, none, some 62, some 63], [], [], [], [], [], [], [], [], [], [], [], [], [], [], [], [], [], [], [], [], [], [], [], [], [], [], [], [], [], [], [], [], [], [], []]
def gBase (g : Nat) : Nat := (gT.getD g (0, 0, 9, 0, 0, 0)).1
def gCnt (g : Nat) : Nat := (gT.getD g (0, 0, 9, 0, 0, 0)).2.1
def gTag (g : Nat) : Nat := (gT.getD g (0, 0, 9, 0, 0, 0)).2.2.1
def gCi (g : Nat) : Nat := (gT.getD g (0, 0, 9, 0, 0, 0)).2.2.2.1
def gN (g : Nat) : Nat := (gT.getD g (0, 0, 9, 0, 0, 0)).2.2.2.2.1
def gTgt (g : Nat) : Nat := (gT.getD g (0, 0, 9, 0, 0, 0)).2.2.2.2.2
def gSlot (g k : Nat) : Option Nat := (gR.getD g []).getD k none
def gOfL : List (Nat × Nat) := [(0, 0), (1, 0), (2, 0), (3, 0), (4, 0), (4, 1), (4, 2), (4, 3), (4, 4), (4, 5), (4, 6), (4, 7), (4, 8), (4, 9), (5, 0), (6, 0), (7, 0), (8, 0), (9, 0), (10, 0), (11, 0), (11, 1), (11, 2), (11, 3), (11, 4), (11, 5), (11, 6), (11, 7), (11, 8), (11, 9), (11, 10), (11, 11), (11, 12), (11, 13), (11, 14), (11, 15), (12, 0), (13, 0), (14, 0), (15, 0), (16, 0), (17, 0), (18, 0), (19, 0), (20, 0), (21, 0), (22, 0), (23, 0), (24, 0), (25, 0), (25, 1), (25, 2), (26, 0), (27, 0), (28, 0), (29, 0), (30, 0), (31, 0), (32, 0), (33, 0), (34, 0), (35, 0), (36, 0), (37, 0), (38, 0), (39, 0), (40, 0), (41, 0), (42, 0), (43, 0), (44, 0), (45, 0), (46, 0), (47, 0), (48, 0), (49, 0), (50, 0), (51, 0), (52, 0), (53, 0), (54, 0), (55, 0), (56, 0), (57, 0), (58, 0), (59, 0), (60, 0), (61, 0), (62, 0), (63, 0)]
def gOf (p : Nat) : Nat := (gOfL.getD p (0, 0)).1
def iOf (p : Nat) : Nat := (gOfL.getD p (0, 0)).2
theorem g_ok : ∀ g, g < 64 → ∀ i, i < gCnt g → gBase g + i < 90 ∧ gOf (gBase g + i) = g ∧ iOf (gBase g + i) = i := by decide +kernel
theorem g_lt : ∀ g i, i < gCnt g → g < 64 := by
  intro g i h
  rcases Nat.lt_or_ge g 64 with q | q
  · exact q
  · have : gT[g]? = none := by rw [List.getElem?_eq_none_iff]; exact q
    simp [gCnt, List.getD, this] at h
theorem g_all : ∀ p, p < 90 → gBase (gOf p) + iOf p = p ∧ iOf p < gCnt (gOf p) := by decide +kernel

abbrev EN : Type := Launch × va_G × Nat × (Nat → ClassId) × (Nat → Nat) × Nat × (Nat → Int32)
def eL (E : EN) : Launch := E.1
def eD (E : EN) : va_G := E.2.1
def eB (E : EN) : Nat := E.2.2.1
def eC (E : EN) : Nat → ClassId := E.2.2.2.1
def eX (E : EN) : Nat → Nat := E.2.2.2.2.1
def eN (E : EN) : Nat := E.2.2.2.2.2.1
def eS (E : EN) : Nat → Int32 := E.2.2.2.2.2.2
def eA (E : EN) : Nat → Prop := fun q => eB E ≤ q
def NP : Nat := 90
def ad (E : EN) (p : Nat) : Nat := if p < 1000 then eB E + p else eX E (p - 1000)
def V (E : EN) : Value → Value
  | .ref p => .ref (ad E p)
  | v => v
def rf (g i : Nat) : Value := .ref (gBase g + i)
def slV (E : EN) (hv : Nat → Int32) (g k : Nat) : Value := match gSlot g k with
  | none => .int (hv k)
  | some t => .ref (eB E + gBase t)
def en (E : EN) (h : TH) (g i : Nat) : va_E :=
  if gTag g = 0 then .inr (gCi g, (List.range (gN g)).map (slV E (h g i) g))
  else if gTag g = 1 then .inl (eC E 0, gN g, .inl (h g i))
  else if gTag g = 2 then .inl (eC E 1, gN g, .inl (h g i))
  else .inl (eC E (gCi g), gN g, .inr (.inr (.inr (.inr (fun j => some (eB E + (gBase (gTgt g) + j)))))))
def wd (E : EN) (h : TH) : va_W := (List.range NP).map (fun p => (eB E + p, en E h (gOf p) (iOf p)))
def tys (E : EN) : List (ClassId × FieldType) := [(eC E 0, .int), (eC E 1, .boolean), (eC E 2, .object "LienTower$Contract"), (eC E 3, .object "LienTower$Claim"), (eC E 4, .array .int)]
def oLeast : Nat → Int32 := fun j => ([0, 0, 0, 1, 0, 0] : List Int32).getD j 0
def oMost : Nat → Int32 := fun j => ([365, 365, 1000, 9, 2, 1] : List Int32).getD j 0
def oN (E : EN) (t : Nat) : Nat := if t = 2 then eN E else 6
def oF (E : EN) (t : Nat) : Nat → Int32 := if t = 0 then oLeast else if t = 1 then oMost else eS E
def OUT (E : EN) (U : State) (H : Heap) : Prop :=
  va_Z "LienTower" "LAW_LEAST" "[I" (.ref (eX E 0)) (eA E) U H ∧ va_Z "LienTower" "LAW_MOST" "[I" (.ref (eX E 1)) (eA E) U H ∧
  ∀ t, t < 3 → va_T .int (eX E t) (oN E t) (fun j => .int (oF E t j)) (eA E) U H
theorem OUT.moved {E : EN} {u U : State} {H : Heap} (hvm : u.vm.Alike U.vm) (h : OUT E u H) : OUT E U H := ⟨h.1.moved hvm, h.2.1.moved hvm, fun t ht => (h.2.2 t ht).moved hvm⟩
theorem OUT.kept {E : EN} {U : State} {H H1 : Heap} (h : OUT E U H) (hq : ∀ a : Nat, a < H.size → ¬ eA E a → H1[a]? = H[a]?) : OUT E U H1 := ⟨h.1.kept hq, h.2.1.kept hq, fun t ht => (h.2.2 t ht).kept hq⟩
def NW (U : State) : Prop := (va_Nw (.methodLinkNest RX1 32 yX6_within "LienTower") U ∧ va_Nw (.methodLinkNest RX4 39 yX6_within "LienTower") U) ∧ va_AO "LienTower$Contract" U ∧ va_AO "LienTower$Claim" U ∧ (Cond.arrayOver (.array .int)).before #[] U = true
theorem NW.warm {s U : State} (hW : s.WarmedH U.vm) (h : NW s) : NW U := ⟨⟨va_Nw.warmM hW h.1.1, va_Nw.warmM hW h.1.2⟩, h.2.1.moved hW.alike, h.2.2.1.moved hW.alike, ir_alike hW.alike h.2.2.2⟩
theorem NW.same {u U : State} (h : u.vm = U.vm) (q : NW u) : NW U := ⟨⟨va_Nw.same rfl h q.1.1, va_Nw.same rfl h q.1.2⟩, q.2.1.moved (by rw [h]; exact Vm.Alike.refl _), q.2.2.1.moved (by rw [h]; exact Vm.Alike.refl _), ir_alike (by rw [h]; exact Vm.Alike.refl _) q.2.2.2⟩
def Rp (E : EN) (h : TH) (U : State) (H : Heap) : Prop := va_P (eD E) classes (wd E h) H ∧ va_K (eD E) classes (tys E) U ∧ OUT E U H ∧ NW U
abbrev MD : Type := MethodName × ByteArray × Nat × Option FieldType × Room
def Cx (E : EN) (M : MD) (p : Program) (s : State) (m : MethodId) (args : Array Value) (meth : Method) (c : Code) : Prop :=
  p.tables.exec = Jvm.exec ∧ c.code = M.2.1 ∧ meth.sig.returnType = M.2.2.2.1 ∧ c.maxLocals = M.2.2.1 ∧ s.vm.findClass M.1.cls = some m.cls ∧ (∀ w ∈ tw, w.before args s = true) ∧ meth.locks = false ∧ va_K (eD E) classes (tys E) s ∧ OUT E s s.heap ∧ NW s ∧ (M.1.name = "<init>" → meth.name = "<init>")
def LR (E : EN) (n : Nat) (ls : List (Option Value)) (rl : Array Slot) : Prop := ls.length = n ∧ rl.size = n ∧ lv_wf rl ∧ ∀ (k : Nat) (v : Value), ls[k]? = some (some v) → rl[k]? = some (.val (V E v))
def wg (E : EN) (PP : TH → Heap → Prop) (M : MD) (ce sl : Nat) (Z : List Frame → Array Value → State → State → Prop) (pc : Nat) (ls : List (Option Value)) (st : List Value) (h : TH) : Prop :=
  ∀ (p : Program) (e : Env) (s : State) (m : MethodId) (args : Array Value) (below : List Frame) (meth : Method) (c : Code), Cx E M p s m args meth c →
  ∀ (H : Heap) (locs : List Loc) (rl : Array Slot), PP h H → va_S (eA E) s.heap H locs → LR E M.2.2.1 ls rl →
    W p (eL E) e M.2.2.2.2 s m args below meth c H locs ce sl (Z below args s) (F0 m pc rl (st.map (V E)))
def P0 (E : EN) (h : TH) (H : Heap) : Prop := va_P (eD E) classes (wd E h) H
abbrev wz (E : EN) (M : MD) (ce sl : Nat) (Z : List Frame → Array Value → State → State → Prop) (pc : Nat) (ls : List (Option Value)) (st : List Value) (h : TH) : Prop := wg E (P0 E) M ce sl Z pc ls st h
-- facts of the picture
theorem wd_at (E : EN) (h : TH) {p : Nat} (hp : p < NP) : (wd E h)[p]? = some (eB E + p, en E h (gOf p) (iOf p)) := by
  unfold wd
  rw [List.getElem?_map, List.getElem?_range hp]
  rfl
theorem wd_g (E : EN) (h : TH) {g i : Nat} (hi : i < gCnt g) : (wd E h)[gBase g + i]? = some (eB E + (gBase g + i), en E h g i) := by
  obtain ⟨h1, h2, h3⟩ := g_ok g (g_lt g i hi) i hi
  rw [wd_at E h h1, h2, h3]
theorem wd_D (E : EN) (h : TH) : va_D (eA E) (wd E h) := by
  have hl : ∀ (k : Nat) (q : Nat × va_E), (wd E h)[k]? = some q → q.1 = eB E + k := by
    intro k q hq
    have hk : k < NP := by
      have := (List.getElem?_eq_some_iff.mp hq).1
      simpa [wd] using this
    rw [wd_at E h hk] at hq
    cases hq
    rfl
  refine ⟨fun i j p q hi hj e => ?_, fun k q hq => ?_⟩
  · have e1 := hl i p hi
    have e2 := hl j q hj
    omega
  · have e1 := hl k q hq
    show eB E ≤ q.1
    omega
theorem ad_g {E : EN} {g i : Nat} (hi : i < gCnt g) : ad E (gBase g + i) = eB E + (gBase g + i) := by
  obtain ⟨h1, -, -⟩ := g_ok g (g_lt g i hi) i hi
  unfold ad
  rw [if_pos]
  have : NP = 90 := rfl
  omega
theorem V_rf {E : EN} {g i : Nat} (hi : i < gCnt g) : V E (rf g i) = .ref (eB E + (gBase g + i)) := by
  show Value.ref (ad E (gBase g + i)) = _
  rw [ad_g hi]
theorem V_cat (E : EN) (v : Value) : (V E v).category = v.category := by cases v <;> rfl
theorem V_sum (E : EN) (st : List Value) : ((st.map (V E)).map fun v => v.category).sum = (st.map fun v => v.category).sum := by
  rw [List.map_map]
  congr 1
  apply List.map_congr_left
  intro v _
  exact V_cat E v
theorem wd_set (E : EN) (h h' : TH) {g i : Nat} (hi : i < gCnt g) (e : va_E) (he : e = en E h' g i) (hs : ∀ g' i', (g' ≠ g ∨ i' ≠ i) → en E h' g' i' = en E h g' i') :
    (wd E h).set (gBase g + i) (eB E + (gBase g + i), e) = wd E h' := by
  obtain ⟨h1, h2, h3⟩ := g_ok g (g_lt g i hi) i hi
  apply List.ext_getElem?
  intro k
  rcases Nat.lt_or_ge k NP with hk | hk
  · rw [wd_at E h' hk]
    by_cases hkp : gBase g + i = k
    · subst hkp
      rw [List.getElem?_set_self (by simpa [wd] using hk), h2, h3, he]
    · rw [List.getElem?_set_ne hkp, wd_at E h hk]
      rw [hs]
      by_cases hg : gOf k = g
      · right
        intro hi2
        apply hkp
        have := (g_all k hk).1
        rw [hg, hi2] at this
        exact this
      · exact Or.inl hg
  · rw [List.getElem?_eq_none (by simpa [wd] using hk), List.getElem?_eq_none (by simpa [wd] using hk)]
theorem en_up {E : EN} {h : TH} {g i k : Nat} {v : Int32} {g' i' : Nat} (hn : g' ≠ g ∨ i' ≠ i) : en E (up h g i k v) g' i' = en E h g' i' := by
  have e : (up h g i k v) g' i' = h g' i' := by
    funext j
    unfold up
    rw [if_neg]
    rintro ⟨a, -, c⟩
    rcases hn with q | q
    · exact q a
    · exact q c
  unfold en
  rw [e]

section Rules
variable {E : EN} {PP : TH → Heap → Prop} {M : MD} {ce sl : Nat} {Z : List Frame → Array Value → State → State → Prop} {pc : Nat} {ls : List (Option Value)} {st : List Value} {h : TH}
theorem wz_iadd {x y : Int32} (hd : decode M.2.1 pc = .ok (.iadd, 1)) (k : wg E PP M ce sl Z (pc + 1) ls (.int (x + y) :: st) h) : wg E PP M ce sl Z pc ls (.int y :: .int x :: st) h := by
  intro p e s m args below meth c C H locs rl hP hS hl
  exact lv_iadd C.1 C.2.1 hd (k p e s m args below meth c C H locs rl hP hS hl)
theorem wz_isub {x y : Int32} (hd : decode M.2.1 pc = .ok (.isub, 1)) (k : wg E PP M ce sl Z (pc + 1) ls (.int (x - y) :: st) h) : wg E PP M ce sl Z pc ls (.int y :: .int x :: st) h := by
  intro p e s m args below meth c C H locs rl hP hS hl
  exact lv_isub C.1 C.2.1 hd (k p e s m args below meth c C H locs rl hP hS hl)
theorem wz_iand {x y : Int32} (hd : decode M.2.1 pc = .ok (.iand, 1)) (k : wg E PP M ce sl Z (pc + 1) ls (.int (x &&& y) :: st) h) : wg E PP M ce sl Z pc ls (.int y :: .int x :: st) h := by
  intro p e s m args below meth c C H locs rl hP hS hl
  exact lv_iand C.1 C.2.1 hd (k p e s m args below meth c C H locs rl hP hS hl)
theorem wz_ior {x y : Int32} (hd : decode M.2.1 pc = .ok (.ior, 1)) (k : wg E PP M ce sl Z (pc + 1) ls (.int (x ||| y) :: st) h) : wg E PP M ce sl Z pc ls (.int y :: .int x :: st) h := by
  intro p e s m args below meth c C H locs rl hP hS hl
  exact lv_ior C.1 C.2.1 hd (k p e s m args below meth c C H locs rl hP hS hl)
theorem wz_ixor {x y : Int32} (hd : decode M.2.1 pc = .ok (.ixor, 1)) (k : wg E PP M ce sl Z (pc + 1) ls (.int (x ^^^ y) :: st) h) : wg E PP M ce sl Z pc ls (.int y :: .int x :: st) h := by
  intro p e s m args below meth c C H locs rl hP hS hl
  exact lv_ixor C.1 C.2.1 hd (k p e s m args below meth c C H locs rl hP hS hl)
theorem wz_ishl {x y : Int32} (hd : decode M.2.1 pc = .ok (.ishl, 1)) (k : wg E PP M ce sl Z (pc + 1) ls (.int (x <<< (y &&& 31)) :: st) h) : wg E PP M ce sl Z pc ls (.int y :: .int x :: st) h := by
  intro p e s m args below meth c C H locs rl hP hS hl
  exact lv_ishl C.1 C.2.1 hd (k p e s m args below meth c C H locs rl hP hS hl)
theorem wz_ishr {x y : Int32} (hd : decode M.2.1 pc = .ok (.ishr, 1)) (k : wg E PP M ce sl Z (pc + 1) ls (.int (x >>> (y &&& 31)) :: st) h) : wg E PP M ce sl Z pc ls (.int y :: .int x :: st) h := by
  intro p e s m args below meth c C H locs rl hP hS hl
  exact lv_ishr C.1 C.2.1 hd (k p e s m args below meth c C H locs rl hP hS hl)
theorem wz_ladd {x y : Int64} (hd : decode M.2.1 pc = .ok (.ladd, 1)) (k : wg E PP M ce sl Z (pc + 1) ls (.long (x + y) :: st) h) : wg E PP M ce sl Z pc ls (.long y :: .long x :: st) h := by
  intro p e s m args below meth c C H locs rl hP hS hl
  exact lv_ladd C.1 C.2.1 hd (k p e s m args below meth c C H locs rl hP hS hl)
theorem wz_lsub {x y : Int64} (hd : decode M.2.1 pc = .ok (.lsub, 1)) (k : wg E PP M ce sl Z (pc + 1) ls (.long (x - y) :: st) h) : wg E PP M ce sl Z pc ls (.long y :: .long x :: st) h := by
  intro p e s m args below meth c C H locs rl hP hS hl
  exact lv_lsub C.1 C.2.1 hd (k p e s m args below meth c C H locs rl hP hS hl)
theorem wz_lmul {x y : Int64} (hd : decode M.2.1 pc = .ok (.lmul, 1)) (k : wg E PP M ce sl Z (pc + 1) ls (.long (x * y) :: st) h) : wg E PP M ce sl Z pc ls (.long y :: .long x :: st) h := by
  intro p e s m args below meth c C H locs rl hP hS hl
  exact lv_lmul C.1 C.2.1 hd (k p e s m args below meth c C H locs rl hP hS hl)
theorem wz_ldiv {x y : Int64} (hd : decode M.2.1 pc = .ok (.ldiv, 1)) (hne : ¬ y = 0) (k : wg E PP M ce sl Z (pc + 1) ls (.long (x / y) :: st) h) : wg E PP M ce sl Z pc ls (.long y :: .long x :: st) h := by
  intro p e s m args below meth c C H locs rl hP hS hl
  exact lv_ldiv C.1 C.2.1 hd hne (k p e s m args below meth c C H locs rl hP hS hl)
theorem wz_iushr {x y : Int32} (hd : decode M.2.1 pc = .ok (.iushr, 1)) (k : wg E PP M ce sl Z (pc + 1) ls (.int (x.toUInt32 >>> (y.toUInt32 &&& Int32.toUInt32 31)).toInt32 :: st) h) : wg E PP M ce sl Z pc ls (.int y :: .int x :: st) h := by
  intro p e s m args below meth c C H locs rl hP hS hl
  exact lv_iushr C.1 C.2.1 hd rfl (k p e s m args below meth c C H locs rl hP hS hl)
theorem wz_lcmp {x y : Int64} (hd : decode M.2.1 pc = .ok (.lcmp, 1)) (k : wg E PP M ce sl Z (pc + 1) ls (.int (lg_cmp x y) :: st) h) : wg E PP M ce sl Z pc ls (.long y :: .long x :: st) h := by
  intro p e s m args below meth c C H locs rl hP hS hl
  exact W.lcmp C.1 C.2.1 hd (k p e s m args below meth c C H locs rl hP hS hl)
theorem wz_i2l {x : Int32} (hd : decode M.2.1 pc = .ok (.i2l, 1)) (k : wg E PP M ce sl Z (pc + 1) ls (.long x.toInt64 :: st) h) : wg E PP M ce sl Z pc ls (.int x :: st) h := by
  intro p e s m args below meth c C H locs rl hP hS hl
  exact lv_i2l C.1 C.2.1 hd rfl (k p e s m args below meth c C H locs rl hP hS hl)
theorem wz_l2i {x : Int64} (hd : decode M.2.1 pc = .ok (.l2i, 1)) (k : wg E PP M ce sl Z (pc + 1) ls (.int x.toInt32 :: st) h) : wg E PP M ce sl Z pc ls (.long x :: st) h := by
  intro p e s m args below meth c C H locs rl hP hS hl
  exact lv_l2i C.1 C.2.1 hd rfl (k p e s m args below meth c C H locs rl hP hS hl)
theorem wz_iconst {n : Int} {v : Int32} (hd : decode M.2.1 pc = .ok (.iconst n, 1)) (hv : Int32.ofInt n = v) (k : wg E PP M ce sl Z (pc + 1) ls (.int v :: st) h) : wg E PP M ce sl Z pc ls st h := by
  intro p e s m args below meth c C H locs rl hP hS hl
  exact lv_iconst C.1 C.2.1 hd hv (k p e s m args below meth c C H locs rl hP hS hl)
theorem wz_bipush {n : Int} {v : Int32} (hd : decode M.2.1 pc = .ok (.bipush n, 2)) (hv : (Int8.ofInt n).toInt32 = v) (k : wg E PP M ce sl Z (pc + 2) ls (.int v :: st) h) : wg E PP M ce sl Z pc ls st h := by
  intro p e s m args below meth c C H locs rl hP hS hl
  exact lv_bipush C.1 C.2.1 hd hv (k p e s m args below meth c C H locs rl hP hS hl)
theorem wz_sipush {n : Int} {v : Int32} (hd : decode M.2.1 pc = .ok (.sipush n, 3)) (hv : (Int16.ofInt n).toInt32 = v) (k : wg E PP M ce sl Z (pc + 3) ls (.int v :: st) h) : wg E PP M ce sl Z pc ls st h := by
  intro p e s m args below meth c C H locs rl hP hS hl
  exact lv_sipush C.1 C.2.1 hd hv (k p e s m args below meth c C H locs rl hP hS hl)
theorem wz_lconst {n : Fin 2} {v : Int64} (hd : decode M.2.1 pc = .ok (.lconst n, 1)) (hv : Int64.ofNat (n : Nat) = v) (k : wg E PP M ce sl Z (pc + 1) ls (.long v :: st) h) : wg E PP M ce sl Z pc ls st h := by
  intro p e s m args below meth c C H locs rl hP hS hl
  exact lv_lconst C.1 C.2.1 hd hv (k p e s m args below meth c C H locs rl hP hS hl)
theorem wz_ldc {v : Int32} {idx : Nat} (hd : decode M.2.1 pc = .ok (.ldc idx, 2)) (hw : Cond.constant M.1.cls idx v ∈ tw) (k : wg E PP M ce sl Z (pc + 2) ls (.int v :: st) h) : wg E PP M ce sl Z pc ls st h := by
  intro p e s m args below meth c C H locs rl hP hS hl
  exact lv_ldc C.1 C.2.1 C.2.2.2.2.1 (C.2.2.2.2.2.1 _ hw) hd (k p e s m args below meth c C H locs rl hP hS hl)
theorem wz_ldcw {v : Int32} {idx : Nat} (hd : decode M.2.1 pc = .ok (.ldc_w idx, 3)) (hw : Cond.constant M.1.cls idx v ∈ tw) (k : wg E PP M ce sl Z (pc + 3) ls (.int v :: st) h) : wg E PP M ce sl Z pc ls st h := by
  intro p e s m args below meth c C H locs rl hP hS hl
  exact lv_ldcw C.1 C.2.1 C.2.2.2.2.1 (C.2.2.2.2.2.1 _ hw) hd (k p e s m args below meth c C H locs rl hP hS hl)
theorem wz_iload_n {i : Fin 4} {x : Int32} (hd : decode M.2.1 pc = .ok (.iload_n i, 1)) (hv : ls[(i : Nat)]? = some (some (.int x))) (k : wg E PP M ce sl Z (pc + 1) ls (.int x :: st) h) : wg E PP M ce sl Z pc ls st h := by
  intro p e s m args below meth c C H locs rl hP hS hl
  exact lv_iload_n C.1 C.2.1 hd rfl (hl.2.2.2 _ _ hv) (k p e s m args below meth c C H locs rl hP hS hl)
theorem wz_iload {i : Nat} {x : Int32} (hd : decode M.2.1 pc = .ok (.iload i, 2)) (hv : ls[i]? = some (some (.int x))) (k : wg E PP M ce sl Z (pc + 2) ls (.int x :: st) h) : wg E PP M ce sl Z pc ls st h := by
  intro p e s m args below meth c C H locs rl hP hS hl
  exact lv_iload C.1 C.2.1 hd (hl.2.2.2 _ _ hv) (k p e s m args below meth c C H locs rl hP hS hl)
theorem wz_lload_n {i : Fin 4} {x : Int64} (hd : decode M.2.1 pc = .ok (.lload_n i, 1)) (hv : ls[(i : Nat)]? = some (some (.long x))) (k : wg E PP M ce sl Z (pc + 1) ls (.long x :: st) h) : wg E PP M ce sl Z pc ls st h := by
  intro p e s m args below meth c C H locs rl hP hS hl
  exact lv_lload_n C.1 C.2.1 hd rfl (hl.2.2.2 _ _ hv) (k p e s m args below meth c C H locs rl hP hS hl)
theorem wz_lload {i : Nat} {x : Int64} (hd : decode M.2.1 pc = .ok (.lload i, 2)) (hv : ls[i]? = some (some (.long x))) (k : wg E PP M ce sl Z (pc + 2) ls (.long x :: st) h) : wg E PP M ce sl Z pc ls st h := by
  intro p e s m args below meth c C H locs rl hP hS hl
  exact lv_lload C.1 C.2.1 hd (hl.2.2.2 _ _ hv) (k p e s m args below meth c C H locs rl hP hS hl)
theorem wz_aload_n {i : Fin 4} {x : Nat} (hd : decode M.2.1 pc = .ok (.aload_n i, 1)) (hv : ls[(i : Nat)]? = some (some (.ref x))) (k : wg E PP M ce sl Z (pc + 1) ls (.ref x :: st) h) : wg E PP M ce sl Z pc ls st h := by
  intro p e s m args below meth c C H locs rl hP hS hl
  exact lv_aload_n C.1 C.2.1 hd rfl (hl.2.2.2 _ _ hv) (k p e s m args below meth c C H locs rl hP hS hl)
theorem wz_aload {i : Nat} {x : Nat} (hd : decode M.2.1 pc = .ok (.aload i, 2)) (hv : ls[i]? = some (some (.ref x))) (k : wg E PP M ce sl Z (pc + 2) ls (.ref x :: st) h) : wg E PP M ce sl Z pc ls st h := by
  intro p e s m args below meth c C H locs rl hP hS hl
  exact lv_aload C.1 C.2.1 hd (hl.2.2.2 _ _ hv) (k p e s m args below meth c C H locs rl hP hS hl)
theorem wz_aloadR_n {i : Fin 4} {g j : Nat} (hd : decode M.2.1 pc = .ok (.aload_n i, 1)) (hv : ls[(i : Nat)]? = some (some (rf g j))) (k : wg E PP M ce sl Z (pc + 1) ls (rf g j :: st) h) : wg E PP M ce sl Z pc ls st h := wz_aload_n (x := gBase g + j) hd hv k
theorem wz_aloadR {i : Nat} {g j : Nat} (hd : decode M.2.1 pc = .ok (.aload i, 2)) (hv : ls[i]? = some (some (rf g j))) (k : wg E PP M ce sl Z (pc + 2) ls (rf g j :: st) h) : wg E PP M ce sl Z pc ls st h := wz_aload (x := gBase g + j) hd hv k
def lst (E : EN) (ls : List (Option Value)) : List (Nat × Value) := (List.range ls.length).filterMap (fun k => (ls[k]?.join).map (fun v => (k, V E v)))
theorem lst_mem {E : EN} {ls : List (Option Value)} {k : Nat} {v : Value} (hk : ls[k]? = some (some v)) : (k, V E v) ∈ lst E ls := by
  refine List.mem_filterMap.mpr ⟨k, List.mem_range.mpr (List.getElem?_eq_some_iff.mp hk).1, ?_⟩
  rw [hk]
  rfl
theorem LR.has {n : Nat} {rl : Array Slot} (r : LR E n ls rl) : lv_has rl n (lst E ls) := by
  refine ⟨r.2.1, r.2.2.1, fun q hq => ?_⟩
  obtain ⟨k, hk, he⟩ := List.mem_filterMap.mp hq
  cases hj : ls[k]?.join with
  | none => rw [hj] at he; cases he
  | some v =>
    rw [hj] at he
    cases he
    refine r.2.2.2 k v ?_
    cases hq2 : ls[k]? with
    | none => rw [hq2] at hj; cases hj
    | some w => rw [hq2] at hj; cases hj; rfl
/-- no long stands in the place before -/
def okS (ls : List (Option Value)) (i : Nat) : Bool := match i with
  | 0 => true
  | j + 1 => match ls[j]? with
    | some (some (.long _)) => false
    | some (some (.double _)) => false
    | _ => true
def okW : Option Value → Bool
  | some (.long _) => false
  | some (.double _) => false
  | _ => true
theorem okS_cat {ls : List (Option Value)} {k : Nat} {v : Value} (ho : okS ls (k + 1) = true) (hv : ls[k]? = some (some v)) : ¬ v.category = 2 := by
  intro hc
  unfold okS at ho
  simp only [hv] at ho
  cases v <;> simp_all [Value.category]
theorem LR.set {n i : Nat} {rl rl' : Array Slot} {v : Value} (r : LR E n ls rl) (ho : okS ls i = true)
    (hn : lv_has rl' n ((i, V E v) :: (lst E ls).filter (fun q => !(q.1 == i) && !(q.1 + 1 == i && q.2.category == 2)))) : LR E n (ls.set i (some v)) rl' := by
  refine ⟨by rw [List.length_set]; exact r.1, hn.1, hn.2.1, fun k w hk => ?_⟩
  by_cases hki : i = k
  · subst hki
    rw [List.getElem?_set_self (by have := (List.getElem?_eq_some_iff.mp hk).1; simpa using this)] at hk
    cases hk
    exact hn.2.2 (i, V E v) List.mem_cons_self
  · rw [List.getElem?_set_ne hki] at hk
    refine hn.2.2 (k, V E w) (List.mem_cons_of_mem _ (List.mem_filter.mpr ⟨lst_mem hk, ?_⟩))
    have h1 : (k == i) = false := by simpa using fun q => hki q.symm
    simp only [h1, Bool.not_false, Bool.true_and, Bool.not_eq_true', Bool.and_eq_false_iff, beq_eq_false_iff_ne]
    by_cases h2 : k + 1 = i
    · right
      subst h2
      rw [V_cat]
      exact okS_cat ho hk
    · exact Or.inl h2
theorem LR.setL {n i : Nat} {rl rl' : Array Slot} {v : Value} (r : LR E n ls rl) (ho : okS ls i = true)
    (hn : lv_has rl' n ((i, V E v) :: (lst E ls).filter (fun q => !(q.1 == i) && (!(q.1 == i + 1) && !(q.1 + 1 == i && q.2.category == 2))))) : LR E n ((ls.set i (some v)).set (i + 1) none) rl' := by
  refine ⟨by rw [List.length_set, List.length_set]; exact r.1, hn.1, hn.2.1, fun k w hk => ?_⟩
  by_cases hki1 : i + 1 = k
  · subst hki1
    rw [List.getElem?_set_self (by have := (List.getElem?_eq_some_iff.mp hk).1; simpa using this)] at hk
    cases hk
  · rw [List.getElem?_set_ne hki1] at hk
    by_cases hki : i = k
    · subst hki
      rw [List.getElem?_set_self (by have := (List.getElem?_eq_some_iff.mp hk).1; simpa using this)] at hk
      cases hk
      exact hn.2.2 (i, V E v) List.mem_cons_self
    · rw [List.getElem?_set_ne hki] at hk
      refine hn.2.2 (k, V E w) (List.mem_cons_of_mem _ (List.mem_filter.mpr ⟨lst_mem hk, ?_⟩))
      have h1 : (k == i) = false := by simpa using fun q => hki q.symm
      have h3 : (k == i + 1) = false := by simpa using fun q => hki1 q.symm
      simp only [h1, h3, Bool.not_false, Bool.true_and, Bool.not_eq_true', Bool.and_eq_false_iff, beq_eq_false_iff_ne]
      by_cases h2 : k + 1 = i
      · right
        subst h2
        rw [V_cat]
        exact okS_cat ho hk
      · exact Or.inl h2
theorem wz_istore_n {i : Fin 4} {x : Int32} {ls2 : List (Option Value)} (hd : decode M.2.1 pc = .ok (.istore_n i, 1)) (hn : (i : Nat) < M.2.2.1) (ho : okS ls (i : Nat) = true) (hs : ls.set (i : Nat) (some (.int x)) = ls2) (k : wg E PP M ce sl Z (pc + 1) ls2 st h) : wg E PP M ce sl Z pc ls (.int x :: st) h := by
  intro p e s m args below meth c C H locs rl hP hS hl
  subst hs
  exact lv_istore_n C.1 C.2.1 hd rfl hl.has hn rfl (fun rl2 h2 => k p e s m args below meth c C H locs rl2 hP hS (LR.set (v := .int x) hl ho h2))
theorem wz_istore {i : Nat} {x : Int32} {ls2 : List (Option Value)} (hd : decode M.2.1 pc = .ok (.istore i, 2)) (hn : i < M.2.2.1) (ho : okS ls i = true) (hs : ls.set i (some (.int x)) = ls2) (k : wg E PP M ce sl Z (pc + 2) ls2 st h) : wg E PP M ce sl Z pc ls (.int x :: st) h := by
  intro p e s m args below meth c C H locs rl hP hS hl
  subst hs
  exact lv_istore C.1 C.2.1 hd hl.has hn rfl (fun rl2 h2 => k p e s m args below meth c C H locs rl2 hP hS (LR.set (v := .int x) hl ho h2))
theorem wz_astore_n {i : Fin 4} {x : Nat} {ls2 : List (Option Value)} (hd : decode M.2.1 pc = .ok (.astore_n i, 1)) (hn : (i : Nat) < M.2.2.1) (ho : okS ls (i : Nat) = true) (hs : ls.set (i : Nat) (some (.ref x)) = ls2) (k : wg E PP M ce sl Z (pc + 1) ls2 st h) : wg E PP M ce sl Z pc ls (.ref x :: st) h := by
  intro p e s m args below meth c C H locs rl hP hS hl
  subst hs
  exact lv_astore_n C.1 C.2.1 hd rfl hl.has hn rfl (fun rl2 h2 => k p e s m args below meth c C H locs rl2 hP hS (LR.set (v := .ref x) hl ho h2))
theorem wz_astore {i : Nat} {x : Nat} {ls2 : List (Option Value)} (hd : decode M.2.1 pc = .ok (.astore i, 2)) (hn : i < M.2.2.1) (ho : okS ls i = true) (hs : ls.set i (some (.ref x)) = ls2) (k : wg E PP M ce sl Z (pc + 2) ls2 st h) : wg E PP M ce sl Z pc ls (.ref x :: st) h := by
  intro p e s m args below meth c C H locs rl hP hS hl
  subst hs
  exact lv_astore C.1 C.2.1 hd hl.has hn rfl (fun rl2 h2 => k p e s m args below meth c C H locs rl2 hP hS (LR.set (v := .ref x) hl ho h2))
theorem wz_lstore_n {i : Fin 4} {x : Int64} {ls2 : List (Option Value)} (hd : decode M.2.1 pc = .ok (.lstore_n i, 1)) (hn : (i : Nat) + 1 < M.2.2.1) (ho : okS ls (i : Nat) = true) (hs : (ls.set (i : Nat) (some (.long x))).set ((i : Nat) + 1) none = ls2) (k : wg E PP M ce sl Z (pc + 1) ls2 st h) : wg E PP M ce sl Z pc ls (.long x :: st) h := by
  intro p e s m args below meth c C H locs rl hP hS hl
  subst hs
  exact lv_lstore_n C.1 C.2.1 hd rfl hl.has hn rfl (fun rl2 h2 => k p e s m args below meth c C H locs rl2 hP hS (LR.setL (v := .long x) hl ho h2))
theorem wz_astoreR_n {i : Fin 4} {g j : Nat} {ls2 : List (Option Value)} (hd : decode M.2.1 pc = .ok (.astore_n i, 1)) (hn : (i : Nat) < M.2.2.1) (ho : okS ls (i : Nat) = true) (hs : ls.set (i : Nat) (some (rf g j)) = ls2) (k : wg E PP M ce sl Z (pc + 1) ls2 st h) : wg E PP M ce sl Z pc ls (rf g j :: st) h := wz_astore_n (x := gBase g + j) hd hn ho hs k
theorem wz_lstore {i : Nat} {x : Int64} {ls2 : List (Option Value)} (hd : decode M.2.1 pc = .ok (.lstore i, 2)) (hn : i + 1 < M.2.2.1) (ho : okS ls i = true) (hs : (ls.set i (some (.long x))).set (i + 1) none = ls2) (k : wg E PP M ce sl Z (pc + 2) ls2 st h) : wg E PP M ce sl Z pc ls (.long x :: st) h := by
  intro p e s m args below meth c C H locs rl hP hS hl
  subst hs
  exact lv_lstore C.1 C.2.1 hd hl.has hn rfl (fun rl2 h2 => k p e s m args below meth c C H locs rl2 hP hS (LR.setL (v := .long x) hl ho h2))
theorem wz_astoreR {i : Nat} {g j : Nat} {ls2 : List (Option Value)} (hd : decode M.2.1 pc = .ok (.astore i, 2)) (hn : i < M.2.2.1) (ho : okS ls i = true) (hs : ls.set i (some (rf g j)) = ls2) (k : wg E PP M ce sl Z (pc + 2) ls2 st h) : wg E PP M ce sl Z pc ls (rf g j :: st) h := wz_astore (x := gBase g + j) hd hn ho hs k
theorem wz_iinc {i : Nat} {n : Int} {x v : Int32} {ls2 : List (Option Value)} (hd : decode M.2.1 pc = .ok (.iinc i n, 3)) (hx : ls[i]? = some (some (.int x))) (hv : x + Int32.ofInt n = v) (hn : i < M.2.2.1) (ho : okS ls i = true) (hs : ls.set i (some (.int v)) = ls2) (k : wg E PP M ce sl Z (pc + 3) ls2 st h) : wg E PP M ce sl Z pc ls st h := by
  intro p e s m args below meth c C H locs rl hP hS hl
  subst hs
  obtain ⟨kk, hkk⟩ := List.getElem?_of_mem (lst_mem (E := E) hx)
  exact lv_iinc C.1 C.2.1 hd hl.has hkk hv hn rfl (fun rl2 h2 => k p e s m args below meth c C H locs rl2 hP hS (LR.set (v := .int v) hl ho h2))
theorem wz_dup {v : Value} (hd : decode M.2.1 pc = .ok (.dup, 1)) (hc : v.category = 1) (k : wg E PP M ce sl Z (pc + 1) ls (v :: v :: st) h) : wg E PP M ce sl Z pc ls (v :: st) h := by
  intro p e s m args below meth c C H locs rl hP hS hl
  exact lv_dup C.1 C.2.1 hd ((V_cat E v).trans hc) (k p e s m args below meth c C H locs rl hP hS hl)
theorem wz_dup2 {v w : Value} (hd : decode M.2.1 pc = .ok (.dup2, 1)) (hc : v.category = 1) (hc2 : w.category = 1) (k : wg E PP M ce sl Z (pc + 1) ls (v :: w :: v :: w :: st) h) : wg E PP M ce sl Z pc ls (v :: w :: st) h := by
  intro p e s m args below meth c C H locs rl hP hS hl
  exact lv_dup2_11 C.1 C.2.1 hd ((V_cat E v).trans hc) ((V_cat E w).trans hc2) (k p e s m args below meth c C H locs rl hP hS hl)
theorem wz_icmp_eq {x y : Int32} {off : Int} {tgt : Nat} (hd : decode M.2.1 pc = .ok (.if_icmp .eq off, 3)) (ht : (pc : Int) + off = (tgt : Int)) (kt : x = y → wg E PP M ce sl Z tgt ls st h) (kf : ¬ x = y → wg E PP M ce sl Z (pc + 3) ls st h) : wg E PP M ce sl Z pc ls (.int y :: .int x :: st) h := by
  intro p e s m args below meth c C H locs rl hP hS hl
  exact lv_icmp_eq C.1 C.2.1 hd ht (fun q => kt q p e s m args below meth c C H locs rl hP hS hl) (fun q => kf q p e s m args below meth c C H locs rl hP hS hl)
theorem wz_if_eq {x : Int32} {off : Int} {tgt : Nat} (hd : decode M.2.1 pc = .ok (.ifCond .eq off, 3)) (ht : (pc : Int) + off = (tgt : Int)) (kt : x = 0 → wg E PP M ce sl Z tgt ls st h) (kf : ¬ x = 0 → wg E PP M ce sl Z (pc + 3) ls st h) : wg E PP M ce sl Z pc ls (.int x :: st) h := by
  intro p e s m args below meth c C H locs rl hP hS hl
  exact lv_if_eq C.1 C.2.1 hd ht (fun q => kt q p e s m args below meth c C H locs rl hP hS hl) (fun q => kf q p e s m args below meth c C H locs rl hP hS hl)
theorem wz_icmp_ne {x y : Int32} {off : Int} {tgt : Nat} (hd : decode M.2.1 pc = .ok (.if_icmp .ne off, 3)) (ht : (pc : Int) + off = (tgt : Int)) (kt : ¬ x = y → wg E PP M ce sl Z tgt ls st h) (kf : x = y → wg E PP M ce sl Z (pc + 3) ls st h) : wg E PP M ce sl Z pc ls (.int y :: .int x :: st) h := by
  intro p e s m args below meth c C H locs rl hP hS hl
  exact lv_icmp_ne C.1 C.2.1 hd ht (fun q => kt q p e s m args below meth c C H locs rl hP hS hl) (fun q => kf q p e s m args below meth c C H locs rl hP hS hl)
theorem wz_if_ne {x : Int32} {off : Int} {tgt : Nat} (hd : decode M.2.1 pc = .ok (.ifCond .ne off, 3)) (ht : (pc : Int) + off = (tgt : Int)) (kt : ¬ x = 0 → wg E PP M ce sl Z tgt ls st h) (kf : x = 0 → wg E PP M ce sl Z (pc + 3) ls st h) : wg E PP M ce sl Z pc ls (.int x :: st) h := by
  intro p e s m args below meth c C H locs rl hP hS hl
  exact lv_if_ne C.1 C.2.1 hd ht (fun q => kt q p e s m args below meth c C H locs rl hP hS hl) (fun q => kf q p e s m args below meth c C H locs rl hP hS hl)
theorem wz_icmp_lt {x y : Int32} {off : Int} {tgt : Nat} (hd : decode M.2.1 pc = .ok (.if_icmp .lt off, 3)) (ht : (pc : Int) + off = (tgt : Int)) (kt : x < y → wg E PP M ce sl Z tgt ls st h) (kf : ¬ x < y → wg E PP M ce sl Z (pc + 3) ls st h) : wg E PP M ce sl Z pc ls (.int y :: .int x :: st) h := by
  intro p e s m args below meth c C H locs rl hP hS hl
  exact lv_icmp_lt C.1 C.2.1 hd ht (fun q => kt q p e s m args below meth c C H locs rl hP hS hl) (fun q => kf q p e s m args below meth c C H locs rl hP hS hl)
theorem wz_if_lt {x : Int32} {off : Int} {tgt : Nat} (hd : decode M.2.1 pc = .ok (.ifCond .lt off, 3)) (ht : (pc : Int) + off = (tgt : Int)) (kt : x < 0 → wg E PP M ce sl Z tgt ls st h) (kf : ¬ x < 0 → wg E PP M ce sl Z (pc + 3) ls st h) : wg E PP M ce sl Z pc ls (.int x :: st) h := by
  intro p e s m args below meth c C H locs rl hP hS hl
  exact lv_if_lt C.1 C.2.1 hd ht (fun q => kt q p e s m args below meth c C H locs rl hP hS hl) (fun q => kf q p e s m args below meth c C H locs rl hP hS hl)
theorem wz_icmp_ge {x y : Int32} {off : Int} {tgt : Nat} (hd : decode M.2.1 pc = .ok (.if_icmp .ge off, 3)) (ht : (pc : Int) + off = (tgt : Int)) (kt : y ≤ x → wg E PP M ce sl Z tgt ls st h) (kf : ¬ y ≤ x → wg E PP M ce sl Z (pc + 3) ls st h) : wg E PP M ce sl Z pc ls (.int y :: .int x :: st) h := by
  intro p e s m args below meth c C H locs rl hP hS hl
  exact lv_icmp_ge C.1 C.2.1 hd ht (fun q => kt q p e s m args below meth c C H locs rl hP hS hl) (fun q => kf q p e s m args below meth c C H locs rl hP hS hl)
theorem wz_if_ge {x : Int32} {off : Int} {tgt : Nat} (hd : decode M.2.1 pc = .ok (.ifCond .ge off, 3)) (ht : (pc : Int) + off = (tgt : Int)) (kt : 0 ≤ x → wg E PP M ce sl Z tgt ls st h) (kf : ¬ 0 ≤ x → wg E PP M ce sl Z (pc + 3) ls st h) : wg E PP M ce sl Z pc ls (.int x :: st) h := by
  intro p e s m args below meth c C H locs rl hP hS hl
  exact lv_if_ge C.1 C.2.1 hd ht (fun q => kt q p e s m args below meth c C H locs rl hP hS hl) (fun q => kf q p e s m args below meth c C H locs rl hP hS hl)
theorem wz_icmp_gt {x y : Int32} {off : Int} {tgt : Nat} (hd : decode M.2.1 pc = .ok (.if_icmp .gt off, 3)) (ht : (pc : Int) + off = (tgt : Int)) (kt : y < x → wg E PP M ce sl Z tgt ls st h) (kf : ¬ y < x → wg E PP M ce sl Z (pc + 3) ls st h) : wg E PP M ce sl Z pc ls (.int y :: .int x :: st) h := by
  intro p e s m args below meth c C H locs rl hP hS hl
  exact lv_icmp_gt C.1 C.2.1 hd ht (fun q => kt q p e s m args below meth c C H locs rl hP hS hl) (fun q => kf q p e s m args below meth c C H locs rl hP hS hl)
theorem wz_if_gt {x : Int32} {off : Int} {tgt : Nat} (hd : decode M.2.1 pc = .ok (.ifCond .gt off, 3)) (ht : (pc : Int) + off = (tgt : Int)) (kt : 0 < x → wg E PP M ce sl Z tgt ls st h) (kf : ¬ 0 < x → wg E PP M ce sl Z (pc + 3) ls st h) : wg E PP M ce sl Z pc ls (.int x :: st) h := by
  intro p e s m args below meth c C H locs rl hP hS hl
  exact lv_if_gt C.1 C.2.1 hd ht (fun q => kt q p e s m args below meth c C H locs rl hP hS hl) (fun q => kf q p e s m args below meth c C H locs rl hP hS hl)
theorem wz_icmp_le {x y : Int32} {off : Int} {tgt : Nat} (hd : decode M.2.1 pc = .ok (.if_icmp .le off, 3)) (ht : (pc : Int) + off = (tgt : Int)) (kt : x ≤ y → wg E PP M ce sl Z tgt ls st h) (kf : ¬ x ≤ y → wg E PP M ce sl Z (pc + 3) ls st h) : wg E PP M ce sl Z pc ls (.int y :: .int x :: st) h := by
  intro p e s m args below meth c C H locs rl hP hS hl
  exact lv_icmp_le C.1 C.2.1 hd ht (fun q => kt q p e s m args below meth c C H locs rl hP hS hl) (fun q => kf q p e s m args below meth c C H locs rl hP hS hl)
theorem wz_if_le {x : Int32} {off : Int} {tgt : Nat} (hd : decode M.2.1 pc = .ok (.ifCond .le off, 3)) (ht : (pc : Int) + off = (tgt : Int)) (kt : x ≤ 0 → wg E PP M ce sl Z tgt ls st h) (kf : ¬ x ≤ 0 → wg E PP M ce sl Z (pc + 3) ls st h) : wg E PP M ce sl Z pc ls (.int x :: st) h := by
  intro p e s m args below meth c C H locs rl hP hS hl
  exact lv_if_le C.1 C.2.1 hd ht (fun q => kt q p e s m args below meth c C H locs rl hP hS hl) (fun q => kf q p e s m args below meth c C H locs rl hP hS hl)
theorem wz_goto {off : Int} {tgt : Nat} (hd : decode M.2.1 pc = .ok (.goto off, 3)) (ht : (pc : Int) + off = (tgt : Int)) (k : wg E PP M ce sl Z tgt ls st h) : wg E PP M ce sl Z pc ls st h := by
  intro p e s m args below meth c C H locs rl hP hS hl
  exact lv_goto C.1 C.2.1 hd ht (k p e s m args below meth c C H locs rl hP hS hl)
theorem wz_table {dflt lo hi : Int} {offs : Array Int} {len : Nat} {x : Int32} {tgts : List Nat} {td : Nat} (hd : decode M.2.1 pc = .ok (.tableswitch dflt lo hi offs, len)) (ht : (pc : Int) + dflt = (td : Int)) (hlo : 0 ≤ lo) (hhi : hi = lo + (tgts.length : Int) - 1)
    (ho : ∀ j : Nat, j < tgts.length → ∃ off : Int, offs[j]? = some off ∧ (pc : Int) + off = ((tgts.getD j 0 : Nat) : Int))
    (ki : ∀ j : Nat, j < tgts.length → x.toInt = lo + (j : Int) → wg E PP M ce sl Z (tgts.getD j 0) ls st h) (kd : (x.toInt < lo ∨ hi < x.toInt) → wg E PP M ce sl Z td ls st h) : wg E PP M ce sl Z pc ls (.int x :: st) h := by
  intro p e s m args below meth c C H locs rl hP hS hl
  by_cases q : x.toInt < lo ∨ hi < x.toInt
  · exact lv_tableOut C.1 C.2.1 hd q ht (kd q p e s m args below meth c C H locs rl hP hS hl)
  · have q1 : ¬ x.toInt < lo := fun z => q (Or.inl z)
    have q2 : ¬ hi < x.toInt := fun z => q (Or.inr z)
    have hj : (x.toInt - lo).toNat < tgts.length := by omega
    obtain ⟨off, h1, h2⟩ := ho _ hj
    exact lv_tableIn C.1 C.2.1 hd q1 q2 h1 h2 (ki _ hj (by omega) p e s m args below meth c C H locs rl hP hS hl)
theorem q_ild0 {x : Int32} {l2 : List (Option Value)} (hd : decode M.2.1 pc = .ok (.iload_n 0, 1)) (k : wg E PP M ce sl Z (pc + 1) (some (.int x) :: l2) (.int x :: st) h) : wg E PP M ce sl Z pc (some (.int x) :: l2) st h := wz_iload_n hd rfl k
theorem q_lld0 {x : Int64} {l2 : List (Option Value)} (hd : decode M.2.1 pc = .ok (.lload_n 0, 1)) (k : wg E PP M ce sl Z (pc + 1) (some (.long x) :: l2) (.long x :: st) h) : wg E PP M ce sl Z pc (some (.long x) :: l2) st h := wz_lload_n hd rfl k
theorem q_ald0 {g j : Nat} {l2 : List (Option Value)} (hd : decode M.2.1 pc = .ok (.aload_n 0, 1)) (k : wg E PP M ce sl Z (pc + 1) (some (rf g j) :: l2) (rf g j :: st) h) : wg E PP M ce sl Z pc (some (rf g j) :: l2) st h := wz_aloadR_n hd rfl k
theorem q_ist0 {u : Option Value} {x : Int32} {l2 : List (Option Value)} (hd : decode M.2.1 pc = .ok (.istore_n 0, 1)) (hn : 0 < M.2.2.1) (k : wg E PP M ce sl Z (pc + 1) (some (.int x) :: l2) st h) : wg E PP M ce sl Z pc (u :: l2) (.int x :: st) h := wz_istore_n hd hn rfl rfl k
theorem q_ast0 {u : Option Value} {g j : Nat} {l2 : List (Option Value)} (hd : decode M.2.1 pc = .ok (.astore_n 0, 1)) (hn : 0 < M.2.2.1) (k : wg E PP M ce sl Z (pc + 1) (some (rf g j) :: l2) st h) : wg E PP M ce sl Z pc (u :: l2) (rf g j :: st) h := wz_astoreR_n hd hn rfl rfl k
theorem q_inc0 {n : Int} {x v : Int32} {l2 : List (Option Value)} (hd : decode M.2.1 pc = .ok (.iinc 0 n, 3)) (hv : x + Int32.ofInt n = v) (hn : 0 < M.2.2.1) (k : wg E PP M ce sl Z (pc + 3) (some (.int v) :: l2) st h) : wg E PP M ce sl Z pc (some (.int x) :: l2) st h := wz_iinc hd rfl hv hn rfl rfl k
theorem q_ild1 {w0 : Option Value} {x : Int32} {l2 : List (Option Value)} (hd : decode M.2.1 pc = .ok (.iload_n 1, 1)) (k : wg E PP M ce sl Z (pc + 1) (w0 :: some (.int x) :: l2) (.int x :: st) h) : wg E PP M ce sl Z pc (w0 :: some (.int x) :: l2) st h := wz_iload_n hd rfl k
theorem q_lld1 {w0 : Option Value} {x : Int64} {l2 : List (Option Value)} (hd : decode M.2.1 pc = .ok (.lload_n 1, 1)) (k : wg E PP M ce sl Z (pc + 1) (w0 :: some (.long x) :: l2) (.long x :: st) h) : wg E PP M ce sl Z pc (w0 :: some (.long x) :: l2) st h := wz_lload_n hd rfl k
theorem q_ald1 {w0 : Option Value} {g j : Nat} {l2 : List (Option Value)} (hd : decode M.2.1 pc = .ok (.aload_n 1, 1)) (k : wg E PP M ce sl Z (pc + 1) (w0 :: some (rf g j) :: l2) (rf g j :: st) h) : wg E PP M ce sl Z pc (w0 :: some (rf g j) :: l2) st h := wz_aloadR_n hd rfl k
theorem okS_1 {w0 : Option Value} {l2 : List (Option Value)} (ho : okW w0 = true) : okS (w0 :: l2) 1 = true := by
  cases w0 with
  | none => rfl
  | some v => cases v <;> first | rfl | cases ho
theorem q_ist1 {w0 : Option Value} {u : Option Value} {x : Int32} {l2 : List (Option Value)} (hd : decode M.2.1 pc = .ok (.istore_n 1, 1)) (hn : 1 < M.2.2.1) (ho : okW w0 = true) (k : wg E PP M ce sl Z (pc + 1) (w0 :: some (.int x) :: l2) st h) : wg E PP M ce sl Z pc (w0 :: u :: l2) (.int x :: st) h := wz_istore_n hd hn (okS_1 ho) rfl k
theorem q_ast1 {w0 : Option Value} {u : Option Value} {g j : Nat} {l2 : List (Option Value)} (hd : decode M.2.1 pc = .ok (.astore_n 1, 1)) (hn : 1 < M.2.2.1) (ho : okW w0 = true) (k : wg E PP M ce sl Z (pc + 1) (w0 :: some (rf g j) :: l2) st h) : wg E PP M ce sl Z pc (w0 :: u :: l2) (rf g j :: st) h := wz_astoreR_n hd hn (okS_1 ho) rfl k
theorem q_inc1 {w0 : Option Value} {n : Int} {x v : Int32} {l2 : List (Option Value)} (hd : decode M.2.1 pc = .ok (.iinc 1 n, 3)) (hv : x + Int32.ofInt n = v) (hn : 1 < M.2.2.1) (ho : okW w0 = true) (k : wg E PP M ce sl Z (pc + 3) (w0 :: some (.int v) :: l2) st h) : wg E PP M ce sl Z pc (w0 :: some (.int x) :: l2) st h := wz_iinc hd rfl hv hn (okS_1 ho) rfl k
theorem q_ild2 {w0 w1 : Option Value} {x : Int32} {l2 : List (Option Value)} (hd : decode M.2.1 pc = .ok (.iload_n 2, 1)) (k : wg E PP M ce sl Z (pc + 1) (w0 :: w1 :: some (.int x) :: l2) (.int x :: st) h) : wg E PP M ce sl Z pc (w0 :: w1 :: some (.int x) :: l2) st h := wz_iload_n hd rfl k
theorem q_lld2 {w0 w1 : Option Value} {x : Int64} {l2 : List (Option Value)} (hd : decode M.2.1 pc = .ok (.lload_n 2, 1)) (k : wg E PP M ce sl Z (pc + 1) (w0 :: w1 :: some (.long x) :: l2) (.long x :: st) h) : wg E PP M ce sl Z pc (w0 :: w1 :: some (.long x) :: l2) st h := wz_lload_n hd rfl k
theorem q_ald2 {w0 w1 : Option Value} {g j : Nat} {l2 : List (Option Value)} (hd : decode M.2.1 pc = .ok (.aload_n 2, 1)) (k : wg E PP M ce sl Z (pc + 1) (w0 :: w1 :: some (rf g j) :: l2) (rf g j :: st) h) : wg E PP M ce sl Z pc (w0 :: w1 :: some (rf g j) :: l2) st h := wz_aloadR_n hd rfl k
theorem okS_2 {w0 w1 : Option Value} {l2 : List (Option Value)} (ho : okW w1 = true) : okS (w0 :: w1 :: l2) 2 = true := by
  cases w1 with
  | none => rfl
  | some v => cases v <;> first | rfl | cases ho
theorem q_ist2 {w0 w1 : Option Value} {u : Option Value} {x : Int32} {l2 : List (Option Value)} (hd : decode M.2.1 pc = .ok (.istore_n 2, 1)) (hn : 2 < M.2.2.1) (ho : okW w1 = true) (k : wg E PP M ce sl Z (pc + 1) (w0 :: w1 :: some (.int x) :: l2) st h) : wg E PP M ce sl Z pc (w0 :: w1 :: u :: l2) (.int x :: st) h := wz_istore_n hd hn (okS_2 ho) rfl k
theorem q_ast2 {w0 w1 : Option Value} {u : Option Value} {g j : Nat} {l2 : List (Option Value)} (hd : decode M.2.1 pc = .ok (.astore_n 2, 1)) (hn : 2 < M.2.2.1) (ho : okW w1 = true) (k : wg E PP M ce sl Z (pc + 1) (w0 :: w1 :: some (rf g j) :: l2) st h) : wg E PP M ce sl Z pc (w0 :: w1 :: u :: l2) (rf g j :: st) h := wz_astoreR_n hd hn (okS_2 ho) rfl k
theorem q_inc2 {w0 w1 : Option Value} {n : Int} {x v : Int32} {l2 : List (Option Value)} (hd : decode M.2.1 pc = .ok (.iinc 2 n, 3)) (hv : x + Int32.ofInt n = v) (hn : 2 < M.2.2.1) (ho : okW w1 = true) (k : wg E PP M ce sl Z (pc + 3) (w0 :: w1 :: some (.int v) :: l2) st h) : wg E PP M ce sl Z pc (w0 :: w1 :: some (.int x) :: l2) st h := wz_iinc hd rfl hv hn (okS_2 ho) rfl k
theorem q_ild3 {w0 w1 w2 : Option Value} {x : Int32} {l2 : List (Option Value)} (hd : decode M.2.1 pc = .ok (.iload_n 3, 1)) (k : wg E PP M ce sl Z (pc + 1) (w0 :: w1 :: w2 :: some (.int x) :: l2) (.int x :: st) h) : wg E PP M ce sl Z pc (w0 :: w1 :: w2 :: some (.int x) :: l2) st h := wz_iload_n hd rfl k
theorem q_lld3 {w0 w1 w2 : Option Value} {x : Int64} {l2 : List (Option Value)} (hd : decode M.2.1 pc = .ok (.lload_n 3, 1)) (k : wg E PP M ce sl Z (pc + 1) (w0 :: w1 :: w2 :: some (.long x) :: l2) (.long x :: st) h) : wg E PP M ce sl Z pc (w0 :: w1 :: w2 :: some (.long x) :: l2) st h := wz_lload_n hd rfl k
theorem q_ald3 {w0 w1 w2 : Option Value} {g j : Nat} {l2 : List (Option Value)} (hd : decode M.2.1 pc = .ok (.aload_n 3, 1)) (k : wg E PP M ce sl Z (pc + 1) (w0 :: w1 :: w2 :: some (rf g j) :: l2) (rf g j :: st) h) : wg E PP M ce sl Z pc (w0 :: w1 :: w2 :: some (rf g j) :: l2) st h := wz_aloadR_n hd rfl k
theorem okS_3 {w0 w1 w2 : Option Value} {l2 : List (Option Value)} (ho : okW w2 = true) : okS (w0 :: w1 :: w2 :: l2) 3 = true := by
  cases w2 with
  | none => rfl
  | some v => cases v <;> first | rfl | cases ho
theorem q_ist3 {w0 w1 w2 : Option Value} {u : Option Value} {x : Int32} {l2 : List (Option Value)} (hd : decode M.2.1 pc = .ok (.istore_n 3, 1)) (hn : 3 < M.2.2.1) (ho : okW w2 = true) (k : wg E PP M ce sl Z (pc + 1) (w0 :: w1 :: w2 :: some (.int x) :: l2) st h) : wg E PP M ce sl Z pc (w0 :: w1 :: w2 :: u :: l2) (.int x :: st) h := wz_istore_n hd hn (okS_3 ho) rfl k
theorem q_ast3 {w0 w1 w2 : Option Value} {u : Option Value} {g j : Nat} {l2 : List (Option Value)} (hd : decode M.2.1 pc = .ok (.astore_n 3, 1)) (hn : 3 < M.2.2.1) (ho : okW w2 = true) (k : wg E PP M ce sl Z (pc + 1) (w0 :: w1 :: w2 :: some (rf g j) :: l2) st h) : wg E PP M ce sl Z pc (w0 :: w1 :: w2 :: u :: l2) (rf g j :: st) h := wz_astoreR_n hd hn (okS_3 ho) rfl k
theorem q_inc3 {w0 w1 w2 : Option Value} {n : Int} {x v : Int32} {l2 : List (Option Value)} (hd : decode M.2.1 pc = .ok (.iinc 3 n, 3)) (hv : x + Int32.ofInt n = v) (hn : 3 < M.2.2.1) (ho : okW w2 = true) (k : wg E PP M ce sl Z (pc + 3) (w0 :: w1 :: w2 :: some (.int v) :: l2) st h) : wg E PP M ce sl Z pc (w0 :: w1 :: w2 :: some (.int x) :: l2) st h := wz_iinc hd rfl hv hn (okS_3 ho) rfl k
theorem q_ild4 {w0 w1 w2 w3 : Option Value} {x : Int32} {l2 : List (Option Value)} (hd : decode M.2.1 pc = .ok (.iload 4, 2)) (k : wg E PP M ce sl Z (pc + 2) (w0 :: w1 :: w2 :: w3 :: some (.int x) :: l2) (.int x :: st) h) : wg E PP M ce sl Z pc (w0 :: w1 :: w2 :: w3 :: some (.int x) :: l2) st h := wz_iload hd rfl k
theorem q_lld4 {w0 w1 w2 w3 : Option Value} {x : Int64} {l2 : List (Option Value)} (hd : decode M.2.1 pc = .ok (.lload 4, 2)) (k : wg E PP M ce sl Z (pc + 2) (w0 :: w1 :: w2 :: w3 :: some (.long x) :: l2) (.long x :: st) h) : wg E PP M ce sl Z pc (w0 :: w1 :: w2 :: w3 :: some (.long x) :: l2) st h := wz_lload hd rfl k
theorem q_ald4 {w0 w1 w2 w3 : Option Value} {g j : Nat} {l2 : List (Option Value)} (hd : decode M.2.1 pc = .ok (.aload 4, 2)) (k : wg E PP M ce sl Z (pc + 2) (w0 :: w1 :: w2 :: w3 :: some (rf g j) :: l2) (rf g j :: st) h) : wg E PP M ce sl Z pc (w0 :: w1 :: w2 :: w3 :: some (rf g j) :: l2) st h := wz_aloadR hd rfl k
theorem okS_4 {w0 w1 w2 w3 : Option Value} {l2 : List (Option Value)} (ho : okW w3 = true) : okS (w0 :: w1 :: w2 :: w3 :: l2) 4 = true := by
  cases w3 with
  | none => rfl
  | some v => cases v <;> first | rfl | cases ho
theorem q_ist4 {w0 w1 w2 w3 : Option Value} {u : Option Value} {x : Int32} {l2 : List (Option Value)} (hd : decode M.2.1 pc = .ok (.istore 4, 2)) (hn : 4 < M.2.2.1) (ho : okW w3 = true) (k : wg E PP M ce sl Z (pc + 2) (w0 :: w1 :: w2 :: w3 :: some (.int x) :: l2) st h) : wg E PP M ce sl Z pc (w0 :: w1 :: w2 :: w3 :: u :: l2) (.int x :: st) h := wz_istore hd hn (okS_4 ho) rfl k
theorem q_ast4 {w0 w1 w2 w3 : Option Value} {u : Option Value} {g j : Nat} {l2 : List (Option Value)} (hd : decode M.2.1 pc = .ok (.astore 4, 2)) (hn : 4 < M.2.2.1) (ho : okW w3 = true) (k : wg E PP M ce sl Z (pc + 2) (w0 :: w1 :: w2 :: w3 :: some (rf g j) :: l2) st h) : wg E PP M ce sl Z pc (w0 :: w1 :: w2 :: w3 :: u :: l2) (rf g j :: st) h := wz_astoreR hd hn (okS_4 ho) rfl k
theorem q_inc4 {w0 w1 w2 w3 : Option Value} {n : Int} {x v : Int32} {l2 : List (Option Value)} (hd : decode M.2.1 pc = .ok (.iinc 4 n, 3)) (hv : x + Int32.ofInt n = v) (hn : 4 < M.2.2.1) (ho : okW w3 = true) (k : wg E PP M ce sl Z (pc + 3) (w0 :: w1 :: w2 :: w3 :: some (.int v) :: l2) st h) : wg E PP M ce sl Z pc (w0 :: w1 :: w2 :: w3 :: some (.int x) :: l2) st h := wz_iinc hd rfl hv hn (okS_4 ho) rfl k
theorem q_ild5 {w0 w1 w2 w3 w4 : Option Value} {x : Int32} {l2 : List (Option Value)} (hd : decode M.2.1 pc = .ok (.iload 5, 2)) (k : wg E PP M ce sl Z (pc + 2) (w0 :: w1 :: w2 :: w3 :: w4 :: some (.int x) :: l2) (.int x :: st) h) : wg E PP M ce sl Z pc (w0 :: w1 :: w2 :: w3 :: w4 :: some (.int x) :: l2) st h := wz_iload hd rfl k
theorem q_lld5 {w0 w1 w2 w3 w4 : Option Value} {x : Int64} {l2 : List (Option Value)} (hd : decode M.2.1 pc = .ok (.lload 5, 2)) (k : wg E PP M ce sl Z (pc + 2) (w0 :: w1 :: w2 :: w3 :: w4 :: some (.long x) :: l2) (.long x :: st) h) : wg E PP M ce sl Z pc (w0 :: w1 :: w2 :: w3 :: w4 :: some (.long x) :: l2) st h := wz_lload hd rfl k
theorem q_ald5 {w0 w1 w2 w3 w4 : Option Value} {g j : Nat} {l2 : List (Option Value)} (hd : decode M.2.1 pc = .ok (.aload 5, 2)) (k : wg E PP M ce sl Z (pc + 2) (w0 :: w1 :: w2 :: w3 :: w4 :: some (rf g j) :: l2) (rf g j :: st) h) : wg E PP M ce sl Z pc (w0 :: w1 :: w2 :: w3 :: w4 :: some (rf g j) :: l2) st h := wz_aloadR hd rfl k
theorem okS_5 {w0 w1 w2 w3 w4 : Option Value} {l2 : List (Option Value)} (ho : okW w4 = true) : okS (w0 :: w1 :: w2 :: w3 :: w4 :: l2) 5 = true := by
  cases w4 with
  | none => rfl
  | some v => cases v <;> first | rfl | cases ho
theorem q_ist5 {w0 w1 w2 w3 w4 : Option Value} {u : Option Value} {x : Int32} {l2 : List (Option Value)} (hd : decode M.2.1 pc = .ok (.istore 5, 2)) (hn : 5 < M.2.2.1) (ho : okW w4 = true) (k : wg E PP M ce sl Z (pc + 2) (w0 :: w1 :: w2 :: w3 :: w4 :: some (.int x) :: l2) st h) : wg E PP M ce sl Z pc (w0 :: w1 :: w2 :: w3 :: w4 :: u :: l2) (.int x :: st) h := wz_istore hd hn (okS_5 ho) rfl k
theorem q_ast5 {w0 w1 w2 w3 w4 : Option Value} {u : Option Value} {g j : Nat} {l2 : List (Option Value)} (hd : decode M.2.1 pc = .ok (.astore 5, 2)) (hn : 5 < M.2.2.1) (ho : okW w4 = true) (k : wg E PP M ce sl Z (pc + 2) (w0 :: w1 :: w2 :: w3 :: w4 :: some (rf g j) :: l2) st h) : wg E PP M ce sl Z pc (w0 :: w1 :: w2 :: w3 :: w4 :: u :: l2) (rf g j :: st) h := wz_astoreR hd hn (okS_5 ho) rfl k
theorem q_inc5 {w0 w1 w2 w3 w4 : Option Value} {n : Int} {x v : Int32} {l2 : List (Option Value)} (hd : decode M.2.1 pc = .ok (.iinc 5 n, 3)) (hv : x + Int32.ofInt n = v) (hn : 5 < M.2.2.1) (ho : okW w4 = true) (k : wg E PP M ce sl Z (pc + 3) (w0 :: w1 :: w2 :: w3 :: w4 :: some (.int v) :: l2) st h) : wg E PP M ce sl Z pc (w0 :: w1 :: w2 :: w3 :: w4 :: some (.int x) :: l2) st h := wz_iinc hd rfl hv hn (okS_5 ho) rfl k
theorem q_ild6 {w0 w1 w2 w3 w4 w5 : Option Value} {x : Int32} {l2 : List (Option Value)} (hd : decode M.2.1 pc = .ok (.iload 6, 2)) (k : wg E PP M ce sl Z (pc + 2) (w0 :: w1 :: w2 :: w3 :: w4 :: w5 :: some (.int x) :: l2) (.int x :: st) h) : wg E PP M ce sl Z pc (w0 :: w1 :: w2 :: w3 :: w4 :: w5 :: some (.int x) :: l2) st h := wz_iload hd rfl k
theorem q_lld6 {w0 w1 w2 w3 w4 w5 : Option Value} {x : Int64} {l2 : List (Option Value)} (hd : decode M.2.1 pc = .ok (.lload 6, 2)) (k : wg E PP M ce sl Z (pc + 2) (w0 :: w1 :: w2 :: w3 :: w4 :: w5 :: some (.long x) :: l2) (.long x :: st) h) : wg E PP M ce sl Z pc (w0 :: w1 :: w2 :: w3 :: w4 :: w5 :: some (.long x) :: l2) st h := wz_lload hd rfl k
theorem q_ald6 {w0 w1 w2 w3 w4 w5 : Option Value} {g j : Nat} {l2 : List (Option Value)} (hd : decode M.2.1 pc = .ok (.aload 6, 2)) (k : wg E PP M ce sl Z (pc + 2) (w0 :: w1 :: w2 :: w3 :: w4 :: w5 :: some (rf g j) :: l2) (rf g j :: st) h) : wg E PP M ce sl Z pc (w0 :: w1 :: w2 :: w3 :: w4 :: w5 :: some (rf g j) :: l2) st h := wz_aloadR hd rfl k
theorem okS_6 {w0 w1 w2 w3 w4 w5 : Option Value} {l2 : List (Option Value)} (ho : okW w5 = true) : okS (w0 :: w1 :: w2 :: w3 :: w4 :: w5 :: l2) 6 = true := by
  cases w5 with
  | none => rfl
  | some v => cases v <;> first | rfl | cases ho
theorem q_ist6 {w0 w1 w2 w3 w4 w5 : Option Value} {u : Option Value} {x : Int32} {l2 : List (Option Value)} (hd : decode M.2.1 pc = .ok (.istore 6, 2)) (hn : 6 < M.2.2.1) (ho : okW w5 = true) (k : wg E PP M ce sl Z (pc + 2) (w0 :: w1 :: w2 :: w3 :: w4 :: w5 :: some (.int x) :: l2) st h) : wg E PP M ce sl Z pc (w0 :: w1 :: w2 :: w3 :: w4 :: w5 :: u :: l2) (.int x :: st) h := wz_istore hd hn (okS_6 ho) rfl k
theorem q_ast6 {w0 w1 w2 w3 w4 w5 : Option Value} {u : Option Value} {g j : Nat} {l2 : List (Option Value)} (hd : decode M.2.1 pc = .ok (.astore 6, 2)) (hn : 6 < M.2.2.1) (ho : okW w5 = true) (k : wg E PP M ce sl Z (pc + 2) (w0 :: w1 :: w2 :: w3 :: w4 :: w5 :: some (rf g j) :: l2) st h) : wg E PP M ce sl Z pc (w0 :: w1 :: w2 :: w3 :: w4 :: w5 :: u :: l2) (rf g j :: st) h := wz_astoreR hd hn (okS_6 ho) rfl k
theorem q_inc6 {w0 w1 w2 w3 w4 w5 : Option Value} {n : Int} {x v : Int32} {l2 : List (Option Value)} (hd : decode M.2.1 pc = .ok (.iinc 6 n, 3)) (hv : x + Int32.ofInt n = v) (hn : 6 < M.2.2.1) (ho : okW w5 = true) (k : wg E PP M ce sl Z (pc + 3) (w0 :: w1 :: w2 :: w3 :: w4 :: w5 :: some (.int v) :: l2) st h) : wg E PP M ce sl Z pc (w0 :: w1 :: w2 :: w3 :: w4 :: w5 :: some (.int x) :: l2) st h := wz_iinc hd rfl hv hn (okS_6 ho) rfl k
theorem q_ild7 {w0 w1 w2 w3 w4 w5 w6 : Option Value} {x : Int32} {l2 : List (Option Value)} (hd : decode M.2.1 pc = .ok (.iload 7, 2)) (k : wg E PP M ce sl Z (pc + 2) (w0 :: w1 :: w2 :: w3 :: w4 :: w5 :: w6 :: some (.int x) :: l2) (.int x :: st) h) : wg E PP M ce sl Z pc (w0 :: w1 :: w2 :: w3 :: w4 :: w5 :: w6 :: some (.int x) :: l2) st h := wz_iload hd rfl k
theorem q_lld7 {w0 w1 w2 w3 w4 w5 w6 : Option Value} {x : Int64} {l2 : List (Option Value)} (hd : decode M.2.1 pc = .ok (.lload 7, 2)) (k : wg E PP M ce sl Z (pc + 2) (w0 :: w1 :: w2 :: w3 :: w4 :: w5 :: w6 :: some (.long x) :: l2) (.long x :: st) h) : wg E PP M ce sl Z pc (w0 :: w1 :: w2 :: w3 :: w4 :: w5 :: w6 :: some (.long x) :: l2) st h := wz_lload hd rfl k
theorem q_ald7 {w0 w1 w2 w3 w4 w5 w6 : Option Value} {g j : Nat} {l2 : List (Option Value)} (hd : decode M.2.1 pc = .ok (.aload 7, 2)) (k : wg E PP M ce sl Z (pc + 2) (w0 :: w1 :: w2 :: w3 :: w4 :: w5 :: w6 :: some (rf g j) :: l2) (rf g j :: st) h) : wg E PP M ce sl Z pc (w0 :: w1 :: w2 :: w3 :: w4 :: w5 :: w6 :: some (rf g j) :: l2) st h := wz_aloadR hd rfl k
theorem okS_7 {w0 w1 w2 w3 w4 w5 w6 : Option Value} {l2 : List (Option Value)} (ho : okW w6 = true) : okS (w0 :: w1 :: w2 :: w3 :: w4 :: w5 :: w6 :: l2) 7 = true := by
  cases w6 with
  | none => rfl
  | some v => cases v <;> first | rfl | cases ho
theorem q_ist7 {w0 w1 w2 w3 w4 w5 w6 : Option Value} {u : Option Value} {x : Int32} {l2 : List (Option Value)} (hd : decode M.2.1 pc = .ok (.istore 7, 2)) (hn : 7 < M.2.2.1) (ho : okW w6 = true) (k : wg E PP M ce sl Z (pc + 2) (w0 :: w1 :: w2 :: w3 :: w4 :: w5 :: w6 :: some (.int x) :: l2) st h) : wg E PP M ce sl Z pc (w0 :: w1 :: w2 :: w3 :: w4 :: w5 :: w6 :: u :: l2) (.int x :: st) h := wz_istore hd hn (okS_7 ho) rfl k
theorem q_ast7 {w0 w1 w2 w3 w4 w5 w6 : Option Value} {u : Option Value} {g j : Nat} {l2 : List (Option Value)} (hd : decode M.2.1 pc = .ok (.astore 7, 2)) (hn : 7 < M.2.2.1) (ho : okW w6 = true) (k : wg E PP M ce sl Z (pc + 2) (w0 :: w1 :: w2 :: w3 :: w4 :: w5 :: w6 :: some (rf g j) :: l2) st h) : wg E PP M ce sl Z pc (w0 :: w1 :: w2 :: w3 :: w4 :: w5 :: w6 :: u :: l2) (rf g j :: st) h := wz_astoreR hd hn (okS_7 ho) rfl k
theorem q_inc7 {w0 w1 w2 w3 w4 w5 w6 : Option Value} {n : Int} {x v : Int32} {l2 : List (Option Value)} (hd : decode M.2.1 pc = .ok (.iinc 7 n, 3)) (hv : x + Int32.ofInt n = v) (hn : 7 < M.2.2.1) (ho : okW w6 = true) (k : wg E PP M ce sl Z (pc + 3) (w0 :: w1 :: w2 :: w3 :: w4 :: w5 :: w6 :: some (.int v) :: l2) st h) : wg E PP M ce sl Z pc (w0 :: w1 :: w2 :: w3 :: w4 :: w5 :: w6 :: some (.int x) :: l2) st h := wz_iinc hd rfl hv hn (okS_7 ho) rfl k
theorem q_ild8 {w0 w1 w2 w3 w4 w5 w6 w7 : Option Value} {x : Int32} {l2 : List (Option Value)} (hd : decode M.2.1 pc = .ok (.iload 8, 2)) (k : wg E PP M ce sl Z (pc + 2) (w0 :: w1 :: w2 :: w3 :: w4 :: w5 :: w6 :: w7 :: some (.int x) :: l2) (.int x :: st) h) : wg E PP M ce sl Z pc (w0 :: w1 :: w2 :: w3 :: w4 :: w5 :: w6 :: w7 :: some (.int x) :: l2) st h := wz_iload hd rfl k
theorem q_lld8 {w0 w1 w2 w3 w4 w5 w6 w7 : Option Value} {x : Int64} {l2 : List (Option Value)} (hd : decode M.2.1 pc = .ok (.lload 8, 2)) (k : wg E PP M ce sl Z (pc + 2) (w0 :: w1 :: w2 :: w3 :: w4 :: w5 :: w6 :: w7 :: some (.long x) :: l2) (.long x :: st) h) : wg E PP M ce sl Z pc (w0 :: w1 :: w2 :: w3 :: w4 :: w5 :: w6 :: w7 :: some (.long x) :: l2) st h := wz_lload hd rfl k
theorem q_ald8 {w0 w1 w2 w3 w4 w5 w6 w7 : Option Value} {g j : Nat} {l2 : List (Option Value)} (hd : decode M.2.1 pc = .ok (.aload 8, 2)) (k : wg E PP M ce sl Z (pc + 2) (w0 :: w1 :: w2 :: w3 :: w4 :: w5 :: w6 :: w7 :: some (rf g j) :: l2) (rf g j :: st) h) : wg E PP M ce sl Z pc (w0 :: w1 :: w2 :: w3 :: w4 :: w5 :: w6 :: w7 :: some (rf g j) :: l2) st h := wz_aloadR hd rfl k
theorem okS_8 {w0 w1 w2 w3 w4 w5 w6 w7 : Option Value} {l2 : List (Option Value)} (ho : okW w7 = true) : okS (w0 :: w1 :: w2 :: w3 :: w4 :: w5 :: w6 :: w7 :: l2) 8 = true := by
  cases w7 with
  | none => rfl
  | some v => cases v <;> first | rfl | cases ho
theorem q_ist8 {w0 w1 w2 w3 w4 w5 w6 w7 : Option Value} {u : Option Value} {x : Int32} {l2 : List (Option Value)} (hd : decode M.2.1 pc = .ok (.istore 8, 2)) (hn : 8 < M.2.2.1) (ho : okW w7 = true) (k : wg E PP M ce sl Z (pc + 2) (w0 :: w1 :: w2 :: w3 :: w4 :: w5 :: w6 :: w7 :: some (.int x) :: l2) st h) : wg E PP M ce sl Z pc (w0 :: w1 :: w2 :: w3 :: w4 :: w5 :: w6 :: w7 :: u :: l2) (.int x :: st) h := wz_istore hd hn (okS_8 ho) rfl k
theorem q_ast8 {w0 w1 w2 w3 w4 w5 w6 w7 : Option Value} {u : Option Value} {g j : Nat} {l2 : List (Option Value)} (hd : decode M.2.1 pc = .ok (.astore 8, 2)) (hn : 8 < M.2.2.1) (ho : okW w7 = true) (k : wg E PP M ce sl Z (pc + 2) (w0 :: w1 :: w2 :: w3 :: w4 :: w5 :: w6 :: w7 :: some (rf g j) :: l2) st h) : wg E PP M ce sl Z pc (w0 :: w1 :: w2 :: w3 :: w4 :: w5 :: w6 :: w7 :: u :: l2) (rf g j :: st) h := wz_astoreR hd hn (okS_8 ho) rfl k
theorem q_inc8 {w0 w1 w2 w3 w4 w5 w6 w7 : Option Value} {n : Int} {x v : Int32} {l2 : List (Option Value)} (hd : decode M.2.1 pc = .ok (.iinc 8 n, 3)) (hv : x + Int32.ofInt n = v) (hn : 8 < M.2.2.1) (ho : okW w7 = true) (k : wg E PP M ce sl Z (pc + 3) (w0 :: w1 :: w2 :: w3 :: w4 :: w5 :: w6 :: w7 :: some (.int v) :: l2) st h) : wg E PP M ce sl Z pc (w0 :: w1 :: w2 :: w3 :: w4 :: w5 :: w6 :: w7 :: some (.int x) :: l2) st h := wz_iinc hd rfl hv hn (okS_8 ho) rfl k
theorem q_ild9 {w0 w1 w2 w3 w4 w5 w6 w7 w8 : Option Value} {x : Int32} {l2 : List (Option Value)} (hd : decode M.2.1 pc = .ok (.iload 9, 2)) (k : wg E PP M ce sl Z (pc + 2) (w0 :: w1 :: w2 :: w3 :: w4 :: w5 :: w6 :: w7 :: w8 :: some (.int x) :: l2) (.int x :: st) h) : wg E PP M ce sl Z pc (w0 :: w1 :: w2 :: w3 :: w4 :: w5 :: w6 :: w7 :: w8 :: some (.int x) :: l2) st h := wz_iload hd rfl k
theorem q_lld9 {w0 w1 w2 w3 w4 w5 w6 w7 w8 : Option Value} {x : Int64} {l2 : List (Option Value)} (hd : decode M.2.1 pc = .ok (.lload 9, 2)) (k : wg E PP M ce sl Z (pc + 2) (w0 :: w1 :: w2 :: w3 :: w4 :: w5 :: w6 :: w7 :: w8 :: some (.long x) :: l2) (.long x :: st) h) : wg E PP M ce sl Z pc (w0 :: w1 :: w2 :: w3 :: w4 :: w5 :: w6 :: w7 :: w8 :: some (.long x) :: l2) st h := wz_lload hd rfl k
theorem q_ald9 {w0 w1 w2 w3 w4 w5 w6 w7 w8 : Option Value} {g j : Nat} {l2 : List (Option Value)} (hd : decode M.2.1 pc = .ok (.aload 9, 2)) (k : wg E PP M ce sl Z (pc + 2) (w0 :: w1 :: w2 :: w3 :: w4 :: w5 :: w6 :: w7 :: w8 :: some (rf g j) :: l2) (rf g j :: st) h) : wg E PP M ce sl Z pc (w0 :: w1 :: w2 :: w3 :: w4 :: w5 :: w6 :: w7 :: w8 :: some (rf g j) :: l2) st h := wz_aloadR hd rfl k
theorem okS_9 {w0 w1 w2 w3 w4 w5 w6 w7 w8 : Option Value} {l2 : List (Option Value)} (ho : okW w8 = true) : okS (w0 :: w1 :: w2 :: w3 :: w4 :: w5 :: w6 :: w7 :: w8 :: l2) 9 = true := by
  cases w8 with
  | none => rfl
  | some v => cases v <;> first | rfl | cases ho
theorem q_ist9 {w0 w1 w2 w3 w4 w5 w6 w7 w8 : Option Value} {u : Option Value} {x : Int32} {l2 : List (Option Value)} (hd : decode M.2.1 pc = .ok (.istore 9, 2)) (hn : 9 < M.2.2.1) (ho : okW w8 = true) (k : wg E PP M ce sl Z (pc + 2) (w0 :: w1 :: w2 :: w3 :: w4 :: w5 :: w6 :: w7 :: w8 :: some (.int x) :: l2) st h) : wg E PP M ce sl Z pc (w0 :: w1 :: w2 :: w3 :: w4 :: w5 :: w6 :: w7 :: w8 :: u :: l2) (.int x :: st) h := wz_istore hd hn (okS_9 ho) rfl k
theorem q_ast9 {w0 w1 w2 w3 w4 w5 w6 w7 w8 : Option Value} {u : Option Value} {g j : Nat} {l2 : List (Option Value)} (hd : decode M.2.1 pc = .ok (.astore 9, 2)) (hn : 9 < M.2.2.1) (ho : okW w8 = true) (k : wg E PP M ce sl Z (pc + 2) (w0 :: w1 :: w2 :: w3 :: w4 :: w5 :: w6 :: w7 :: w8 :: some (rf g j) :: l2) st h) : wg E PP M ce sl Z pc (w0 :: w1 :: w2 :: w3 :: w4 :: w5 :: w6 :: w7 :: w8 :: u :: l2) (rf g j :: st) h := wz_astoreR hd hn (okS_9 ho) rfl k
theorem q_inc9 {w0 w1 w2 w3 w4 w5 w6 w7 w8 : Option Value} {n : Int} {x v : Int32} {l2 : List (Option Value)} (hd : decode M.2.1 pc = .ok (.iinc 9 n, 3)) (hv : x + Int32.ofInt n = v) (hn : 9 < M.2.2.1) (ho : okW w8 = true) (k : wg E PP M ce sl Z (pc + 3) (w0 :: w1 :: w2 :: w3 :: w4 :: w5 :: w6 :: w7 :: w8 :: some (.int v) :: l2) st h) : wg E PP M ce sl Z pc (w0 :: w1 :: w2 :: w3 :: w4 :: w5 :: w6 :: w7 :: w8 :: some (.int x) :: l2) st h := wz_iinc hd rfl hv hn (okS_9 ho) rfl k
theorem q_ild10 {w0 w1 w2 w3 w4 w5 w6 w7 w8 w9 : Option Value} {x : Int32} {l2 : List (Option Value)} (hd : decode M.2.1 pc = .ok (.iload 10, 2)) (k : wg E PP M ce sl Z (pc + 2) (w0 :: w1 :: w2 :: w3 :: w4 :: w5 :: w6 :: w7 :: w8 :: w9 :: some (.int x) :: l2) (.int x :: st) h) : wg E PP M ce sl Z pc (w0 :: w1 :: w2 :: w3 :: w4 :: w5 :: w6 :: w7 :: w8 :: w9 :: some (.int x) :: l2) st h := wz_iload hd rfl k
theorem q_lld10 {w0 w1 w2 w3 w4 w5 w6 w7 w8 w9 : Option Value} {x : Int64} {l2 : List (Option Value)} (hd : decode M.2.1 pc = .ok (.lload 10, 2)) (k : wg E PP M ce sl Z (pc + 2) (w0 :: w1 :: w2 :: w3 :: w4 :: w5 :: w6 :: w7 :: w8 :: w9 :: some (.long x) :: l2) (.long x :: st) h) : wg E PP M ce sl Z pc (w0 :: w1 :: w2 :: w3 :: w4 :: w5 :: w6 :: w7 :: w8 :: w9 :: some (.long x) :: l2) st h := wz_lload hd rfl k
theorem q_ald10 {w0 w1 w2 w3 w4 w5 w6 w7 w8 w9 : Option Value} {g j : Nat} {l2 : List (Option Value)} (hd : decode M.2.1 pc = .ok (.aload 10, 2)) (k : wg E PP M ce sl Z (pc + 2) (w0 :: w1 :: w2 :: w3 :: w4 :: w5 :: w6 :: w7 :: w8 :: w9 :: some (rf g j) :: l2) (rf g j :: st) h) : wg E PP M ce sl Z pc (w0 :: w1 :: w2 :: w3 :: w4 :: w5 :: w6 :: w7 :: w8 :: w9 :: some (rf g j) :: l2) st h := wz_aloadR hd rfl k
theorem okS_10 {w0 w1 w2 w3 w4 w5 w6 w7 w8 w9 : Option Value} {l2 : List (Option Value)} (ho : okW w9 = true) : okS (w0 :: w1 :: w2 :: w3 :: w4 :: w5 :: w6 :: w7 :: w8 :: w9 :: l2) 10 = true := by
  cases w9 with
  | none => rfl
  | some v => cases v <;> first | rfl | cases ho
theorem q_ist10 {w0 w1 w2 w3 w4 w5 w6 w7 w8 w9 : Option Value} {u : Option Value} {x : Int32} {l2 : List (Option Value)} (hd : decode M.2.1 pc = .ok (.istore 10, 2)) (hn : 10 < M.2.2.1) (ho : okW w9 = true) (k : wg E PP M ce sl Z (pc + 2) (w0 :: w1 :: w2 :: w3 :: w4 :: w5 :: w6 :: w7 :: w8 :: w9 :: some (.int x) :: l2) st h) : wg E PP M ce sl Z pc (w0 :: w1 :: w2 :: w3 :: w4 :: w5 :: w6 :: w7 :: w8 :: w9 :: u :: l2) (.int x :: st) h := wz_istore hd hn (okS_10 ho) rfl k
theorem q_ast10 {w0 w1 w2 w3 w4 w5 w6 w7 w8 w9 : Option Value} {u : Option Value} {g j : Nat} {l2 : List (Option Value)} (hd : decode M.2.1 pc = .ok (.astore 10, 2)) (hn : 10 < M.2.2.1) (ho : okW w9 = true) (k : wg E PP M ce sl Z (pc + 2) (w0 :: w1 :: w2 :: w3 :: w4 :: w5 :: w6 :: w7 :: w8 :: w9 :: some (rf g j) :: l2) st h) : wg E PP M ce sl Z pc (w0 :: w1 :: w2 :: w3 :: w4 :: w5 :: w6 :: w7 :: w8 :: w9 :: u :: l2) (rf g j :: st) h := wz_astoreR hd hn (okS_10 ho) rfl k
theorem q_inc10 {w0 w1 w2 w3 w4 w5 w6 w7 w8 w9 : Option Value} {n : Int} {x v : Int32} {l2 : List (Option Value)} (hd : decode M.2.1 pc = .ok (.iinc 10 n, 3)) (hv : x + Int32.ofInt n = v) (hn : 10 < M.2.2.1) (ho : okW w9 = true) (k : wg E PP M ce sl Z (pc + 3) (w0 :: w1 :: w2 :: w3 :: w4 :: w5 :: w6 :: w7 :: w8 :: w9 :: some (.int v) :: l2) st h) : wg E PP M ce sl Z pc (w0 :: w1 :: w2 :: w3 :: w4 :: w5 :: w6 :: w7 :: w8 :: w9 :: some (.int x) :: l2) st h := wz_iinc hd rfl hv hn (okS_10 ho) rfl k
theorem q_ild11 {w0 w1 w2 w3 w4 w5 w6 w7 w8 w9 w10 : Option Value} {x : Int32} {l2 : List (Option Value)} (hd : decode M.2.1 pc = .ok (.iload 11, 2)) (k : wg E PP M ce sl Z (pc + 2) (w0 :: w1 :: w2 :: w3 :: w4 :: w5 :: w6 :: w7 :: w8 :: w9 :: w10 :: some (.int x) :: l2) (.int x :: st) h) : wg E PP M ce sl Z pc (w0 :: w1 :: w2 :: w3 :: w4 :: w5 :: w6 :: w7 :: w8 :: w9 :: w10 :: some (.int x) :: l2) st h := wz_iload hd rfl k
theorem q_lld11 {w0 w1 w2 w3 w4 w5 w6 w7 w8 w9 w10 : Option Value} {x : Int64} {l2 : List (Option Value)} (hd : decode M.2.1 pc = .ok (.lload 11, 2)) (k : wg E PP M ce sl Z (pc + 2) (w0 :: w1 :: w2 :: w3 :: w4 :: w5 :: w6 :: w7 :: w8 :: w9 :: w10 :: some (.long x) :: l2) (.long x :: st) h) : wg E PP M ce sl Z pc (w0 :: w1 :: w2 :: w3 :: w4 :: w5 :: w6 :: w7 :: w8 :: w9 :: w10 :: some (.long x) :: l2) st h := wz_lload hd rfl k
theorem q_ald11 {w0 w1 w2 w3 w4 w5 w6 w7 w8 w9 w10 : Option Value} {g j : Nat} {l2 : List (Option Value)} (hd : decode M.2.1 pc = .ok (.aload 11, 2)) (k : wg E PP M ce sl Z (pc + 2) (w0 :: w1 :: w2 :: w3 :: w4 :: w5 :: w6 :: w7 :: w8 :: w9 :: w10 :: some (rf g j) :: l2) (rf g j :: st) h) : wg E PP M ce sl Z pc (w0 :: w1 :: w2 :: w3 :: w4 :: w5 :: w6 :: w7 :: w8 :: w9 :: w10 :: some (rf g j) :: l2) st h := wz_aloadR hd rfl k
theorem okS_11 {w0 w1 w2 w3 w4 w5 w6 w7 w8 w9 w10 : Option Value} {l2 : List (Option Value)} (ho : okW w10 = true) : okS (w0 :: w1 :: w2 :: w3 :: w4 :: w5 :: w6 :: w7 :: w8 :: w9 :: w10 :: l2) 11 = true := by
  cases w10 with
  | none => rfl
  | some v => cases v <;> first | rfl | cases ho
theorem q_ist11 {w0 w1 w2 w3 w4 w5 w6 w7 w8 w9 w10 : Option Value} {u : Option Value} {x : Int32} {l2 : List (Option Value)} (hd : decode M.2.1 pc = .ok (.istore 11, 2)) (hn : 11 < M.2.2.1) (ho : okW w10 = true) (k : wg E PP M ce sl Z (pc + 2) (w0 :: w1 :: w2 :: w3 :: w4 :: w5 :: w6 :: w7 :: w8 :: w9 :: w10 :: some (.int x) :: l2) st h) : wg E PP M ce sl Z pc (w0 :: w1 :: w2 :: w3 :: w4 :: w5 :: w6 :: w7 :: w8 :: w9 :: w10 :: u :: l2) (.int x :: st) h := wz_istore hd hn (okS_11 ho) rfl k
theorem q_ast11 {w0 w1 w2 w3 w4 w5 w6 w7 w8 w9 w10 : Option Value} {u : Option Value} {g j : Nat} {l2 : List (Option Value)} (hd : decode M.2.1 pc = .ok (.astore 11, 2)) (hn : 11 < M.2.2.1) (ho : okW w10 = true) (k : wg E PP M ce sl Z (pc + 2) (w0 :: w1 :: w2 :: w3 :: w4 :: w5 :: w6 :: w7 :: w8 :: w9 :: w10 :: some (rf g j) :: l2) st h) : wg E PP M ce sl Z pc (w0 :: w1 :: w2 :: w3 :: w4 :: w5 :: w6 :: w7 :: w8 :: w9 :: w10 :: u :: l2) (rf g j :: st) h := wz_astoreR hd hn (okS_11 ho) rfl k
theorem q_inc11 {w0 w1 w2 w3 w4 w5 w6 w7 w8 w9 w10 : Option Value} {n : Int} {x v : Int32} {l2 : List (Option Value)} (hd : decode M.2.1 pc = .ok (.iinc 11 n, 3)) (hv : x + Int32.ofInt n = v) (hn : 11 < M.2.2.1) (ho : okW w10 = true) (k : wg E PP M ce sl Z (pc + 3) (w0 :: w1 :: w2 :: w3 :: w4 :: w5 :: w6 :: w7 :: w8 :: w9 :: w10 :: some (.int v) :: l2) st h) : wg E PP M ce sl Z pc (w0 :: w1 :: w2 :: w3 :: w4 :: w5 :: w6 :: w7 :: w8 :: w9 :: w10 :: some (.int x) :: l2) st h := wz_iinc hd rfl hv hn (okS_11 ho) rfl k
theorem q_ild12 {w0 w1 w2 w3 w4 w5 w6 w7 w8 w9 w10 w11 : Option Value} {x : Int32} {l2 : List (Option Value)} (hd : decode M.2.1 pc = .ok (.iload 12, 2)) (k : wg E PP M ce sl Z (pc + 2) (w0 :: w1 :: w2 :: w3 :: w4 :: w5 :: w6 :: w7 :: w8 :: w9 :: w10 :: w11 :: some (.int x) :: l2) (.int x :: st) h) : wg E PP M ce sl Z pc (w0 :: w1 :: w2 :: w3 :: w4 :: w5 :: w6 :: w7 :: w8 :: w9 :: w10 :: w11 :: some (.int x) :: l2) st h := wz_iload hd rfl k
theorem q_lld12 {w0 w1 w2 w3 w4 w5 w6 w7 w8 w9 w10 w11 : Option Value} {x : Int64} {l2 : List (Option Value)} (hd : decode M.2.1 pc = .ok (.lload 12, 2)) (k : wg E PP M ce sl Z (pc + 2) (w0 :: w1 :: w2 :: w3 :: w4 :: w5 :: w6 :: w7 :: w8 :: w9 :: w10 :: w11 :: some (.long x) :: l2) (.long x :: st) h) : wg E PP M ce sl Z pc (w0 :: w1 :: w2 :: w3 :: w4 :: w5 :: w6 :: w7 :: w8 :: w9 :: w10 :: w11 :: some (.long x) :: l2) st h := wz_lload hd rfl k
theorem q_ald12 {w0 w1 w2 w3 w4 w5 w6 w7 w8 w9 w10 w11 : Option Value} {g j : Nat} {l2 : List (Option Value)} (hd : decode M.2.1 pc = .ok (.aload 12, 2)) (k : wg E PP M ce sl Z (pc + 2) (w0 :: w1 :: w2 :: w3 :: w4 :: w5 :: w6 :: w7 :: w8 :: w9 :: w10 :: w11 :: some (rf g j) :: l2) (rf g j :: st) h) : wg E PP M ce sl Z pc (w0 :: w1 :: w2 :: w3 :: w4 :: w5 :: w6 :: w7 :: w8 :: w9 :: w10 :: w11 :: some (rf g j) :: l2) st h := wz_aloadR hd rfl k
theorem okS_12 {w0 w1 w2 w3 w4 w5 w6 w7 w8 w9 w10 w11 : Option Value} {l2 : List (Option Value)} (ho : okW w11 = true) : okS (w0 :: w1 :: w2 :: w3 :: w4 :: w5 :: w6 :: w7 :: w8 :: w9 :: w10 :: w11 :: l2) 12 = true := by
  cases w11 with
  | none => rfl
  | some v => cases v <;> first | rfl | cases ho
theorem q_ist12 {w0 w1 w2 w3 w4 w5 w6 w7 w8 w9 w10 w11 : Option Value} {u : Option Value} {x : Int32} {l2 : List (Option Value)} (hd : decode M.2.1 pc = .ok (.istore 12, 2)) (hn : 12 < M.2.2.1) (ho : okW w11 = true) (k : wg E PP M ce sl Z (pc + 2) (w0 :: w1 :: w2 :: w3 :: w4 :: w5 :: w6 :: w7 :: w8 :: w9 :: w10 :: w11 :: some (.int x) :: l2) st h) : wg E PP M ce sl Z pc (w0 :: w1 :: w2 :: w3 :: w4 :: w5 :: w6 :: w7 :: w8 :: w9 :: w10 :: w11 :: u :: l2) (.int x :: st) h := wz_istore hd hn (okS_12 ho) rfl k
theorem q_ast12 {w0 w1 w2 w3 w4 w5 w6 w7 w8 w9 w10 w11 : Option Value} {u : Option Value} {g j : Nat} {l2 : List (Option Value)} (hd : decode M.2.1 pc = .ok (.astore 12, 2)) (hn : 12 < M.2.2.1) (ho : okW w11 = true) (k : wg E PP M ce sl Z (pc + 2) (w0 :: w1 :: w2 :: w3 :: w4 :: w5 :: w6 :: w7 :: w8 :: w9 :: w10 :: w11 :: some (rf g j) :: l2) st h) : wg E PP M ce sl Z pc (w0 :: w1 :: w2 :: w3 :: w4 :: w5 :: w6 :: w7 :: w8 :: w9 :: w10 :: w11 :: u :: l2) (rf g j :: st) h := wz_astoreR hd hn (okS_12 ho) rfl k
theorem q_inc12 {w0 w1 w2 w3 w4 w5 w6 w7 w8 w9 w10 w11 : Option Value} {n : Int} {x v : Int32} {l2 : List (Option Value)} (hd : decode M.2.1 pc = .ok (.iinc 12 n, 3)) (hv : x + Int32.ofInt n = v) (hn : 12 < M.2.2.1) (ho : okW w11 = true) (k : wg E PP M ce sl Z (pc + 3) (w0 :: w1 :: w2 :: w3 :: w4 :: w5 :: w6 :: w7 :: w8 :: w9 :: w10 :: w11 :: some (.int v) :: l2) st h) : wg E PP M ce sl Z pc (w0 :: w1 :: w2 :: w3 :: w4 :: w5 :: w6 :: w7 :: w8 :: w9 :: w10 :: w11 :: some (.int x) :: l2) st h := wz_iinc hd rfl hv hn (okS_12 ho) rfl k
theorem wz_pc {pc2 : Nat} (hp : pc = pc2) (k : wg E PP M ce sl Z pc2 ls st h) : wg E PP M ce sl Z pc ls st h := hp ▸ k
theorem wz_less {ls2 : List (Option Value)} (hn : ls2.length = ls.length) (hle : ∀ (k : Nat) (v : Value), ls2[k]? = some (some v) → ls[k]? = some (some v)) (k : wg E PP M ce sl Z pc ls2 st h) : wg E PP M ce sl Z pc ls st h := by
  intro p e s m args below meth c C H locs rl hP hS hl
  exact k p e s m args below meth c C H locs rl hP hS ⟨hn.trans hl.1, hl.2.1, hl.2.2.1, fun j v hj => hl.2.2.2 j v (hle j v hj)⟩
end Rules
