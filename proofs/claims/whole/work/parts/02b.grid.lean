/-! ===== arrays of int[], of our own: what the tables say of them, and new int[3][40], one turn of the model's loop at a time ===== -/
section Grid
/-- the word 'arrayOver' at int[]: both classes, and the outer one's kind -/
theorem ir_over {args : Array Value} {s : State} (h : (Cond.arrayOver (.array .int)).before args s = true) :
    ∃ (cI cA : ClassId) (kA : Class), s.vm.findClass (FieldType.array .int).toString = some cI ∧ s.vm.classes[cA]? = some kA ∧ kA.kind = .array cI (.array .int) ∧ s.vm.findClass ("[" ++ (FieldType.array .int).toString) = some cA := by
  simp only [Cond.before, Cond.holds, Cond.value, beq_iff_eq, Option.bind_eq_some_iff, Option.map_eq_some_iff] at h
  obtain ⟨cI, hI, cA, hi, kA, hA, hb⟩ := h
  have hp := Array.of_findIdx?_eq_some hi
  rw [hA] at hp
  refine ⟨cI, cA, kA, hI, hA, ?_⟩
  simp only at hp
  generalize kA.kind = q at hp hb ⊢
  cases q with
  | array x t =>
    simp only [beq_iff_eq, Bool.and_eq_true, decide_eq_true_eq] at hp hb
    exact ⟨by rw [hp, hb.1], hb.2⟩
  | _ => cases hp
/-- .. and it stays with tables alike -/
theorem ir_alike {a b : Array Value} {u U : State} (hal : u.vm.Alike U.vm) (h : (Cond.arrayOver (.array .int)).before a u = true) : (Cond.arrayOver (.array .int)).before b U = true := by
  have h1 := (Cond.arrayOver_setVmC (args := a) (s := u) hal (.array .int)).trans h
  simp only [Cond.before, Cond.holds, Cond.value] at h1 ⊢
  exact h1
/-- the outer row with three things in it, the inner row of forty noughts -/
def ir_o (cA : ClassId) (x y z : Value) : Cell := { cls := cA, slots := #[x, y, z], vm := .none }
def ir_i (cI : ClassId) : Cell := { cls := cI, slots := Array.replicate 40 (.int 0), vm := .none }
/-- U, a new inner row at its end, and that row's address in the outer one at a -/
def ir_u (cI : ClassId) (a : Nat) (o : Cell) (U : State) : State := (U.pushCell (ir_i cI)).setCell a o
def ir_t (T : State) (cA cI : ClassId) : State :=
  ir_u cI T.heap.size (ir_o cA (.ref (T.heap.size + 1)) (.ref (T.heap.size + 2)) (.ref (T.heap.size + 3)))
    (ir_u cI T.heap.size (ir_o cA (.ref (T.heap.size + 1)) (.ref (T.heap.size + 2)) .null)
      (ir_u cI T.heap.size (ir_o cA (.ref (T.heap.size + 1)) .null .null) (T.pushCell (ir_o cA .null .null .null))))
theorem ir_u_size (cI : ClassId) (a : Nat) (o : Cell) (U : State) : (ir_u cI a o U).heap.size = U.heap.size + 1 := by simp [ir_u, State.setCell]
theorem ir_u_used (cI : ClassId) (a : Nat) (o : Cell) (U : State) : (ir_u cI a o U).slotsUsed = U.slotsUsed + 40 := by simp [ir_u, ir_i]
theorem ir_u_vm (cI : ClassId) (a : Nat) (o : Cell) (U : State) : (ir_u cI a o U).vm = U.vm := by simp [ir_u]
theorem ir_u_out {cI : ClassId} {a : Nat} {o : Cell} {U : State} (h : a < U.heap.size) : (ir_u cI a o U).heap[a]? = some o := by
  have h1 : (U.pushCell (ir_i cI)).heap[a]? = some U.heap[a] := by rw [State.heap_pushCell_of_lt (h := h)]; exact Array.getElem?_eq_getElem h
  exact State.heap_setCell_self h1
theorem ir_u_new {cI : ClassId} {a : Nat} {o : Cell} {U : State} (h : a < U.heap.size) : (ir_u cI a o U).heap[U.heap.size]? = some (ir_i cI) := by
  unfold ir_u
  rw [State.heap_setCell_other (Nat.ne_of_lt h)]
  exact State.heap_pushCell_size _ _
theorem ir_u_old {cI : ClassId} {a q : Nat} {o : Cell} {U : State} (h : q < U.heap.size) (hq : a ≠ q) : (ir_u cI a o U).heap[q]? = U.heap[q]? := by
  unfold ir_u
  rw [State.heap_setCell_other hq, State.heap_pushCell_of_lt (h := h)]
theorem ir_t_size (T : State) (cA cI : ClassId) : (ir_t T cA cI).heap.size = T.heap.size + 4 := by
  unfold ir_t
  rw [ir_u_size, ir_u_size, ir_u_size]
  simp
theorem ir_t_out (T : State) (cA cI : ClassId) : (ir_t T cA cI).heap[T.heap.size]? = some (ir_o cA (.ref (T.heap.size + 1)) (.ref (T.heap.size + 2)) (.ref (T.heap.size + 3))) := by
  unfold ir_t
  refine ir_u_out ?_
  rw [ir_u_size, ir_u_size]
  simp only [State.heap_pushCell, Array.size_push]
  omega
theorem ir_t_old (T : State) (cA cI : ClassId) {q : Nat} (h : q < T.heap.size) : (ir_t T cA cI).heap[q]? = T.heap[q]? := by
  have hp : (T.pushCell (ir_o cA .null .null .null)).heap.size = T.heap.size + 1 := by simp
  unfold ir_t
  rw [ir_u_old (by rw [ir_u_size, ir_u_size, hp]; omega) (by omega), ir_u_old (by rw [ir_u_size, hp]; omega) (by omega), ir_u_old (by rw [hp]; omega) (by omega), State.heap_pushCell_of_lt (h := h)]
theorem ir_t_in (T : State) (cA cI : ClassId) {j : Nat} (h : j < 3) : (ir_t T cA cI).heap[T.heap.size + 1 + j]? = some (ir_i cI) := by
  have hp : (T.pushCell (ir_o cA .null .null .null)).heap.size = T.heap.size + 1 := by simp
  unfold ir_t
  rcases (show j = 0 ∨ j = 1 ∨ j = 2 by omega) with rfl | rfl | rfl
  · rw [ir_u_old (by rw [ir_u_size, ir_u_size, hp]; omega) (by omega), ir_u_old (by rw [ir_u_size, hp]; omega) (by omega)]
    have := ir_u_new (cI := cI) (a := T.heap.size) (o := ir_o cA (.ref (T.heap.size + 1)) .null .null) (U := T.pushCell (ir_o cA .null .null .null)) (by rw [hp]; omega)
    rw [hp] at this
    exact this
  · rw [ir_u_old (by rw [ir_u_size, ir_u_size, hp]; omega) (by omega)]
    have := ir_u_new (cI := cI) (a := T.heap.size) (o := ir_o cA (.ref (T.heap.size + 1)) (.ref (T.heap.size + 2)) .null) (U := ir_u cI T.heap.size (ir_o cA (.ref (T.heap.size + 1)) .null .null) (T.pushCell (ir_o cA .null .null .null))) (by rw [ir_u_size, hp]; omega)
    rw [ir_u_size, hp] at this
    exact this
  · have := ir_u_new (cI := cI) (a := T.heap.size) (o := ir_o cA (.ref (T.heap.size + 1)) (.ref (T.heap.size + 2)) (.ref (T.heap.size + 3))) (U := ir_u cI T.heap.size (ir_o cA (.ref (T.heap.size + 1)) (.ref (T.heap.size + 2)) .null) (ir_u cI T.heap.size (ir_o cA (.ref (T.heap.size + 1)) .null .null) (T.pushCell (ir_o cA .null .null .null)))) (by rw [ir_u_size, ir_u_size, hp]; omega)
    rw [ir_u_size, ir_u_size, hp] at this
    exact this
theorem ir_t_top (T : State) (f : JFrame) (cA cI : ClassId) : ir_t (T.setTop f) cA cI = (ir_t T cA cI).setTop f := by
  simp only [ir_t, ir_u, State.heap_setTop, State.pushCell_setTop, State.setCell_setTop]
theorem ir_3 : (3 : Int32).toNatClampNeg = 3 := by decide
theorem ir_40 : (40 : Int32).toNatClampNeg = 40 := by decide
variable {Z : CtlPost} {e : Env} {d : Bool} {acts : List Action} {U : State}
/-- an inner row -/
theorem ir_row {cI cc : ClassId} {kI : Class} (hk : U.vm.classes[cI]? = some kI) (hq : kI.kind = .array cc .int) (hl : ¬ 40 > e.platform.arrayLengthLimit) (hh : ¬ 160 > e.platform.maxHeapBytes)
    (hc : U.heap.size < e.platform.maxCells) (hs : U.slotsUsed + 40 ≤ e.platform.maxSlots) {Q : Addr → Pre} (k : ∀ acts', Q U.heap.size d acts' (U.pushCell (ir_i cI))) : wp (multianewarray.make cI [40]) Q Z e d acts U := by
  rw [multianewarray.make]
  simp only [wp_bind', W.ite, show ¬ (40 : Int32) < 0 by decide, if_false, wp_pure', W.theClass, hk, hq, Option.some.injEq, exists_eq_left', ir_40]
  exact W.newArray_of hk hq hl hh hc hs rfl k
/-- new int[3][40] by the model -/
theorem ir_make {cA cI cc : ClassId} {kA kI : Class} (hA : U.vm.classes[cA]? = some kA) (qA : kA.kind = .array cI (.array .int)) (hI : U.vm.classes[cI]? = some kI) (qI : kI.kind = .array cc .int)
    (hl : ¬ 40 > e.platform.arrayLengthLimit) (hh : ¬ 160 > e.platform.maxHeapBytes) (hc : U.heap.size + 4 ≤ e.platform.maxCells) (hs : U.slotsUsed + 123 ≤ e.platform.maxSlots)
    {Q : Addr → Pre} (k : ∀ d' acts', Q U.heap.size d' acts' (ir_t U cA cI)) : wp (multianewarray.make cA [3, 40]) Q Z e d acts U := by
  have hp : (U.pushCell (ir_o cA .null .null .null)).heap.size = U.heap.size + 1 := by simp
  have hu : (U.pushCell (ir_o cA .null .null .null)).slotsUsed = U.slotsUsed + 3 := by simp [ir_o]
  have hv : (U.pushCell (ir_o cA .null .null .null)).vm = U.vm := by simp
  -- one turn of the loop
  have turn : ∀ (V : State) (o o' : Cell) (i : Nat) (d' : Bool) (acts' : List Action) (P : ForInStep PUnit → Pre), V.vm = U.vm → U.heap.size < V.heap.size → V.heap.size < e.platform.maxCells → V.slotsUsed + 40 ≤ e.platform.maxSlots →
      V.heap[U.heap.size]? = some o → o.vm = .none → o.cls = cA → i < o.slots.size → o.setSlot i (.ref V.heap.size) = o' → (∀ d'' acts'', P (.yield ⟨⟩) d'' acts'' (ir_u cI U.heap.size o' V)) →
      wp (multianewarray.make cI [40]) (fun r => wp (do Jvm.writeLoc U.heap.size i (.ref r); Pure.pure (ForInStep.yield PUnit.unit)) P Z e) Z e d' acts' V := by
    intro V o o' i d' acts' P v1 v2 v3 v4 v5 v6 v7 v8 v9 kk
    refine ir_row (by rw [v1]; exact hI) qI hl hh v3 v4 fun acts'' => ?_
    rw [wp_bind', W.writeLoc]
    refine ⟨o, by rw [State.heap_pushCell_of_lt (h := v2)]; exact v5, by rw [v6]; simp, v8, ?_, ?_⟩
    · rw [v6, v7]
      simp [State.fitsSlot, State.slotType?, v1, hA, qA, fits]
    · rw [v9, wp_pure']
      exact kk _ _
  rw [multianewarray.make]
  simp only [wp_bind', W.ite, show ¬ (3 : Int32) < 0 by decide, if_false, wp_pure', W.theClass, hA, qA, Option.some.injEq, exists_eq_left', ir_3]
  refine W.newArray_of hA qA (by omega) (by show ¬ 12 > _; omega) (by omega) (by omega) rfl fun acts' => ?_
  show wp _ _ Z e d acts' (U.pushCell (ir_o cA .null .null .null))
  simp only [show ((3 : Int32) == 0) = false by decide, Bool.false_eq_true, if_false, wp_bind', wp_pure']
  rw [Std.Legacy.Range.forIn_eq_forIn_range']
  show wp (forIn [0, 1, 2] PUnit.unit _) _ Z e d acts' _
  simp only [List.forIn_cons, List.forIn_nil, wp_bind', wp_pure']
  refine turn _ _ (ir_o cA (.ref (U.heap.size + 1)) .null .null) 0 _ _ _ hv (by rw [hp]; omega) (by rw [hp]; omega) (by rw [hu]; omega) (State.heap_pushCell_size _ _) rfl rfl (by show 0 < 3; omega) (by rw [hp]; rfl) fun d1 a1 => ?_
  simp only [wp_bind']
  refine turn _ _ (ir_o cA (.ref (U.heap.size + 1)) (.ref (U.heap.size + 2)) .null) 1 _ _ _ ((ir_u_vm _ _ _ _).trans hv) (by rw [ir_u_size, hp]; omega) (by rw [ir_u_size, hp]; omega) (by rw [ir_u_used, hu]; omega) (ir_u_out (by rw [hp]; omega)) rfl rfl (by show 1 < 3; omega) (by rw [ir_u_size, hp]; rfl) fun d2 a2 => ?_
  simp only [wp_bind']
  refine turn _ _ (ir_o cA (.ref (U.heap.size + 1)) (.ref (U.heap.size + 2)) (.ref (U.heap.size + 3))) 2 _ _ _ ((ir_u_vm _ _ _ _).trans ((ir_u_vm _ _ _ _).trans hv)) (by rw [ir_u_size, ir_u_size, hp]; omega) (by rw [ir_u_size, ir_u_size, hp]; omega) (by rw [ir_u_used, ir_u_used, hu]; omega) (ir_u_out (by rw [ir_u_size, hp]; omega)) rfl rfl (by show 2 < 3; omega) (by rw [ir_u_size, ir_u_size, hp]; rfl) fun d3 a3 => ?_
  simp only [wp_pure']
  exact k _ _
variable {p : Program} {l : Launch} {R : Room} {s : State} {m : MethodId} {args : Array Value} {below : List Frame} {meth : Method} {c : Code} {T : State} {locs : List Loc} {cells slots : Nat}
/-- the cells of new int[3][40], for the walk -/
theorem ir_stand (X : Stand p l e R s m args below meth c T locs cells slots) (cA cI : ClassId) :
    Stand p l e R s m args below meth c (ir_t T cA cI) (locs ++ [⟨T.heap.size, 0⟩, ⟨T.heap.size, 1⟩, ⟨T.heap.size, 2⟩]) (cells + 4) (slots + 123) := by
  have hp : (T.pushCell (ir_o cA .null .null .null)).heap.size = T.heap.size + 1 := by simp
  have one : ∀ {V : State} {L : List Loc} {n k : Nat} {o : Cell} (i : Nat) (o' : Cell), Stand p l e R s m args below meth c V L n k → T.heap.size < V.heap.size → V.heap[T.heap.size]? = some o → o.setSlot i (.ref V.heap.size) = o' →
      Stand p l e R s m args below meth c (ir_u cI T.heap.size o' V) (L ++ [⟨T.heap.size, i⟩]) (n + 1) (k + 40) := by
    intro V L n k o i o' Y v1 v2 v3
    have h := (Y.pushed (ir_i cI)).stored (a := T.heap.size) (cell := o) (by rw [State.heap_pushCell_of_lt (h := v1)]; exact v2) i (.ref V.heap.size)
    rw [v3] at h
    simpa [ir_u, ir_i] using h
  have h0 := X.pushed (ir_o cA .null .null .null)
  have h1 := one 0 (ir_o cA (.ref (T.heap.size + 1)) .null .null) h0 (by rw [hp]; omega) (State.heap_pushCell_size _ _) (by rw [hp]; rfl)
  have h2 := one 1 (ir_o cA (.ref (T.heap.size + 1)) (.ref (T.heap.size + 2)) .null) h1 (by rw [ir_u_size, hp]; omega) (ir_u_out (by rw [hp]; omega)) (by rw [ir_u_size, hp]; rfl)
  have h3 := one 2 (ir_o cA (.ref (T.heap.size + 1)) (.ref (T.heap.size + 2)) (.ref (T.heap.size + 3))) h2 (by rw [ir_u_size, ir_u_size, hp]; omega) (ir_u_out (by rw [ir_u_size, hp]; omega)) (by rw [ir_u_size, ir_u_size, hp]; rfl)
  rw [List.append_assoc, List.append_assoc] at h3
  exact h3
/-- .. and the instruction -/
theorem ir_new (X : Stand p l e R s m args below meth c T locs cells slots) (hexec : p.tables.exec = Jvm.exec) {own : String} {index : Nat} (hown : s.vm.findClass own = some m.cls)
    (hlink : (Cond.classLink own index ("[" ++ (FieldType.array .int).toString)).before args s = true) {b : Array Value} (hover : (Cond.arrayOver (.array .int)).before b s = true) (harr : (Cond.arrayClass .int).before args s = true)
    {g : JFrame} (hg : g.method = m) (hd : decode c.code g.pc = .ok (.multianewarray index 2, 4)) {rest : List Value} (hst : g.stack = .int 40 :: .int 3 :: rest) (hc : cells + 4 ≤ R.cells) (hs : slots + 123 ≤ R.slots) :
    ∃ (vm₁ : Vm) (cA cI : ClassId), s.vm.findClass ("[" ++ (FieldType.array .int).toString) = some cA ∧ s.vm.findClass (FieldType.array .int).toString = some cI ∧
      Stand p l e R s m args below meth c (ir_t (T.setVm vm₁) cA cI) (locs ++ [⟨T.heap.size, 0⟩, ⟨T.heap.size, 1⟩, ⟨T.heap.size, 2⟩]) (cells + 4) (slots + 123) ∧
      ∀ target, Steps p.tables e below ((ir_t (T.setVm vm₁) cA cI).setTop { g with pc := g.pc + 4, stack := .ref T.heap.size :: rest }) target → Steps p.tables e below (T.setTop g) target := by
  subst hg
  obtain ⟨cI, cA, kA, fI, hA, qA, fA⟩ := ir_over hover
  obtain ⟨cI', kI, cc, fI', hI, qI⟩ := Cond.arrayClass_spec harr
  obtain rfl : cI' = cI := Option.some.inj (fI'.symm.trans fI)
  obtain ⟨c0, f0, hcl⟩ := Cond.classLink_spec hown hlink e.platform (by rw [X.admits.platform])
  obtain rfl : c0 = cA := Option.some.inj (f0.symm.trans fA)
  obtain ⟨hgv, hW, -⟩ := State.classEntry (e := e) X.warmed hcl
  generalize T.vm.noted g.method.cls index (.cls c0) = vm₁ at hgv hW
  obtain ⟨kA₁, hA₁, eA₁⟩ := hW.alike.2.2 _ _ hA
  obtain ⟨kI₁, hI₁, eI₁⟩ := hW.alike.2.2 _ _ hI
  obtain ⟨r1, r2⟩ := X.roomAbove hc hs
  have Y := ir_stand (X.noted hW) c0 cI'
  refine ⟨vm₁, c0, cI', fA, fI, Y, fun target hrest => ?_⟩
  jvm_step X.here [hexec, hd]
  simp only [multianewarray.sem, wp_bind', W.resolveClassAt_links (State.method?_setTop g X.here.top) hgv]
  rw [W.popN, if_neg (by decide)]
  refine ⟨g, State.topJava?_setTop' (s := T.setVm vm₁) g X.here.top, [.int 3, .int 40], rest, rfl, hst, ?_⟩
  simp only [List.mapM_cons, List.mapM_nil, wp_bind', wp_pure']
  refine ir_make (kA := kA₁) (kI := kI₁) (by exact hA₁) (by rw [eA₁]; exact qA) (by exact hI₁) (by rw [eI₁]; exact qI) (by rw [Launch.admits_arrayLengthLimit X.admits]; omega) (by rw [Launch.admits_maxHeapBytes X.admits]; omega) (by exact r1) (by exact r2) fun d' acts' => ?_
  have es : ((T.setTop g).setVm vm₁).setTop { g with stack := rest } = (T.setVm vm₁).setTop { g with stack := rest } := State.setTop_setTop (T.setVm vm₁) g { g with stack := rest }
  rw [es, ir_t_top]
  simp only [wp_bind', W.mark, W.pushRef, State.topJava?_setTop' _ Y.here.top, Option.some.injEq, exists_eq_left', State.setTop_setTop, State.heap_setTop]
  intro z
  simp only [jvm, State.topJava?_setTop' _ Y.here.top, State.setTop_setTop]
  exact hrest
end Grid
