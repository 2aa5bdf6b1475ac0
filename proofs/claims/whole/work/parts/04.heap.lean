section Heap
variable {E : EN} {M : MD} {ce sl : Nat} {Z : List Frame → Array Value → State → State → Prop} {pc : Nat} {ls : List (Option Value)} {st : List Value} {h : TH}
/-- a class of the list, with its tables -/
def CF (ci : Nat) (C : String) (T : u_T) (N : Nat) (ty : Nat → FieldType) : Prop := classes[ci]? = some (C, T, N) ∧ (∀ w ∈ u_ws C T N, w ∈ tw) ∧ (∀ k, k < N → parseFieldDescriptor (T k).2.2.1 = some (ty k)) ∧ (∀ a, a < N → ∀ b, b < N → a ≠ b → (T a).2.1 ≠ (T b).2.1)
theorem cf0 : CF 0 RX0 TX0 5 tyX0 := ⟨rfl, iX0, tyX0_ok, nmX0⟩
theorem cf1 : CF 1 RX1 TX1 6 tyX1 := ⟨rfl, iX1, tyX1_ok, nmX1⟩
theorem cf2 : CF 2 RX2 TX2 5 tyX2 := ⟨rfl, iX2, tyX2_ok, nmX2⟩
theorem cf3 : CF 3 RX3 TX3 13 tyX3 := ⟨rfl, iX3, tyX3_ok, nmX3⟩
theorem cf4 : CF 4 RX4 TX4 7 tyX4 := ⟨rfl, iX4, tyX4_ok, nmX4⟩
theorem cf5 : CF 5 RX5 TX5 8 tyX5 := ⟨rfl, iX5, tyX5_ok, nmX5⟩
theorem cf6 : CF 6 RX6 TX6 10 tyX6 := ⟨rfl, iX6, tyX6_ok, nmX6⟩
theorem cf7 : CF 7 RX7 TX7 46 tyX7 := ⟨rfl, iX7, tyX7_ok, nmX7⟩
theorem en_obj (E : EN) (h : TH) {g : Nat} (i : Nat) (ht : gTag g = 0) : en E h g i = .inr (gCi g, (List.range (gN g)).map (slV E (h g i) g)) := by
  unfold en
  rw [if_pos ht]
theorem en_int (E : EN) (h : TH) {g : Nat} (i : Nat) (ht : gTag g = 1) : en E h g i = .inl (eC E 0, gN g, .inl (h g i)) := by
  unfold en
  rw [if_neg (by rw [ht]; decide), if_pos ht]
theorem en_bool (E : EN) (h : TH) {g : Nat} (i : Nat) (ht : gTag g = 2) : en E h g i = .inl (eC E 1, gN g, .inl (h g i)) := by
  unfold en
  rw [if_neg (by rw [ht]; decide), if_neg (by rw [ht]; decide), if_pos ht]
theorem en_ref (E : EN) (h : TH) {g : Nat} (i : Nat) (ht : gTag g = 3) : en E h g i = .inl (eC E (gCi g), gN g, .inr (.inr (.inr (.inr (fun j => some (eB E + (gBase (gTgt g) + j))))))) := by
  unfold en
  rw [if_neg (by rw [ht]; decide), if_neg (by rw [ht]; decide), if_neg (by rw [ht]; decide)]
theorem wz_getI {idx ci N g i kf : Nat} {C : String} {T : u_T} {ty : Nat → FieldType} {v : Int32} (hd : decode M.2.1 pc = .ok (.getfield idx, 3)) (cf : CF ci C T N ty) (hw : Cond.fieldLink M.1.cls idx (T kf).1 (T kf).2.1 (T kf).2.2.1 ∈ tw)
    (hg : gTag g = 0 ∧ gCi g = ci ∧ gN g = N ∧ kf < N ∧ gSlot g kf = none) (hi : i < gCnt g) (hv : h g i kf = v) (k : wz E M ce sl Z (pc + 3) ls (.int v :: st) h) : wz E M ce sl Z pc ls (rf g i :: st) h := by
  intro p e s m args below meth c C H locs rl hP hS hl
  obtain ⟨g1, g2, g3, g4, g5⟩ := hg
  have he := wd_g E h hi
  rw [en_obj E h i g1, g2, g3] at he
  show W p (eL E) e M.2.2.2.2 s m args below meth c H locs ce sl (Z below args s) (F0 m pc rl (V E (rf g i) :: st.map (V E)))
  rw [V_rf hi]
  refine va_get C.1 C.2.1 C.2.2.2.2.2.1 cf.2.1 C.2.2.2.2.1 C.2.2.2.2.2.2.2.1 hP _ he cf.1 _ g4 (C.2.2.2.2.2.1 _ hw) (fun _ q => q) (v := .int v) ?_ hd (k p e s m args below meth c C H locs rl hP hS hl)
  rw [List.getElem?_map, List.getElem?_range g4]
  simp only [Option.map_some, slV, g5, hv]
theorem wz_getR {idx ci N g i kf t : Nat} {C : String} {T : u_T} {ty : Nat → FieldType} (hd : decode M.2.1 pc = .ok (.getfield idx, 3)) (cf : CF ci C T N ty) (hw : Cond.fieldLink M.1.cls idx (T kf).1 (T kf).2.1 (T kf).2.2.1 ∈ tw)
    (hg : gTag g = 0 ∧ gCi g = ci ∧ gN g = N ∧ kf < N ∧ gSlot g kf = some t ∧ 0 < gCnt t) (hi : i < gCnt g) (k : wz E M ce sl Z (pc + 3) ls (rf t 0 :: st) h) : wz E M ce sl Z pc ls (rf g i :: st) h := by
  intro p e s m args below meth c C H locs rl hP hS hl
  obtain ⟨g1, g2, g3, g4, g5, g6⟩ := hg
  have he := wd_g E h hi
  rw [en_obj E h i g1, g2, g3] at he
  show W p (eL E) e M.2.2.2.2 s m args below meth c H locs ce sl (Z below args s) (F0 m pc rl (V E (rf g i) :: st.map (V E)))
  rw [V_rf hi]
  refine va_get C.1 C.2.1 C.2.2.2.2.2.1 cf.2.1 C.2.2.2.2.1 C.2.2.2.2.2.2.2.1 hP _ he cf.1 _ g4 (C.2.2.2.2.2.1 _ hw) (fun _ q => q) (v := V E (rf t 0)) ?_ hd (k p e s m args below meth c C H locs rl hP hS hl)
  rw [List.getElem?_map, List.getElem?_range g4]
  simp only [Option.map_some, slV, g5, V_rf g6, Nat.add_zero]
theorem wz_putI {idx ci N g i kf : Nat} {C : String} {T : u_T} {ty : Nat → FieldType} {v : Int32} {h2 : TH} (hd : decode M.2.1 pc = .ok (.putfield idx, 3)) (cf : CF ci C T N ty) (hw : Cond.fieldLink M.1.cls idx (T kf).1 (T kf).2.1 (T kf).2.2.1 ∈ tw)
    (hg : gTag g = 0 ∧ gCi g = ci ∧ gN g = N ∧ kf < N ∧ gSlot g kf = none ∧ (T kf).2.2.2 = false ∧ (T kf).2.2.1 = "I") (hi : i < gCnt g) (hh : up h g i kf v = h2) (k : wz E M ce sl Z (pc + 3) ls st h2) : wz E M ce sl Z pc ls (.int v :: rf g i :: st) h := by
  intro p e s m args below meth c C H locs rl hP hS hl
  obtain ⟨g1, g2, g3, g4, g5, g6, g7⟩ := hg
  subst hh
  have he := wd_g E h hi
  rw [en_obj E h i g1, g2, g3] at he
  show W p (eL E) e M.2.2.2.2 s m args below meth c H locs ce sl (Z below args s) (F0 m pc rl (.int v :: V E (rf g i) :: st.map (V E)))
  rw [V_rf hi]
  refine va_put C.1 C.2.1 C.2.2.2.2.2.1 cf.2.1 ty cf.2.2.1 cf.2.2.2 C.2.2.2.2.1 C.2.2.2.2.2.2.2.1 hP (wd_D E h) hS _ he cf.1 _ g4 (C.2.2.2.2.2.1 _ hw) (fun _ q => q) g6 (ty := .int) (by rw [g7]; decide +kernel) rfl rfl (by simpa using g4) hd (fun H1 locs1 hP1 _ hS1 => ?_)
  refine k p e s m args below meth c C H1 locs1 rl ?_ hS1 hl
  rw [wd_set E h (up h g i kf v) hi _ ?_ (fun g' i' q => en_up q)] at hP1
  · exact hP1
  · rw [en_obj E _ i g1, g2, g3]
    congr 2
    apply List.ext_getElem?
    intro j
    rw [List.getElem?_set]
    by_cases hj : kf = j
    · subst hj
      rw [if_pos rfl, if_pos (by simpa using g4), List.getElem?_map, List.getElem?_range g4]
      simp only [Option.map_some, slV, g5, up, and_self, if_true]
    · rw [if_neg hj, List.getElem?_map, List.getElem?_map]
      rcases Nat.lt_or_ge j N with hjn | hjn
      · rw [List.getElem?_range hjn]
        simp only [Option.map_some, slV]
        cases gSlot g j with
        | none => simp only [up]; rw [if_neg (fun q => hj q.2.1.symm)]
        | some t => rfl
      · rw [List.getElem?_eq_none (by simpa using hjn)]
        rfl
theorem wz_iald {g i : Nat} {j v : Int32} (hd : decode M.2.1 pc = .ok (.iaload, 1)) (ht : gTag g = 1) (hi : i < gCnt g) (hin : vp_in j (gN g)) (hv : h g i j.toNatClampNeg = v) (k : wz E M ce sl Z (pc + 1) ls (.int v :: st) h) : wz E M ce sl Z pc ls (.int j :: rf g i :: st) h := by
  intro p e s m args below meth c C H locs rl hP hS hl
  subst hv
  have he := wd_g E h hi
  rw [en_int E h i ht] at he
  show W p (eL E) e M.2.2.2.2 s m args below meth c H locs ce sl (Z below args s) (F0 m pc rl (.int j :: V E (rf g i) :: st.map (V E)))
  rw [V_rf hi]
  exact va_iald C.1 C.2.1 C.2.2.2.2.2.2.2.1 hP _ 0 he rfl hin hd (k p e s m args below meth c C H locs rl hP hS hl)
theorem wz_zald {g i : Nat} {j v : Int32} (hd : decode M.2.1 pc = .ok (.baload, 1)) (ht : gTag g = 2) (hi : i < gCnt g) (hin : vp_in j (gN g)) (hv : h g i j.toNatClampNeg = v) (k : wz E M ce sl Z (pc + 1) ls (.int v :: st) h) : wz E M ce sl Z pc ls (.int j :: rf g i :: st) h := by
  intro p e s m args below meth c C H locs rl hP hS hl
  subst hv
  have he := wd_g E h hi
  rw [en_bool E h i ht] at he
  show W p (eL E) e M.2.2.2.2 s m args below meth c H locs ce sl (Z below args s) (F0 m pc rl (.int j :: V E (rf g i) :: st.map (V E)))
  rw [V_rf hi]
  exact va_zald C.1 C.2.1 C.2.2.2.2.2.2.2.1 hP _ 1 he rfl hin hd (k p e s m args below meth c C H locs rl hP hS hl)
theorem upd_up {h : TH} {g i j : Nat} {v : Int32} : upd (h g i) j v = (up h g i j v) g i := by
  funext q
  unfold upd up
  by_cases hq : q = j
  · rw [if_pos hq, if_pos ⟨rfl, hq, rfl⟩]
  · rw [if_neg hq, if_neg (fun z => hq z.2.1)]
theorem wz_iast {g i : Nat} {j v : Int32} {h2 : TH} (hd : decode M.2.1 pc = .ok (.iastore, 1)) (ht : gTag g = 1) (hi : i < gCnt g) (hin : vp_in j (gN g)) (hh : up h g i j.toNatClampNeg v = h2) (k : wz E M ce sl Z (pc + 1) ls st h2) : wz E M ce sl Z pc ls (.int v :: .int j :: rf g i :: st) h := by
  intro p e s m args below meth c C H locs rl hP hS hl
  subst hh
  have he := wd_g E h hi
  rw [en_int E h i ht] at he
  show W p (eL E) e M.2.2.2.2 s m args below meth c H locs ce sl (Z below args s) (F0 m pc rl (.int v :: .int j :: V E (rf g i) :: st.map (V E)))
  rw [V_rf hi]
  refine va_iast C.1 C.2.1 C.2.2.2.2.2.2.2.1 hP (wd_D E h) hS _ 0 he rfl hin hd (fun H1 locs1 hP1 _ hS1 => ?_)
  refine k p e s m args below meth c C H1 locs1 rl ?_ hS1 hl
  rw [wd_set E h (up h g i j.toNatClampNeg v) hi _ ?_ (fun g' i' q => en_up q)] at hP1
  · exact hP1
  · rw [en_int E _ i ht, upd_up]
theorem wz_zast {g i : Nat} {j v : Int32} {h2 : TH} (hd : decode M.2.1 pc = .ok (.bastore, 1)) (ht : gTag g = 2) (hi : i < gCnt g) (hin : vp_in j (gN g)) (hb : vp_nar .boolean v = v) (hh : up h g i j.toNatClampNeg v = h2) (k : wz E M ce sl Z (pc + 1) ls st h2) : wz E M ce sl Z pc ls (.int v :: .int j :: rf g i :: st) h := by
  intro p e s m args below meth c C H locs rl hP hS hl
  subst hh
  have he := wd_g E h hi
  rw [en_bool E h i ht] at he
  show W p (eL E) e M.2.2.2.2 s m args below meth c H locs ce sl (Z below args s) (F0 m pc rl (.int v :: .int j :: V E (rf g i) :: st.map (V E)))
  rw [V_rf hi]
  refine va_zast C.1 C.2.1 C.2.2.2.2.2.2.2.1 hP (wd_D E h) hS _ 1 he rfl hin hd (fun H1 locs1 hP1 _ hS1 => ?_)
  refine k p e s m args below meth c C H1 locs1 rl ?_ hS1 hl
  rw [hb, wd_set E h (up h g i j.toNatClampNeg v) hi _ ?_ (fun g' i' q => en_up q)] at hP1
  · exact hP1
  · rw [en_bool E _ i ht, upd_up]
/-- an element of an array of references is the cell of that number -/
theorem wz_aald {g i t : Nat} {j : Int32} (hd : decode M.2.1 pc = .ok (.aaload, 1)) (hg : gTag g = 3 ∧ gTgt g = t ∧ gN g = gCnt t ∧ 2 ≤ gCi g ∧ gCi g < 5) (hi : i < gCnt g) (hin : vp_in j (gN g)) (k : wz E M ce sl Z (pc + 1) ls (rf t j.toNatClampNeg :: st) h) : wz E M ce sl Z pc ls (.int j :: rf g i :: st) h := by
  intro p e s m args below meth c C H locs rl hP hS hl
  obtain ⟨g1, g2, g3, g4, g5⟩ := hg
  have he := wd_g E h hi
  rw [en_ref E h i g1] at he
  have hlt : j.toNatClampNeg < gN g := Nat.not_le.mp fun q => hin (Or.inr q)
  show W p (eL E) e M.2.2.2.2 s m args below meth c H locs ce sl (Z below args s) (F0 m pc rl (.int j :: V E (rf g i) :: st.map (V E)))
  rw [V_rf hi]
  have hty : ∃ ty : FieldType, (tys E)[gCi g]? = some (eC E (gCi g), ty) ∧ ty.isReference = true := by
    rcases (show gCi g = 2 ∨ gCi g = 3 ∨ gCi g = 4 by omega) with q | q | q <;> rw [q]
    · exact ⟨_, rfl, rfl⟩
    · exact ⟨_, rfl, rfl⟩
    · exact ⟨_, rfl, rfl⟩
  obtain ⟨ty, t1, t2⟩ := hty
  refine W.aald (v := V E (rf t j.toNatClampNeg)) (ty := ty) C.1 C.2.1 (hP _ _ he) ((C.2.2.2.2.2.2.2.1.2 _ _ t1).1 (gN g) (fun q => va_rf (some (eB E + (gBase (gTgt g) + q))))) t2 (fun q => by cases q) (by show ¬ (j < 0 ∨ (arrV _ _ _).slots.size ≤ _); rw [arrV_size]; exact hin) (by show (arrV _ _ _).slots[_]? = _; rw [arrV_read _ _ hlt, V_rf (by rw [← g3]; exact hlt), g2]; rfl) rfl rfl hd (k p e s m args below meth c C H locs rl hP hS hl)
/-- an int out of an array that stood there before: the two static ones, and the script -/
theorem wz_tI {t : Nat} {j v : Int32} (hd : decode M.2.1 pc = .ok (.iaload, 1)) (ht : t < 3) (hin : vp_in j (oN E t)) (hv : oF E t j.toNatClampNeg = v) (k : wz E M ce sl Z (pc + 1) ls (.int v :: st) h) : wz E M ce sl Z pc ls (.int j :: .ref (1000 + t) :: st) h := by
  intro p e s m args below meth c C H locs rl hP hS hl
  subst hv
  show W p (eL E) e M.2.2.2.2 s m args below meth c H locs ce sl (Z below args s) (F0 m pc rl (.int j :: .ref (ad E (1000 + t)) :: st.map (V E)))
  have ha : ad E (1000 + t) = eX E t := by
    unfold ad
    rw [if_neg (by omega), Nat.add_sub_cancel_left]
  rw [ha]
  exact va_ti C.1 C.2.1 (C.2.2.2.2.2.2.2.2.2.2 t ht) hS hin rfl hd (k p e s m args below meth c C H locs rl hP hS hl)
theorem wz_tLen {t : Nat} {v : Int32} (hd : decode M.2.1 pc = .ok (.arraylength, 1)) (ht : t < 3) (hv : Int32.ofNat (oN E t) = v) (k : wz E M ce sl Z (pc + 1) ls (.int v :: st) h) : wz E M ce sl Z pc ls (.ref (1000 + t) :: st) h := by
  intro p e s m args below meth c C H locs rl hP hS hl
  show W p (eL E) e M.2.2.2.2 s m args below meth c H locs ce sl (Z below args s) (F0 m pc rl (.ref (ad E (1000 + t)) :: st.map (V E)))
  have ha : ad E (1000 + t) = eX E t := by
    unfold ad
    rw [if_neg (by omega), Nat.add_sub_cancel_left]
  rw [ha]
  exact va_tlen C.1 C.2.1 (C.2.2.2.2.2.2.2.2.2.2 t ht) hS hv hd (k p e s m args below meth c C H locs rl hP hS hl)
theorem wz_sLeast {idx : Nat} (hd : decode M.2.1 pc = .ok (.getstatic idx, 3)) (hw : Cond.fieldLink M.1.cls idx "LienTower" "LAW_LEAST" "[I" ∈ tw) (k : wz E M ce sl Z (pc + 3) ls (.ref (1000 + 0) :: st) h) : wz E M ce sl Z pc ls st h := by
  intro p e s m args below meth c C H locs rl hP hS hl
  exact va_gets C.1 C.2.1 C.2.2.2.2.2.2.2.2.1 hS C.2.2.2.2.1 (C.2.2.2.2.2.1 _ hw) (fun _ q => q) hd (k p e s m args below meth c C H locs rl hP hS hl)
theorem wz_sMost {idx : Nat} (hd : decode M.2.1 pc = .ok (.getstatic idx, 3)) (hw : Cond.fieldLink M.1.cls idx "LienTower" "LAW_MOST" "[I" ∈ tw) (k : wz E M ce sl Z (pc + 3) ls (.ref (1000 + 1) :: st) h) : wz E M ce sl Z pc ls st h := by
  intro p e s m args below meth c C H locs rl hP hS hl
  exact va_gets C.1 C.2.1 C.2.2.2.2.2.2.2.2.2.1 hS C.2.2.2.2.1 (C.2.2.2.2.2.1 _ hw) (fun _ q => q) hd (k p e s m args below meth c C H locs rl hP hS hl)
end Heap
section Calls
variable {E : EN} {M : MD} {ce sl : Nat} {Z : List Frame → Array Value → State → State → Prop} {pc : Nat} {ls : List (Option Value)} {st : List Value} {h : TH}
/-- how a method ends: an int, with the picture u; or nothing -/
def Zi (E : EN) (Q : Int32 → TH → Prop) : List Frame → Array Value → State → State → Prop := fun below args s => MQ below (va_Qi (fun r u => Q r u) (fun u t => Rp E u t t.heap) (eA E)) args s 0 0 (eA E)
def Zv (E : EN) (Q : TH → Prop) : List Frame → Array Value → State → State → Prop := fun below args s => MQ below (va_Qv (fun u => Q u) (fun u t => Rp E u t t.heap) (eA E)) args s 0 0 (eA E)
abbrev wi (E : EN) (M : MD) (Q : Int32 → TH → Prop) (pc : Nat) (ls : List (Option Value)) (st : List Value) (h : TH) : Prop := wz E M 0 0 (Zi E Q) pc ls st h
abbrev wv (E : EN) (M : MD) (Q : TH → Prop) (pc : Nat) (ls : List (Option Value)) (st : List Value) (h : TH) : Prop := wz E M 0 0 (Zv E Q) pc ls st h
theorem Rp_of {p : Program} {s t : State} {m : MethodId} {args : Array Value} {meth : Method} {c : Code} {H : Heap} {locs : List Loc} (C : Cx E M p s m args meth c) (hP : va_P (eD E) classes (wd E h) H) (hS : va_S (eA E) s.heap H locs) (ht : t.heap = H) (hW : s.WarmedH t.vm) : Rp E h t t.heap := by
  rw [ht]
  exact ⟨hP, C.2.2.2.2.2.2.2.1.moved hW.alike, (C.2.2.2.2.2.2.2.2.moved hW.alike).kept hS.2.1⟩
theorem wi_ret {Q : Int32 → TH → Prop} {x : Int32} (hd : decode M.2.1 pc = .ok (.ireturn, 1)) (hr : M.2.2.2.1 = some .int) (hq : Q x h) : wi E M Q pc ls [.int x] h := by
  intro p e s m args below meth c C H locs rl hP hS hl
  exact W.iret C.1 C.2.1 (C.2.2.1.trans hr) (fun t ht hW => ⟨⟨x, h, rfl, hq, Rp_of C hP hS ht hW⟩, hS.F ht⟩) hS.2.2 hd C.2.2.2.2.2.2.1
theorem wi_zret {Q : Int32 → TH → Prop} {x : Int32} (hd : decode M.2.1 pc = .ok (.ireturn, 1)) (hr : M.2.2.2.1 = some .boolean) (hn : vp_nar .boolean x = x) (hq : Q x h) : wi E M Q pc ls [.int x] h := by
  intro p e s m args below meth c C H locs rl hP hS hl
  have hn2 : narrow .boolean (.int x) = .int x := by
    have h1 : narrow .boolean (.int x) = .int (vp_nar .boolean x) := rfl
    rw [h1, hn]
  exact W.zret C.1 C.2.1 (C.2.2.1.trans hr) hn2 (fun t ht hW => ⟨⟨x, h, rfl, hq, Rp_of C hP hS ht hW⟩, hS.F ht⟩) hS.2.2 hd C.2.2.2.2.2.2.1
theorem wv_ret {Q : TH → Prop} (hd : decode M.2.1 pc = .ok (.return_, 1)) (hr : M.2.2.2.1 = none) (hq : Q h) : wv E M Q pc ls [] h := by
  intro p e s m args below meth c C H locs rl hP hS hl
  exact W.vret C.1 C.2.1 (C.2.2.1.trans hr) (fun t ht hW => ⟨⟨h, rfl, hq, Rp_of C hP hS ht hW⟩, hS.F ht⟩) hS.2.2 hd C.2.2.2.2.2.2.1
def wsOf (M : MD) : List Cond := .code M.1 M.2.1 M.2.2.1 M.2.2.2.1 :: tw
/-- the locals at a method's entry -/
def ent (As : List Value) (n : Nat) : List (Option Value) := As.map some ++ List.replicate (n - As.length) none
theorem lv_args_one : ∀ (vs : List Value) (i k : Nat) (v : Value), (∀ w ∈ vs, w.category = 1) → vs[k]? = some v → (i + k, v) ∈ lv_args i vs
  | [], _, k, v, _, hk => by simp at hk
  | w :: vs, i, 0, v, _, hk => by
    simp at hk
    subst hk
    exact List.mem_cons_self
  | w :: vs, i, k + 1, v, hc, hk => by
    have h1 : w.category = 1 := hc w List.mem_cons_self
    have h2 := lv_args_one vs (i + 1) k v (fun z hz => hc z (List.mem_cons_of_mem _ hz)) (by simpa using hk)
    unfold lv_args
    rw [h1, if_neg (by decide)]
    refine List.mem_cons_of_mem _ ?_
    rw [show i + (k + 1) = i + 1 + k by omega]
    exact h2
theorem lg_sl_one : ∀ (vs : List Value), (∀ w ∈ vs, w.category = 1) → (lg_sl vs).length = vs.length
  | [], _ => rfl
  | w :: vs, hc => by
    have h1 : w.category = 1 := hc w List.mem_cons_self
    have h2 := lg_sl_one vs (fun z hz => hc z (List.mem_cons_of_mem _ hz))
    unfold lg_sl at h2 ⊢
    rw [List.flatMap_cons, List.length_append, h2, h1, if_neg (by decide)]
    simp [Nat.add_comm]
theorem met_of {As : List Value} {mc ms : Nat} {Qc : Array Value → State → Outcome → State → Prop} (hy : plainName M.1.cls = true) (hc : ∀ w ∈ As, w.category = 1) (hn : As.length ≤ M.2.2.1)
    (k : wz E M 0 0 (fun below args s => MQ below Qc args s mc ms (eA E)) 0 (ent As M.2.2.1) [] h) :
    Met (eL E) M.1 (wsOf M) M.2.2.2.2 (va_Pc (As.map (V E)) (fun U => Rp E h U U.heap)) Qc mc ms (eA E) := by
  refine Met.ofW (cc := M.2.1) (maxL := M.2.2.1) (ret := M.2.2.2.1) hy rfl ?_
  intro p e s m args below meth c s₁ B hml hv
  obtain ⟨rfl, hR⟩ := hv
  have hts : ∀ w ∈ wsOf M, w.before (As.map (V E)).toArray s = true := atoms_spec (ws := wsOf M) B.pre
  have hcv : ∀ w ∈ As.map (V E), w.category = 1 := by
    intro w hw
    obtain ⟨v, hv, rfl⟩ := List.mem_map.mp hw
    rw [V_cat]
    exact hc v hv
  have hlen : (lg_sl (As.map (V E))).length ≤ M.2.2.1 := by
    rw [lg_sl_one _ hcv, List.length_map]
    exact hn
  have hl := lv_entry (As.map (V E)) (n := M.2.2.1) hlen
  rw [lg_entry_eq]
  refine k p e s m _ below meth c ⟨B.exec, B.bytes, B.returns, hml, findClass_of_methodNamed B.named, fun w hw => hts w (List.mem_cons_of_mem _ hw), B.notSynchronized, hR.2.1, hR.2.2⟩ s.heap [] _ hR.1 va_S.rf ⟨?_, hl.1, hl.2.1, fun j v hj => ?_⟩
  · unfold ent
    rw [List.length_append, List.length_map, List.length_replicate]
    omega
  · have hjl : As[j]? = some v := by
      unfold ent at hj
      rcases Nat.lt_or_ge j As.length with q | q
      · rw [List.getElem?_append_left (by simpa using q), List.getElem?_map] at hj
        cases hA : As[j]? with
        | none => rw [hA] at hj; cases hj
        | some w => rw [hA] at hj; cases hj; rfl
      · rw [List.getElem?_append_right (by simpa using q)] at hj
        have := List.mem_of_getElem? hj
        have := List.eq_of_mem_replicate this
        cases this
    have h3 := lv_args_one (As.map (V E)) 0 j (V E v) hcv (by rw [List.getElem?_map, hjl]; rfl)
    rw [Nat.zero_add] at h3
    exact hl.2.2 _ h3
theorem good_ws {M' : MD} (hw : Cond.code M'.1 M'.2.1 M'.2.2.1 M'.2.2.2.1 ∈ tw) : GoodIn tw (wsOf M') := by
  intro w h1
  rcases List.mem_cons.mp h1 with q | q
  · rw [q]
    exact ⟨hw, good_of_word (tbl_good _ hw)⟩
  · exact ⟨q, good_of_word (tbl_good _ q)⟩
/-- what a call asks of the callee M', its index in the caller's pool, and the room -/
def okC (M M' : MD) (n : Nat) : Prop := plainName M'.1.cls = true ∧ (M'.1.cls ≠ "java/lang/invoke/MethodHandle" ∧ M'.1.cls ≠ "java/lang/invoke/VarHandle" ∧ (parseMethodDescriptor M'.1.desc).map (fun d => d.parameters.length) = some n) ∧ M'.2.2.2.2.cells = 0 ∧ M'.2.2.2.2.slots = 0 ∧ M'.2.2.2.2.frames + 1 ≤ M.2.2.2.2.frames ∧ 8 + (M'.2.2.1 + 11) + M'.2.2.2.2.locals ≤ M.2.2.2.2.locals
theorem blind {E : EN} {h : TH} {av : List Value} : FrameBlind (va_Pc av (fun U => Rp E h U U.heap)) := by
  intro a U g mk q
  refine ⟨q.1, ?_⟩
  have h1 : Rp E h U U.heap := q.2
  exact Rp.moved (u := U) (U := U.calling g mk a) (Vm.Alike.refl U.vm) h1
theorem fix_of {p : Program} {s : State} {m : MethodId} {args : Array Value} {meth : Method} {c : Code} (C : Cx E M p s m args meth c) : CallFix p m c M.2.1 M.2.2.1 s args tw M.1.cls := ⟨C.1, C.2.1, C.2.2.2.1, C.2.2.2.2.1, C.2.2.2.2.2.1⟩
theorem callB_at {M' : MD} {idx n : Nat} {p : Program} {s : State} {m : MethodId} {args : Array Value} {meth : Method} {c : Code} (C : Cx E M p s m args meth c) (ok : okC M M' n) (hcode : Cond.code M'.1 M'.2.1 M'.2.2.1 M'.2.2.2.1 ∈ tw) (hini : Cond.initialized M'.1.cls ∈ tw) (hl : Cond.methodLink M.1.cls idx M'.1 ∈ tw) :
    CallB M.2.2.2.2 s args M.1.cls idx M'.1 M'.2.1 M'.2.2.1 M'.2.2.2.1 (wsOf M') M'.2.2.2.2 0 0 n :=
  callB_of n C.2.2.2.2.2.1 (good_ws hcode) rfl ok.2.2.1 ok.2.2.2.1 (C.2.2.2.2.2.1 _ hini) (C.2.2.2.2.2.1 _ hl) ok.2.1 ⟨ok.2.2.2.2.1, ok.2.2.2.2.2⟩
theorem pre_at {p : Program} {s : State} {m : MethodId} {args : Array Value} {meth : Method} {c : Code} {H : Heap} {locs : List Loc} {As : List Value} (C : Cx E M p s m args meth c) (hP : va_P (eD E) classes (wd E h) H) (hS : va_S (eA E) s.heap H locs) : PreS s H (va_Pc (As.map (V E)) (fun U => Rp E h U U.heap)) (As.map (V E)) :=
  ⟨blind, fun U hU hW => ⟨rfl, Rp_of C hP hS hU hW⟩⟩
/-- an instance method of a class of the list, on the cell rf g i: an int comes back -/
theorem wz_virtI {M' : MD} {idx n ci N g i : Nat} {C0 : String} {T : u_T} {ty : Nat → FieldType} {As : List Value} {Q : Int32 → TH → Prop} (hd : decode M.2.1 pc = .ok (.invokevirtual idx, 3)) (cf : CF ci C0 T N ty) (hC : M'.1.cls = C0) (hg : gTag g = 0 ∧ gCi g = ci) (hi : i < gCnt g) (hn : As.length = n) (hcat : ∀ w ∈ As, w.category = 1)
    (ok : okC M M' n) (hlen : n + 1 ≤ M'.2.2.1) (hw : Cond.code M'.1 M'.2.1 M'.2.2.1 M'.2.2.2.1 ∈ tw ∧ Cond.initialized M'.1.cls ∈ tw ∧ Cond.methodLink M.1.cls idx M'.1 ∈ tw ∧ Cond.instanceMethod M'.1 ∈ tw ∧ Cond.selects M'.1.cls M'.1 M'.1 ∈ tw) (hroom : (st.map fun v => v.category).sum ≤ 8) (hcs : ce ≤ M.2.2.2.2.cells ∧ sl ≤ M.2.2.2.2.slots) {st0 : List Value} (hst : As.reverse ++ rf g i :: st = st0)
    (kc : wi E M' Q 0 (ent (rf g i :: As) M'.2.2.1) [] h) (k : ∀ (r : Int32) (h1 : TH), Q r h1 → wz E M ce sl Z (pc + 3) ls (.int r :: st) h1) : wz E M ce sl Z pc ls st0 h := by
  intro p e s m args below meth c C H locs rl hP hS hl
  subst hst
  subst hC
  have he := wd_g E h hi
  rw [en_obj E h i hg.1, hg.2] at he
  have hM := met_of (As := rf g i :: As) ok.1 (fun w hw => (List.mem_cons.mp hw).elim (fun q => by rw [q]; rfl) (hcat w)) (by rw [List.length_cons, hn]; exact hlen) kc
  have hpre := pre_at (As := rf g i :: As) C hP hS
  have hv : (rf g i :: As).map (V E) = .ref (eB E + (gBase g + i)) :: As.map (V E) := by rw [List.map_cons, V_rf hi]
  rw [hv] at hM hpre
  refine va_calli (va_runV (As := As.map (V E)) (b := eB E + (gBase g + i)) (rest := st.map (V E)) (n := n) (fix_of C) hM ⟨callB_at C ok hw.1 hw.2.1 hw.2.2.1, C.2.2.2.2.2.1 _ hw.2.2.2.1, C.2.2.2.2.2.1 _ hw.2.2.2.2⟩ ⟨hpre.1, va_recv C.2.2.2.2.2.2.2.1 hP cf.1 he, hpre.2⟩ rfl (by rw [List.length_map, hn]) hl.2.1 ?_ (lv_room (by rw [V_sum]; exact hroom)) hd ⟨hcs.1, hcs.2⟩) hS (fun q _ z => z) (fun q z => z) (fun r u t H1 locs1 ht hvm hpost hB hz1 hk1 hS1 => ?_)
  · show List.map (V E) (As.reverse ++ rf g i :: st) = _
    rw [List.map_append, List.map_reverse, List.map_cons, V_rf hi]
  · rw [ht] at hB
    exact k r u hpost p e s m args below meth c C H1 locs1 rl hB.1 hS1 hl
theorem wz_virtV {M' : MD} {idx n ci N g i : Nat} {C0 : String} {T : u_T} {ty : Nat → FieldType} {As : List Value} {Q : TH → Prop} (hd : decode M.2.1 pc = .ok (.invokevirtual idx, 3)) (cf : CF ci C0 T N ty) (hC : M'.1.cls = C0) (hg : gTag g = 0 ∧ gCi g = ci) (hi : i < gCnt g) (hn : As.length = n) (hcat : ∀ w ∈ As, w.category = 1)
    (ok : okC M M' n) (hlen : n + 1 ≤ M'.2.2.1) (hw : Cond.code M'.1 M'.2.1 M'.2.2.1 M'.2.2.2.1 ∈ tw ∧ Cond.initialized M'.1.cls ∈ tw ∧ Cond.methodLink M.1.cls idx M'.1 ∈ tw ∧ Cond.instanceMethod M'.1 ∈ tw ∧ Cond.selects M'.1.cls M'.1 M'.1 ∈ tw) (hroom : (st.map fun v => v.category).sum ≤ 8) (hcs : ce ≤ M.2.2.2.2.cells ∧ sl ≤ M.2.2.2.2.slots) {st0 : List Value} (hst : As.reverse ++ rf g i :: st = st0)
    (kc : wv E M' Q 0 (ent (rf g i :: As) M'.2.2.1) [] h) (k : ∀ (h1 : TH), Q h1 → wz E M ce sl Z (pc + 3) ls st h1) : wz E M ce sl Z pc ls st0 h := by
  intro p e s m args below meth c C H locs rl hP hS hl
  subst hst
  subst hC
  have he := wd_g E h hi
  rw [en_obj E h i hg.1, hg.2] at he
  have hM := met_of (As := rf g i :: As) ok.1 (fun w hw => (List.mem_cons.mp hw).elim (fun q => by rw [q]; rfl) (hcat w)) (by rw [List.length_cons, hn]; exact hlen) kc
  have hpre := pre_at (As := rf g i :: As) C hP hS
  have hv : (rf g i :: As).map (V E) = .ref (eB E + (gBase g + i)) :: As.map (V E) := by rw [List.map_cons, V_rf hi]
  rw [hv] at hM hpre
  refine va_callv (va_runV (As := As.map (V E)) (b := eB E + (gBase g + i)) (rest := st.map (V E)) (n := n) (fix_of C) hM ⟨callB_at C ok hw.1 hw.2.1 hw.2.2.1, C.2.2.2.2.2.1 _ hw.2.2.2.1, C.2.2.2.2.2.1 _ hw.2.2.2.2⟩ ⟨hpre.1, va_recv C.2.2.2.2.2.2.2.1 hP cf.1 he, hpre.2⟩ rfl (by rw [List.length_map, hn]) hl.2.1 ?_ (lv_room (by rw [V_sum]; exact hroom)) hd ⟨hcs.1, hcs.2⟩) hS (fun q _ z => z) (fun q z => z) (fun u t H1 locs1 ht hvm hpost hB hz1 hk1 hS1 => ?_)
  · show List.map (V E) (As.reverse ++ rf g i :: st) = _
    rw [List.map_append, List.map_reverse, List.map_cons, V_rf hi]
  · rw [ht] at hB
    exact k u hpost p e s m args below meth c C H1 locs1 rl hB.1 hS1 hl
/-- a static method -/
theorem wz_statI {M' : MD} {idx n : Nat} {As : List Value} {Q : Int32 → TH → Prop} (hd : decode M.2.1 pc = .ok (.invokestatic idx, 3)) (hn : As.length = n) (hcat : ∀ w ∈ As, w.category = 1)
    (ok : okC M M' n) (hlen : n ≤ M'.2.2.1) (hw : Cond.code M'.1 M'.2.1 M'.2.2.1 M'.2.2.2.1 ∈ tw ∧ Cond.initialized M'.1.cls ∈ tw ∧ Cond.methodLink M.1.cls idx M'.1 ∈ tw ∧ Cond.static M'.1 ∈ tw) (hroom : (st.map fun v => v.category).sum ≤ 8) (hcs : ce ≤ M.2.2.2.2.cells ∧ sl ≤ M.2.2.2.2.slots) {st0 : List Value} (hst : As.reverse ++ st = st0)
    (kc : wi E M' Q 0 (ent As M'.2.2.1) [] h) (k : ∀ (r : Int32) (h1 : TH), Q r h1 → wz E M ce sl Z (pc + 3) ls (.int r :: st) h1) : wz E M ce sl Z pc ls st0 h := by
  intro p e s m args below meth c C H locs rl hP hS hl
  subst hst
  have hM := met_of (As := As) ok.1 hcat (by rw [hn]; exact hlen) kc
  refine va_calli (va_runS (As := As.map (V E)) (rest := st.map (V E)) (n := n) (fix_of C) hM ⟨callB_at C ok hw.1 hw.2.1 hw.2.2.1, C.2.2.2.2.2.1 _ hw.2.2.2⟩ (pre_at C hP hS) rfl (by rw [List.length_map, hn]) hl.2.1 ?_ (lv_room (by rw [V_sum]; exact hroom)) hd ⟨hcs.1, hcs.2⟩) hS (fun q _ z => z) (fun q z => z) (fun r u t H1 locs1 ht hvm hpost hB hz1 hk1 hS1 => ?_)
  · show List.map (V E) (As.reverse ++ st) = _
    rw [List.map_append, List.map_reverse]
  · rw [ht] at hB
    exact k r u hpost p e s m args below meth c C H1 locs1 rl hB.1 hS1 hl
/-- a nest mate's private static method -/
theorem wz_nestI {M' : MD} {idx n : Nat} {host : String} {As : List Value} {Q : Int32 → TH → Prop} (hd : decode M.2.1 pc = .ok (.invokestatic idx, 3)) (hn : As.length = n) (hcat : ∀ w ∈ As, w.category = 1)
    (ok : okC M M' n) (hlen : n ≤ M'.2.2.1) (hw : Cond.code M'.1 M'.2.1 M'.2.2.1 M'.2.2.2.1 ∈ tw ∧ Cond.initialized M'.1.cls ∈ tw ∧ Cond.methodLinkNest M.1.cls idx M'.1 host ∈ tw ∧ Cond.static M'.1 ∈ tw) (hroom : (st.map fun v => v.category).sum ≤ 8) (hcs : ce ≤ M.2.2.2.2.cells ∧ sl ≤ M.2.2.2.2.slots) {st0 : List Value} (hst : As.reverse ++ st = st0)
    (kc : wi E M' Q 0 (ent As M'.2.2.1) [] h) (k : ∀ (r : Int32) (h1 : TH), Q r h1 → wz E M ce sl Z (pc + 3) ls (.int r :: st) h1) : wz E M ce sl Z pc ls st0 h := by
  intro p e s m args below meth c C H locs rl hP hS hl
  subst hst
  have hM := met_of (As := As) ok.1 hcat (by rw [hn]; exact hlen) kc
  have hNw : va_Nw (.methodLinkNest M.1.cls idx M'.1 host) s := by
    have h1 := C.2.2.2.2.2.1 _ hw.2.2.1
    exact h1
  refine va_calli (va_runSN (As := As.map (V E)) (rest := st.map (V E)) (n := n) (host := host) (fix_of C) hM ⟨va_cnB n C.2.2.2.2.2.1 (good_ws hw.1) rfl ok.2.2.1 ok.2.2.2.1 hNw (C.2.2.2.2.2.1 _ hw.2.1) ok.2.1 ⟨ok.2.2.2.2.1, ok.2.2.2.2.2⟩, C.2.2.2.2.2.1 _ hw.2.2.2, trivial⟩ (pre_at C hP hS) rfl (by rw [List.length_map, hn]) hl.2.1 ?_ (lv_room (by rw [V_sum]; exact hroom)) hd ⟨hcs.1, hcs.2⟩) hS (fun q _ z => z) (fun q z => z) (fun r u t H1 locs1 ht hvm hpost hB hz1 hk1 hS1 => ?_)
  · show List.map (V E) (As.reverse ++ st) = _
    rw [List.map_append, List.map_reverse]
  · rw [ht] at hB
    exact k r u hpost p e s m args below meth c C H1 locs1 rl hB.1 hS1 hl
end Calls
