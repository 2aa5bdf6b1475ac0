section Heap
variable {E : EN} {M : MD} {ce sl : Nat} {Z : List Frame → Array Value → State → State → Prop} {pc : Nat} {ls : List (Option Value)} {st : List Value} {h : TH}
/-- a class of the list, with its tables -/
def CF (ci : Nat) (C : String) (T : u_T) (N : Nat) (ty : Nat → FieldType) : Prop := classes[ci]? = some (C, T, N) ∧ (∀ w ∈ u_ws C T N, w ∈ tw) ∧ (∀ k, k < N → parseFieldDescriptor (T k).2.2.1 = some (ty k)) ∧ (∀ a, a < N → ∀ b, b < N → a ≠ b → (T a).2.1 ≠ (T b).2.1)
theorem cf0 : CF 0 RX0 TX0 5 tyX0 := ⟨rfl, iX0, tyX0_ok, nmX0⟩
theorem cf1 : CF 1 RX1 TX1 6 tyX1 := ⟨rfl, iX1, tyX1_ok, nmX1⟩
theorem cf2 : CF 2 RX2 TX2 5 tyX2 := ⟨rfl, iX2, tyX2_ok, nmX2⟩
theorem cf3 : CF 3 RX3 TX3 13 tyX3 := ⟨rfl, iX3, tyX3_ok, nmX3⟩
theorem cf4 : CF 4 RX4 TX4 7 tyX4 := ⟨rfl, iX4, tyX4_ok, nmX4⟩
theorem cf5 : CF 5 RX5 TX5 8 tyX5 := ⟨rfl, iX5, tyX5_ok, nmX5⟩
theorem cf6 : CF 6 RX6 TX6 10 tyX6 := ⟨rfl, iX6, tyX6_ok, nmX6⟩
theorem cf7 : CF 7 RX7 TX7 46 tyX7 := ⟨rfl, iX7, tyX7_ok, nmX7⟩
theorem en_obj (E : EN) (h : TH) {g : Nat} (i : Nat) (ht : gTag g = 0) : en E h g i = .inr (gCi g, (List.range (gN g)).map (slV E (h g i) g)) := by
  unfold en
  rw [if_pos ht]
theorem en_int (E : EN) (h : TH) {g : Nat} (i : Nat) (ht : gTag g = 1) : en E h g i = .inl (eC E 0, gN g, .inl (h g i)) := by
  unfold en
  rw [if_neg (by rw [ht]; decide), if_pos ht]
theorem en_bool (E : EN) (h : TH) {g : Nat} (i : Nat) (ht : gTag g = 2) : en E h g i = .inl (eC E 1, gN g, .inl (h g i)) := by
  unfold en
  rw [if_neg (by rw [ht]; decide), if_neg (by rw [ht]; decide), if_pos ht]
theorem en_ref (E : EN) (h : TH) {g : Nat} (i : Nat) (ht : gTag g = 3) : en E h g i = .inl (eC E (gCi g), gN g, .inr (.inr (.inr (.inr (fun j => some (eB E + (gBase (gTgt g) + j))))))) := by
  unfold en
  rw [if_neg (by rw [ht]; decide), if_neg (by rw [ht]; decide), if_neg (by rw [ht]; decide)]
theorem wz_getI {idx ci N g i kf : Nat} {C : String} {T : u_T} {ty : Nat → FieldType} {v : Int32} (hd : decode M.2.1 pc = .ok (.getfield idx, 3)) (cf : CF ci C T N ty) (hw : Cond.fieldLink M.1.cls idx (T kf).1 (T kf).2.1 (T kf).2.2.1 ∈ tw)
    (hg : gTag g = 0 ∧ gCi g = ci ∧ gN g = N ∧ kf < N ∧ gSlot g kf = none) (hi : i < gCnt g) (hv : h g i kf = v) (k : wz E M ce sl Z (pc + 3) ls (.int v :: st) h) : wz E M ce sl Z pc ls (rf g i :: st) h := by
  intro p e s m args below meth c C H locs rl hP hS hl
  have hP : va_P (eD E) classes (wd E h) H := hP
  obtain ⟨g1, g2, g3, g4, g5⟩ := hg
  have he := wd_g E h hi
  rw [en_obj E h i g1, g2, g3] at he
  show W p (eL E) e M.2.2.2.2 s m args below meth c H locs ce sl (Z below args s) (F0 m pc rl (V E (rf g i) :: st.map (V E)))
  rw [V_rf hi]
  refine va_get C.1 C.2.1 C.2.2.2.2.2.1 cf.2.1 C.2.2.2.2.1 C.2.2.2.2.2.2.2.1 hP _ he cf.1 _ g4 (C.2.2.2.2.2.1 _ hw) (fun _ q => q) (v := .int v) ?_ hd (k p e s m args below meth c C H locs rl hP hS hl)
  rw [List.getElem?_map, List.getElem?_range g4]
  simp only [Option.map_some, slV, g5, hv]
theorem wz_getR {idx ci N g i kf t : Nat} {C : String} {T : u_T} {ty : Nat → FieldType} (hd : decode M.2.1 pc = .ok (.getfield idx, 3)) (cf : CF ci C T N ty) (hw : Cond.fieldLink M.1.cls idx (T kf).1 (T kf).2.1 (T kf).2.2.1 ∈ tw)
    (hg : gTag g = 0 ∧ gCi g = ci ∧ gN g = N ∧ kf < N ∧ gSlot g kf = some t ∧ 0 < gCnt t) (hi : i < gCnt g) (k : wz E M ce sl Z (pc + 3) ls (rf t 0 :: st) h) : wz E M ce sl Z pc ls (rf g i :: st) h := by
  intro p e s m args below meth c C H locs rl hP hS hl
  have hP : va_P (eD E) classes (wd E h) H := hP
  obtain ⟨g1, g2, g3, g4, g5, g6⟩ := hg
  have he := wd_g E h hi
  rw [en_obj E h i g1, g2, g3] at he
  show W p (eL E) e M.2.2.2.2 s m args below meth c H locs ce sl (Z below args s) (F0 m pc rl (V E (rf g i) :: st.map (V E)))
  rw [V_rf hi]
  refine va_get C.1 C.2.1 C.2.2.2.2.2.1 cf.2.1 C.2.2.2.2.1 C.2.2.2.2.2.2.2.1 hP _ he cf.1 _ g4 (C.2.2.2.2.2.1 _ hw) (fun _ q => q) (v := V E (rf t 0)) ?_ hd (k p e s m args below meth c C H locs rl hP hS hl)
  rw [List.getElem?_map, List.getElem?_range g4]
  simp only [Option.map_some, slV, g5, V_rf g6, Nat.add_zero]
theorem wz_putI {idx ci N g i kf : Nat} {C : String} {T : u_T} {ty : Nat → FieldType} {v : Int32} {h2 : TH} (hd : decode M.2.1 pc = .ok (.putfield idx, 3)) (cf : CF ci C T N ty) (hw : Cond.fieldLink M.1.cls idx (T kf).1 (T kf).2.1 (T kf).2.2.1 ∈ tw)
    (hg : gTag g = 0 ∧ gCi g = ci ∧ gN g = N ∧ kf < N ∧ gSlot g kf = none ∧ (T kf).2.2.2 = false ∧ (T kf).2.2.1 = "I") (hi : i < gCnt g) (hh : up h g i kf v = h2) (k : wz E M ce sl Z (pc + 3) ls st h2) : wz E M ce sl Z pc ls (.int v :: rf g i :: st) h := by
  intro p e s m args below meth c C H locs rl hP hS hl
  have hP : va_P (eD E) classes (wd E h) H := hP
  obtain ⟨g1, g2, g3, g4, g5, g6, g7⟩ := hg
  subst hh
  have he := wd_g E h hi
  rw [en_obj E h i g1, g2, g3] at he
  show W p (eL E) e M.2.2.2.2 s m args below meth c H locs ce sl (Z below args s) (F0 m pc rl (.int v :: V E (rf g i) :: st.map (V E)))
  rw [V_rf hi]
  refine va_put C.1 C.2.1 C.2.2.2.2.2.1 cf.2.1 ty cf.2.2.1 cf.2.2.2 C.2.2.2.2.1 C.2.2.2.2.2.2.2.1 hP (wd_D E h) hS _ he cf.1 _ g4 (C.2.2.2.2.2.1 _ hw) (fun _ q => q) g6 (ty := .int) (by rw [g7]; decide +kernel) rfl rfl (by simpa using g4) hd (fun H1 locs1 hP1 _ hS1 => ?_)
  refine k p e s m args below meth c C H1 locs1 rl ?_ hS1 hl
  rw [wd_set E h (up h g i kf v) hi _ ?_ (fun g' i' q => en_up q)] at hP1
  · exact hP1
  · rw [en_obj E _ i g1, g2, g3]
    congr 2
    apply List.ext_getElem?
    intro j
    rw [List.getElem?_set]
    by_cases hj : kf = j
    · subst hj
      rw [if_pos rfl, if_pos (by simpa using g4), List.getElem?_map, List.getElem?_range g4]
      simp only [Option.map_some, slV, g5, up, and_self, if_true]
    · rw [if_neg hj, List.getElem?_map, List.getElem?_map]
      rcases Nat.lt_or_ge j N with hjn | hjn
      · rw [List.getElem?_range hjn]
        simp only [Option.map_some, slV]
        cases gSlot g j with
        | none => simp only [up]; rw [if_neg (fun q => hj q.2.1.symm)]
        | some t => rfl
      · rw [List.getElem?_eq_none (by simpa using hjn)]
        rfl
theorem wz_iald {g i : Nat} {j v : Int32} (hd : decode M.2.1 pc = .ok (.iaload, 1)) (ht : gTag g = 1) (hi : i < gCnt g) (hin : vp_in j (gN g)) (hv : h g i j.toNatClampNeg = v) (k : wz E M ce sl Z (pc + 1) ls (.int v :: st) h) : wz E M ce sl Z pc ls (.int j :: rf g i :: st) h := by
  intro p e s m args below meth c C H locs rl hP hS hl
  have hP : va_P (eD E) classes (wd E h) H := hP
  subst hv
  have he := wd_g E h hi
  rw [en_int E h i ht] at he
  show W p (eL E) e M.2.2.2.2 s m args below meth c H locs ce sl (Z below args s) (F0 m pc rl (.int j :: V E (rf g i) :: st.map (V E)))
  rw [V_rf hi]
  exact va_iald C.1 C.2.1 C.2.2.2.2.2.2.2.1 hP _ 0 he rfl hin hd (k p e s m args below meth c C H locs rl hP hS hl)
theorem wz_zald {g i : Nat} {j v : Int32} (hd : decode M.2.1 pc = .ok (.baload, 1)) (ht : gTag g = 2) (hi : i < gCnt g) (hin : vp_in j (gN g)) (hv : h g i j.toNatClampNeg = v) (k : wz E M ce sl Z (pc + 1) ls (.int v :: st) h) : wz E M ce sl Z pc ls (.int j :: rf g i :: st) h := by
  intro p e s m args below meth c C H locs rl hP hS hl
  have hP : va_P (eD E) classes (wd E h) H := hP
  subst hv
  have he := wd_g E h hi
  rw [en_bool E h i ht] at he
  show W p (eL E) e M.2.2.2.2 s m args below meth c H locs ce sl (Z below args s) (F0 m pc rl (.int j :: V E (rf g i) :: st.map (V E)))
  rw [V_rf hi]
  exact va_zald C.1 C.2.1 C.2.2.2.2.2.2.2.1 hP _ 1 he rfl hin hd (k p e s m args below meth c C H locs rl hP hS hl)
theorem upd_up {h : TH} {g i j : Nat} {v : Int32} : upd (h g i) j v = (up h g i j v) g i := by
  funext q
  unfold upd up
  by_cases hq : q = j
  · rw [if_pos hq, if_pos ⟨rfl, hq, rfl⟩]
  · rw [if_neg hq, if_neg (fun z => hq z.2.1)]
theorem wz_iast {g i : Nat} {j v : Int32} {h2 : TH} (hd : decode M.2.1 pc = .ok (.iastore, 1)) (ht : gTag g = 1) (hi : i < gCnt g) (hin : vp_in j (gN g)) (hh : up h g i j.toNatClampNeg v = h2) (k : wz E M ce sl Z (pc + 1) ls st h2) : wz E M ce sl Z pc ls (.int v :: .int j :: rf g i :: st) h := by
  intro p e s m args below meth c C H locs rl hP hS hl
  have hP : va_P (eD E) classes (wd E h) H := hP
  subst hh
  have he := wd_g E h hi
  rw [en_int E h i ht] at he
  show W p (eL E) e M.2.2.2.2 s m args below meth c H locs ce sl (Z below args s) (F0 m pc rl (.int v :: .int j :: V E (rf g i) :: st.map (V E)))
  rw [V_rf hi]
  refine va_iast C.1 C.2.1 C.2.2.2.2.2.2.2.1 hP (wd_D E h) hS _ 0 he rfl hin hd (fun H1 locs1 hP1 _ hS1 => ?_)
  refine k p e s m args below meth c C H1 locs1 rl ?_ hS1 hl
  rw [wd_set E h (up h g i j.toNatClampNeg v) hi _ ?_ (fun g' i' q => en_up q)] at hP1
  · exact hP1
  · rw [en_int E _ i ht, upd_up]
theorem wz_zast {g i : Nat} {j v : Int32} {h2 : TH} (hd : decode M.2.1 pc = .ok (.bastore, 1)) (ht : gTag g = 2) (hi : i < gCnt g) (hin : vp_in j (gN g)) (hb : vp_nar .boolean v = v) (hh : up h g i j.toNatClampNeg v = h2) (k : wz E M ce sl Z (pc + 1) ls st h2) : wz E M ce sl Z pc ls (.int v :: .int j :: rf g i :: st) h := by
  intro p e s m args below meth c C H locs rl hP hS hl
  have hP : va_P (eD E) classes (wd E h) H := hP
  subst hh
  have he := wd_g E h hi
  rw [en_bool E h i ht] at he
  show W p (eL E) e M.2.2.2.2 s m args below meth c H locs ce sl (Z below args s) (F0 m pc rl (.int v :: .int j :: V E (rf g i) :: st.map (V E)))
  rw [V_rf hi]
  refine va_zast C.1 C.2.1 C.2.2.2.2.2.2.2.1 hP (wd_D E h) hS _ 1 he rfl hin hd (fun H1 locs1 hP1 _ hS1 => ?_)
  refine k p e s m args below meth c C H1 locs1 rl ?_ hS1 hl
  rw [hb, wd_set E h (up h g i j.toNatClampNeg v) hi _ ?_ (fun g' i' q => en_up q)] at hP1
  · exact hP1
  · rw [en_bool E _ i ht, upd_up]
/-- an element of an array of references is the cell of that number -/
theorem wz_aald {g i t : Nat} {j : Int32} (hd : decode M.2.1 pc = .ok (.aaload, 1)) (hg : gTag g = 3 ∧ gTgt g = t ∧ gN g = gCnt t ∧ 2 ≤ gCi g ∧ gCi g < 5) (hi : i < gCnt g) (hin : vp_in j (gN g)) (k : wz E M ce sl Z (pc + 1) ls (rf t j.toNatClampNeg :: st) h) : wz E M ce sl Z pc ls (.int j :: rf g i :: st) h := by
  intro p e s m args below meth c C H locs rl hP hS hl
  have hP : va_P (eD E) classes (wd E h) H := hP
  obtain ⟨g1, g2, g3, g4, g5⟩ := hg
  have he := wd_g E h hi
  rw [en_ref E h i g1] at he
  have hlt : j.toNatClampNeg < gN g := Nat.not_le.mp fun q => hin (Or.inr q)
  show W p (eL E) e M.2.2.2.2 s m args below meth c H locs ce sl (Z below args s) (F0 m pc rl (.int j :: V E (rf g i) :: st.map (V E)))
  rw [V_rf hi]
  have hty : ∃ ty : FieldType, (tys E)[gCi g]? = some (eC E (gCi g), ty) ∧ ty.isReference = true := by
    rcases (show gCi g = 2 ∨ gCi g = 3 ∨ gCi g = 4 by omega) with q | q | q <;> rw [q]
    · exact ⟨_, rfl, rfl⟩
    · exact ⟨_, rfl, rfl⟩
    · exact ⟨_, rfl, rfl⟩
  obtain ⟨ty, t1, t2⟩ := hty
  refine W.aald (v := V E (rf t j.toNatClampNeg)) (ty := ty) C.1 C.2.1 (hP _ _ he) ((C.2.2.2.2.2.2.2.1.2 _ _ t1).1 (gN g) (fun q => va_rf (some (eB E + (gBase (gTgt g) + q))))) t2 (fun q => by cases q) (by show ¬ (j < 0 ∨ (arrV _ _ _).slots.size ≤ _); rw [arrV_size]; exact hin) (by show (arrV _ _ _).slots[_]? = _; rw [arrV_read _ _ hlt, V_rf (by rw [← g3]; exact hlt), g2]; rfl) rfl rfl hd (k p e s m args below meth c C H locs rl hP hS hl)
/-- an int out of an array that stood there before: the two static ones, and the script -/
theorem wz_tI {t : Nat} {j v : Int32} (hd : decode M.2.1 pc = .ok (.iaload, 1)) (ht : t < 3) (hin : vp_in j (oN E t)) (hv : oF E t j.toNatClampNeg = v) (k : wz E M ce sl Z (pc + 1) ls (.int v :: st) h) : wz E M ce sl Z pc ls (.int j :: .ref (1000 + t) :: st) h := by
  intro p e s m args below meth c C H locs rl hP hS hl
  have hP : va_P (eD E) classes (wd E h) H := hP
  subst hv
  show W p (eL E) e M.2.2.2.2 s m args below meth c H locs ce sl (Z below args s) (F0 m pc rl (.int j :: .ref (ad E (1000 + t)) :: st.map (V E)))
  have ha : ad E (1000 + t) = eX E t := by
    unfold ad
    rw [if_neg (by omega), Nat.add_sub_cancel_left]
  rw [ha]
  exact va_ti C.1 C.2.1 (C.2.2.2.2.2.2.2.2.1.2.2 t ht) hS hin rfl hd (k p e s m args below meth c C H locs rl hP hS hl)
theorem wz_tLen {t : Nat} {v : Int32} (hd : decode M.2.1 pc = .ok (.arraylength, 1)) (ht : t < 3) (hv : Int32.ofNat (oN E t) = v) (k : wz E M ce sl Z (pc + 1) ls (.int v :: st) h) : wz E M ce sl Z pc ls (.ref (1000 + t) :: st) h := by
  intro p e s m args below meth c C H locs rl hP hS hl
  have hP : va_P (eD E) classes (wd E h) H := hP
  show W p (eL E) e M.2.2.2.2 s m args below meth c H locs ce sl (Z below args s) (F0 m pc rl (.ref (ad E (1000 + t)) :: st.map (V E)))
  have ha : ad E (1000 + t) = eX E t := by
    unfold ad
    rw [if_neg (by omega), Nat.add_sub_cancel_left]
  rw [ha]
  exact va_tlen C.1 C.2.1 (C.2.2.2.2.2.2.2.2.1.2.2 t ht) hS hv hd (k p e s m args below meth c C H locs rl hP hS hl)
theorem wz_sLeast {idx : Nat} (hd : decode M.2.1 pc = .ok (.getstatic idx, 3)) (hw : Cond.fieldLink M.1.cls idx "LienTower" "LAW_LEAST" "[I" ∈ tw) (k : wz E M ce sl Z (pc + 3) ls (.ref (1000 + 0) :: st) h) : wz E M ce sl Z pc ls st h := by
  intro p e s m args below meth c C H locs rl hP hS hl
  have hP : va_P (eD E) classes (wd E h) H := hP
  exact va_gets C.1 C.2.1 C.2.2.2.2.2.2.2.2.1.1 hS C.2.2.2.2.1 (C.2.2.2.2.2.1 _ hw) (fun _ q => q) hd (k p e s m args below meth c C H locs rl hP hS hl)
theorem wz_sMost {idx : Nat} (hd : decode M.2.1 pc = .ok (.getstatic idx, 3)) (hw : Cond.fieldLink M.1.cls idx "LienTower" "LAW_MOST" "[I" ∈ tw) (k : wz E M ce sl Z (pc + 3) ls (.ref (1000 + 1) :: st) h) : wz E M ce sl Z pc ls st h := by
  intro p e s m args below meth c C H locs rl hP hS hl
  have hP : va_P (eD E) classes (wd E h) H := hP
  exact va_gets C.1 C.2.1 C.2.2.2.2.2.2.2.2.1.2.1 hS C.2.2.2.2.1 (C.2.2.2.2.2.1 _ hw) (fun _ q => q) hd (k p e s m args below meth c C H locs rl hP hS hl)
end Heap
section Calls
variable {E : EN} {M : MD} {ce sl : Nat} {Z : List Frame → Array Value → State → State → Prop} {pc : Nat} {ls : List (Option Value)} {st : List Value} {h : TH}
/-- how a method ends: an int, with the picture u; or nothing -/
def Zi (E : EN) (Q : Int32 → TH → Prop) : List Frame → Array Value → State → State → Prop := fun below args s => MQ below (va_Qi (fun r u => Q r u) (fun u t => Rp E u t t.heap) (eA E)) args s 0 0 (eA E)
def Zv (E : EN) (Q : TH → Prop) : List Frame → Array Value → State → State → Prop := fun below args s => MQ below (va_Qv (fun u => Q u) (fun u t => Rp E u t t.heap) (eA E)) args s 0 0 (eA E)
abbrev wi (E : EN) (M : MD) (Q : Int32 → TH → Prop) (pc : Nat) (ls : List (Option Value)) (st : List Value) (h : TH) : Prop := wz E M 0 0 (Zi E Q) pc ls st h
abbrev wv (E : EN) (M : MD) (Q : TH → Prop) (pc : Nat) (ls : List (Option Value)) (st : List Value) (h : TH) : Prop := wz E M 0 0 (Zv E Q) pc ls st h
theorem Rp_of {p : Program} {s t : State} {m : MethodId} {args : Array Value} {meth : Method} {c : Code} {H : Heap} {locs : List Loc} (C : Cx E M p s m args meth c) (hP : va_P (eD E) classes (wd E h) H) (hS : va_S (eA E) s.heap H locs) (ht : t.heap = H) (hW : s.WarmedH t.vm) : Rp E h t t.heap := by
  rw [ht]
  exact ⟨hP, C.2.2.2.2.2.2.2.1.moved hW.alike, (C.2.2.2.2.2.2.2.2.1.moved hW.alike).kept hS.2.1, C.2.2.2.2.2.2.2.2.2.1.warm hW⟩
theorem wi_ret {Q : Int32 → TH → Prop} {x : Int32} (hd : decode M.2.1 pc = .ok (.ireturn, 1)) (hr : M.2.2.2.1 = some .int) (hq : Q x h) : wi E M Q pc ls [.int x] h := by
  intro p e s m args below meth c C H locs rl hP hS hl
  have hP : va_P (eD E) classes (wd E h) H := hP
  exact W.iret C.1 C.2.1 (C.2.2.1.trans hr) (fun t ht hW => ⟨⟨x, h, rfl, hq, Rp_of C hP hS ht hW⟩, hS.F ht⟩) hS.2.2 hd C.2.2.2.2.2.2.1
theorem wi_zret {Q : Int32 → TH → Prop} {x : Int32} (hd : decode M.2.1 pc = .ok (.ireturn, 1)) (hr : M.2.2.2.1 = some .boolean) (hn : vp_nar .boolean x = x) (hq : Q x h) : wi E M Q pc ls [.int x] h := by
  intro p e s m args below meth c C H locs rl hP hS hl
  have hP : va_P (eD E) classes (wd E h) H := hP
  have hn2 : narrow .boolean (.int x) = .int x := by
    have h1 : narrow .boolean (.int x) = .int (vp_nar .boolean x) := rfl
    rw [h1, hn]
  exact W.zret C.1 C.2.1 (C.2.2.1.trans hr) hn2 (fun t ht hW => ⟨⟨x, h, rfl, hq, Rp_of C hP hS ht hW⟩, hS.F ht⟩) hS.2.2 hd C.2.2.2.2.2.2.1
theorem wv_ret {Q : TH → Prop} (hd : decode M.2.1 pc = .ok (.return_, 1)) (hr : M.2.2.2.1 = none) (hq : Q h) : wv E M Q pc ls [] h := by
  intro p e s m args below meth c C H locs rl hP hS hl
  have hP : va_P (eD E) classes (wd E h) H := hP
  exact W.vret C.1 C.2.1 (C.2.2.1.trans hr) (fun t ht hW => ⟨⟨h, rfl, hq, Rp_of C hP hS ht hW⟩, hS.F ht⟩) hS.2.2 hd C.2.2.2.2.2.2.1
def wsOf (M : MD) : List Cond := .code M.1 M.2.1 M.2.2.1 M.2.2.2.1 :: tw
/-- the locals at a method's entry -/
def ent (As : List Value) (n : Nat) : List (Option Value) := As.map some ++ List.replicate (n - As.length) none
theorem lv_args_one : ∀ (vs : List Value) (i k : Nat) (v : Value), (∀ w ∈ vs, w.category = 1) → vs[k]? = some v → (i + k, v) ∈ lv_args i vs
  | [], _, k, v, _, hk => by simp at hk
  | w :: vs, i, 0, v, _, hk => by
    simp at hk
    subst hk
    exact List.mem_cons_self
  | w :: vs, i, k + 1, v, hc, hk => by
    have h1 : w.category = 1 := hc w List.mem_cons_self
    have h2 := lv_args_one vs (i + 1) k v (fun z hz => hc z (List.mem_cons_of_mem _ hz)) (by simpa using hk)
    unfold lv_args
    rw [h1, if_neg (by decide)]
    refine List.mem_cons_of_mem _ ?_
    rw [show i + (k + 1) = i + 1 + k by omega]
    exact h2
theorem lg_sl_one : ∀ (vs : List Value), (∀ w ∈ vs, w.category = 1) → (lg_sl vs).length = vs.length
  | [], _ => rfl
  | w :: vs, hc => by
    have h1 : w.category = 1 := hc w List.mem_cons_self
    have h2 := lg_sl_one vs (fun z hz => hc z (List.mem_cons_of_mem _ hz))
    unfold lg_sl at h2 ⊢
    rw [List.flatMap_cons, List.length_append, h2, h1, if_neg (by decide)]
    simp [Nat.add_comm]
theorem met_of {As : List Value} {mc ms : Nat} {Qc : Array Value → State → Outcome → State → Prop} (hy : plainName M.1.cls = true) (hc : ∀ w ∈ As, w.category = 1) (hn : As.length ≤ M.2.2.1)
    (k : wz E M 0 0 (fun below args s => MQ below Qc args s mc ms (eA E)) 0 (ent As M.2.2.1) [] h) :
    Met (eL E) M.1 (wsOf M) M.2.2.2.2 (va_Pc (As.map (V E)) (fun U => Rp E h U U.heap)) Qc mc ms (eA E) := by
  refine Met.ofW (cc := M.2.1) (maxL := M.2.2.1) (ret := M.2.2.2.1) hy rfl ?_
  intro p e s m args below meth c s₁ B hml hv
  obtain ⟨rfl, hR⟩ := hv
  have hts : ∀ w ∈ wsOf M, w.before (As.map (V E)).toArray s = true := atoms_spec (ws := wsOf M) B.pre
  have hcv : ∀ w ∈ As.map (V E), w.category = 1 := by
    intro w hw
    obtain ⟨v, hv, rfl⟩ := List.mem_map.mp hw
    rw [V_cat]
    exact hc v hv
  have hlen : (lg_sl (As.map (V E))).length ≤ M.2.2.1 := by
    rw [lg_sl_one _ hcv, List.length_map]
    exact hn
  have hl := lv_entry (As.map (V E)) (n := M.2.2.1) hlen
  rw [lg_entry_eq]
  refine k p e s m _ below meth c ⟨B.exec, B.bytes, B.returns, hml, findClass_of_methodNamed B.named, fun w hw => hts w (List.mem_cons_of_mem _ hw), B.notSynchronized, hR.2.1, hR.2.2.1, hR.2.2.2, fun q => (name_of_methodNamed B.named B.method).1.trans q⟩ s.heap [] _ hR.1 va_S.rf ⟨?_, hl.1, hl.2.1, fun j v hj => ?_⟩
  · unfold ent
    rw [List.length_append, List.length_map, List.length_replicate]
    omega
  · have hjl : As[j]? = some v := by
      unfold ent at hj
      rcases Nat.lt_or_ge j As.length with q | q
      · rw [List.getElem?_append_left (by simpa using q), List.getElem?_map] at hj
        cases hA : As[j]? with
        | none => rw [hA] at hj; cases hj
        | some w => rw [hA] at hj; cases hj; rfl
      · rw [List.getElem?_append_right (by simpa using q)] at hj
        have := List.mem_of_getElem? hj
        have := List.eq_of_mem_replicate this
        cases this
    have h3 := lv_args_one (As.map (V E)) 0 j (V E v) hcv (by rw [List.getElem?_map, hjl]; rfl)
    rw [Nat.zero_add] at h3
    exact hl.2.2 _ h3
theorem good_ws {M' : MD} (hw : Cond.code M'.1 M'.2.1 M'.2.2.1 M'.2.2.2.1 ∈ tw) : GoodIn tw (wsOf M') := by
  intro w h1
  rcases List.mem_cons.mp h1 with q | q
  · rw [q]
    exact ⟨hw, good_of_word (tbl_good _ hw)⟩
  · exact ⟨q, good_of_word (tbl_good _ q)⟩
/-- what a call asks of the callee M', its index in the caller's pool, and the room -/
def okC (M M' : MD) (n nl : Nat) : Prop := plainName M'.1.cls = true ∧ (M'.1.cls ≠ "java/lang/invoke/MethodHandle" ∧ M'.1.cls ≠ "java/lang/invoke/VarHandle" ∧ (parseMethodDescriptor M'.1.desc).map (fun d => d.parameters.length) = some n) ∧ M'.2.2.2.2.cells = 0 ∧ M'.2.2.2.2.slots = 0 ∧ M'.2.2.2.2.frames + 1 ≤ M.2.2.2.2.frames ∧ 8 + (M'.2.2.1 + 11) + M'.2.2.2.2.locals ≤ M.2.2.2.2.locals ∧ nl ≤ M'.2.2.1
theorem blind {E : EN} {h : TH} {av : List Value} : FrameBlind (va_Pc av (fun U => Rp E h U U.heap)) := by
  intro a U g mk q
  refine ⟨q.1, ?_⟩
  have h1 : Rp E h U U.heap := q.2
  exact ⟨h1.1, va_K.moved (u := U) (U := U.calling g mk a) (Vm.Alike.refl U.vm) h1.2.1, OUT.moved (u := U) (U := U.calling g mk a) (Vm.Alike.refl U.vm) h1.2.2.1, NW.same (u := U) (U := U.calling g mk a) rfl h1.2.2.2⟩
theorem fix_of {p : Program} {s : State} {m : MethodId} {args : Array Value} {meth : Method} {c : Code} (C : Cx E M p s m args meth c) : CallFix p m c M.2.1 M.2.2.1 s args tw M.1.cls := ⟨C.1, C.2.1, C.2.2.2.1, C.2.2.2.2.1, C.2.2.2.2.2.1⟩
theorem callB_at {M' : MD} {idx n nl : Nat} {p : Program} {s : State} {m : MethodId} {args : Array Value} {meth : Method} {c : Code} (C : Cx E M p s m args meth c) (ok : okC M M' n nl) (hcode : Cond.code M'.1 M'.2.1 M'.2.2.1 M'.2.2.2.1 ∈ tw) (hini : Cond.initialized M'.1.cls ∈ tw) (hl : Cond.methodLink M.1.cls idx M'.1 ∈ tw) :
    CallB M.2.2.2.2 s args M.1.cls idx M'.1 M'.2.1 M'.2.2.1 M'.2.2.2.1 (wsOf M') M'.2.2.2.2 0 0 n :=
  callB_of n C.2.2.2.2.2.1 (good_ws hcode) rfl ok.2.2.1 ok.2.2.2.1 (C.2.2.2.2.2.1 _ hini) (C.2.2.2.2.2.1 _ hl) ok.2.1 ⟨ok.2.2.2.2.1, ok.2.2.2.2.2.1⟩
theorem pre_at {p : Program} {s : State} {m : MethodId} {args : Array Value} {meth : Method} {c : Code} {H : Heap} {locs : List Loc} {As : List Value} (C : Cx E M p s m args meth c) (hP : va_P (eD E) classes (wd E h) H) (hS : va_S (eA E) s.heap H locs) : PreS s H (va_Pc (As.map (V E)) (fun U => Rp E h U U.heap)) (As.map (V E)) :=
  ⟨blind, fun U hU hW => ⟨rfl, Rp_of C hP hS hU hW⟩⟩
/-- an instance method of a class of the list, on the cell rf g i: an int comes back -/
theorem wz_virtI {M' : MD} {idx n ci N g i : Nat} {C0 : String} {T : u_T} {ty : Nat → FieldType} {As : List Value} {Q : Int32 → TH → Prop} (hd : decode M.2.1 pc = .ok (.invokevirtual idx, 3)) (cf : CF ci C0 T N ty) (hC : M'.1.cls = C0) (hg : gTag g = 0 ∧ gCi g = ci) (hi : i < gCnt g) (hn : As.length = n) (hcat : ∀ w ∈ As, w.category = 1)
    (ok : okC M M' n (n + 1)) (hw : Cond.code M'.1 M'.2.1 M'.2.2.1 M'.2.2.2.1 ∈ tw ∧ Cond.initialized M'.1.cls ∈ tw ∧ Cond.methodLink M.1.cls idx M'.1 ∈ tw ∧ Cond.instanceMethod M'.1 ∈ tw ∧ Cond.selects M'.1.cls M'.1 M'.1 ∈ tw) (hroom : (st.map fun v => v.category).sum ≤ 8) (hcs : ce ≤ M.2.2.2.2.cells ∧ sl ≤ M.2.2.2.2.slots) {st0 : List Value} (hst : As.reverse ++ rf g i :: st = st0) {ls0 : List (Option Value)} (hent : ent (rf g i :: As) M'.2.2.1 = ls0)
    (kc : wi E M' Q 0 ls0 [] h) (k : ∀ (r : Int32) (h1 : TH), Q r h1 → wz E M ce sl Z (pc + 3) ls (.int r :: st) h1) : wz E M ce sl Z pc ls st0 h := by
  intro p e s m args below meth c C H locs rl hP hS hl
  have hP : va_P (eD E) classes (wd E h) H := hP
  subst hst
  subst hent
  subst hC
  have he := wd_g E h hi
  rw [en_obj E h i hg.1, hg.2] at he
  have hM := met_of (As := rf g i :: As) ok.1 (fun w hw => (List.mem_cons.mp hw).elim (fun q => by rw [q]; rfl) (hcat w)) (by rw [List.length_cons, hn]; exact ok.2.2.2.2.2.2) kc
  have hpre := pre_at (As := rf g i :: As) C hP hS
  have hv : (rf g i :: As).map (V E) = .ref (eB E + (gBase g + i)) :: As.map (V E) := by rw [List.map_cons, V_rf hi]
  rw [hv] at hM hpre
  refine va_calli (va_runV (As := As.map (V E)) (b := eB E + (gBase g + i)) (rest := st.map (V E)) (n := n) (fix_of C) hM ⟨callB_at C ok hw.1 hw.2.1 hw.2.2.1, C.2.2.2.2.2.1 _ hw.2.2.2.1, C.2.2.2.2.2.1 _ hw.2.2.2.2⟩ ⟨hpre.1, va_recv C.2.2.2.2.2.2.2.1 hP cf.1 he, hpre.2⟩ rfl (by rw [List.length_map, hn]) hl.2.1 ?_ (lv_room (by rw [V_sum]; exact hroom)) hd ⟨hcs.1, hcs.2⟩) hS (fun q _ z => z) (fun q z => z) (fun r u t H1 locs1 ht hvm hpost hB hz1 hk1 hS1 => ?_)
  · show List.map (V E) (As.reverse ++ rf g i :: st) = _
    rw [List.map_append, List.map_reverse, List.map_cons, V_rf hi]
  · rw [ht] at hB
    exact k r u hpost p e s m args below meth c C H1 locs1 rl hB.1 hS1 hl
theorem wz_virtV {M' : MD} {idx n ci N g i : Nat} {C0 : String} {T : u_T} {ty : Nat → FieldType} {As : List Value} {Q : TH → Prop} (hd : decode M.2.1 pc = .ok (.invokevirtual idx, 3)) (cf : CF ci C0 T N ty) (hC : M'.1.cls = C0) (hg : gTag g = 0 ∧ gCi g = ci) (hi : i < gCnt g) (hn : As.length = n) (hcat : ∀ w ∈ As, w.category = 1)
    (ok : okC M M' n (n + 1)) (hw : Cond.code M'.1 M'.2.1 M'.2.2.1 M'.2.2.2.1 ∈ tw ∧ Cond.initialized M'.1.cls ∈ tw ∧ Cond.methodLink M.1.cls idx M'.1 ∈ tw ∧ Cond.instanceMethod M'.1 ∈ tw ∧ Cond.selects M'.1.cls M'.1 M'.1 ∈ tw) (hroom : (st.map fun v => v.category).sum ≤ 8) (hcs : ce ≤ M.2.2.2.2.cells ∧ sl ≤ M.2.2.2.2.slots) {st0 : List Value} (hst : As.reverse ++ rf g i :: st = st0) {ls0 : List (Option Value)} (hent : ent (rf g i :: As) M'.2.2.1 = ls0)
    (kc : wv E M' Q 0 ls0 [] h) (k : ∀ (h1 : TH), Q h1 → wz E M ce sl Z (pc + 3) ls st h1) : wz E M ce sl Z pc ls st0 h := by
  intro p e s m args below meth c C H locs rl hP hS hl
  have hP : va_P (eD E) classes (wd E h) H := hP
  subst hst
  subst hent
  subst hC
  have he := wd_g E h hi
  rw [en_obj E h i hg.1, hg.2] at he
  have hM := met_of (As := rf g i :: As) ok.1 (fun w hw => (List.mem_cons.mp hw).elim (fun q => by rw [q]; rfl) (hcat w)) (by rw [List.length_cons, hn]; exact ok.2.2.2.2.2.2) kc
  have hpre := pre_at (As := rf g i :: As) C hP hS
  have hv : (rf g i :: As).map (V E) = .ref (eB E + (gBase g + i)) :: As.map (V E) := by rw [List.map_cons, V_rf hi]
  rw [hv] at hM hpre
  refine va_callv (va_runV (As := As.map (V E)) (b := eB E + (gBase g + i)) (rest := st.map (V E)) (n := n) (fix_of C) hM ⟨callB_at C ok hw.1 hw.2.1 hw.2.2.1, C.2.2.2.2.2.1 _ hw.2.2.2.1, C.2.2.2.2.2.1 _ hw.2.2.2.2⟩ ⟨hpre.1, va_recv C.2.2.2.2.2.2.2.1 hP cf.1 he, hpre.2⟩ rfl (by rw [List.length_map, hn]) hl.2.1 ?_ (lv_room (by rw [V_sum]; exact hroom)) hd ⟨hcs.1, hcs.2⟩) hS (fun q _ z => z) (fun q z => z) (fun u t H1 locs1 ht hvm hpost hB hz1 hk1 hS1 => ?_)
  · show List.map (V E) (As.reverse ++ rf g i :: st) = _
    rw [List.map_append, List.map_reverse, List.map_cons, V_rf hi]
  · rw [ht] at hB
    exact k u hpost p e s m args below meth c C H1 locs1 rl hB.1 hS1 hl
/-- a static method -/
theorem wz_statI {M' : MD} {idx n : Nat} {As : List Value} {Q : Int32 → TH → Prop} (hd : decode M.2.1 pc = .ok (.invokestatic idx, 3)) (hn : As.length = n) (hcat : ∀ w ∈ As, w.category = 1)
    (ok : okC M M' n n) (hw : Cond.code M'.1 M'.2.1 M'.2.2.1 M'.2.2.2.1 ∈ tw ∧ Cond.initialized M'.1.cls ∈ tw ∧ Cond.methodLink M.1.cls idx M'.1 ∈ tw ∧ Cond.static M'.1 ∈ tw) (hroom : (st.map fun v => v.category).sum ≤ 8) (hcs : ce ≤ M.2.2.2.2.cells ∧ sl ≤ M.2.2.2.2.slots) {st0 : List Value} (hst : As.reverse ++ st = st0) {ls0 : List (Option Value)} (hent : ent As M'.2.2.1 = ls0)
    (kc : wi E M' Q 0 ls0 [] h) (k : ∀ (r : Int32) (h1 : TH), Q r h1 → wz E M ce sl Z (pc + 3) ls (.int r :: st) h1) : wz E M ce sl Z pc ls st0 h := by
  intro p e s m args below meth c C H locs rl hP hS hl
  have hP : va_P (eD E) classes (wd E h) H := hP
  subst hst
  subst hent
  have hM := met_of (As := As) ok.1 hcat (by rw [hn]; exact ok.2.2.2.2.2.2) kc
  refine va_calli (va_runS (As := As.map (V E)) (rest := st.map (V E)) (n := n) (fix_of C) hM ⟨callB_at C ok hw.1 hw.2.1 hw.2.2.1, C.2.2.2.2.2.1 _ hw.2.2.2⟩ (pre_at C hP hS) rfl (by rw [List.length_map, hn]) hl.2.1 ?_ (lv_room (by rw [V_sum]; exact hroom)) hd ⟨hcs.1, hcs.2⟩) hS (fun q _ z => z) (fun q z => z) (fun r u t H1 locs1 ht hvm hpost hB hz1 hk1 hS1 => ?_)
  · show List.map (V E) (As.reverse ++ st) = _
    rw [List.map_append, List.map_reverse]
  · rw [ht] at hB
    exact k r u hpost p e s m args below meth c C H1 locs1 rl hB.1 hS1 hl
/-- a nest mate's private static method -/
theorem wz_nestI {M' : MD} {idx n : Nat} {host : String} {As : List Value} {Q : Int32 → TH → Prop} (hd : decode M.2.1 pc = .ok (.invokestatic idx, 3)) (hn : As.length = n) (hcat : ∀ w ∈ As, w.category = 1)
    (ok : okC M M' n n) (hw : Cond.code M'.1 M'.2.1 M'.2.2.1 M'.2.2.2.1 ∈ tw ∧ Cond.initialized M'.1.cls ∈ tw ∧ (∀ U : State, NW U → va_Nw (.methodLinkNest M.1.cls idx M'.1 host) U) ∧ Cond.static M'.1 ∈ tw) (hroom : (st.map fun v => v.category).sum ≤ 8) (hcs : ce ≤ M.2.2.2.2.cells ∧ sl ≤ M.2.2.2.2.slots) {st0 : List Value} (hst : As.reverse ++ st = st0) {ls0 : List (Option Value)} (hent : ent As M'.2.2.1 = ls0)
    (kc : wi E M' Q 0 ls0 [] h) (k : ∀ (r : Int32) (h1 : TH), Q r h1 → wz E M ce sl Z (pc + 3) ls (.int r :: st) h1) : wz E M ce sl Z pc ls st0 h := by
  intro p e s m args below meth c C H locs rl hP hS hl
  have hP : va_P (eD E) classes (wd E h) H := hP
  subst hst
  subst hent
  have hM := met_of (As := As) ok.1 hcat (by rw [hn]; exact ok.2.2.2.2.2.2) kc
  have hNw : va_Nw (.methodLinkNest M.1.cls idx M'.1 host) s := hw.2.2.1 s C.2.2.2.2.2.2.2.2.2.1
  refine va_calli (va_runSN (As := As.map (V E)) (rest := st.map (V E)) (n := n) (host := host) (fix_of C) hM ⟨va_cnB n C.2.2.2.2.2.1 (good_ws hw.1) rfl ok.2.2.1 ok.2.2.2.1 hNw (C.2.2.2.2.2.1 _ hw.2.1) ok.2.1 ⟨ok.2.2.2.2.1, ok.2.2.2.2.2.1⟩, C.2.2.2.2.2.1 _ hw.2.2.2, trivial⟩ (pre_at C hP hS) rfl (by rw [List.length_map, hn]) hl.2.1 ?_ (lv_room (by rw [V_sum]; exact hroom)) hd ⟨hcs.1, hcs.2⟩) hS (fun q _ z => z) (fun q z => z) (fun r u t H1 locs1 ht hvm hpost hB hz1 hk1 hS1 => ?_)
  · show List.map (V E) (As.reverse ++ st) = _
    rw [List.map_append, List.map_reverse]
  · rw [ht] at hB
    exact k r u hpost p e s m args below meth c C H1 locs1 rl hB.1 hS1 hl
/-- Math.max, Math.min -/
theorem wz_max {PP : TH → Heap → Prop} {idx : Nat} {x y : Int32} (hd : decode M.2.1 pc = .ok (.invokestatic idx, 3)) (hw : Cond.code Lib.Math.max.name Lib.Math.max.code 2 (some .int) ∈ tw ∧ Cond.initialized "java/lang/Math" ∈ tw ∧ Cond.methodLink M.1.cls idx Lib.Math.max.name ∈ tw ∧ Cond.static Lib.Math.max.name ∈ tw) (hr : 1 ≤ M.2.2.2.2.frames ∧ (st.map fun v => v.category).sum + 13 ≤ M.2.2.2.2.locals) (hcs : ce ≤ M.2.2.2.2.cells ∧ sl ≤ M.2.2.2.2.slots)
    (k : wg E PP M ce sl Z (pc + 3) ls (.int (if x < y then y else x) :: st) h) : wg E PP M ce sl Z pc ls (.int y :: .int x :: st) h := by
  intro p e s m args below meth c C H locs rl hP hS hl
  exact va_mmax C.1 C.2.1 (C.2.2.2.1.trans hl.2.1.symm) C.2.2.2.2.1 (C.2.2.2.2.2.1 _ hw.2.2.1) (C.2.2.2.2.2.1 _ hw.2.2.2) (C.2.2.2.2.2.1 _ hw.2.1) (C.2.2.2.2.2.1 _ hw.1) hr.1 (by rw [V_sum]; exact hr.2) hcs.1 hcs.2 hd (k p e s m args below meth c C H locs rl hP hS hl)
theorem wz_min {PP : TH → Heap → Prop} {idx : Nat} {x y : Int32} (hd : decode M.2.1 pc = .ok (.invokestatic idx, 3)) (hw : Cond.code Lib.Math.min.name Lib.Math.min.code 2 (some .int) ∈ tw ∧ Cond.initialized "java/lang/Math" ∈ tw ∧ Cond.methodLink M.1.cls idx Lib.Math.min.name ∈ tw ∧ Cond.static Lib.Math.min.name ∈ tw) (hr : 1 ≤ M.2.2.2.2.frames ∧ (st.map fun v => v.category).sum + 13 ≤ M.2.2.2.2.locals) (hcs : ce ≤ M.2.2.2.2.cells ∧ sl ≤ M.2.2.2.2.slots)
    (k : wg E PP M ce sl Z (pc + 3) ls (.int (if y < x then y else x) :: st) h) : wg E PP M ce sl Z pc ls (.int y :: .int x :: st) h := by
  intro p e s m args below meth c C H locs rl hP hS hl
  exact va_mmin C.1 C.2.1 (C.2.2.2.1.trans hl.2.1.symm) C.2.2.2.2.1 (C.2.2.2.2.2.1 _ hw.2.2.1) (C.2.2.2.2.2.1 _ hw.2.2.2) (C.2.2.2.2.2.1 _ hw.2.1) (C.2.2.2.2.2.1 _ hw.1) hr.1 (by rw [V_sum]; exact hr.2) hcs.1 hcs.2 hd (k p e s m args below meth c C H locs rl hP hS hl)
end Calls
section Help
variable {E : EN} {PP : TH → Heap → Prop} {M : MD} {ce sl : Nat} {Z : List Frame → Array Value → State → State → Prop} {pc : Nat} {ls : List (Option Value)} {st : List Value} {h : TH}
theorem vp_c {j : Int32} {n : Nat} (h1 : ¬ j < 0) (h2 : j.toNatClampNeg < n) : vp_in j n := fun q => q.elim h1 (fun z => absurd h2 (Nat.not_lt.mpr z))
theorem vp_lt {j : Int32} {n : Nat} (h : vp_in j n) : j.toNatClampNeg < n := Nat.not_le.mp fun q => h (Or.inr q)
def isB (x : Int32) : Prop := x = 0 ∨ x = 1
theorem isB_0 : isB 0 := Or.inl rfl
theorem isB_1 : isB 1 := Or.inr rfl
theorem isB_nar {x : Int32} (h : isB x) : vp_nar .boolean x = x := by
  rcases h with rfl | rfl
  · decide +kernel
  · decide +kernel
theorem wz_tab1 {dflt lo hi : Int} {offs : Array Int} {len j : Nat} {x : Int32} {off : Int} {tgt : Nat} (hd : decode M.2.1 pc = .ok (.tableswitch dflt lo hi offs, len)) (hx : x.toInt = lo + (j : Int)) (hlo : lo ≤ lo + (j : Int)) (hhi : ¬ hi < lo + (j : Int)) (ho : offs[j]? = some off) (ht : (pc : Int) + off = (tgt : Int)) (k : wg E PP M ce sl Z tgt ls st h) : wg E PP M ce sl Z pc ls (.int x :: st) h := by
  intro p e s m args below meth c C H locs rl hP hS hl
  refine lv_tableIn C.1 C.2.1 hd (by omega) (by rw [hx]; exact hhi) (off := off) ?_ ht (k p e s m args below meth c C H locs rl hP hS hl)
  rw [hx, show (lo + (j : Int) - lo).toNat = j by omega]
  exact ho
theorem wz_tabD {dflt lo hi : Int} {offs : Array Int} {len : Nat} {x : Int32} {tgt : Nat} (hd : decode M.2.1 pc = .ok (.tableswitch dflt lo hi offs, len)) (hq : x.toInt < lo ∨ hi < x.toInt) (ht : (pc : Int) + dflt = (tgt : Int)) (k : wg E PP M ce sl Z tgt ls st h) : wg E PP M ce sl Z pc ls (.int x :: st) h := by
  intro p e s m args below meth c C H locs rl hP hS hl
  exact lv_tableOut C.1 C.2.1 hd hq ht (k p e s m args below meth c C H locs rl hP hS hl)
theorem tab_out {x : Int32} {lo hi : Int} {n : Nat} (hn : 0 < n) (hh : hi = lo + (n : Int) - 1) (hq : ∀ j : Nat, j < n → ¬ x.toInt = lo + (j : Int)) : x.toInt < lo ∨ hi < x.toInt := by
  rcases Classical.em (x.toInt < lo ∨ hi < x.toInt) with q | q
  · exact q
  · exfalso
    refine hq (x.toInt - lo).toNat ?_ ?_ <;> omega
def lsLe : List (Option Value) → List (Option Value) → Prop
  | [], [] => True
  | none :: a, _ :: b => lsLe a b
  | some v :: a, w :: b => w = some v ∧ lsLe a b
  | _, _ => False
theorem lsLe_len : ∀ {a b : List (Option Value)}, lsLe a b → a.length = b.length
  | [], [], _ => rfl
  | none :: a, _ :: b, h => by simp [lsLe_len (a := a) (b := b) h]
  | some v :: a, w :: b, h => by simp [lsLe_len (a := a) (b := b) h.2]
theorem lsLe_at : ∀ {a b : List (Option Value)}, lsLe a b → ∀ (k : Nat) (v : Value), a[k]? = some (some v) → b[k]? = some (some v)
  | none :: a, w :: b, h, 0, v, hk => by simp at hk
  | none :: a, w :: b, h, k + 1, v, hk => by
    have h1 := lsLe_at (a := a) (b := b) h k v (by simpa using hk)
    simpa using h1
  | some u :: a, w :: b, h, 0, v, hk => by
    simp at hk
    subst hk
    simp [h.1]
  | some u :: a, w :: b, h, k + 1, v, hk => by
    have h1 := lsLe_at (a := a) (b := b) h.2 k v (by simpa using hk)
    simpa using h1
  | [], [], _, k, v, hk => by simp at hk
theorem wz_le {ls2 : List (Option Value)} (hle : lsLe ls2 ls) (k : wg E PP M ce sl Z pc ls2 st h) : wg E PP M ce sl Z pc ls st h := wz_less (lsLe_len hle) (lsLe_at hle) k
def lsMask : List Bool → List (Option Value) → List (Option Value)
  | b :: m, v :: l => (match b with | true => v | false => none) :: lsMask m l
  | _, _ => []
theorem lsMask_le : ∀ (m : List Bool) (l : List (Option Value)), m.length = l.length → lsLe (lsMask m l) l
  | [], [], _ => trivial
  | true :: m, none :: l, h => lsMask_le m l (by simpa using h)
  | true :: m, some v :: l, h => ⟨rfl, lsMask_le m l (by simpa using h)⟩
  | false :: m, v :: l, h => lsMask_le m l (by simpa using h)
theorem wz_mask (m : List Bool) (hn : m.length = ls.length) (k : wg E PP M ce sl Z pc (lsMask m ls) st h) : wg E PP M ce sl Z pc ls st h := wz_le (lsMask_le m ls hn) k
end Help
section Facts
theorem gc_0 : 0 < gCnt 0 := by decide
theorem go_0 : gTag 0 = 0 ∧ gCi 0 = 6 := ⟨rfl, rfl⟩
theorem gr_0_0 : gTag 0 = 0 ∧ gCi 0 = 6 ∧ gN 0 = 10 ∧ 0 < 10 ∧ gSlot 0 0 = some 1 ∧ 0 < gCnt 1 := ⟨rfl, rfl, rfl, by decide, rfl, by decide⟩
theorem gi_0_1 : gTag 0 = 0 ∧ gCi 0 = 6 ∧ gN 0 = 10 ∧ 1 < 10 ∧ gSlot 0 1 = none := ⟨rfl, rfl, rfl, by decide, rfl⟩
theorem gp_0_1 : gTag 0 = 0 ∧ gCi 0 = 6 ∧ gN 0 = 10 ∧ 1 < 10 ∧ gSlot 0 1 = none ∧ (TX6 1).2.2.2 = false ∧ (TX6 1).2.2.1 = "I" := ⟨rfl, rfl, rfl, by decide, rfl, rfl, rfl⟩
theorem gr_0_2 : gTag 0 = 0 ∧ gCi 0 = 6 ∧ gN 0 = 10 ∧ 2 < 10 ∧ gSlot 0 2 = some 2 ∧ 0 < gCnt 2 := ⟨rfl, rfl, rfl, by decide, rfl, by decide⟩
theorem gr_0_3 : gTag 0 = 0 ∧ gCi 0 = 6 ∧ gN 0 = 10 ∧ 3 < 10 ∧ gSlot 0 3 = some 8 ∧ 0 < gCnt 8 := ⟨rfl, rfl, rfl, by decide, rfl, by decide⟩
theorem gr_0_4 : gTag 0 = 0 ∧ gCi 0 = 6 ∧ gN 0 = 10 ∧ 4 < 10 ∧ gSlot 0 4 = some 15 ∧ 0 < gCnt 15 := ⟨rfl, rfl, rfl, by decide, rfl, by decide⟩
theorem gr_0_5 : gTag 0 = 0 ∧ gCi 0 = 6 ∧ gN 0 = 10 ∧ 5 < 10 ∧ gSlot 0 5 = some 21 ∧ 0 < gCnt 21 := ⟨rfl, rfl, rfl, by decide, rfl, by decide⟩
theorem gi_0_6 : gTag 0 = 0 ∧ gCi 0 = 6 ∧ gN 0 = 10 ∧ 6 < 10 ∧ gSlot 0 6 = none := ⟨rfl, rfl, rfl, by decide, rfl⟩
theorem gp_0_6 : gTag 0 = 0 ∧ gCi 0 = 6 ∧ gN 0 = 10 ∧ 6 < 10 ∧ gSlot 0 6 = none ∧ (TX6 6).2.2.2 = false ∧ (TX6 6).2.2.1 = "I" := ⟨rfl, rfl, rfl, by decide, rfl, rfl, rfl⟩
theorem gr_0_7 : gTag 0 = 0 ∧ gCi 0 = 6 ∧ gN 0 = 10 ∧ 7 < 10 ∧ gSlot 0 7 = some 26 ∧ 0 < gCnt 26 := ⟨rfl, rfl, rfl, by decide, rfl, by decide⟩
theorem gi_0_8 : gTag 0 = 0 ∧ gCi 0 = 6 ∧ gN 0 = 10 ∧ 8 < 10 ∧ gSlot 0 8 = none := ⟨rfl, rfl, rfl, by decide, rfl⟩
theorem gp_0_8 : gTag 0 = 0 ∧ gCi 0 = 6 ∧ gN 0 = 10 ∧ 8 < 10 ∧ gSlot 0 8 = none ∧ (TX6 8).2.2.2 = false ∧ (TX6 8).2.2.1 = "I" := ⟨rfl, rfl, rfl, by decide, rfl, rfl, rfl⟩
theorem gr_0_9 : gTag 0 = 0 ∧ gCi 0 = 6 ∧ gN 0 = 10 ∧ 9 < 10 ∧ gSlot 0 9 = some 27 ∧ 0 < gCnt 27 := ⟨rfl, rfl, rfl, by decide, rfl, by decide⟩
theorem gc_1 : 0 < gCnt 1 := by decide
theorem ga_1 : gTag 1 = 1 := rfl
theorem gn_1 : gN 1 = 12 := rfl
theorem gc_2 : 0 < gCnt 2 := by decide
theorem go_2 : gTag 2 = 0 ∧ gCi 2 = 1 := ⟨rfl, rfl⟩
theorem gr_2_0 : gTag 2 = 0 ∧ gCi 2 = 1 ∧ gN 2 = 6 ∧ 0 < 6 ∧ gSlot 2 0 = some 3 ∧ 0 < gCnt 3 := ⟨rfl, rfl, rfl, by decide, rfl, by decide⟩
theorem gi_2_1 : gTag 2 = 0 ∧ gCi 2 = 1 ∧ gN 2 = 6 ∧ 1 < 6 ∧ gSlot 2 1 = none := ⟨rfl, rfl, rfl, by decide, rfl⟩
theorem gp_2_1 : gTag 2 = 0 ∧ gCi 2 = 1 ∧ gN 2 = 6 ∧ 1 < 6 ∧ gSlot 2 1 = none ∧ (TX1 1).2.2.2 = false ∧ (TX1 1).2.2.1 = "I" := ⟨rfl, rfl, rfl, by decide, rfl, rfl, rfl⟩
theorem gr_2_2 : gTag 2 = 0 ∧ gCi 2 = 1 ∧ gN 2 = 6 ∧ 2 < 6 ∧ gSlot 2 2 = some 5 ∧ 0 < gCnt 5 := ⟨rfl, rfl, rfl, by decide, rfl, by decide⟩
theorem gr_2_3 : gTag 2 = 0 ∧ gCi 2 = 1 ∧ gN 2 = 6 ∧ 3 < 6 ∧ gSlot 2 3 = some 6 ∧ 0 < gCnt 6 := ⟨rfl, rfl, rfl, by decide, rfl, by decide⟩
theorem gr_2_4 : gTag 2 = 0 ∧ gCi 2 = 1 ∧ gN 2 = 6 ∧ 4 < 6 ∧ gSlot 2 4 = some 7 ∧ 0 < gCnt 7 := ⟨rfl, rfl, rfl, by decide, rfl, by decide⟩
theorem gi_2_5 : gTag 2 = 0 ∧ gCi 2 = 1 ∧ gN 2 = 6 ∧ 5 < 6 ∧ gSlot 2 5 = none := ⟨rfl, rfl, rfl, by decide, rfl⟩
theorem gp_2_5 : gTag 2 = 0 ∧ gCi 2 = 1 ∧ gN 2 = 6 ∧ 5 < 6 ∧ gSlot 2 5 = none ∧ (TX1 5).2.2.2 = false ∧ (TX1 5).2.2.1 = "I" := ⟨rfl, rfl, rfl, by decide, rfl, rfl, rfl⟩
theorem gc_3 : 0 < gCnt 3 := by decide
theorem gq_3 : gTag 3 = 3 ∧ gTgt 3 = 4 ∧ gN 3 = gCnt 4 ∧ 2 ≤ gCi 3 ∧ gCi 3 < 5 := ⟨rfl, rfl, rfl, by decide, by decide⟩
theorem gn_3 : gN 3 = 10 := rfl
theorem gc_4 : 0 < gCnt 4 := by decide
theorem go_4 : gTag 4 = 0 ∧ gCi 4 = 3 := ⟨rfl, rfl⟩
theorem gi_4_0 : gTag 4 = 0 ∧ gCi 4 = 3 ∧ gN 4 = 13 ∧ 0 < 13 ∧ gSlot 4 0 = none := ⟨rfl, rfl, rfl, by decide, rfl⟩
theorem gp_4_0 : gTag 4 = 0 ∧ gCi 4 = 3 ∧ gN 4 = 13 ∧ 0 < 13 ∧ gSlot 4 0 = none ∧ (TX3 0).2.2.2 = false ∧ (TX3 0).2.2.1 = "I" := ⟨rfl, rfl, rfl, by decide, rfl, rfl, rfl⟩
theorem gi_4_1 : gTag 4 = 0 ∧ gCi 4 = 3 ∧ gN 4 = 13 ∧ 1 < 13 ∧ gSlot 4 1 = none := ⟨rfl, rfl, rfl, by decide, rfl⟩
theorem gp_4_1 : gTag 4 = 0 ∧ gCi 4 = 3 ∧ gN 4 = 13 ∧ 1 < 13 ∧ gSlot 4 1 = none ∧ (TX3 1).2.2.2 = false ∧ (TX3 1).2.2.1 = "I" := ⟨rfl, rfl, rfl, by decide, rfl, rfl, rfl⟩
theorem gi_4_2 : gTag 4 = 0 ∧ gCi 4 = 3 ∧ gN 4 = 13 ∧ 2 < 13 ∧ gSlot 4 2 = none := ⟨rfl, rfl, rfl, by decide, rfl⟩
theorem gp_4_2 : gTag 4 = 0 ∧ gCi 4 = 3 ∧ gN 4 = 13 ∧ 2 < 13 ∧ gSlot 4 2 = none ∧ (TX3 2).2.2.2 = false ∧ (TX3 2).2.2.1 = "I" := ⟨rfl, rfl, rfl, by decide, rfl, rfl, rfl⟩
theorem gi_4_3 : gTag 4 = 0 ∧ gCi 4 = 3 ∧ gN 4 = 13 ∧ 3 < 13 ∧ gSlot 4 3 = none := ⟨rfl, rfl, rfl, by decide, rfl⟩
theorem gp_4_3 : gTag 4 = 0 ∧ gCi 4 = 3 ∧ gN 4 = 13 ∧ 3 < 13 ∧ gSlot 4 3 = none ∧ (TX3 3).2.2.2 = false ∧ (TX3 3).2.2.1 = "I" := ⟨rfl, rfl, rfl, by decide, rfl, rfl, rfl⟩
theorem gi_4_4 : gTag 4 = 0 ∧ gCi 4 = 3 ∧ gN 4 = 13 ∧ 4 < 13 ∧ gSlot 4 4 = none := ⟨rfl, rfl, rfl, by decide, rfl⟩
theorem gp_4_4 : gTag 4 = 0 ∧ gCi 4 = 3 ∧ gN 4 = 13 ∧ 4 < 13 ∧ gSlot 4 4 = none ∧ (TX3 4).2.2.2 = false ∧ (TX3 4).2.2.1 = "I" := ⟨rfl, rfl, rfl, by decide, rfl, rfl, rfl⟩
theorem gi_4_5 : gTag 4 = 0 ∧ gCi 4 = 3 ∧ gN 4 = 13 ∧ 5 < 13 ∧ gSlot 4 5 = none := ⟨rfl, rfl, rfl, by decide, rfl⟩
theorem gp_4_5 : gTag 4 = 0 ∧ gCi 4 = 3 ∧ gN 4 = 13 ∧ 5 < 13 ∧ gSlot 4 5 = none ∧ (TX3 5).2.2.2 = false ∧ (TX3 5).2.2.1 = "I" := ⟨rfl, rfl, rfl, by decide, rfl, rfl, rfl⟩
theorem gi_4_6 : gTag 4 = 0 ∧ gCi 4 = 3 ∧ gN 4 = 13 ∧ 6 < 13 ∧ gSlot 4 6 = none := ⟨rfl, rfl, rfl, by decide, rfl⟩
theorem gp_4_6 : gTag 4 = 0 ∧ gCi 4 = 3 ∧ gN 4 = 13 ∧ 6 < 13 ∧ gSlot 4 6 = none ∧ (TX3 6).2.2.2 = false ∧ (TX3 6).2.2.1 = "I" := ⟨rfl, rfl, rfl, by decide, rfl, rfl, rfl⟩
theorem gi_4_7 : gTag 4 = 0 ∧ gCi 4 = 3 ∧ gN 4 = 13 ∧ 7 < 13 ∧ gSlot 4 7 = none := ⟨rfl, rfl, rfl, by decide, rfl⟩
theorem gp_4_7 : gTag 4 = 0 ∧ gCi 4 = 3 ∧ gN 4 = 13 ∧ 7 < 13 ∧ gSlot 4 7 = none ∧ (TX3 7).2.2.2 = false ∧ (TX3 7).2.2.1 = "I" := ⟨rfl, rfl, rfl, by decide, rfl, rfl, rfl⟩
theorem gi_4_8 : gTag 4 = 0 ∧ gCi 4 = 3 ∧ gN 4 = 13 ∧ 8 < 13 ∧ gSlot 4 8 = none := ⟨rfl, rfl, rfl, by decide, rfl⟩
theorem gp_4_8 : gTag 4 = 0 ∧ gCi 4 = 3 ∧ gN 4 = 13 ∧ 8 < 13 ∧ gSlot 4 8 = none ∧ (TX3 8).2.2.2 = false ∧ (TX3 8).2.2.1 = "I" := ⟨rfl, rfl, rfl, by decide, rfl, rfl, rfl⟩
theorem gi_4_9 : gTag 4 = 0 ∧ gCi 4 = 3 ∧ gN 4 = 13 ∧ 9 < 13 ∧ gSlot 4 9 = none := ⟨rfl, rfl, rfl, by decide, rfl⟩
theorem gp_4_9 : gTag 4 = 0 ∧ gCi 4 = 3 ∧ gN 4 = 13 ∧ 9 < 13 ∧ gSlot 4 9 = none ∧ (TX3 9).2.2.2 = false ∧ (TX3 9).2.2.1 = "I" := ⟨rfl, rfl, rfl, by decide, rfl, rfl, rfl⟩
theorem gi_4_10 : gTag 4 = 0 ∧ gCi 4 = 3 ∧ gN 4 = 13 ∧ 10 < 13 ∧ gSlot 4 10 = none := ⟨rfl, rfl, rfl, by decide, rfl⟩
theorem gp_4_10 : gTag 4 = 0 ∧ gCi 4 = 3 ∧ gN 4 = 13 ∧ 10 < 13 ∧ gSlot 4 10 = none ∧ (TX3 10).2.2.2 = false ∧ (TX3 10).2.2.1 = "I" := ⟨rfl, rfl, rfl, by decide, rfl, rfl, rfl⟩
theorem gi_4_11 : gTag 4 = 0 ∧ gCi 4 = 3 ∧ gN 4 = 13 ∧ 11 < 13 ∧ gSlot 4 11 = none := ⟨rfl, rfl, rfl, by decide, rfl⟩
theorem gp_4_11 : gTag 4 = 0 ∧ gCi 4 = 3 ∧ gN 4 = 13 ∧ 11 < 13 ∧ gSlot 4 11 = none ∧ (TX3 11).2.2.2 = false ∧ (TX3 11).2.2.1 = "I" := ⟨rfl, rfl, rfl, by decide, rfl, rfl, rfl⟩
theorem gi_4_12 : gTag 4 = 0 ∧ gCi 4 = 3 ∧ gN 4 = 13 ∧ 12 < 13 ∧ gSlot 4 12 = none := ⟨rfl, rfl, rfl, by decide, rfl⟩
theorem gp_4_12 : gTag 4 = 0 ∧ gCi 4 = 3 ∧ gN 4 = 13 ∧ 12 < 13 ∧ gSlot 4 12 = none ∧ (TX3 12).2.2.2 = false ∧ (TX3 12).2.2.1 = "I" := ⟨rfl, rfl, rfl, by decide, rfl, rfl, rfl⟩
theorem gc_5 : 0 < gCnt 5 := by decide
theorem ga_5 : gTag 5 = 1 := rfl
theorem gn_5 : gN 5 = 20 := rfl
theorem gc_6 : 0 < gCnt 6 := by decide
theorem ga_6 : gTag 6 = 1 := rfl
theorem gn_6 : gN 6 = 20 := rfl
theorem gc_7 : 0 < gCnt 7 := by decide
theorem ga_7 : gTag 7 = 1 := rfl
theorem gn_7 : gN 7 = 20 := rfl
theorem gc_8 : 0 < gCnt 8 := by decide
theorem go_8 : gTag 8 = 0 ∧ gCi 8 = 4 := ⟨rfl, rfl⟩
theorem gr_8_0 : gTag 8 = 0 ∧ gCi 8 = 4 ∧ gN 8 = 7 ∧ 0 < 7 ∧ gSlot 8 0 = some 2 ∧ 0 < gCnt 2 := ⟨rfl, rfl, rfl, by decide, rfl, by decide⟩
theorem gr_8_1 : gTag 8 = 0 ∧ gCi 8 = 4 ∧ gN 8 = 7 ∧ 1 < 7 ∧ gSlot 8 1 = some 9 ∧ 0 < gCnt 9 := ⟨rfl, rfl, rfl, by decide, rfl, by decide⟩
theorem gr_8_2 : gTag 8 = 0 ∧ gCi 8 = 4 ∧ gN 8 = 7 ∧ 2 < 7 ∧ gSlot 8 2 = some 10 ∧ 0 < gCnt 10 := ⟨rfl, rfl, rfl, by decide, rfl, by decide⟩
theorem gi_8_3 : gTag 8 = 0 ∧ gCi 8 = 4 ∧ gN 8 = 7 ∧ 3 < 7 ∧ gSlot 8 3 = none := ⟨rfl, rfl, rfl, by decide, rfl⟩
theorem gp_8_3 : gTag 8 = 0 ∧ gCi 8 = 4 ∧ gN 8 = 7 ∧ 3 < 7 ∧ gSlot 8 3 = none ∧ (TX4 3).2.2.2 = false ∧ (TX4 3).2.2.1 = "I" := ⟨rfl, rfl, rfl, by decide, rfl, rfl, rfl⟩
theorem gr_8_4 : gTag 8 = 0 ∧ gCi 8 = 4 ∧ gN 8 = 7 ∧ 4 < 7 ∧ gSlot 8 4 = some 12 ∧ 0 < gCnt 12 := ⟨rfl, rfl, rfl, by decide, rfl, by decide⟩
theorem gr_8_5 : gTag 8 = 0 ∧ gCi 8 = 4 ∧ gN 8 = 7 ∧ 5 < 7 ∧ gSlot 8 5 = some 13 ∧ 0 < gCnt 13 := ⟨rfl, rfl, rfl, by decide, rfl, by decide⟩
theorem gr_8_6 : gTag 8 = 0 ∧ gCi 8 = 4 ∧ gN 8 = 7 ∧ 6 < 7 ∧ gSlot 8 6 = some 14 ∧ 0 < gCnt 14 := ⟨rfl, rfl, rfl, by decide, rfl, by decide⟩
theorem gc_9 : 0 < gCnt 9 := by decide
theorem ga_9 : gTag 9 = 1 := rfl
theorem gn_9 : gN 9 = 6 := rfl
theorem gc_10 : 0 < gCnt 10 := by decide
theorem gq_10 : gTag 10 = 3 ∧ gTgt 10 = 11 ∧ gN 10 = gCnt 11 ∧ 2 ≤ gCi 10 ∧ gCi 10 < 5 := ⟨rfl, rfl, rfl, by decide, by decide⟩
theorem gn_10 : gN 10 = 16 := rfl
theorem gc_11 : 0 < gCnt 11 := by decide
theorem go_11 : gTag 11 = 0 ∧ gCi 11 = 2 := ⟨rfl, rfl⟩
theorem gi_11_0 : gTag 11 = 0 ∧ gCi 11 = 2 ∧ gN 11 = 5 ∧ 0 < 5 ∧ gSlot 11 0 = none := ⟨rfl, rfl, rfl, by decide, rfl⟩
theorem gp_11_0 : gTag 11 = 0 ∧ gCi 11 = 2 ∧ gN 11 = 5 ∧ 0 < 5 ∧ gSlot 11 0 = none ∧ (TX2 0).2.2.2 = false ∧ (TX2 0).2.2.1 = "I" := ⟨rfl, rfl, rfl, by decide, rfl, rfl, rfl⟩
theorem gi_11_1 : gTag 11 = 0 ∧ gCi 11 = 2 ∧ gN 11 = 5 ∧ 1 < 5 ∧ gSlot 11 1 = none := ⟨rfl, rfl, rfl, by decide, rfl⟩
theorem gp_11_1 : gTag 11 = 0 ∧ gCi 11 = 2 ∧ gN 11 = 5 ∧ 1 < 5 ∧ gSlot 11 1 = none ∧ (TX2 1).2.2.2 = false ∧ (TX2 1).2.2.1 = "I" := ⟨rfl, rfl, rfl, by decide, rfl, rfl, rfl⟩
theorem gi_11_2 : gTag 11 = 0 ∧ gCi 11 = 2 ∧ gN 11 = 5 ∧ 2 < 5 ∧ gSlot 11 2 = none := ⟨rfl, rfl, rfl, by decide, rfl⟩
theorem gp_11_2 : gTag 11 = 0 ∧ gCi 11 = 2 ∧ gN 11 = 5 ∧ 2 < 5 ∧ gSlot 11 2 = none ∧ (TX2 2).2.2.2 = false ∧ (TX2 2).2.2.1 = "I" := ⟨rfl, rfl, rfl, by decide, rfl, rfl, rfl⟩
theorem gi_11_3 : gTag 11 = 0 ∧ gCi 11 = 2 ∧ gN 11 = 5 ∧ 3 < 5 ∧ gSlot 11 3 = none := ⟨rfl, rfl, rfl, by decide, rfl⟩
theorem gp_11_3 : gTag 11 = 0 ∧ gCi 11 = 2 ∧ gN 11 = 5 ∧ 3 < 5 ∧ gSlot 11 3 = none ∧ (TX2 3).2.2.2 = false ∧ (TX2 3).2.2.1 = "I" := ⟨rfl, rfl, rfl, by decide, rfl, rfl, rfl⟩
theorem gi_11_4 : gTag 11 = 0 ∧ gCi 11 = 2 ∧ gN 11 = 5 ∧ 4 < 5 ∧ gSlot 11 4 = none := ⟨rfl, rfl, rfl, by decide, rfl⟩
theorem gp_11_4 : gTag 11 = 0 ∧ gCi 11 = 2 ∧ gN 11 = 5 ∧ 4 < 5 ∧ gSlot 11 4 = none ∧ (TX2 4).2.2.2 = false ∧ (TX2 4).2.2.1 = "I" := ⟨rfl, rfl, rfl, by decide, rfl, rfl, rfl⟩
theorem gc_12 : 0 < gCnt 12 := by decide
theorem ga_12 : gTag 12 = 1 := rfl
theorem gn_12 : gN 12 = 16 := rfl
theorem gc_13 : 0 < gCnt 13 := by decide
theorem ga_13 : gTag 13 = 1 := rfl
theorem gn_13 : gN 13 = 16 := rfl
theorem gc_14 : 0 < gCnt 14 := by decide
theorem ga_14 : gTag 14 = 1 := rfl
theorem gn_14 : gN 14 = 10 := rfl
theorem gc_15 : 0 < gCnt 15 := by decide
theorem go_15 : gTag 15 = 0 ∧ gCi 15 = 5 := ⟨rfl, rfl⟩
theorem gr_15_0 : gTag 15 = 0 ∧ gCi 15 = 5 ∧ gN 15 = 8 ∧ 0 < 8 ∧ gSlot 15 0 = some 8 ∧ 0 < gCnt 8 := ⟨rfl, rfl, rfl, by decide, rfl, by decide⟩
theorem gr_15_1 : gTag 15 = 0 ∧ gCi 15 = 5 ∧ gN 15 = 8 ∧ 1 < 8 ∧ gSlot 15 1 = some 16 ∧ 0 < gCnt 16 := ⟨rfl, rfl, rfl, by decide, rfl, by decide⟩
theorem gr_15_2 : gTag 15 = 0 ∧ gCi 15 = 5 ∧ gN 15 = 8 ∧ 2 < 8 ∧ gSlot 15 2 = some 17 ∧ 0 < gCnt 17 := ⟨rfl, rfl, rfl, by decide, rfl, by decide⟩
theorem gi_15_3 : gTag 15 = 0 ∧ gCi 15 = 5 ∧ gN 15 = 8 ∧ 3 < 8 ∧ gSlot 15 3 = none := ⟨rfl, rfl, rfl, by decide, rfl⟩
theorem gp_15_3 : gTag 15 = 0 ∧ gCi 15 = 5 ∧ gN 15 = 8 ∧ 3 < 8 ∧ gSlot 15 3 = none ∧ (TX5 3).2.2.2 = false ∧ (TX5 3).2.2.1 = "I" := ⟨rfl, rfl, rfl, by decide, rfl, rfl, rfl⟩
theorem gr_15_4 : gTag 15 = 0 ∧ gCi 15 = 5 ∧ gN 15 = 8 ∧ 4 < 8 ∧ gSlot 15 4 = some 18 ∧ 0 < gCnt 18 := ⟨rfl, rfl, rfl, by decide, rfl, by decide⟩
theorem gr_15_5 : gTag 15 = 0 ∧ gCi 15 = 5 ∧ gN 15 = 8 ∧ 5 < 8 ∧ gSlot 15 5 = some 19 ∧ 0 < gCnt 19 := ⟨rfl, rfl, rfl, by decide, rfl, by decide⟩
theorem gr_15_6 : gTag 15 = 0 ∧ gCi 15 = 5 ∧ gN 15 = 8 ∧ 6 < 8 ∧ gSlot 15 6 = some 20 ∧ 0 < gCnt 20 := ⟨rfl, rfl, rfl, by decide, rfl, by decide⟩
theorem gi_15_7 : gTag 15 = 0 ∧ gCi 15 = 5 ∧ gN 15 = 8 ∧ 7 < 8 ∧ gSlot 15 7 = none := ⟨rfl, rfl, rfl, by decide, rfl⟩
theorem gp_15_7 : gTag 15 = 0 ∧ gCi 15 = 5 ∧ gN 15 = 8 ∧ 7 < 8 ∧ gSlot 15 7 = none ∧ (TX5 7).2.2.2 = false ∧ (TX5 7).2.2.1 = "I" := ⟨rfl, rfl, rfl, by decide, rfl, rfl, rfl⟩
theorem gc_16 : 0 < gCnt 16 := by decide
theorem ga_16 : gTag 16 = 1 := rfl
theorem gn_16 : gN 16 = 6 := rfl
theorem gc_17 : 0 < gCnt 17 := by decide
theorem ga_17 : gTag 17 = 1 := rfl
theorem gn_17 : gN 17 = 6 := rfl
theorem gc_18 : 0 < gCnt 18 := by decide
theorem ga_18 : gTag 18 = 1 := rfl
theorem gn_18 : gN 18 = 22 := rfl
theorem gc_19 : 0 < gCnt 19 := by decide
theorem ga_19 : gTag 19 = 1 := rfl
theorem gn_19 : gN 19 = 22 := rfl
theorem gc_20 : 0 < gCnt 20 := by decide
theorem ga_20 : gTag 20 = 1 := rfl
theorem gn_20 : gN 20 = 22 := rfl
theorem gc_21 : 0 < gCnt 21 := by decide
theorem go_21 : gTag 21 = 0 ∧ gCi 21 = 0 := ⟨rfl, rfl⟩
theorem gr_21_0 : gTag 21 = 0 ∧ gCi 21 = 0 ∧ gN 21 = 5 ∧ 0 < 5 ∧ gSlot 21 0 = some 22 ∧ 0 < gCnt 22 := ⟨rfl, rfl, rfl, by decide, rfl, by decide⟩
theorem gr_21_1 : gTag 21 = 0 ∧ gCi 21 = 0 ∧ gN 21 = 5 ∧ 1 < 5 ∧ gSlot 21 1 = some 23 ∧ 0 < gCnt 23 := ⟨rfl, rfl, rfl, by decide, rfl, by decide⟩
theorem gr_21_2 : gTag 21 = 0 ∧ gCi 21 = 0 ∧ gN 21 = 5 ∧ 2 < 5 ∧ gSlot 21 2 = some 24 ∧ 0 < gCnt 24 := ⟨rfl, rfl, rfl, by decide, rfl, by decide⟩
theorem gi_21_3 : gTag 21 = 0 ∧ gCi 21 = 0 ∧ gN 21 = 5 ∧ 3 < 5 ∧ gSlot 21 3 = none := ⟨rfl, rfl, rfl, by decide, rfl⟩
theorem gp_21_3 : gTag 21 = 0 ∧ gCi 21 = 0 ∧ gN 21 = 5 ∧ 3 < 5 ∧ gSlot 21 3 = none ∧ (TX0 3).2.2.2 = false ∧ (TX0 3).2.2.1 = "I" := ⟨rfl, rfl, rfl, by decide, rfl, rfl, rfl⟩
theorem gi_21_4 : gTag 21 = 0 ∧ gCi 21 = 0 ∧ gN 21 = 5 ∧ 4 < 5 ∧ gSlot 21 4 = none := ⟨rfl, rfl, rfl, by decide, rfl⟩
theorem gp_21_4 : gTag 21 = 0 ∧ gCi 21 = 0 ∧ gN 21 = 5 ∧ 4 < 5 ∧ gSlot 21 4 = none ∧ (TX0 4).2.2.2 = false ∧ (TX0 4).2.2.1 = "I" := ⟨rfl, rfl, rfl, by decide, rfl, rfl, rfl⟩
theorem gc_22 : 0 < gCnt 22 := by decide
theorem ga_22 : gTag 22 = 1 := rfl
theorem gn_22 : gN 22 = 40 := rfl
theorem gc_23 : 0 < gCnt 23 := by decide
theorem ga_23 : gTag 23 = 1 := rfl
theorem gn_23 : gN 23 = 40 := rfl
theorem gc_24 : 0 < gCnt 24 := by decide
theorem gq_24 : gTag 24 = 3 ∧ gTgt 24 = 25 ∧ gN 24 = gCnt 25 ∧ 2 ≤ gCi 24 ∧ gCi 24 < 5 := ⟨rfl, rfl, rfl, by decide, by decide⟩
theorem gn_24 : gN 24 = 3 := rfl
theorem gc_25 : 0 < gCnt 25 := by decide
theorem ga_25 : gTag 25 = 1 := rfl
theorem gn_25 : gN 25 = 40 := rfl
theorem gc_26 : 0 < gCnt 26 := by decide
theorem ga_26 : gTag 26 = 1 := rfl
theorem gn_26 : gN 26 = 16 := rfl
theorem gc_27 : 0 < gCnt 27 := by decide
theorem ga_27 : gTag 27 = 1 := rfl
theorem gn_27 : gN 27 = 6 := rfl
theorem gc_28 : 0 < gCnt 28 := by decide
theorem go_28 : gTag 28 = 0 ∧ gCi 28 = 7 := ⟨rfl, rfl⟩
theorem gi_28_0 : gTag 28 = 0 ∧ gCi 28 = 7 ∧ gN 28 = 46 ∧ 0 < 46 ∧ gSlot 28 0 = none := ⟨rfl, rfl, rfl, by decide, rfl⟩
theorem gp_28_0 : gTag 28 = 0 ∧ gCi 28 = 7 ∧ gN 28 = 46 ∧ 0 < 46 ∧ gSlot 28 0 = none ∧ (TX7 0).2.2.2 = false ∧ (TX7 0).2.2.1 = "I" := ⟨rfl, rfl, rfl, by decide, rfl, rfl, rfl⟩
theorem gi_28_1 : gTag 28 = 0 ∧ gCi 28 = 7 ∧ gN 28 = 46 ∧ 1 < 46 ∧ gSlot 28 1 = none := ⟨rfl, rfl, rfl, by decide, rfl⟩
theorem gp_28_1 : gTag 28 = 0 ∧ gCi 28 = 7 ∧ gN 28 = 46 ∧ 1 < 46 ∧ gSlot 28 1 = none ∧ (TX7 1).2.2.2 = false ∧ (TX7 1).2.2.1 = "I" := ⟨rfl, rfl, rfl, by decide, rfl, rfl, rfl⟩
theorem gi_28_2 : gTag 28 = 0 ∧ gCi 28 = 7 ∧ gN 28 = 46 ∧ 2 < 46 ∧ gSlot 28 2 = none := ⟨rfl, rfl, rfl, by decide, rfl⟩
theorem gp_28_2 : gTag 28 = 0 ∧ gCi 28 = 7 ∧ gN 28 = 46 ∧ 2 < 46 ∧ gSlot 28 2 = none ∧ (TX7 2).2.2.2 = false ∧ (TX7 2).2.2.1 = "I" := ⟨rfl, rfl, rfl, by decide, rfl, rfl, rfl⟩
theorem gi_28_3 : gTag 28 = 0 ∧ gCi 28 = 7 ∧ gN 28 = 46 ∧ 3 < 46 ∧ gSlot 28 3 = none := ⟨rfl, rfl, rfl, by decide, rfl⟩
theorem gp_28_3 : gTag 28 = 0 ∧ gCi 28 = 7 ∧ gN 28 = 46 ∧ 3 < 46 ∧ gSlot 28 3 = none ∧ (TX7 3).2.2.2 = false ∧ (TX7 3).2.2.1 = "I" := ⟨rfl, rfl, rfl, by decide, rfl, rfl, rfl⟩
theorem gi_28_4 : gTag 28 = 0 ∧ gCi 28 = 7 ∧ gN 28 = 46 ∧ 4 < 46 ∧ gSlot 28 4 = none := ⟨rfl, rfl, rfl, by decide, rfl⟩
theorem gp_28_4 : gTag 28 = 0 ∧ gCi 28 = 7 ∧ gN 28 = 46 ∧ 4 < 46 ∧ gSlot 28 4 = none ∧ (TX7 4).2.2.2 = false ∧ (TX7 4).2.2.1 = "I" := ⟨rfl, rfl, rfl, by decide, rfl, rfl, rfl⟩
theorem gi_28_5 : gTag 28 = 0 ∧ gCi 28 = 7 ∧ gN 28 = 46 ∧ 5 < 46 ∧ gSlot 28 5 = none := ⟨rfl, rfl, rfl, by decide, rfl⟩
theorem gp_28_5 : gTag 28 = 0 ∧ gCi 28 = 7 ∧ gN 28 = 46 ∧ 5 < 46 ∧ gSlot 28 5 = none ∧ (TX7 5).2.2.2 = false ∧ (TX7 5).2.2.1 = "I" := ⟨rfl, rfl, rfl, by decide, rfl, rfl, rfl⟩
theorem gi_28_6 : gTag 28 = 0 ∧ gCi 28 = 7 ∧ gN 28 = 46 ∧ 6 < 46 ∧ gSlot 28 6 = none := ⟨rfl, rfl, rfl, by decide, rfl⟩
theorem gp_28_6 : gTag 28 = 0 ∧ gCi 28 = 7 ∧ gN 28 = 46 ∧ 6 < 46 ∧ gSlot 28 6 = none ∧ (TX7 6).2.2.2 = false ∧ (TX7 6).2.2.1 = "I" := ⟨rfl, rfl, rfl, by decide, rfl, rfl, rfl⟩
theorem gi_28_7 : gTag 28 = 0 ∧ gCi 28 = 7 ∧ gN 28 = 46 ∧ 7 < 46 ∧ gSlot 28 7 = none := ⟨rfl, rfl, rfl, by decide, rfl⟩
theorem gp_28_7 : gTag 28 = 0 ∧ gCi 28 = 7 ∧ gN 28 = 46 ∧ 7 < 46 ∧ gSlot 28 7 = none ∧ (TX7 7).2.2.2 = false ∧ (TX7 7).2.2.1 = "I" := ⟨rfl, rfl, rfl, by decide, rfl, rfl, rfl⟩
theorem gi_28_8 : gTag 28 = 0 ∧ gCi 28 = 7 ∧ gN 28 = 46 ∧ 8 < 46 ∧ gSlot 28 8 = none := ⟨rfl, rfl, rfl, by decide, rfl⟩
theorem gp_28_8 : gTag 28 = 0 ∧ gCi 28 = 7 ∧ gN 28 = 46 ∧ 8 < 46 ∧ gSlot 28 8 = none ∧ (TX7 8).2.2.2 = false ∧ (TX7 8).2.2.1 = "I" := ⟨rfl, rfl, rfl, by decide, rfl, rfl, rfl⟩
theorem gi_28_9 : gTag 28 = 0 ∧ gCi 28 = 7 ∧ gN 28 = 46 ∧ 9 < 46 ∧ gSlot 28 9 = none := ⟨rfl, rfl, rfl, by decide, rfl⟩
theorem gp_28_9 : gTag 28 = 0 ∧ gCi 28 = 7 ∧ gN 28 = 46 ∧ 9 < 46 ∧ gSlot 28 9 = none ∧ (TX7 9).2.2.2 = false ∧ (TX7 9).2.2.1 = "I" := ⟨rfl, rfl, rfl, by decide, rfl, rfl, rfl⟩
theorem gr_28_10 : gTag 28 = 0 ∧ gCi 28 = 7 ∧ gN 28 = 46 ∧ 10 < 46 ∧ gSlot 28 10 = some 29 ∧ 0 < gCnt 29 := ⟨rfl, rfl, rfl, by decide, rfl, by decide⟩
theorem gr_28_11 : gTag 28 = 0 ∧ gCi 28 = 7 ∧ gN 28 = 46 ∧ 11 < 46 ∧ gSlot 28 11 = some 30 ∧ 0 < gCnt 30 := ⟨rfl, rfl, rfl, by decide, rfl, by decide⟩
theorem gr_28_12 : gTag 28 = 0 ∧ gCi 28 = 7 ∧ gN 28 = 46 ∧ 12 < 46 ∧ gSlot 28 12 = some 31 ∧ 0 < gCnt 31 := ⟨rfl, rfl, rfl, by decide, rfl, by decide⟩
theorem gr_28_13 : gTag 28 = 0 ∧ gCi 28 = 7 ∧ gN 28 = 46 ∧ 13 < 46 ∧ gSlot 28 13 = some 32 ∧ 0 < gCnt 32 := ⟨rfl, rfl, rfl, by decide, rfl, by decide⟩
theorem gr_28_14 : gTag 28 = 0 ∧ gCi 28 = 7 ∧ gN 28 = 46 ∧ 14 < 46 ∧ gSlot 28 14 = some 33 ∧ 0 < gCnt 33 := ⟨rfl, rfl, rfl, by decide, rfl, by decide⟩
theorem gr_28_15 : gTag 28 = 0 ∧ gCi 28 = 7 ∧ gN 28 = 46 ∧ 15 < 46 ∧ gSlot 28 15 = some 34 ∧ 0 < gCnt 34 := ⟨rfl, rfl, rfl, by decide, rfl, by decide⟩
theorem gr_28_16 : gTag 28 = 0 ∧ gCi 28 = 7 ∧ gN 28 = 46 ∧ 16 < 46 ∧ gSlot 28 16 = some 35 ∧ 0 < gCnt 35 := ⟨rfl, rfl, rfl, by decide, rfl, by decide⟩
theorem gr_28_17 : gTag 28 = 0 ∧ gCi 28 = 7 ∧ gN 28 = 46 ∧ 17 < 46 ∧ gSlot 28 17 = some 36 ∧ 0 < gCnt 36 := ⟨rfl, rfl, rfl, by decide, rfl, by decide⟩
theorem gr_28_18 : gTag 28 = 0 ∧ gCi 28 = 7 ∧ gN 28 = 46 ∧ 18 < 46 ∧ gSlot 28 18 = some 37 ∧ 0 < gCnt 37 := ⟨rfl, rfl, rfl, by decide, rfl, by decide⟩
theorem gr_28_19 : gTag 28 = 0 ∧ gCi 28 = 7 ∧ gN 28 = 46 ∧ 19 < 46 ∧ gSlot 28 19 = some 38 ∧ 0 < gCnt 38 := ⟨rfl, rfl, rfl, by decide, rfl, by decide⟩
theorem gr_28_20 : gTag 28 = 0 ∧ gCi 28 = 7 ∧ gN 28 = 46 ∧ 20 < 46 ∧ gSlot 28 20 = some 39 ∧ 0 < gCnt 39 := ⟨rfl, rfl, rfl, by decide, rfl, by decide⟩
theorem gr_28_21 : gTag 28 = 0 ∧ gCi 28 = 7 ∧ gN 28 = 46 ∧ 21 < 46 ∧ gSlot 28 21 = some 40 ∧ 0 < gCnt 40 := ⟨rfl, rfl, rfl, by decide, rfl, by decide⟩
theorem gr_28_22 : gTag 28 = 0 ∧ gCi 28 = 7 ∧ gN 28 = 46 ∧ 22 < 46 ∧ gSlot 28 22 = some 41 ∧ 0 < gCnt 41 := ⟨rfl, rfl, rfl, by decide, rfl, by decide⟩
theorem gr_28_23 : gTag 28 = 0 ∧ gCi 28 = 7 ∧ gN 28 = 46 ∧ 23 < 46 ∧ gSlot 28 23 = some 42 ∧ 0 < gCnt 42 := ⟨rfl, rfl, rfl, by decide, rfl, by decide⟩
theorem gr_28_24 : gTag 28 = 0 ∧ gCi 28 = 7 ∧ gN 28 = 46 ∧ 24 < 46 ∧ gSlot 28 24 = some 43 ∧ 0 < gCnt 43 := ⟨rfl, rfl, rfl, by decide, rfl, by decide⟩
theorem gr_28_25 : gTag 28 = 0 ∧ gCi 28 = 7 ∧ gN 28 = 46 ∧ 25 < 46 ∧ gSlot 28 25 = some 44 ∧ 0 < gCnt 44 := ⟨rfl, rfl, rfl, by decide, rfl, by decide⟩
theorem gr_28_26 : gTag 28 = 0 ∧ gCi 28 = 7 ∧ gN 28 = 46 ∧ 26 < 46 ∧ gSlot 28 26 = some 45 ∧ 0 < gCnt 45 := ⟨rfl, rfl, rfl, by decide, rfl, by decide⟩
theorem gr_28_27 : gTag 28 = 0 ∧ gCi 28 = 7 ∧ gN 28 = 46 ∧ 27 < 46 ∧ gSlot 28 27 = some 46 ∧ 0 < gCnt 46 := ⟨rfl, rfl, rfl, by decide, rfl, by decide⟩
theorem gr_28_28 : gTag 28 = 0 ∧ gCi 28 = 7 ∧ gN 28 = 46 ∧ 28 < 46 ∧ gSlot 28 28 = some 47 ∧ 0 < gCnt 47 := ⟨rfl, rfl, rfl, by decide, rfl, by decide⟩
theorem gr_28_29 : gTag 28 = 0 ∧ gCi 28 = 7 ∧ gN 28 = 46 ∧ 29 < 46 ∧ gSlot 28 29 = some 48 ∧ 0 < gCnt 48 := ⟨rfl, rfl, rfl, by decide, rfl, by decide⟩
theorem gr_28_30 : gTag 28 = 0 ∧ gCi 28 = 7 ∧ gN 28 = 46 ∧ 30 < 46 ∧ gSlot 28 30 = some 49 ∧ 0 < gCnt 49 := ⟨rfl, rfl, rfl, by decide, rfl, by decide⟩
theorem gr_28_31 : gTag 28 = 0 ∧ gCi 28 = 7 ∧ gN 28 = 46 ∧ 31 < 46 ∧ gSlot 28 31 = some 50 ∧ 0 < gCnt 50 := ⟨rfl, rfl, rfl, by decide, rfl, by decide⟩
theorem gr_28_32 : gTag 28 = 0 ∧ gCi 28 = 7 ∧ gN 28 = 46 ∧ 32 < 46 ∧ gSlot 28 32 = some 51 ∧ 0 < gCnt 51 := ⟨rfl, rfl, rfl, by decide, rfl, by decide⟩
theorem gr_28_33 : gTag 28 = 0 ∧ gCi 28 = 7 ∧ gN 28 = 46 ∧ 33 < 46 ∧ gSlot 28 33 = some 52 ∧ 0 < gCnt 52 := ⟨rfl, rfl, rfl, by decide, rfl, by decide⟩
theorem gr_28_34 : gTag 28 = 0 ∧ gCi 28 = 7 ∧ gN 28 = 46 ∧ 34 < 46 ∧ gSlot 28 34 = some 53 ∧ 0 < gCnt 53 := ⟨rfl, rfl, rfl, by decide, rfl, by decide⟩
theorem gr_28_35 : gTag 28 = 0 ∧ gCi 28 = 7 ∧ gN 28 = 46 ∧ 35 < 46 ∧ gSlot 28 35 = some 54 ∧ 0 < gCnt 54 := ⟨rfl, rfl, rfl, by decide, rfl, by decide⟩
theorem gr_28_36 : gTag 28 = 0 ∧ gCi 28 = 7 ∧ gN 28 = 46 ∧ 36 < 46 ∧ gSlot 28 36 = some 55 ∧ 0 < gCnt 55 := ⟨rfl, rfl, rfl, by decide, rfl, by decide⟩
theorem gr_28_37 : gTag 28 = 0 ∧ gCi 28 = 7 ∧ gN 28 = 46 ∧ 37 < 46 ∧ gSlot 28 37 = some 56 ∧ 0 < gCnt 56 := ⟨rfl, rfl, rfl, by decide, rfl, by decide⟩
theorem gr_28_38 : gTag 28 = 0 ∧ gCi 28 = 7 ∧ gN 28 = 46 ∧ 38 < 46 ∧ gSlot 28 38 = some 57 ∧ 0 < gCnt 57 := ⟨rfl, rfl, rfl, by decide, rfl, by decide⟩
theorem gr_28_39 : gTag 28 = 0 ∧ gCi 28 = 7 ∧ gN 28 = 46 ∧ 39 < 46 ∧ gSlot 28 39 = some 58 ∧ 0 < gCnt 58 := ⟨rfl, rfl, rfl, by decide, rfl, by decide⟩
theorem gr_28_40 : gTag 28 = 0 ∧ gCi 28 = 7 ∧ gN 28 = 46 ∧ 40 < 46 ∧ gSlot 28 40 = some 59 ∧ 0 < gCnt 59 := ⟨rfl, rfl, rfl, by decide, rfl, by decide⟩
theorem gr_28_41 : gTag 28 = 0 ∧ gCi 28 = 7 ∧ gN 28 = 46 ∧ 41 < 46 ∧ gSlot 28 41 = some 60 ∧ 0 < gCnt 60 := ⟨rfl, rfl, rfl, by decide, rfl, by decide⟩
theorem gr_28_42 : gTag 28 = 0 ∧ gCi 28 = 7 ∧ gN 28 = 46 ∧ 42 < 46 ∧ gSlot 28 42 = some 61 ∧ 0 < gCnt 61 := ⟨rfl, rfl, rfl, by decide, rfl, by decide⟩
theorem gi_28_43 : gTag 28 = 0 ∧ gCi 28 = 7 ∧ gN 28 = 46 ∧ 43 < 46 ∧ gSlot 28 43 = none := ⟨rfl, rfl, rfl, by decide, rfl⟩
theorem gp_28_43 : gTag 28 = 0 ∧ gCi 28 = 7 ∧ gN 28 = 46 ∧ 43 < 46 ∧ gSlot 28 43 = none ∧ (TX7 43).2.2.2 = false ∧ (TX7 43).2.2.1 = "I" := ⟨rfl, rfl, rfl, by decide, rfl, rfl, rfl⟩
theorem gr_28_44 : gTag 28 = 0 ∧ gCi 28 = 7 ∧ gN 28 = 46 ∧ 44 < 46 ∧ gSlot 28 44 = some 62 ∧ 0 < gCnt 62 := ⟨rfl, rfl, rfl, by decide, rfl, by decide⟩
theorem gr_28_45 : gTag 28 = 0 ∧ gCi 28 = 7 ∧ gN 28 = 46 ∧ 45 < 46 ∧ gSlot 28 45 = some 63 ∧ 0 < gCnt 63 := ⟨rfl, rfl, rfl, by decide, rfl, by decide⟩
theorem gc_29 : 0 < gCnt 29 := by decide
theorem ga_29 : gTag 29 = 1 := rfl
theorem gn_29 : gN 29 = 12 := rfl
theorem gc_30 : 0 < gCnt 30 := by decide
theorem ga_30 : gTag 30 = 1 := rfl
theorem gn_30 : gN 30 = 10 := rfl
theorem gc_31 : 0 < gCnt 31 := by decide
theorem ga_31 : gTag 31 = 1 := rfl
theorem gn_31 : gN 31 = 10 := rfl
theorem gc_32 : 0 < gCnt 32 := by decide
theorem ga_32 : gTag 32 = 1 := rfl
theorem gn_32 : gN 32 = 10 := rfl
theorem gc_33 : 0 < gCnt 33 := by decide
theorem ga_33 : gTag 33 = 1 := rfl
theorem gn_33 : gN 33 = 10 := rfl
theorem gc_34 : 0 < gCnt 34 := by decide
theorem ga_34 : gTag 34 = 1 := rfl
theorem gn_34 : gN 34 = 10 := rfl
theorem gc_35 : 0 < gCnt 35 := by decide
theorem ga_35 : gTag 35 = 1 := rfl
theorem gn_35 : gN 35 = 10 := rfl
theorem gc_36 : 0 < gCnt 36 := by decide
theorem ga_36 : gTag 36 = 1 := rfl
theorem gn_36 : gN 36 = 10 := rfl
theorem gc_37 : 0 < gCnt 37 := by decide
theorem ga_37 : gTag 37 = 1 := rfl
theorem gn_37 : gN 37 = 10 := rfl
theorem gc_38 : 0 < gCnt 38 := by decide
theorem ga_38 : gTag 38 = 1 := rfl
theorem gn_38 : gN 38 = 10 := rfl
theorem gc_39 : 0 < gCnt 39 := by decide
theorem ga_39 : gTag 39 = 1 := rfl
theorem gn_39 : gN 39 = 20 := rfl
theorem gc_40 : 0 < gCnt 40 := by decide
theorem ga_40 : gTag 40 = 1 := rfl
theorem gn_40 : gN 40 = 20 := rfl
theorem gc_41 : 0 < gCnt 41 := by decide
theorem ga_41 : gTag 41 = 2 := rfl
theorem gn_41 : gN 41 = 20 := rfl
theorem gc_42 : 0 < gCnt 42 := by decide
theorem ga_42 : gTag 42 = 1 := rfl
theorem gn_42 : gN 42 = 6 := rfl
theorem gc_43 : 0 < gCnt 43 := by decide
theorem ga_43 : gTag 43 = 1 := rfl
theorem gn_43 : gN 43 = 16 := rfl
theorem gc_44 : 0 < gCnt 44 := by decide
theorem ga_44 : gTag 44 = 1 := rfl
theorem gn_44 : gN 44 = 16 := rfl
theorem gc_45 : 0 < gCnt 45 := by decide
theorem ga_45 : gTag 45 = 1 := rfl
theorem gn_45 : gN 45 = 16 := rfl
theorem gc_46 : 0 < gCnt 46 := by decide
theorem ga_46 : gTag 46 = 1 := rfl
theorem gn_46 : gN 46 = 16 := rfl
theorem gc_47 : 0 < gCnt 47 := by decide
theorem ga_47 : gTag 47 = 2 := rfl
theorem gn_47 : gN 47 = 16 := rfl
theorem gc_48 : 0 < gCnt 48 := by decide
theorem ga_48 : gTag 48 = 1 := rfl
theorem gn_48 : gN 48 = 6 := rfl
theorem gc_49 : 0 < gCnt 49 := by decide
theorem ga_49 : gTag 49 = 1 := rfl
theorem gn_49 : gN 49 = 6 := rfl
theorem gc_50 : 0 < gCnt 50 := by decide
theorem ga_50 : gTag 50 = 1 := rfl
theorem gn_50 : gN 50 = 40 := rfl
theorem gc_51 : 0 < gCnt 51 := by decide
theorem ga_51 : gTag 51 = 1 := rfl
theorem gn_51 : gN 51 = 40 := rfl
theorem gc_52 : 0 < gCnt 52 := by decide
theorem ga_52 : gTag 52 = 1 := rfl
theorem gn_52 : gN 52 = 40 := rfl
theorem gc_53 : 0 < gCnt 53 := by decide
theorem ga_53 : gTag 53 = 1 := rfl
theorem gn_53 : gN 53 = 40 := rfl
theorem gc_54 : 0 < gCnt 54 := by decide
theorem ga_54 : gTag 54 = 1 := rfl
theorem gn_54 : gN 54 = 40 := rfl
theorem gc_55 : 0 < gCnt 55 := by decide
theorem ga_55 : gTag 55 = 1 := rfl
theorem gn_55 : gN 55 = 80 := rfl
theorem gc_56 : 0 < gCnt 56 := by decide
theorem ga_56 : gTag 56 = 1 := rfl
theorem gn_56 : gN 56 = 16 := rfl
theorem gc_57 : 0 < gCnt 57 := by decide
theorem ga_57 : gTag 57 = 1 := rfl
theorem gn_57 : gN 57 = 6 := rfl
theorem gc_58 : 0 < gCnt 58 := by decide
theorem ga_58 : gTag 58 = 2 := rfl
theorem gn_58 : gN 58 = 22 := rfl
theorem gc_59 : 0 < gCnt 59 := by decide
theorem ga_59 : gTag 59 = 1 := rfl
theorem gn_59 : gN 59 = 22 := rfl
theorem gc_60 : 0 < gCnt 60 := by decide
theorem ga_60 : gTag 60 = 1 := rfl
theorem gn_60 : gN 60 = 22 := rfl
theorem gc_61 : 0 < gCnt 61 := by decide
theorem ga_61 : gTag 61 = 1 := rfl
theorem gn_61 : gN 61 = 22 := rfl
theorem gc_62 : 0 < gCnt 62 := by decide
theorem ga_62 : gTag 62 = 1 := rfl
theorem gn_62 : gN 62 = 10 := rfl
theorem gc_63 : 0 < gCnt 63 := by decide
theorem ga_63 : gTag 63 = 1 := rfl
theorem gn_63 : gN 63 = 40 := rfl
end Facts
theorem cat_ : ∀ w ∈ ([] : List Value), w.category = 1 := fun w hw => by cases hw
theorem cat_i {a : Int32} : ∀ w ∈ [Value.int a], w.category = 1 := fun w hw => by rw [List.mem_singleton.mp hw]; rfl
theorem cat_c {v : Value} {l : List Value} (hv : v.category = 1) (hl : ∀ w ∈ l, w.category = 1) : ∀ w ∈ v :: l, w.category = 1 := fun w hw => (List.mem_cons.mp hw).elim (fun q => by rw [q]; exact hv) (hl w)
theorem cat_ii {a b : Int32} : ∀ w ∈ [Value.int a, Value.int b], w.category = 1 := cat_c rfl cat_i
theorem cat_iii {a b c : Int32} : ∀ w ∈ [Value.int a, Value.int b, Value.int c], w.category = 1 := cat_c rfl cat_ii
theorem cat_iiii {a b c d : Int32} : ∀ w ∈ [Value.int a, Value.int b, Value.int c, Value.int d], w.category = 1 := cat_c rfl cat_iii
theorem cat_iiiii {a b c d e : Int32} : ∀ w ∈ [Value.int a, Value.int b, Value.int c, Value.int d, Value.int e], w.category = 1 := cat_c rfl cat_iiii
theorem cat_r {g j : Nat} : ∀ w ∈ [rf g j], w.category = 1 := cat_c rfl cat_
theorem cat_ri {g j : Nat} {a : Int32} : ∀ w ∈ [rf g j, Value.int a], w.category = 1 := cat_c rfl cat_i
