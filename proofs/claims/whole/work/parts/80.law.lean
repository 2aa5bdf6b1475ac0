/-! THE CLAIM OUT OF ONE WALK OF THE LAW'S BODY. Your part is whole_start (and what it stands on); all else here is the same for every law, but numbers. -/
def R_law : String := "LienTowerLaw"
def lw_P (b : Addr) (xs : List Int32) (args : Array Value) (s : State) : Prop := args = #[.ref b] ∧ s.IntsAt b xs ∧ xs.length ≤ 2560 ∧ (Jvm.Cond.and given_1 narrow_1).before args s = true
def lw_Q (_ : Array Value) (s : State) (o : Outcome) (t : State) : Prop := o = .returned (some (.int 1)) ∧ Framed s o t [] 600000 7302250
def lw_Z (below : List Frame) (a : Array Value) (s : State) : State → Prop := fun t => ∃ o, t.status = .running ∧ Ended t below o ∧ lw_Q a s o t
/-- the law's own end, with 1 on the stack, nothing written that was there before, its room as the claim has it -/
theorem lw_ret {p : Program} {l : Launch} {e : Env} {s : State} {m : MethodId} {below : List Frame} {meth : Method} {c : Code} {b : Nat} (hx : p.tables.exec = Jvm.exec) (hb : c.code = code) (hr : meth.sig.returnType = ret) (hlocks : meth.locks = false) {pc : Nat} {H : Heap} {ls : Array Slot} (hdg : decode code pc = .ok (.ireturn, 1)) : W p l e room_1 s m #[Value.ref b] below meth c H [] 600000 7302250 (lw_Z below #[Value.ref b] s) (F0 m pc ls [.int 1]) := by
  intro T hT X
  obtain ⟨fs, hret, hrun, hended, hW, hframe⟩ := X.leave (v := some (.int 1)) (hlocks := hlocks) (fun h => by rw [hr] at h; cases h)
  have hmeth' : T.vm.method? m = some meth := X.method'
  refine ⟨T.setFrames fs, ?_, .returned (some (.int 1)), hrun, hended, rfl, ⟨_, rfl⟩, hW, hframe⟩
  jvm_step X.here [X.here.top, hx, hb, hdg, hmeth', hr, ret, narrow_b1]
  (try refine ⟨rfl, ?_⟩); (try refine ⟨rfl, ?_⟩)
  first | (intro acts; rw [hret _ acts rfl rfl rfl]) | rw [hret _ _ rfl rfl rfl]
  exact Steps.refl _
/-- what holds at the law's entry: the machine, the code, the tables' words (any of lw_tbl by 'hts w (by decide +kernel)'), the script of L ints xs at the cell b, what the Statement gives of the start (any of its parts by flat_of_before) -/
def lw_At (p : Program) (s : State) (m : MethodId) (meth : Method) (c : Code) (b L : Nat) (xs : Nat → Int32) : Prop :=
  p.tables.exec = Jvm.exec ∧ c.code = code ∧ meth.sig.returnType = ret ∧ c.maxLocals = 4 ∧ s.vm.findClass R_law = some m.cls ∧ (∀ w ∈ lw_tbl, w.before #[Value.ref b] s = true) ∧ va_X b L xs s s.heap ∧ b < s.heap.size ∧ meth.locks = false ∧ (Jvm.Cond.and given_1 narrow_1).before #[Value.ref b] s = true

section Law
theorem wi_mono {E : EN} {M : MD} {Q Q' : Int32 → TH → Prop} {pc : Nat} {ls : List (Option Value)} {st : List Value} {h : TH} (hq : ∀ r u, Q r u → Q' r u) (k : wi E M Q pc ls st h) : wi E M Q' pc ls st h := by
  intro p e s m args below meth c C H locs rl hP hS hl T hT X
  obtain ⟨t, a1, o, b1, b2, ⟨⟨r, u, hv, hp, hb⟩, hF⟩, b4⟩ := k p e s m args below meth c C H locs rl hP hS hl T hT X
  exact ⟨t, a1, o, b1, b2, ⟨⟨r, u, hv, hq r u hp, hb⟩, hF⟩, b4⟩
set_option maxRecDepth 20000 in
set_option maxHeartbeats 2000000 in
theorem law_loop {E : EN} {Z : List Frame → Array Value → State → State → Prop} (hN : eN E ≤ 2560)
    (hend : ∀ (ls : List (Option Value)) (h : TH), wz E ML 90 1441 Z 1202 ls [.int 1] h) : ∀ (n i : Nat) (h : TH), eN E ≤ i + n → i ≤ 2560 → Inv h → wz E ML 90 1441 Z 18 [some (.ref (1000 + 2)), some (rf 0 0), some (rf 28 0), some (.int (nI i))] [] h := by
  intro n
  induction n with
  | zero =>
    intro i h h1 h2 I
    refine sL_law_18 ⟨by decide, by decide⟩ ?_
    unfold SL_law_18
    refine ⟨fun _ => hend _ _, fun z => absurd ?_ z⟩
    rw [show Int32.ofNat (eN E) = nI (eN E) from rfl, show (5 : Int32) = nI 5 by decide, Int32.lt_iff_toInt_lt, pk_sub_toInt (by omega) (by omega), nI_toInt (by omega)]
    omega
  | succ n ih =>
    intro i h h1 h2 I
    refine sL_law_18 ⟨by decide, by decide⟩ ?_
    unfold SL_law_18
    refine ⟨fun _ => hend _ _, fun z => ?_⟩
    have hi : i + 5 ≤ eN E := by
      rcases Nat.lt_or_ge (eN E) (i + 5) with q | q
      · exfalso
        apply z
        rw [show Int32.ofNat (eN E) = nI (eN E) from rfl, show (5 : Int32) = nI 5 by decide, Int32.lt_iff_toInt_lt, pk_sub_toInt (by omega) (by omega), nI_toInt (by omega)]
        omega
      · exact q
    have hv : ∀ k : Nat, k < 5 → vp_in (nI i + nI k) (eN E) := fun k hk => by
      rw [nI_add]
      exact vp_in_nI (by omega) (by omega)
    have nx : ∀ h2 : TH, Inv h2 → wz E ML 90 1441 Z 18 [some (.ref (1000 + 2)), some (rf 0 0), some (rf 28 0), some (.int (nI i + 5))] [] h2 := fun h2 I2 => by
      rw [show (5 : Int32) = nI 5 by decide, nI_add]
      exact ih (i + 5) h2 (by omega) (by omega) I2
    refine ⟨vp_in_nI (by omega) (by omega), fun _ => ⟨hv 1 (by omega), wi_mono (fun r1 h1 hr => ⟨hv 1 (by omega), wi_mono (fun r2 h2 hs => ⟨fun _ => nx h2 hs.2, fun hne => absurd hs.1 hne⟩) hr⟩) (op_party I)⟩,
      fun _ => ⟨hv 1 (by omega), hv 2 (by omega), wi_mono (fun r1 h1 hr => ⟨hv 1 (by omega), hv 2 (by omega), wi_mono (fun r2 h2 hs => ⟨fun _ => nx h2 hs.2, fun hne => absurd hs.1 hne⟩) hr⟩) (op_as I)⟩,
      fun _ => ⟨hv 1 (by omega), hv 2 (by omega), hv 3 (by omega), wi_mono (fun r1 h1 hr => ⟨hv 1 (by omega), hv 2 (by omega), hv 3 (by omega), wi_mono (fun r2 h2 hs => ⟨fun _ => nx h2 hs.2, fun hne => absurd hs.1 hne⟩) hr⟩) (op_contract I)⟩,
      fun _ => ⟨hv 1 (by omega), hv 2 (by omega), wi_mono (fun r1 h1 hr => ⟨hv 1 (by omega), hv 2 (by omega), wi_mono (fun r2 h2 hs => ⟨fun _ => nx h2 hs.2, fun hne => absurd hs.1 hne⟩) hr⟩) (op_extra I)⟩,
      fun _ => ⟨hv 1 (by omega), hv 2 (by omega), hv 3 (by omega), wi_mono (fun r1 h1 hr => ⟨hv 1 (by omega), hv 2 (by omega), hv 3 (by omega), wi_mono (fun r2 h2 hs => ⟨fun _ => nx h2 hs.2, fun hne => absurd hs.1 hne⟩) hr⟩) (op_began I)⟩,
      fun _ => ⟨hv 1 (by omega), hv 2 (by omega), hv 3 (by omega), wi_mono (fun r1 h1 hr => ⟨hv 1 (by omega), hv 2 (by omega), hv 3 (by omega), wi_mono (fun r2 h2 hs => ⟨fun _ => nx h2 hs.2, fun hne => absurd hs.1 hne⟩) hr⟩) (op_ended I)⟩,
      fun _ => ⟨hv 1 (by omega), wi_mono (fun r1 h1 hr => ⟨hv 1 (by omega), wi_mono (fun r2 h2 hs => ⟨fun _ => nx h2 hs.2, fun hne => absurd hs.1 hne⟩) hr⟩) (op_notice I)⟩,
      fun _ => ⟨hv 1 (by omega), hv 2 (by omega), wi_mono (fun r1 h1 hr => ⟨hv 1 (by omega), hv 2 (by omega), wi_mono (fun r2 h2 hs => ⟨fun _ => nx h2 hs.2, fun hne => absurd hs.1 hne⟩) hr⟩) (op_pay I)⟩,
      fun _ => ⟨hv 1 (by omega), hv 2 (by omega), hv 3 (by omega), wi_mono (fun r1 h1 hr => ⟨hv 1 (by omega), hv 2 (by omega), hv 3 (by omega), wi_mono (fun r2 h2 hs => ⟨fun _ => nx h2 hs.2, fun hne => absurd hs.1 hne⟩) hr⟩) (op_waive I)⟩,
      fun _ => ⟨hv 1 (by omega), hv 2 (by omega), wi_mono (fun r1 h1 hr => ⟨hv 1 (by omega), hv 2 (by omega), wi_mono (fun r2 h2 hs => ⟨fun _ => nx h2 hs.2, fun hne => absurd hs.1 hne⟩) hr⟩) (op_of I)⟩,
      fun _ => ⟨hv 1 (by omega), wi_mono (fun r1 h1 hr => ⟨hv 1 (by omega), wi_mono (fun r2 h2 hs => ⟨fun _ => nx h2 hs.2, fun hne => absurd hs.1 hne⟩) hr⟩) (op_day I)⟩,
      fun _ => ⟨hv 1 (by omega), hv 2 (by omega), wi_mono (fun r1 h1 hr => ⟨hv 1 (by omega), hv 2 (by omega), wi_mono (fun r2 h2 hs => ⟨fun _ => nx h2 hs.2, fun hne => absurd hs.1 hne⟩) hr⟩) (op_law I)⟩,
      fun _ => ⟨hv 1 (by omega), hv 2 (by omega), wi_mono (fun r1 h1 hr => ⟨hv 1 (by omega), hv 2 (by omega), wi_mono (fun r2 h2 hs => ⟨fun _ => nx h2 hs.2, fun hne => absurd hs.1 hne⟩) hr⟩) (op_file I)⟩,
      fun _ => ⟨hv 1 (by omega), wi_mono (fun r1 h1 hr => ⟨hv 1 (by omega), wi_mono (fun r2 h2 hs => ⟨fun _ => nx h2 hs.2, fun hne => absurd hs.1 hne⟩) hr⟩) (op_sue I)⟩,
      fun _ => ⟨hv 1 (by omega), hv 2 (by omega), wi_mono (fun r1 h1 hr => ⟨hv 1 (by omega), hv 2 (by omega), wi_mono (fun r2 h2 hs => ⟨fun _ => nx h2 hs.2, fun hne => absurd hs.1 hne⟩) hr⟩) (op_bond I)⟩,
      fun _ => ⟨hv 1 (by omega), hv 2 (by omega), wi_mono (fun r1 h1 hr => ⟨hv 1 (by omega), hv 2 (by omega), wi_mono (fun r2 h2 hs => ⟨fun _ => nx h2 hs.2, fun hne => absurd hs.1 hne⟩) hr⟩) (op_judge I)⟩,
      fun _ => ⟨hv 1 (by omega), hv 2 (by omega), wi_mono (fun r1 h1 hr => ⟨hv 1 (by omega), hv 2 (by omega), wi_mono (fun r2 h2 hs => ⟨fun _ => nx h2 hs.2, fun hne => absurd hs.1 hne⟩) hr⟩) (op_bar I)⟩,
      fun _ => ⟨hv 1 (by omega), hv 2 (by omega), wi_mono (fun r1 h1 hr => ⟨hv 1 (by omega), hv 2 (by omega), wi_mono (fun r2 h2 hs => ⟨fun _ => nx h2 hs.2, fun hne => absurd hs.1 hne⟩) hr⟩) (op_worth I)⟩,
      fun _ => ⟨hv 1 (by omega), hv 2 (by omega), wi_mono (fun r1 h1 hr => ⟨hv 1 (by omega), hv 2 (by omega), wi_mono (fun r2 h2 hs => ⟨fun _ => nx h2 hs.2, fun hne => absurd hs.1 hne⟩) hr⟩) (op_rank I)⟩,
      fun _ => ⟨hv 1 (by omega), hv 2 (by omega), wi_mono (fun r1 h1 hr => ⟨hv 1 (by omega), hv 2 (by omega), wi_mono (fun r2 h2 hs => ⟨fun _ => nx h2 hs.2, fun hne => absurd hs.1 hne⟩) hr⟩) (op_loan I)⟩,
      fun _ => ⟨hv 1 (by omega), hv 2 (by omega), hv 3 (by omega), hv 4 (by omega), wi_mono (fun r1 h1 hr => ⟨hv 1 (by omega), hv 2 (by omega), hv 3 (by omega), hv 4 (by omega), wi_mono (fun r2 h2 hs => ⟨fun _ => nx h2 hs.2, fun hne => absurd hs.1 hne⟩) hr⟩) (op_sale I)⟩,
      fun _ => ⟨hv 1 (by omega), wi_mono (fun r1 h1 hr => ⟨hv 1 (by omega), wi_mono (fun r2 h2 hs => ⟨fun _ => nx h2 hs.2, fun hne => absurd hs.1 hne⟩) hr⟩) (op_twice I)⟩,
      fun _ => ⟨hv 1 (by omega), hv 2 (by omega), hv 3 (by omega), wi_mono (fun r1 h1 hr => ⟨hv 1 (by omega), hv 2 (by omega), hv 3 (by omega), wi_mono (fun r2 h2 hs => ⟨fun _ => nx h2 hs.2, fun hne => absurd hs.1 hne⟩) hr⟩) (op_sign I)⟩,
      fun _ => ⟨hv 1 (by omega), hv 2 (by omega), hv 3 (by omega), wi_mono (fun r1 h1 hr => ⟨hv 1 (by omega), hv 2 (by omega), hv 3 (by omega), wi_mono (fun r2 h2 hs => ⟨fun _ => nx h2 hs.2, fun hne => absurd hs.1 hne⟩) hr⟩) (op_in I)⟩,
      fun _ => ⟨hv 1 (by omega), hv 2 (by omega), wi_mono (fun r1 h1 hr => ⟨hv 1 (by omega), hv 2 (by omega), wi_mono (fun r2 h2 hs => ⟨fun _ => nx h2 hs.2, fun hne => absurd hs.1 hne⟩) hr⟩) (op_out I)⟩,
      fun _ => ⟨hv 1 (by omega), hv 2 (by omega), wi_mono (fun r1 h1 hr => ⟨hv 1 (by omega), hv 2 (by omega), wi_mono (fun r2 h2 hs => ⟨fun _ => nx h2 hs.2, fun hne => absurd hs.1 hne⟩) hr⟩) (op_trace I)⟩,
      fun _ => ⟨hv 1 (by omega), hv 2 (by omega), hv 3 (by omega), wi_mono (fun r1 h1 hr => ⟨hv 1 (by omega), hv 2 (by omega), hv 3 (by omega), wi_mono (fun r2 h2 hs => ⟨fun _ => nx h2 hs.2, fun hne => absurd hs.1 hne⟩) hr⟩) (op_held I)⟩,
      fun _ => ⟨hv 1 (by omega), wi_mono (fun r1 h1 hr => ⟨hv 1 (by omega), wi_mono (fun r2 h2 hs => ⟨fun _ => nx h2 hs.2, fun hne => absurd hs.1 hne⟩) hr⟩) (op_tell I)⟩,
      fun _ => ⟨hv 1 (by omega), wi_mono (fun r1 h1 hr => ⟨hv 1 (by omega), wi_mono (fun r2 h2 hs => ⟨fun _ => nx h2 hs.2, fun hne => absurd hs.1 hne⟩) hr⟩) (op_check I)⟩,
      fun _ => ⟨hv 1 (by omega), wi_mono (fun r1 h1 hr => ⟨hv 1 (by omega), wi_mono (fun r2 h2 hs => ⟨fun _ => nx h2 hs.2, fun hne => absurd hs.1 hne⟩) hr⟩) (op_count I)⟩,
      fun _ => ⟨hv 1 (by omega), wi_mono (fun r1 h1 hr => ⟨hv 1 (by omega), wi_mono (fun r2 h2 hs => ⟨fun _ => nx h2 hs.2, fun hne => absurd hs.1 hne⟩) hr⟩) (op_found I)⟩,
      fun _ _ _ _ _ _ _ _ _ _ _ _ _ _ _ _ _ _ _ _ _ _ _ _ _ _ _ _ _ _ _ => nx h I⟩
end Law
section Start
theorem inst_mem {w : Cond} (i : Nat) (h : tables_1[i]? = some w) : w ∈ lw_tbl := List.mem_append_right _ (List.mem_of_getElem? h)
/-- the law's end -/
theorem law_ret {p : Program} {l : Launch} {e : Env} {s : State} {m : MethodId} {args : Array Value} {below : List Frame} {meth : Method} {c : Code} (hx : p.tables.exec = Jvm.exec) (hb : c.code = code) (hr : meth.sig.returnType = ret) (hlocks : meth.locks = false) {pc : Nat} {H : Heap} {ls : Array Slot} (hdg : decode code pc = .ok (.ireturn, 1)) : W p l e room_1 s m args below meth c H [] 600000 7302250 (lw_Z below args s) (F0 m pc ls [.int 1]) := by
  intro T hT X
  obtain ⟨fs, hret, hrun, hended, hW, hframe⟩ := X.leave (v := some (.int 1)) (hlocks := hlocks) (fun h => by rw [hr] at h; cases h)
  have hmeth' : T.vm.method? m = some meth := X.method'
  refine ⟨T.setFrames fs, ?_, .returned (some (.int 1)), hrun, hended, rfl, ⟨_, rfl⟩, hW, hframe⟩
  jvm_step X.here [X.here.top, hx, hb, hdg, hmeth', hr, ret, narrow_b1]
  (try refine ⟨rfl, ?_⟩); (try refine ⟨rfl, ?_⟩)
  first | (intro acts; rw [hret _ acts rfl rfl rfl]) | rw [hret _ _ rfl rfl rfl]
  exact Steps.refl _
def ZL (s0 : State) : List Frame → Array Value → State → State → Prop := fun below args s t => s = s0 → lw_Z below args s t
theorem law_end {E : EN} {s0 : State} (hB : s0.heap.size = eB E) (ls : List (Option Value)) (h : TH) : wz E ML 90 1441 (ZL s0) 1202 ls [.int 1] h := by
  intro p e s m args below meth c C H locs rl hP hS hl
  by_cases hs : s = s0
  · have h1 : W p (eL E) e room_1 s m args below meth c H locs 90 1441 (lw_Z below args s) (F0 m 1202 rl [.int 1]) := by
      refine va_forget (fun q hq => ?_) (W.widen (k := 600000) (n := 7302250) (by decide) (by decide) (law_ret C.1 C.2.1 C.2.2.1 C.2.2.2.2.2.2.1 dL_law_1202))
      rw [hs, hB]
      exact hS.2.2 q hq
    intro T hT X
    obtain ⟨t, a1, b1⟩ := h1 T hT X
    exact ⟨t, a1, fun _ => b1⟩
  · intro T hT X
    exact ⟨_, Steps.refl _, fun z => absurd z hs⟩
set_option maxHeartbeats 4000000 in
set_option maxRecDepth 100000 in
theorem whole_start {p : Program} {e : Env} {s : State} {m : MethodId} {below : List Frame} {meth : Method} {c : Code} (l : Launch) {b L : Nat} {xs : Nat → Int32} (hL : L ≤ 2560) (C0 : lw_At p s m meth c b L xs) : W p l e room_1 s m #[Value.ref b] below meth c s.heap [] 0 0 (lw_Z below #[Value.ref b] s) (entryFrame m ([Value.ref b] : List Value).toArray 4) := by
  obtain ⟨hx, hb, hr, hml, hown, hts, hX, hbl, hlocks, hgv⟩ := id C0
  obtain ⟨c0, iS0, hKn0⟩ := u_known (C := RX0) (T := TX0) (N := 5) (n := 5) hts (fun w hw => tbl_in w (iX0 w hw)) (hts (.instantiable RX0 5) (inst_mem 218 (by decide +kernel)))
  obtain ⟨c1, iS1, hKn1⟩ := u_known (C := RX1) (T := TX1) (N := 6) (n := 6) hts (fun w hw => tbl_in w (iX1 w hw)) (hts (.instantiable RX1 6) (inst_mem 20 (by decide +kernel)))
  obtain ⟨c2, iS2, hKn2⟩ := u_known (C := RX2) (T := TX2) (N := 5) (n := 5) hts (fun w hw => tbl_in w (iX2 w hw)) (hts (.instantiable RX2 5) (inst_mem 130 (by decide +kernel)))
  obtain ⟨c3, iS3, hKn3⟩ := u_known (C := RX3) (T := TX3) (N := 13) (n := 13) hts (fun w hw => tbl_in w (iX3 w hw)) (hts (.instantiable RX3 13) (inst_mem 27 (by decide +kernel)))
  obtain ⟨c4, iS4, hKn4⟩ := u_known (C := RX4) (T := TX4) (N := 7) (n := 7) hts (fun w hw => tbl_in w (iX4 w hw)) (hts (.instantiable RX4 7) (inst_mem 123 (by decide +kernel)))
  obtain ⟨c5, iS5, hKn5⟩ := u_known (C := RX5) (T := TX5) (N := 8) (n := 8) hts (fun w hw => tbl_in w (iX5 w hw)) (hts (.instantiable RX5 8) (inst_mem 185 (by decide +kernel)))
  obtain ⟨c6, iS6, hKn6⟩ := u_known (C := RX6) (T := TX6) (N := 10) (n := 10) hts (fun w hw => tbl_in w (iX6 w hw)) (hts (.instantiable RX6 10) (inst_mem 12 (by decide +kernel)))
  obtain ⟨c7, iS7, hKn7⟩ := u_known (C := RX7) (T := TX7) (N := 46) (n := 46) hts (fun w hw => tbl_in w (iX7 w hw)) (hts (.instantiable RX7 46) (inst_mem 652 (by decide +kernel)))
  obtain ⟨dC, dI, hKc⟩ : ∃ (dC : Nat → ClassId) (dI : Nat → Nat → Nat), ∀ (k : Nat) (q : vw_C), classes[k]? = some q → u_Kn s q.1 q.2.1 q.2.2 (dC k) (dI k) := by
    refine ⟨fun k => if k = 0 then c0 else if k = 1 then c1 else if k = 2 then c2 else if k = 3 then c3 else if k = 4 then c4 else if k = 5 then c5 else if k = 6 then c6 else c7, fun k => if k = 0 then iS0 else if k = 1 then iS1 else if k = 2 then iS2 else if k = 3 then iS3 else if k = 4 then iS4 else if k = 5 then iS5 else if k = 6 then iS6 else iS7, ?_⟩
    intro k q hq
    match k, hq with
    | 0, hq => cases hq; exact hKn0
    | 1, hq => cases hq; exact hKn1
    | 2, hq => cases hq; exact hKn2
    | 3, hq => cases hq; exact hKn3
    | 4, hq => cases hq; exact hKn4
    | 5, hq => cases hq; exact hKn5
    | 6, hq => cases hq; exact hKn6
    | 7, hq => cases hq; exact hKn7
    | k + 8, hq => simp [classes] at hq
  have hAI := hts (.arrayClass .int) (inst_mem 97 (by decide +kernel))
  have hAZ := hts (.arrayClass .boolean) (inst_mem 796 (by decide +kernel))
  have hAC := hts (.arrayOver (.object "LienTower$Contract")) (inst_mem 26 (by decide +kernel))
  have hAK := hts (.arrayOver (.object "LienTower$Claim")) (inst_mem 129 (by decide +kernel))
  have hAA := hts (.arrayOver (.array .int)) (inst_mem 224 (by decide +kernel))
  obtain ⟨y0, z0, w0, f0, g0, k0⟩ := Cond.arrayClass_spec hAI
  obtain ⟨y1, z1, w1, f1, g1, k1⟩ := Cond.arrayClass_spec hAZ
  obtain ⟨w2, y2, z2, f2, -, g2, k2, n2⟩ := Cond.arrayOver_spec hAC
  obtain ⟨w3, y3, z3, f3, -, g3, k3, n3⟩ := Cond.arrayOver_spec hAK
  obtain ⟨w4, y4, z4, f4, g4, k4, n4⟩ := ir_over hAA
  have hs := flat_of_before _ hgv
  obtain ⟨t0, ht0, hT0⟩ := va_Tof (N := 6) (f := fun j => .int (oLeast j)) (A := fun q : Nat => s.heap.size ≤ q) (by omega) (hs (.arrayOf (.static "LienTower" "LAW_LEAST" "[I") .int) (by decide +kernel)) (va_eqt (hs (.eq (.length (.static "LienTower" "LAW_LEAST" "[I")) (.int 6)) (by decide +kernel))) (fun j hj => by
    match j, hj with
    | 0, _ => exact va_eqt (hs (.eq (.elem (.static "LienTower" "LAW_LEAST" "[I") (.int 0)) (.int 0)) (by decide +kernel))
    | 1, _ => exact va_eqt (hs (.eq (.elem (.static "LienTower" "LAW_LEAST" "[I") (.int 1)) (.int 0)) (by decide +kernel))
    | 2, _ => exact va_eqt (hs (.eq (.elem (.static "LienTower" "LAW_LEAST" "[I") (.int 2)) (.int 0)) (by decide +kernel))
    | 3, _ => exact va_eqt (hs (.eq (.elem (.static "LienTower" "LAW_LEAST" "[I") (.int 3)) (.int 1)) (by decide +kernel))
    | 4, _ => exact va_eqt (hs (.eq (.elem (.static "LienTower" "LAW_LEAST" "[I") (.int 4)) (.int 0)) (by decide +kernel))
    | 5, _ => exact va_eqt (hs (.eq (.elem (.static "LienTower" "LAW_LEAST" "[I") (.int 5)) (.int 0)) (by decide +kernel))
    | j + 6, hj => omega) (fun a ha => Nat.not_le.mpr ha)
  obtain ⟨t1, ht1, hT1⟩ := va_Tof (N := 6) (f := fun j => .int (oMost j)) (A := fun q : Nat => s.heap.size ≤ q) (by omega) (hs (.arrayOf (.static "LienTower" "LAW_MOST" "[I") .int) (by decide +kernel)) (va_eqt (hs (.eq (.length (.static "LienTower" "LAW_MOST" "[I")) (.int 6)) (by decide +kernel))) (fun j hj => by
    match j, hj with
    | 0, _ => exact va_eqt (hs (.eq (.elem (.static "LienTower" "LAW_MOST" "[I") (.int 0)) (.int 365)) (by decide +kernel))
    | 1, _ => exact va_eqt (hs (.eq (.elem (.static "LienTower" "LAW_MOST" "[I") (.int 1)) (.int 365)) (by decide +kernel))
    | 2, _ => exact va_eqt (hs (.eq (.elem (.static "LienTower" "LAW_MOST" "[I") (.int 2)) (.int 1000)) (by decide +kernel))
    | 3, _ => exact va_eqt (hs (.eq (.elem (.static "LienTower" "LAW_MOST" "[I") (.int 3)) (.int 9)) (by decide +kernel))
    | 4, _ => exact va_eqt (hs (.eq (.elem (.static "LienTower" "LAW_MOST" "[I") (.int 4)) (.int 2)) (by decide +kernel))
    | 5, _ => exact va_eqt (hs (.eq (.elem (.static "LienTower" "LAW_MOST" "[I") (.int 5)) (.int 1)) (by decide +kernel))
    | j + 6, hj => omega) (fun a ha => Nat.not_le.mpr ha)
  have hini := hts (.initialized "LienTower") (inst_mem 1 (by decide +kernel))
  have hZ0 := va_Zref (A := fun q : Nat => s.heap.size ≤ q) (hts (.laysStatic "LienTower" "LAW_LEAST" "[I") (inst_mem 401 (by decide +kernel))) hini ht0 (fun a ha => Nat.not_le.mpr ha)
  have hZ1 := va_Zref (A := fun q : Nat => s.heap.size ≤ q) (hts (.laysStatic "LienTower" "LAW_MOST" "[I") (inst_mem 403 (by decide +kernel))) hini ht1 (fun a ha => Nat.not_le.mpr ha)
  obtain ⟨E, eE⟩ : ∃ E : EN, E = (l, (dC, dI), s.heap.size, (fun k => if k = 0 then y0 else if k = 1 then y1 else if k = 2 then y2 else if k = 3 then y3 else y4), (fun k => if k = 0 then t0 else if k = 1 then t1 else b), L, xs) := ⟨_, rfl⟩
  have hK : va_K (eD E) classes (tys E) s := by
    subst eE
    refine ⟨hKc, fun k q hq => ?_⟩
    match k, hq with
    | 0, hq => cases hq; exact ⟨fun n z => ⟨fun k h => (by cases h), z0, g0, w0, k0⟩, f0⟩
    | 1, hq => cases hq; exact ⟨fun n z => ⟨fun k h => (by cases h), z1, g1, w1, k1⟩, f1⟩
    | 2, hq => cases hq; exact ⟨fun n z => ⟨fun k h => (by cases h), z2, g2, w2, k2⟩, z2, w2, g2, k2, f2, n2⟩
    | 3, hq => cases hq; exact ⟨fun n z => ⟨fun k h => (by cases h), z3, g3, w3, k3⟩, z3, w3, g3, k3, f3, n3⟩
    | 4, hq => cases hq; exact ⟨fun n z => ⟨fun k h => (by cases h), z4, g4, w4, k4⟩, n4⟩
    | k + 5, hq => simp [tys] at hq
  obtain ⟨scr, x1, x2, x3, x4, x5⟩ := id hX
  have hO : OUT E s s.heap := by
    subst eE
    refine ⟨hZ0, hZ1, fun t ht => ?_⟩
    match t, ht with
    | 0, _ => exact hT0
    | 1, _ => exact hT1
    | 2, _ => exact ⟨scr, x1, x2, x3, by rw [x4]; exact Nat.le_refl _, by rw [x4]; rfl, x5, Nat.not_le.mpr hbl⟩
    | t + 3, ht => omega
  have hNW : NW s := ⟨⟨va_Nw.of rfl (hts (.methodLinkNest RX1 32 yX6_within "LienTower") (inst_mem 328 (by decide +kernel))), va_Nw.of rfl (hts (.methodLinkNest RX4 39 yX6_within "LienTower") (inst_mem 420 (by decide +kernel)))⟩, va_AO.of hAC, va_AO.of hAK, hAA⟩
  have hCx : Cx E ML p s m #[Value.ref b] meth c := ⟨hx, hb, hr, hml, hown, fun w hw => hts w (tbl_in w hw), hlocks, hK, hO, hNW, fun q => absurd q (by decide)⟩
  have hl := lv_entry ([.ref b]) (n := 4) (Nat.le_of_ble_eq_true rfl)
  rw [lg_entry_eq]
  have hEB : s.heap.size = eB E := by subst eE; rfl
  have hEL : eL E = l := by subst eE; rfl
  have hEN : eN E = L := by subst eE; rfl
  have hX2 : ad E (1000 + 2) = b := by subst eE; rfl
  have main := kL_law (E := E) (h := fun _ _ _ => 0) (Z := ZL s) (c_done full_init (law_loop (by rw [hEN]; exact hL) (law_end hEB) 2560 0 hInit (by rw [hEN]; omega) (by omega) inv_init)) p e s m #[Value.ref b] below meth c hCx s.heap [] _ ⟨Nat.zero_le _, by rw [hEB]; rfl, fun k q hq => by simp [wd2] at hq, fun _ _ _ _ => rfl⟩ va_S.rf ⟨rfl, hl.1, hl.2.1, fun j v hj => ?_⟩
  · rw [hEL] at main
    intro T hT X
    obtain ⟨t, a1, b1⟩ := main T hT X
    exact ⟨t, a1, b1 rfl⟩
  · match j, hj with
    | 0, hj =>
      cases hj
      show _ = some (Slot.val (Value.ref (ad E (1000 + 2))))
      rw [hX2]
      exact hl.2.2 (0, .ref b) (by simp [lv_args])
    | 1, hj => cases hj
    | 2, hj => cases hj
    | 3, hj => cases hj
    | j + 4, hj => simp at hj
end Start
