def SX7_firstBar_0 (E : EN) (a1 : Int32) (a2 : Int32) (a3 : Int32) (h : TH) (Q : Int32 → TH → Prop) : Prop := wi E MX7_firstBar Q 3 [some (rf 28 0), some (.int a1), some (.int a2), some (.int a3), some (.int 1)] [] h
set_option maxRecDepth 20000 in
theorem sX7_firstBar_0 {E : EN} {a1 : Int32} {a2 : Int32} {a3 : Int32} {h : TH} {Q : Int32 → TH → Prop}  (hS : SX7_firstBar_0 E a1 a2 a3 h Q) : wi E MX7_firstBar Q 0 [some (rf 28 0), some (.int a1), some (.int a2), some (.int a3), none] [] h := by
  refine wz_iconst dX7_firstBar_0 kiconst_1 (q_ist4 dX7_firstBar_1 (ltX7_firstBar_4) rfl ?_)
  exact hS
def SX7_firstBar_3 (E : EN) (x1 : Int32) (x2 : Int32) (x3 : Int32) (x4 : Int32) (h : TH) (Q : Int32 → TH → Prop) : Prop := ((5 < x4 → Q 0 h) ∧ (¬ 5 < x4 → SX7_barred E x1 x4 x2 h (fun r3 h2 => ((¬ r3 = x3 → wi E MX7_firstBar Q 3 [some (rf 28 0), some (.int x1), some (.int x2), some (.int x3), some (.int (x4 + 1))] [] h2) ∧ (r3 = x3 → Q x4 h2)))))
set_option maxRecDepth 20000 in
theorem sX7_firstBar_3 {E : EN} {x1 : Int32} {x2 : Int32} {x3 : Int32} {x4 : Int32} {h : TH} {Q : Int32 → TH → Prop}  (hS : SX7_firstBar_3 E x1 x2 x3 x4 h Q) : wi E MX7_firstBar Q 3 [some (rf 28 0), some (.int x1), some (.int x2), some (.int x3), some (.int x4)] [] h := by
  refine q_ild4 dX7_firstBar_3 (wz_iconst dX7_firstBar_5 kiconst_5 ?_)
  refine wz_icmp_gt (tgt := 30) dX7_firstBar_6 rfl (fun c1 => ?_) (fun c1 => ?_)
  · replace hS := hS.1 c1
    refine wz_iconst dX7_firstBar_30 kiconst_0 ?_
    exact wi_ret dX7_firstBar_31 rfl hS
  · replace hS := hS.2 c1
    refine q_ald0 dX7_firstBar_9 (q_ild1 dX7_firstBar_10 (q_ild4 dX7_firstBar_11 (q_ild2 dX7_firstBar_13 ?_)))
    refine wz_virtI (M := MX7_firstBar) (pc := 14) (M' := MX7_barred) (n := 3) (As := [.int x1, .int x4, .int x2]) (st := []) dX7_firstBar_14 cf7 rfl go_28 gc_28 rfl cat_iii okX7_firstBar_X7_barred cwX7_188 (Nat.le_of_ble_eq_true rfl) ⟨Nat.zero_le _, Nat.zero_le _⟩ rfl (ls0 := [some (rf 28 0), some (.int x1), some (.int x4), some (.int x2), none]) rfl (sX7_barred  hS) (fun r3 h2 hS => ?_)
    refine q_ild3 dX7_firstBar_17 ?_
    refine wz_icmp_ne (tgt := 24) dX7_firstBar_18 rfl (fun c4 => ?_) (fun c4 => ?_)
    · replace hS := hS.1 c4
      refine q_inc4 (v := (x4 + 1)) dX7_firstBar_24 rfl (ltX7_firstBar_4) rfl (wz_goto (tgt := 3) dX7_firstBar_27 rfl ?_)
      exact hS
    · replace hS := hS.2 c4
      refine q_ild4 dX7_firstBar_21 ?_
      exact wi_ret dX7_firstBar_23 rfl hS
def SX7_judged (E : EN) (a1 : Int32) (a2 : Int32) (h : TH) (Q : Int32 → TH → Prop) : Prop := wi E MX7_firstBar (fun r2 h1 => ((r2 ≤ 0 → wi E MX7_firstBar (fun r5 h4 => ((r5 ≤ 0 → Q 2 h4) ∧ (¬ r5 ≤ 0 → Q 1 h4))) 0 [some (rf 28 0), some (.int a1), some (.int a2), some (.int 1), none] [] h1) ∧ (¬ r2 ≤ 0 → Q 0 h1))) 0 [some (rf 28 0), some (.int a1), some (.int a2), some (.int 2), none] [] h
set_option maxRecDepth 20000 in
theorem sX7_judged {E : EN} {a1 : Int32} {a2 : Int32} {h : TH} {Q : Int32 → TH → Prop}  (hS : SX7_judged E a1 a2 h Q) : wi E MX7_judged Q 0 [some (rf 28 0), some (.int a1), some (.int a2)] [] h := by
  refine q_ald0 dX7_judged_0 (q_ild1 dX7_judged_1 (q_ild2 dX7_judged_2 (wz_iconst dX7_judged_3 kiconst_2 ?_)))
  refine wz_virtI (M := MX7_judged) (pc := 4) (M' := MX7_firstBar) (n := 3) (As := [.int a1, .int a2, .int 2]) (st := []) dX7_judged_4 cf7 rfl go_28 gc_28 rfl cat_iii okX7_judged_X7_firstBar cwX7_192 (Nat.le_of_ble_eq_true rfl) ⟨Nat.zero_le _, Nat.zero_le _⟩ rfl (ls0 := [some (rf 28 0), some (.int a1), some (.int a2), some (.int 2), none]) rfl hS (fun r2 h1 hS => ?_)
  refine wz_if_le (tgt := 14) dX7_judged_7 rfl (fun c3 => ?_) (fun c3 => ?_)
  · replace hS := hS.1 c3
    refine q_ald0 dX7_judged_14 (q_ild1 dX7_judged_15 (q_ild2 dX7_judged_16 (wz_iconst dX7_judged_17 kiconst_1 ?_)))
    refine wz_virtI (M := MX7_judged) (pc := 18) (M' := MX7_firstBar) (n := 3) (As := [.int a1, .int a2, .int 1]) (st := []) dX7_judged_18 cf7 rfl go_28 gc_28 rfl cat_iii okX7_judged_X7_firstBar cwX7_192 (Nat.le_of_ble_eq_true rfl) ⟨Nat.zero_le _, Nat.zero_le _⟩ rfl (ls0 := [some (rf 28 0), some (.int a1), some (.int a2), some (.int 1), none]) rfl hS (fun r5 h4 hS => ?_)
    refine wz_if_le (tgt := 28) dX7_judged_21 rfl (fun c6 => ?_) (fun c6 => ?_)
    · replace hS := hS.1 c6
      refine wz_iconst dX7_judged_28 kiconst_2 ?_
      exact wi_ret dX7_judged_29 rfl hS
    · replace hS := hS.2 c6
      refine wz_iconst dX7_judged_24 kiconst_1 (wz_goto (tgt := 29) dX7_judged_25 rfl ?_)
      exact wi_ret dX7_judged_29 rfl hS
  · replace hS := hS.2 c3
    refine wz_iconst dX7_judged_10 kiconst_0 (wz_goto (tgt := 29) dX7_judged_11 rfl ?_)
    exact wi_ret dX7_judged_29 rfl hS
def SX7_isJudgeable (E : EN) (a1 : Int32) (a2 : Int32) (h : TH) (Q : Int32 → TH → Prop) : Prop := SX7_isClaim E a1 h (fun r2 h1 => ((r2 = 0 → Q 0 h1) ∧ (¬ r2 = 0 → vp_in a1 16 ∧ SX7_isIn E a2 (h1 45 0 (a1.toNatClampNeg)) 5000 h1 (fun r6 h5 => ((r6 = 0 → Q 0 h5) ∧ (¬ r6 = 0 → Q 1 h5))))))
set_option maxRecDepth 20000 in
theorem sX7_isJudgeable {E : EN} {a1 : Int32} {a2 : Int32} {h : TH} {Q : Int32 → TH → Prop}  (hS : SX7_isJudgeable E a1 a2 h Q) : wi E MX7_isJudgeable Q 0 [some (rf 28 0), some (.int a1), some (.int a2)] [] h := by
  refine q_ald0 dX7_isJudgeable_0 (q_ild1 dX7_isJudgeable_1 ?_)
  refine wz_virtI (M := MX7_isJudgeable) (pc := 2) (M' := MX7_isClaim) (n := 1) (As := [.int a1]) (st := []) dX7_isJudgeable_2 cf7 rfl go_28 gc_28 rfl cat_i okX7_isJudgeable_X7_isClaim cwX7_181 (Nat.le_of_ble_eq_true rfl) ⟨Nat.zero_le _, Nat.zero_le _⟩ rfl (ls0 := [some (rf 28 0), some (.int a1)]) rfl (sX7_isClaim  hS) (fun r2 h1 hS => ?_)
  refine wz_if_eq (tgt := 28) dX7_isJudgeable_5 rfl (fun c3 => ?_) (fun c3 => ?_)
  · replace hS := hS.1 c3
    refine wz_iconst dX7_isJudgeable_28 kiconst_0 ?_
    exact wi_zret dX7_isJudgeable_29 rfl (isB_nar isB_0) hS
  · replace hS := hS.2 c3
    refine q_ild2 dX7_isJudgeable_8 (q_ald0 dX7_isJudgeable_9 (wz_getR dX7_isJudgeable_10 cf7 t434 (kf := 26) gr_28_26 gc_28 (q_ild1 dX7_isJudgeable_13 ?_)))
    obtain ⟨hi4, hS⟩ := hS
    refine wz_iald dX7_isJudgeable_14 ga_45 gc_45 hi4 rfl (wz_sipush dX7_isJudgeable_15 ksipush_5000 ?_)
    refine wz_statI (M := MX7_isJudgeable) (pc := 18) (M' := MX7_isIn) (n := 3) (As := [.int a2, .int (h1 45 0 (a1.toNatClampNeg)), .int 5000]) (st := []) dX7_isJudgeable_18 rfl cat_iii okX7_isJudgeable_X7_isIn cwX7_121 (Nat.le_of_ble_eq_true rfl) ⟨Nat.zero_le _, Nat.zero_le _⟩ rfl (ls0 := [some (.int a2), some (.int (h1 45 0 (a1.toNatClampNeg))), some (.int 5000)]) rfl (sX7_isIn  hS) (fun r6 h5 hS => ?_)
    refine wz_if_eq (tgt := 28) dX7_isJudgeable_21 rfl (fun c7 => ?_) (fun c7 => ?_)
    · replace hS := hS.1 c7
      refine wz_iconst dX7_isJudgeable_28 kiconst_0 ?_
      exact wi_zret dX7_isJudgeable_29 rfl (isB_nar isB_0) hS
    · replace hS := hS.2 c7
      refine wz_iconst dX7_isJudgeable_24 kiconst_1 (wz_goto (tgt := 29) dX7_isJudgeable_25 rfl ?_)
      exact wi_zret dX7_isJudgeable_29 rfl (isB_nar isB_1) hS
def SX7_judge (E : EN) (a1 : Int32) (a2 : Int32) (h : TH) (Q : Int32 → TH → Prop) : Prop := SX7_isJudgeable E a1 a2 h (fun r2 h1 => ((r2 = 0 → SX7_finds E (-1000000001) h1 (fun r5 h4 => Q r5 h4)) ∧ (¬ r2 = 0 → SX7_judged E a1 a2 h1 (fun r7 h6 => Q r7 h6))))
set_option maxRecDepth 20000 in
theorem sX7_judge {E : EN} {a1 : Int32} {a2 : Int32} {h : TH} {Q : Int32 → TH → Prop}  (hS : SX7_judge E a1 a2 h Q) : wi E MX7_judge Q 0 [some (rf 28 0), some (.int a1), some (.int a2)] [] h := by
  refine q_ald0 dX7_judge_0 (q_ild1 dX7_judge_1 (q_ild2 dX7_judge_2 ?_))
  refine wz_virtI (M := MX7_judge) (pc := 3) (M' := MX7_isJudgeable) (n := 2) (As := [.int a1, .int a2]) (st := []) dX7_judge_3 cf7 rfl go_28 gc_28 rfl cat_ii okX7_judge_X7_isJudgeable cwX7_195 (Nat.le_of_ble_eq_true rfl) ⟨Nat.zero_le _, Nat.zero_le _⟩ rfl (ls0 := [some (rf 28 0), some (.int a1), some (.int a2)]) rfl (sX7_isJudgeable  hS) (fun r2 h1 hS => ?_)
  refine wz_if_eq (tgt := 18) dX7_judge_6 rfl (fun c3 => ?_) (fun c3 => ?_)
  · replace hS := hS.1 c3
    refine q_ald0 dX7_judge_18 (wz_ldc dX7_judge_19 t370 ?_)
    refine wz_virtI (M := MX7_judge) (pc := 21) (M' := MX7_finds) (n := 1) (As := [.int (-1000000001)]) (st := []) dX7_judge_21 cf7 rfl go_28 gc_28 rfl cat_i okX7_judge_X7_finds cwX7_132 (Nat.le_of_ble_eq_true rfl) ⟨Nat.zero_le _, Nat.zero_le _⟩ rfl (ls0 := [some (rf 28 0), some (.int (-1000000001))]) rfl (sX7_finds  hS) (fun r5 h4 hS => ?_)
    exact wi_ret dX7_judge_24 rfl hS
  · replace hS := hS.2 c3
    refine q_ald0 dX7_judge_9 (q_ild1 dX7_judge_10 (q_ild2 dX7_judge_11 ?_))
    refine wz_virtI (M := MX7_judge) (pc := 12) (M' := MX7_judged) (n := 2) (As := [.int a1, .int a2]) (st := []) dX7_judge_12 cf7 rfl go_28 gc_28 rfl cat_ii okX7_judge_X7_judged cwX7_198 (Nat.le_of_ble_eq_true rfl) ⟨Nat.zero_le _, Nat.zero_le _⟩ rfl (ls0 := [some (rf 28 0), some (.int a1), some (.int a2)]) rfl (sX7_judged  hS) (fun r7 h6 hS => ?_)
    refine wz_goto (tgt := 24) dX7_judge_15 rfl ?_
    exact wi_ret dX7_judge_24 rfl hS
def SX7_bar (E : EN) (a1 : Int32) (a2 : Int32) (h : TH) (Q : Int32 → TH → Prop) : Prop := SX7_isJudgeable E a1 a2 h (fun r2 h1 => ((¬ r2 = 0 → wi E MX7_firstBar (fun r5 h4 => wi E MX7_firstBar (fun r7 h6 => ((r5 ≤ 0 → ((r7 ≤ 0 → Q 0 h6) ∧ (¬ r7 ≤ 0 → Q (10 + r7) h6))) ∧ (¬ r5 ≤ 0 → Q r5 h6))) 0 [some (rf 28 0), some (.int a1), some (.int a2), some (.int 1), none] [] h4) 0 [some (rf 28 0), some (.int a1), some (.int a2), some (.int 2), none] [] h1) ∧ (r2 = 0 → SX7_finds E (-1000000001) h1 (fun r11 h10 => Q r11 h10))))
set_option maxRecDepth 20000 in
theorem sX7_bar {E : EN} {a1 : Int32} {a2 : Int32} {h : TH} {Q : Int32 → TH → Prop}  (hS : SX7_bar E a1 a2 h Q) : wi E MX7_bar Q 0 [some (rf 28 0), some (.int a1), some (.int a2), none, none] [] h := by
  refine q_ald0 dX7_bar_0 (q_ild1 dX7_bar_1 (q_ild2 dX7_bar_2 ?_))
  refine wz_virtI (M := MX7_bar) (pc := 3) (M' := MX7_isJudgeable) (n := 2) (As := [.int a1, .int a2]) (st := []) dX7_bar_3 cf7 rfl go_28 gc_28 rfl cat_ii okX7_bar_X7_isJudgeable cwX7_195 (Nat.le_of_ble_eq_true rfl) ⟨Nat.zero_le _, Nat.zero_le _⟩ rfl (ls0 := [some (rf 28 0), some (.int a1), some (.int a2)]) rfl (sX7_isJudgeable  hS) (fun r2 h1 hS => ?_)
  refine wz_if_ne (tgt := 16) dX7_bar_6 rfl (fun c3 => ?_) (fun c3 => ?_)
  · replace hS := hS.1 c3
    refine q_ald0 dX7_bar_16 (q_ild1 dX7_bar_17 (q_ild2 dX7_bar_18 (wz_iconst dX7_bar_19 kiconst_2 ?_)))
    refine wz_virtI (M := MX7_bar) (pc := 20) (M' := MX7_firstBar) (n := 3) (As := [.int a1, .int a2, .int 2]) (st := []) dX7_bar_20 cf7 rfl go_28 gc_28 rfl cat_iii okX7_bar_X7_firstBar cwX7_192 (Nat.le_of_ble_eq_true rfl) ⟨Nat.zero_le _, Nat.zero_le _⟩ rfl (ls0 := [some (rf 28 0), some (.int a1), some (.int a2), some (.int 2), none]) rfl hS (fun r5 h4 hS => ?_)
    refine q_ist3 dX7_bar_23 (ltX7_bar_3) rfl (q_ald0 dX7_bar_24 (q_ild1 dX7_bar_25 (q_ild2 dX7_bar_26 (wz_iconst dX7_bar_27 kiconst_1 ?_))))
    refine wz_virtI (M := MX7_bar) (pc := 28) (M' := MX7_firstBar) (n := 3) (As := [.int a1, .int a2, .int 1]) (st := []) dX7_bar_28 cf7 rfl go_28 gc_28 rfl cat_iii okX7_bar_X7_firstBar cwX7_192 (Nat.le_of_ble_eq_true rfl) ⟨Nat.zero_le _, Nat.zero_le _⟩ rfl (ls0 := [some (rf 28 0), some (.int a1), some (.int a2), some (.int 1), none]) rfl hS (fun r7 h6 hS => ?_)
    refine q_ist4 dX7_bar_31 (ltX7_bar_4) rfl (q_ild3 dX7_bar_33 ?_)
    refine wz_if_le (tgt := 41) dX7_bar_34 rfl (fun c8 => ?_) (fun c8 => ?_)
    · replace hS := hS.1 c8
      refine q_ild4 dX7_bar_41 ?_
      refine wz_if_le (tgt := 54) dX7_bar_43 rfl (fun c9 => ?_) (fun c9 => ?_)
      · replace hS := hS.1 c9
        refine wz_iconst dX7_bar_54 kiconst_0 ?_
        exact wi_ret dX7_bar_55 rfl hS
      · replace hS := hS.2 c9
        refine wz_bipush dX7_bar_46 kbipush_10 (q_ild4 dX7_bar_48 (wz_iadd dX7_bar_50 (wz_goto (tgt := 55) dX7_bar_51 rfl ?_)))
        exact wi_ret dX7_bar_55 rfl hS
    · replace hS := hS.2 c8
      refine q_ild3 dX7_bar_37 (wz_goto (tgt := 55) dX7_bar_38 rfl ?_)
      exact wi_ret dX7_bar_55 rfl hS
  · replace hS := hS.2 c3
    refine q_ald0 dX7_bar_9 (wz_ldc dX7_bar_10 t370 ?_)
    refine wz_virtI (M := MX7_bar) (pc := 12) (M' := MX7_finds) (n := 1) (As := [.int (-1000000001)]) (st := []) dX7_bar_12 cf7 rfl go_28 gc_28 rfl cat_i okX7_bar_X7_finds cwX7_132 (Nat.le_of_ble_eq_true rfl) ⟨Nat.zero_le _, Nat.zero_le _⟩ rfl (ls0 := [some (rf 28 0), some (.int (-1000000001))]) rfl (sX7_finds  hS) (fun r11 h10 hS => ?_)
    exact wi_ret dX7_bar_15 rfl hS
def SX7_bound_0 (E : EN) (a1 : Int32) (h : TH) (Q : Int32 → TH → Prop) : Prop := SX7_open E a1 h (fun r2 h1 => SX7_upper E a1 h1 (fun r4 h3 => wi E MX7_bound Q 12 [some (rf 28 0), none, some (.int r2), some (.int r4)] [] h3))
set_option maxRecDepth 20000 in
theorem sX7_bound_0 {E : EN} {a1 : Int32} {h : TH} {Q : Int32 → TH → Prop}  (hS : SX7_bound_0 E a1 h Q) : wi E MX7_bound Q 0 [some (rf 28 0), some (.int a1), none, none] [] h := by
  refine q_ald0 dX7_bound_0 (q_ild1 dX7_bound_1 ?_)
  refine wz_virtI (M := MX7_bound) (pc := 2) (M' := MX7_open) (n := 1) (As := [.int a1]) (st := []) dX7_bound_2 cf7 rfl go_28 gc_28 rfl cat_i okX7_bound_X7_open cwX7_172 (Nat.le_of_ble_eq_true rfl) ⟨Nat.zero_le _, Nat.zero_le _⟩ rfl (ls0 := [some (rf 28 0), some (.int a1), none, none]) rfl (sX7_open  hS) (fun r2 h1 hS => ?_)
  refine q_ist2 dX7_bound_5 (ltX7_bound_2) rfl (q_ald0 dX7_bound_6 (q_ild1 dX7_bound_7 ?_))
  refine wz_virtI (M := MX7_bound) (pc := 8) (M' := MX7_upper) (n := 1) (As := [.int a1]) (st := []) dX7_bound_8 cf7 rfl go_28 gc_28 rfl cat_i okX7_bound_X7_upper cwX7_169 (Nat.le_of_ble_eq_true rfl) ⟨Nat.zero_le _, Nat.zero_le _⟩ rfl (ls0 := [some (rf 28 0), some (.int a1)]) rfl (sX7_upper  hS) (fun r4 h3 hS => ?_)
  refine q_ist3 dX7_bound_11 (ltX7_bound_3) rfl ?_
  exact wz_mask [true, false, true, true] rfl hS
def SX7_bound_12 (E : EN) (x2 : Int32) (x3 : Int32) (h : TH) (Q : Int32 → TH → Prop) : Prop := ((x3 = (-1) → Q x2 h) ∧ (¬ x3 = (-1) → ((¬ (h 42 0 5) = 1 → Q x2 h) ∧ ((h 42 0 5) = 1 → SX7_owing E x3 h (fun r4 h3 => ((x2 ≤ r4 → SX7_upper E x3 h3 (fun r7 h6 => wi E MX7_bound Q 12 [some (rf 28 0), none, some (.int x2), some (.int r7)] [] h6)) ∧ (¬ x2 ≤ r4 → SX7_owing E x3 h3 (fun r9 h8 => SX7_upper E x3 h8 (fun r11 h10 => wi E MX7_bound Q 12 [some (rf 28 0), none, some (.int r9), some (.int r11)] [] h10)))))))))
set_option maxRecDepth 20000 in
theorem sX7_bound_12 {E : EN} {x2 : Int32} {x3 : Int32} {h : TH} {Q : Int32 → TH → Prop}  (hS : SX7_bound_12 E x2 x3 h Q) : wi E MX7_bound Q 12 [some (rf 28 0), none, some (.int x2), some (.int x3)] [] h := by
  refine q_ild3 dX7_bound_12 (wz_iconst dX7_bound_13 kiconst_m1 ?_)
  refine wz_icmp_eq (tgt := 55) dX7_bound_14 rfl (fun c1 => ?_) (fun c1 => ?_)
  · replace hS := hS.1 c1
    refine q_ild2 dX7_bound_55 ?_
    exact wi_ret dX7_bound_56 rfl hS
  · replace hS := hS.2 c1
    refine q_ald0 dX7_bound_17 (wz_getR dX7_bound_18 cf7 t428 (kf := 23) gr_28_23 gc_28 (wz_iconst dX7_bound_21 kiconst_5 (wz_iald (v := (h 42 0 5)) dX7_bound_22 ga_42 gc_42 vi_5_6 (congrArg (h 42 0) cl_5) (wz_iconst dX7_bound_23 kiconst_1 ?_))))
    refine wz_icmp_ne (tgt := 55) dX7_bound_24 rfl (fun c2 => ?_) (fun c2 => ?_)
    · replace hS := hS.1 c2
      refine q_ild2 dX7_bound_55 ?_
      exact wi_ret dX7_bound_56 rfl hS
    · replace hS := hS.2 c2
      refine q_ald0 dX7_bound_27 (q_ild3 dX7_bound_28 ?_)
      refine wz_virtI (M := MX7_bound) (pc := 29) (M' := MX7_owing) (n := 1) (As := [.int x3]) (st := []) dX7_bound_29 cf7 rfl go_28 gc_28 rfl cat_i okX7_bound_X7_owing cwX7_160 (Nat.le_of_ble_eq_true rfl) ⟨Nat.zero_le _, Nat.zero_le _⟩ rfl (ls0 := [some (rf 28 0), some (.int x3)]) rfl (sX7_owing  hS) (fun r4 h3 hS => ?_)
      refine q_ild2 dX7_bound_32 ?_
      refine wz_icmp_ge (tgt := 44) dX7_bound_33 rfl (fun c5 => ?_) (fun c5 => ?_)
      · replace hS := hS.1 c5
        refine q_ild2 dX7_bound_44 (q_ist2 dX7_bound_45 (ltX7_bound_2) rfl (q_ald0 dX7_bound_46 (q_ild3 dX7_bound_47 ?_)))
        refine wz_virtI (M := MX7_bound) (pc := 48) (M' := MX7_upper) (n := 1) (As := [.int x3]) (st := []) dX7_bound_48 cf7 rfl go_28 gc_28 rfl cat_i okX7_bound_X7_upper cwX7_169 (Nat.le_of_ble_eq_true rfl) ⟨Nat.zero_le _, Nat.zero_le _⟩ rfl (ls0 := [some (rf 28 0), some (.int x3)]) rfl (sX7_upper  hS) (fun r7 h6 hS => ?_)
        refine q_ist3 dX7_bound_51 (ltX7_bound_3) rfl (wz_goto (tgt := 12) dX7_bound_52 rfl ?_)
        exact hS
      · replace hS := hS.2 c5
        refine q_ald0 dX7_bound_36 (q_ild3 dX7_bound_37 ?_)
        refine wz_virtI (M := MX7_bound) (pc := 38) (M' := MX7_owing) (n := 1) (As := [.int x3]) (st := []) dX7_bound_38 cf7 rfl go_28 gc_28 rfl cat_i okX7_bound_X7_owing cwX7_160 (Nat.le_of_ble_eq_true rfl) ⟨Nat.zero_le _, Nat.zero_le _⟩ rfl (ls0 := [some (rf 28 0), some (.int x3)]) rfl (sX7_owing  hS) (fun r9 h8 hS => ?_)
        refine wz_goto (tgt := 45) dX7_bound_41 rfl (q_ist2 dX7_bound_45 (ltX7_bound_2) rfl (q_ald0 dX7_bound_46 (q_ild3 dX7_bound_47 ?_)))
        refine wz_virtI (M := MX7_bound) (pc := 48) (M' := MX7_upper) (n := 1) (As := [.int x3]) (st := []) dX7_bound_48 cf7 rfl go_28 gc_28 rfl cat_i okX7_bound_X7_upper cwX7_169 (Nat.le_of_ble_eq_true rfl) ⟨Nat.zero_le _, Nat.zero_le _⟩ rfl (ls0 := [some (rf 28 0), some (.int x3)]) rfl (sX7_upper  hS) (fun r11 h10 hS => ?_)
        refine q_ist3 dX7_bound_51 (ltX7_bound_3) rfl (wz_goto (tgt := 12) dX7_bound_52 rfl ?_)
        exact hS
def SX7_worthOf_0 (E : EN) (a1 : Int32) (a2 : Int32) (h : TH) (Q : Int32 → TH → Prop) : Prop := vp_in a1 16 ∧ wi E MX7_bound (fun r3 h2 => wi E MX7_worthOf Q 20 [some (rf 28 0), some (.int a1), some (.int a2), some (.int (h 43 0 (a1.toNatClampNeg))), some (.int r3), some (.int 0), some (.int 0), none] [] h2) 0 [some (rf 28 0), some (.int (h 43 0 (a1.toNatClampNeg))), none, none] [] h
set_option maxRecDepth 20000 in
theorem sX7_worthOf_0 {E : EN} {a1 : Int32} {a2 : Int32} {h : TH} {Q : Int32 → TH → Prop}  (hS : SX7_worthOf_0 E a1 a2 h Q) : wi E MX7_worthOf Q 0 [some (rf 28 0), some (.int a1), some (.int a2), none, none, none, none, none] [] h := by
  refine q_ald0 dX7_worthOf_0 (wz_getR dX7_worthOf_1 cf7 t432 (kf := 24) gr_28_24 gc_28 (q_ild1 dX7_worthOf_4 ?_))
  obtain ⟨hi1, hS⟩ := hS
  refine wz_iald dX7_worthOf_5 ga_43 gc_43 hi1 rfl (q_ist3 dX7_worthOf_6 (ltX7_worthOf_3) rfl (q_ald0 dX7_worthOf_7 (q_ild3 dX7_worthOf_8 ?_)))
  refine wz_virtI (M := MX7_worthOf) (pc := 9) (M' := MX7_bound) (n := 1) (As := [.int (h 43 0 (a1.toNatClampNeg))]) (st := []) dX7_worthOf_9 cf7 rfl go_28 gc_28 rfl cat_i okX7_worthOf_X7_bound cwX7_202 (Nat.le_of_ble_eq_true rfl) ⟨Nat.zero_le _, Nat.zero_le _⟩ rfl (ls0 := [some (rf 28 0), some (.int (h 43 0 (a1.toNatClampNeg))), none, none]) rfl hS (fun r3 h2 hS => ?_)
  refine q_ist4 dX7_worthOf_12 (ltX7_worthOf_4) rfl (wz_iconst dX7_worthOf_14 kiconst_0 (q_ist5 dX7_worthOf_15 (ltX7_worthOf_5) rfl (wz_iconst dX7_worthOf_17 kiconst_0 (q_ist6 dX7_worthOf_18 (ltX7_worthOf_6) rfl ?_))))
  exact hS
def SX7_worthOf_20 (E : EN) (x1 : Int32) (x2 : Int32) (x3 : Int32) (x4 : Int32) (x5 : Int32) (x6 : Int32) (h : TH) (Q : Int32 → TH → Prop) : Prop := ((x1 < x6 → Q x5 h) ∧ (¬ x1 < x6 → vp_in x6 16 ∧ ((¬ (h 43 0 (x6.toNatClampNeg)) = x3 → wi E MX7_worthOf Q 20 [some (rf 28 0), some (.int x1), some (.int x2), some (.int x3), some (.int (x4 - 0)), some (.int 0), some (.int (x6 + 1)), none] [] h) ∧ ((h 43 0 (x6.toNatClampNeg)) = x3 → ((x2 < (h 45 0 (x6.toNatClampNeg)) → wi E MX7_worthOf Q 20 [some (rf 28 0), some (.int x1), some (.int x2), some (.int x3), some (.int (x4 - 0)), some (.int 0), some (.int (x6 + 1)), none] [] h) ∧ (¬ x2 < (h 45 0 (x6.toNatClampNeg)) → SX7_judged E x6 x2 h (fun r6 h5 => ((r6 ≤ 0 → wi E MX7_worthOf Q 20 [some (rf 28 0), some (.int x1), some (.int x2), some (.int x3), some (.int (x4 - 0)), some (.int 0), some (.int (x6 + 1)), none] [] h5) ∧ (¬ r6 ≤ 0 → ((x4 ≤ (h5 44 0 (x6.toNatClampNeg)) → wi E MX7_worthOf Q 20 [some (rf 28 0), some (.int x1), some (.int x2), some (.int x3), some (.int (x4 - x4)), some (.int x4), some (.int (x6 + 1)), none] [] h5) ∧ (¬ x4 ≤ (h5 44 0 (x6.toNatClampNeg)) → wi E MX7_worthOf Q 20 [some (rf 28 0), some (.int x1), some (.int x2), some (.int x3), some (.int (x4 - (h5 44 0 (x6.toNatClampNeg)))), some (.int (h5 44 0 (x6.toNatClampNeg))), some (.int (x6 + 1)), none] [] h5)))))))))))
set_option maxRecDepth 20000 in
theorem sX7_worthOf_20 {E : EN} {x1 : Int32} {x2 : Int32} {x3 : Int32} {x4 : Int32} {x5 : Int32} {x6 : Int32} {h : TH} {Q : Int32 → TH → Prop}  (hS : SX7_worthOf_20 E x1 x2 x3 x4 x5 x6 h Q) : wi E MX7_worthOf Q 20 [some (rf 28 0), some (.int x1), some (.int x2), some (.int x3), some (.int x4), some (.int x5), some (.int x6), none] [] h := by
  refine q_ild6 dX7_worthOf_20 (q_ild1 dX7_worthOf_22 ?_)
  refine wz_icmp_gt (tgt := 113) dX7_worthOf_23 rfl (fun c1 => ?_) (fun c1 => ?_)
  · replace hS := hS.1 c1
    refine q_ild5 dX7_worthOf_113 ?_
    exact wi_ret dX7_worthOf_115 rfl hS
  · replace hS := hS.2 c1
    refine q_ald0 dX7_worthOf_26 (wz_getR dX7_worthOf_27 cf7 t432 (kf := 24) gr_28_24 gc_28 (q_ild6 dX7_worthOf_30 ?_))
    obtain ⟨hi2, hS⟩ := hS
    refine wz_iald dX7_worthOf_32 ga_43 gc_43 hi2 rfl (q_ild3 dX7_worthOf_33 ?_)
    refine wz_icmp_ne (tgt := 62) dX7_worthOf_34 rfl (fun c3 => ?_) (fun c3 => ?_)
    · replace hS := hS.1 c3
      refine wz_iconst dX7_worthOf_62 kiconst_0 (q_ist7 dX7_worthOf_63 (ltX7_worthOf_7) rfl (q_ild7 dX7_worthOf_65 ?_))
      refine wz_if_ne (tgt := 74) dX7_worthOf_67 rfl (fun z => absurd z (by decide)) (fun _ => ?_)
      refine wz_iconst dX7_worthOf_70 kiconst_0 (wz_goto (tgt := 98) dX7_worthOf_71 rfl (q_ist5 dX7_worthOf_98 (ltX7_worthOf_5) rfl (q_ild4 dX7_worthOf_100 (q_ild5 dX7_worthOf_102 (wz_isub dX7_worthOf_104 (q_ist4 dX7_worthOf_105 (ltX7_worthOf_4) rfl (q_inc6 (v := (x6 + 1)) dX7_worthOf_107 rfl (ltX7_worthOf_6) rfl ?_)))))))
      refine wz_pc (pc2 := 110) rfl ?_
      refine wz_goto (tgt := 20) dX7_worthOf_110 rfl ?_
      exact wz_mask [true, true, true, true, true, true, true, false] rfl hS
    · replace hS := hS.2 c3
      refine q_ald0 dX7_worthOf_37 (wz_getR dX7_worthOf_38 cf7 t434 (kf := 26) gr_28_26 gc_28 (q_ild6 dX7_worthOf_41 (wz_iald dX7_worthOf_43 ga_45 gc_45 hi2 rfl (q_ild2 dX7_worthOf_44 ?_))))
      refine wz_icmp_gt (tgt := 62) dX7_worthOf_45 rfl (fun c4 => ?_) (fun c4 => ?_)
      · replace hS := hS.1 c4
        refine wz_iconst dX7_worthOf_62 kiconst_0 (q_ist7 dX7_worthOf_63 (ltX7_worthOf_7) rfl (q_ild7 dX7_worthOf_65 ?_))
        refine wz_if_ne (tgt := 74) dX7_worthOf_67 rfl (fun z => absurd z (by decide)) (fun _ => ?_)
        refine wz_iconst dX7_worthOf_70 kiconst_0 (wz_goto (tgt := 98) dX7_worthOf_71 rfl (q_ist5 dX7_worthOf_98 (ltX7_worthOf_5) rfl (q_ild4 dX7_worthOf_100 (q_ild5 dX7_worthOf_102 (wz_isub dX7_worthOf_104 (q_ist4 dX7_worthOf_105 (ltX7_worthOf_4) rfl (q_inc6 (v := (x6 + 1)) dX7_worthOf_107 rfl (ltX7_worthOf_6) rfl ?_)))))))
        refine wz_pc (pc2 := 110) rfl ?_
        refine wz_goto (tgt := 20) dX7_worthOf_110 rfl ?_
        exact wz_mask [true, true, true, true, true, true, true, false] rfl hS
      · replace hS := hS.2 c4
        refine q_ald0 dX7_worthOf_48 (q_ild6 dX7_worthOf_49 (q_ild2 dX7_worthOf_51 ?_))
        refine wz_virtI (M := MX7_worthOf) (pc := 52) (M' := MX7_judged) (n := 2) (As := [.int x6, .int x2]) (st := []) dX7_worthOf_52 cf7 rfl go_28 gc_28 rfl cat_ii okX7_worthOf_X7_judged cwX7_198 (Nat.le_of_ble_eq_true rfl) ⟨Nat.zero_le _, Nat.zero_le _⟩ rfl (ls0 := [some (rf 28 0), some (.int x6), some (.int x2)]) rfl (sX7_judged  hS) (fun r6 h5 hS => ?_)
        refine wz_if_le (tgt := 62) dX7_worthOf_55 rfl (fun c7 => ?_) (fun c7 => ?_)
        · replace hS := hS.1 c7
          refine wz_iconst dX7_worthOf_62 kiconst_0 (q_ist7 dX7_worthOf_63 (ltX7_worthOf_7) rfl (q_ild7 dX7_worthOf_65 ?_))
          refine wz_if_ne (tgt := 74) dX7_worthOf_67 rfl (fun z => absurd z (by decide)) (fun _ => ?_)
          refine wz_iconst dX7_worthOf_70 kiconst_0 (wz_goto (tgt := 98) dX7_worthOf_71 rfl (q_ist5 dX7_worthOf_98 (ltX7_worthOf_5) rfl (q_ild4 dX7_worthOf_100 (q_ild5 dX7_worthOf_102 (wz_isub dX7_worthOf_104 (q_ist4 dX7_worthOf_105 (ltX7_worthOf_4) rfl (q_inc6 (v := (x6 + 1)) dX7_worthOf_107 rfl (ltX7_worthOf_6) rfl ?_)))))))
          refine wz_pc (pc2 := 110) rfl ?_
          refine wz_goto (tgt := 20) dX7_worthOf_110 rfl ?_
          exact wz_mask [true, true, true, true, true, true, true, false] rfl hS
        · replace hS := hS.2 c7
          refine wz_iconst dX7_worthOf_58 kiconst_1 (wz_goto (tgt := 63) dX7_worthOf_59 rfl (q_ist7 dX7_worthOf_63 (ltX7_worthOf_7) rfl (q_ild7 dX7_worthOf_65 ?_)))
          refine wz_if_ne (tgt := 74) dX7_worthOf_67 rfl (fun _ => ?_) (fun z => absurd z (by decide))
          refine q_ald0 dX7_worthOf_74 (wz_getR dX7_worthOf_75 cf7 t433 (kf := 25) gr_28_25 gc_28 (q_ild6 dX7_worthOf_78 (wz_iald dX7_worthOf_80 ga_44 gc_44 hi2 rfl (q_ild4 dX7_worthOf_81 ?_))))
          refine wz_icmp_ge (tgt := 96) dX7_worthOf_83 rfl (fun c8 => ?_) (fun c8 => ?_)
          · replace hS := hS.1 c8
            refine q_ild4 dX7_worthOf_96 (q_ist5 dX7_worthOf_98 (ltX7_worthOf_5) rfl (q_ild4 dX7_worthOf_100 (q_ild5 dX7_worthOf_102 (wz_isub dX7_worthOf_104 (q_ist4 dX7_worthOf_105 (ltX7_worthOf_4) rfl (q_inc6 (v := (x6 + 1)) dX7_worthOf_107 rfl (ltX7_worthOf_6) rfl (wz_goto (tgt := 20) dX7_worthOf_110 rfl ?_)))))))
            exact wz_mask [true, true, true, true, true, true, true, false] rfl hS
          · replace hS := hS.2 c8
            refine q_ald0 dX7_worthOf_86 (wz_getR dX7_worthOf_87 cf7 t433 (kf := 25) gr_28_25 gc_28 (q_ild6 dX7_worthOf_90 (wz_iald dX7_worthOf_92 ga_44 gc_44 hi2 rfl (wz_goto (tgt := 98) dX7_worthOf_93 rfl (q_ist5 dX7_worthOf_98 (ltX7_worthOf_5) rfl (q_ild4 dX7_worthOf_100 (q_ild5 dX7_worthOf_102 ?_)))))))
            refine wz_pc (pc2 := 104) rfl ?_
            refine wz_isub dX7_worthOf_104 (q_ist4 dX7_worthOf_105 (ltX7_worthOf_4) rfl (q_inc6 (v := (x6 + 1)) dX7_worthOf_107 rfl (ltX7_worthOf_6) rfl (wz_goto (tgt := 20) dX7_worthOf_110 rfl ?_)))
            exact wz_mask [true, true, true, true, true, true, true, false] rfl hS
def SX7_worth (E : EN) (a1 : Int32) (a2 : Int32) (h : TH) (Q : Int32 → TH → Prop) : Prop := SX7_isClaim E a1 h (fun r2 h1 => ((r2 = 0 → SX7_finds E (-1000000001) h1 (fun r5 h4 => Q r5 h4)) ∧ (¬ r2 = 0 → SX7_isIn E a2 0 5000 h1 (fun r7 h6 => ((r7 = 0 → SX7_finds E (-1000000001) h6 (fun r10 h9 => Q r10 h9)) ∧ (¬ r7 = 0 → wi E MX7_worthOf (fun r12 h11 => Q r12 h11) 0 [some (rf 28 0), some (.int a1), some (.int a2), none, none, none, none, none] [] h6))))))
set_option maxRecDepth 20000 in
theorem sX7_worth {E : EN} {a1 : Int32} {a2 : Int32} {h : TH} {Q : Int32 → TH → Prop}  (hS : SX7_worth E a1 a2 h Q) : wi E MX7_worth Q 0 [some (rf 28 0), some (.int a1), some (.int a2)] [] h := by
  refine q_ald0 dX7_worth_0 (q_ild1 dX7_worth_1 ?_)
  refine wz_virtI (M := MX7_worth) (pc := 2) (M' := MX7_isClaim) (n := 1) (As := [.int a1]) (st := []) dX7_worth_2 cf7 rfl go_28 gc_28 rfl cat_i okX7_worth_X7_isClaim cwX7_181 (Nat.le_of_ble_eq_true rfl) ⟨Nat.zero_le _, Nat.zero_le _⟩ rfl (ls0 := [some (rf 28 0), some (.int a1)]) rfl (sX7_isClaim  hS) (fun r2 h1 hS => ?_)
  refine wz_if_eq (tgt := 28) dX7_worth_5 rfl (fun c3 => ?_) (fun c3 => ?_)
  · replace hS := hS.1 c3
    refine q_ald0 dX7_worth_28 (wz_ldc dX7_worth_29 t370 ?_)
    refine wz_virtI (M := MX7_worth) (pc := 31) (M' := MX7_finds) (n := 1) (As := [.int (-1000000001)]) (st := []) dX7_worth_31 cf7 rfl go_28 gc_28 rfl cat_i okX7_worth_X7_finds cwX7_132 (Nat.le_of_ble_eq_true rfl) ⟨Nat.zero_le _, Nat.zero_le _⟩ rfl (ls0 := [some (rf 28 0), some (.int (-1000000001))]) rfl (sX7_finds  hS) (fun r5 h4 hS => ?_)
    exact wi_ret dX7_worth_34 rfl hS
  · replace hS := hS.2 c3
    refine q_ild2 dX7_worth_8 (wz_iconst dX7_worth_9 kiconst_0 (wz_sipush dX7_worth_10 ksipush_5000 ?_))
    refine wz_statI (M := MX7_worth) (pc := 13) (M' := MX7_isIn) (n := 3) (As := [.int a2, .int 0, .int 5000]) (st := []) dX7_worth_13 rfl cat_iii okX7_worth_X7_isIn cwX7_121 (Nat.le_of_ble_eq_true rfl) ⟨Nat.zero_le _, Nat.zero_le _⟩ rfl (ls0 := [some (.int a2), some (.int 0), some (.int 5000)]) rfl (sX7_isIn  hS) (fun r7 h6 hS => ?_)
    refine wz_if_eq (tgt := 28) dX7_worth_16 rfl (fun c8 => ?_) (fun c8 => ?_)
    · replace hS := hS.1 c8
      refine q_ald0 dX7_worth_28 (wz_ldc dX7_worth_29 t370 ?_)
      refine wz_virtI (M := MX7_worth) (pc := 31) (M' := MX7_finds) (n := 1) (As := [.int (-1000000001)]) (st := []) dX7_worth_31 cf7 rfl go_28 gc_28 rfl cat_i okX7_worth_X7_finds cwX7_132 (Nat.le_of_ble_eq_true rfl) ⟨Nat.zero_le _, Nat.zero_le _⟩ rfl (ls0 := [some (rf 28 0), some (.int (-1000000001))]) rfl (sX7_finds  hS) (fun r10 h9 hS => ?_)
      exact wi_ret dX7_worth_34 rfl hS
    · replace hS := hS.2 c8
      refine q_ald0 dX7_worth_19 (q_ild1 dX7_worth_20 (q_ild2 dX7_worth_21 ?_))
      refine wz_virtI (M := MX7_worth) (pc := 22) (M' := MX7_worthOf) (n := 2) (As := [.int a1, .int a2]) (st := []) dX7_worth_22 cf7 rfl go_28 gc_28 rfl cat_ii okX7_worth_X7_worthOf cwX7_205 (Nat.le_of_ble_eq_true rfl) ⟨Nat.zero_le _, Nat.zero_le _⟩ rfl (ls0 := [some (rf 28 0), some (.int a1), some (.int a2), none, none, none, none, none]) rfl hS (fun r12 h11 hS => ?_)
      refine wz_goto (tgt := 34) dX7_worth_25 rfl ?_
      exact wi_ret dX7_worth_34 rfl hS
def SX7_rankOf_0 (E : EN) (a1 : Int32) (a2 : Int32) (h : TH) (Q : Int32 → TH → Prop) : Prop := ((¬ (h 42 0 4) = 2 → ((¬ a2 = 0 → vp_in a1 16 ∧ vp_in (h 43 0 (a1.toNatClampNeg)) 10 ∧ wi E MX7_rankOf Q 50 [some (rf 28 0), none, some (.int a2), some (.int (h 36 0 ((h 43 0 (a1.toNatClampNeg)).toNatClampNeg))), some (.int 0), none] [] h) ∧ (a2 = 0 → vp_in a1 16 ∧ vp_in (h 43 0 (a1.toNatClampNeg)) 10 ∧ wi E MX7_rankOf Q 50 [some (rf 28 0), none, some (.int a2), some (.int (h 35 0 ((h 43 0 (a1.toNatClampNeg)).toNatClampNeg))), some (.int 0), none] [] h))) ∧ ((h 42 0 4) = 2 → vp_in a1 16 ∧ Q (h 45 0 (a1.toNatClampNeg)) h))
set_option maxRecDepth 20000 in
theorem sX7_rankOf_0 {E : EN} {a1 : Int32} {a2 : Int32} {h : TH} {Q : Int32 → TH → Prop}  (hS : SX7_rankOf_0 E a1 a2 h Q) : wi E MX7_rankOf Q 0 [some (rf 28 0), some (.int a1), some (.int a2), none, none, none] [] h := by
  refine q_ald0 dX7_rankOf_0 (wz_getR dX7_rankOf_1 cf7 t428 (kf := 23) gr_28_23 gc_28 (wz_iconst dX7_rankOf_4 kiconst_4 (wz_iald (v := (h 42 0 4)) dX7_rankOf_5 ga_42 gc_42 vi_4_6 (congrArg (h 42 0) cl_4) (wz_iconst dX7_rankOf_6 kiconst_2 ?_))))
  refine wz_icmp_ne (tgt := 17) dX7_rankOf_7 rfl (fun c1 => ?_) (fun c1 => ?_)
  · replace hS := hS.1 c1
    refine q_ild2 dX7_rankOf_17 ?_
    refine wz_if_ne (tgt := 35) dX7_rankOf_18 rfl (fun c2 => ?_) (fun c2 => ?_)
    · replace hS := hS.1 c2
      refine q_ald0 dX7_rankOf_35 (wz_getR dX7_rankOf_36 cf7 t387 (kf := 17) gr_28_17 gc_28 (q_ald0 dX7_rankOf_39 (wz_getR dX7_rankOf_40 cf7 t432 (kf := 24) gr_28_24 gc_28 (q_ild1 dX7_rankOf_43 ?_))))
      obtain ⟨hi3, hS⟩ := hS
      refine wz_iald dX7_rankOf_44 ga_43 gc_43 hi3 rfl ?_
      obtain ⟨hi4, hS⟩ := hS
      refine wz_iald dX7_rankOf_45 ga_36 gc_36 hi4 rfl (q_ist3 dX7_rankOf_46 (ltX7_rankOf_3) rfl (wz_iconst dX7_rankOf_47 kiconst_0 (q_ist4 dX7_rankOf_48 (ltX7_rankOf_4) rfl ?_)))
      exact wz_mask [true, false, true, true, true, true] rfl hS
    · replace hS := hS.2 c2
      refine q_ald0 dX7_rankOf_21 (wz_getR dX7_rankOf_22 cf7 t386 (kf := 16) gr_28_16 gc_28 (q_ald0 dX7_rankOf_25 (wz_getR dX7_rankOf_26 cf7 t432 (kf := 24) gr_28_24 gc_28 (q_ild1 dX7_rankOf_29 ?_))))
      obtain ⟨hi5, hS⟩ := hS
      refine wz_iald dX7_rankOf_30 ga_43 gc_43 hi5 rfl ?_
      obtain ⟨hi6, hS⟩ := hS
      refine wz_iald dX7_rankOf_31 ga_35 gc_35 hi6 rfl (wz_goto (tgt := 46) dX7_rankOf_32 rfl (q_ist3 dX7_rankOf_46 (ltX7_rankOf_3) rfl (wz_iconst dX7_rankOf_47 kiconst_0 (q_ist4 dX7_rankOf_48 (ltX7_rankOf_4) rfl ?_))))
      exact wz_mask [true, false, true, true, true, true] rfl hS
  · replace hS := hS.2 c1
    refine q_ald0 dX7_rankOf_10 (wz_getR dX7_rankOf_11 cf7 t434 (kf := 26) gr_28_26 gc_28 (q_ild1 dX7_rankOf_14 ?_))
    obtain ⟨hi7, hS⟩ := hS
    refine wz_iald dX7_rankOf_15 ga_45 gc_45 hi7 rfl ?_
    exact wi_ret dX7_rankOf_16 rfl hS
def SX7_rankOf_50 (E : EN) (x2 : Int32) (x3 : Int32) (x4 : Int32) (h : TH) (Q : Int32 → TH → Prop) : Prop := (((h 28 0 1) ≤ x4 → Q x3 h) ∧ (¬ (h 28 0 1) ≤ x4 → ((¬ (h 42 0 4) = 1 → Q x3 h) ∧ ((h 42 0 4) = 1 → ((¬ x2 = 0 → vp_in x4 10 ∧ (((h 36 0 (x4.toNatClampNeg)) = (-1) → wi E MX7_rankOf Q 50 [some (rf 28 0), none, some (.int x2), some (.int x3), some (.int (x4 + 1)), none] [] h) ∧ (¬ (h 36 0 (x4.toNatClampNeg)) = (-1) → ((x3 ≤ (h 36 0 (x4.toNatClampNeg)) → wi E MX7_rankOf Q 50 [some (rf 28 0), none, some (.int x2), some (.int x3), some (.int (x4 + 1)), none] [] h) ∧ (¬ x3 ≤ (h 36 0 (x4.toNatClampNeg)) → wi E MX7_rankOf Q 50 [some (rf 28 0), none, some (.int x2), some (.int (h 36 0 (x4.toNatClampNeg))), some (.int (x4 + 1)), none] [] h))))) ∧ (x2 = 0 → vp_in x4 10 ∧ (((h 35 0 (x4.toNatClampNeg)) = (-1) → wi E MX7_rankOf Q 50 [some (rf 28 0), none, some (.int x2), some (.int x3), some (.int (x4 + 1)), none] [] h) ∧ (¬ (h 35 0 (x4.toNatClampNeg)) = (-1) → ((x3 ≤ (h 35 0 (x4.toNatClampNeg)) → wi E MX7_rankOf Q 50 [some (rf 28 0), none, some (.int x2), some (.int x3), some (.int (x4 + 1)), none] [] h) ∧ (¬ x3 ≤ (h 35 0 (x4.toNatClampNeg)) → wi E MX7_rankOf Q 50 [some (rf 28 0), none, some (.int x2), some (.int (h 35 0 (x4.toNatClampNeg))), some (.int (x4 + 1)), none] [] h))))))))))
set_option maxRecDepth 20000 in
theorem sX7_rankOf_50 {E : EN} {x2 : Int32} {x3 : Int32} {x4 : Int32} {h : TH} {Q : Int32 → TH → Prop}  (hS : SX7_rankOf_50 E x2 x3 x4 h Q) : wi E MX7_rankOf Q 50 [some (rf 28 0), none, some (.int x2), some (.int x3), some (.int x4), none] [] h := by
  refine q_ild4 dX7_rankOf_50 (q_ald0 dX7_rankOf_52 (wz_getI dX7_rankOf_53 cf7 t362 (kf := 1) gi_28_1 gc_28 rfl ?_))
  refine wz_icmp_ge (tgt := 117) dX7_rankOf_56 rfl (fun c1 => ?_) (fun c1 => ?_)
  · replace hS := hS.1 c1
    refine q_ild3 dX7_rankOf_117 ?_
    exact wi_ret dX7_rankOf_118 rfl hS
  · replace hS := hS.2 c1
    refine q_ald0 dX7_rankOf_59 (wz_getR dX7_rankOf_60 cf7 t428 (kf := 23) gr_28_23 gc_28 (wz_iconst dX7_rankOf_63 kiconst_4 (wz_iald (v := (h 42 0 4)) dX7_rankOf_64 ga_42 gc_42 vi_4_6 (congrArg (h 42 0) cl_4) (wz_iconst dX7_rankOf_65 kiconst_1 ?_))))
    refine wz_icmp_ne (tgt := 117) dX7_rankOf_66 rfl (fun c2 => ?_) (fun c2 => ?_)
    · replace hS := hS.1 c2
      refine q_ild3 dX7_rankOf_117 ?_
      exact wi_ret dX7_rankOf_118 rfl hS
    · replace hS := hS.2 c2
      refine q_ild2 dX7_rankOf_69 ?_
      refine wz_if_ne (tgt := 83) dX7_rankOf_70 rfl (fun c3 => ?_) (fun c3 => ?_)
      · replace hS := hS.1 c3
        refine q_ald0 dX7_rankOf_83 (wz_getR dX7_rankOf_84 cf7 t387 (kf := 17) gr_28_17 gc_28 (q_ild4 dX7_rankOf_87 ?_))
        obtain ⟨hi4, hS⟩ := hS
        refine wz_iald dX7_rankOf_89 ga_36 gc_36 hi4 rfl (q_ist5 dX7_rankOf_90 (ltX7_rankOf_5) rfl (q_ild5 dX7_rankOf_92 (wz_iconst dX7_rankOf_94 kiconst_m1 ?_)))
        refine wz_icmp_eq (tgt := 109) dX7_rankOf_95 rfl (fun c5 => ?_) (fun c5 => ?_)
        · replace hS := hS.1 c5
          refine q_ild3 dX7_rankOf_109 (q_ist3 dX7_rankOf_110 (ltX7_rankOf_3) rfl (q_inc4 (v := (x4 + 1)) dX7_rankOf_111 rfl (ltX7_rankOf_4) rfl (wz_goto (tgt := 50) dX7_rankOf_114 rfl ?_)))
          exact wz_mask [true, true, true, true, true, false] rfl hS
        · replace hS := hS.2 c5
          refine q_ild5 dX7_rankOf_98 (q_ild3 dX7_rankOf_100 ?_)
          refine wz_icmp_ge (tgt := 109) dX7_rankOf_101 rfl (fun c6 => ?_) (fun c6 => ?_)
          · replace hS := hS.1 c6
            refine q_ild3 dX7_rankOf_109 (q_ist3 dX7_rankOf_110 (ltX7_rankOf_3) rfl (q_inc4 (v := (x4 + 1)) dX7_rankOf_111 rfl (ltX7_rankOf_4) rfl (wz_goto (tgt := 50) dX7_rankOf_114 rfl ?_)))
            exact wz_mask [true, true, true, true, true, false] rfl hS
          · replace hS := hS.2 c6
            refine q_ild5 dX7_rankOf_104 (wz_goto (tgt := 110) dX7_rankOf_106 rfl (q_ist3 dX7_rankOf_110 (ltX7_rankOf_3) rfl (q_inc4 (v := (x4 + 1)) dX7_rankOf_111 rfl (ltX7_rankOf_4) rfl (wz_goto (tgt := 50) dX7_rankOf_114 rfl ?_))))
            exact wz_mask [true, true, true, true, true, false] rfl hS
      · replace hS := hS.2 c3
        refine q_ald0 dX7_rankOf_73 (wz_getR dX7_rankOf_74 cf7 t386 (kf := 16) gr_28_16 gc_28 (q_ild4 dX7_rankOf_77 ?_))
        obtain ⟨hi7, hS⟩ := hS
        refine wz_iald dX7_rankOf_79 ga_35 gc_35 hi7 rfl (wz_goto (tgt := 90) dX7_rankOf_80 rfl (q_ist5 dX7_rankOf_90 (ltX7_rankOf_5) rfl (q_ild5 dX7_rankOf_92 (wz_iconst dX7_rankOf_94 kiconst_m1 ?_))))
        refine wz_icmp_eq (tgt := 109) dX7_rankOf_95 rfl (fun c8 => ?_) (fun c8 => ?_)
        · replace hS := hS.1 c8
          refine q_ild3 dX7_rankOf_109 (q_ist3 dX7_rankOf_110 (ltX7_rankOf_3) rfl (q_inc4 (v := (x4 + 1)) dX7_rankOf_111 rfl (ltX7_rankOf_4) rfl (wz_goto (tgt := 50) dX7_rankOf_114 rfl ?_)))
          exact wz_mask [true, true, true, true, true, false] rfl hS
        · replace hS := hS.2 c8
          refine q_ild5 dX7_rankOf_98 (q_ild3 dX7_rankOf_100 ?_)
          refine wz_icmp_ge (tgt := 109) dX7_rankOf_101 rfl (fun c9 => ?_) (fun c9 => ?_)
          · replace hS := hS.1 c9
            refine q_ild3 dX7_rankOf_109 (q_ist3 dX7_rankOf_110 (ltX7_rankOf_3) rfl (q_inc4 (v := (x4 + 1)) dX7_rankOf_111 rfl (ltX7_rankOf_4) rfl (wz_goto (tgt := 50) dX7_rankOf_114 rfl ?_)))
            exact wz_mask [true, true, true, true, true, false] rfl hS
          · replace hS := hS.2 c9
            refine q_ild5 dX7_rankOf_104 (wz_goto (tgt := 110) dX7_rankOf_106 rfl (q_ist3 dX7_rankOf_110 (ltX7_rankOf_3) rfl (q_inc4 (v := (x4 + 1)) dX7_rankOf_111 rfl (ltX7_rankOf_4) rfl (wz_goto (tgt := 50) dX7_rankOf_114 rfl ?_))))
            exact wz_mask [true, true, true, true, true, false] rfl hS
def SX7_rank (E : EN) (a1 : Int32) (a2 : Int32) (h : TH) (Q : Int32 → TH → Prop) : Prop := SX7_isClaim E a1 h (fun r2 h1 => ((r2 = 0 → SX7_finds E (-1000000001) h1 (fun r5 h4 => Q r5 h4)) ∧ (¬ r2 = 0 → SX7_isIn E a2 0 1 h1 (fun r7 h6 => ((r7 = 0 → SX7_finds E (-1000000001) h6 (fun r10 h9 => Q r10 h9)) ∧ (¬ r7 = 0 → wi E MX7_rankOf (fun r12 h11 => Q r12 h11) 0 [some (rf 28 0), some (.int a1), some (.int a2), none, none, none] [] h6))))))
set_option maxRecDepth 20000 in
theorem sX7_rank {E : EN} {a1 : Int32} {a2 : Int32} {h : TH} {Q : Int32 → TH → Prop}  (hS : SX7_rank E a1 a2 h Q) : wi E MX7_rank Q 0 [some (rf 28 0), some (.int a1), some (.int a2)] [] h := by
  refine q_ald0 dX7_rank_0 (q_ild1 dX7_rank_1 ?_)
  refine wz_virtI (M := MX7_rank) (pc := 2) (M' := MX7_isClaim) (n := 1) (As := [.int a1]) (st := []) dX7_rank_2 cf7 rfl go_28 gc_28 rfl cat_i okX7_rank_X7_isClaim cwX7_181 (Nat.le_of_ble_eq_true rfl) ⟨Nat.zero_le _, Nat.zero_le _⟩ rfl (ls0 := [some (rf 28 0), some (.int a1)]) rfl (sX7_isClaim  hS) (fun r2 h1 hS => ?_)
  refine wz_if_eq (tgt := 26) dX7_rank_5 rfl (fun c3 => ?_) (fun c3 => ?_)
  · replace hS := hS.1 c3
    refine q_ald0 dX7_rank_26 (wz_ldc dX7_rank_27 t370 ?_)
    refine wz_virtI (M := MX7_rank) (pc := 29) (M' := MX7_finds) (n := 1) (As := [.int (-1000000001)]) (st := []) dX7_rank_29 cf7 rfl go_28 gc_28 rfl cat_i okX7_rank_X7_finds cwX7_132 (Nat.le_of_ble_eq_true rfl) ⟨Nat.zero_le _, Nat.zero_le _⟩ rfl (ls0 := [some (rf 28 0), some (.int (-1000000001))]) rfl (sX7_finds  hS) (fun r5 h4 hS => ?_)
    exact wi_ret dX7_rank_32 rfl hS
  · replace hS := hS.2 c3
    refine q_ild2 dX7_rank_8 (wz_iconst dX7_rank_9 kiconst_0 (wz_iconst dX7_rank_10 kiconst_1 ?_))
    refine wz_statI (M := MX7_rank) (pc := 11) (M' := MX7_isIn) (n := 3) (As := [.int a2, .int 0, .int 1]) (st := []) dX7_rank_11 rfl cat_iii okX7_rank_X7_isIn cwX7_121 (Nat.le_of_ble_eq_true rfl) ⟨Nat.zero_le _, Nat.zero_le _⟩ rfl (ls0 := [some (.int a2), some (.int 0), some (.int 1)]) rfl (sX7_isIn  hS) (fun r7 h6 hS => ?_)
    refine wz_if_eq (tgt := 26) dX7_rank_14 rfl (fun c8 => ?_) (fun c8 => ?_)
    · replace hS := hS.1 c8
      refine q_ald0 dX7_rank_26 (wz_ldc dX7_rank_27 t370 ?_)
      refine wz_virtI (M := MX7_rank) (pc := 29) (M' := MX7_finds) (n := 1) (As := [.int (-1000000001)]) (st := []) dX7_rank_29 cf7 rfl go_28 gc_28 rfl cat_i okX7_rank_X7_finds cwX7_132 (Nat.le_of_ble_eq_true rfl) ⟨Nat.zero_le _, Nat.zero_le _⟩ rfl (ls0 := [some (rf 28 0), some (.int (-1000000001))]) rfl (sX7_finds  hS) (fun r10 h9 hS => ?_)
      exact wi_ret dX7_rank_32 rfl hS
    · replace hS := hS.2 c8
      refine q_ald0 dX7_rank_17 (q_ild1 dX7_rank_18 (q_ild2 dX7_rank_19 ?_))
      refine wz_virtI (M := MX7_rank) (pc := 20) (M' := MX7_rankOf) (n := 2) (As := [.int a1, .int a2]) (st := []) dX7_rank_20 cf7 rfl go_28 gc_28 rfl cat_ii okX7_rank_X7_rankOf cwX7_208 (Nat.le_of_ble_eq_true rfl) ⟨Nat.zero_le _, Nat.zero_le _⟩ rfl (ls0 := [some (rf 28 0), some (.int a1), some (.int a2), none, none, none]) rfl hS (fun r12 h11 hS => ?_)
      refine wz_goto (tgt := 32) dX7_rank_23 rfl ?_
      exact wi_ret dX7_rank_32 rfl hS
def SX7_loan (E : EN) (a1 : Int32) (a2 : Int32) (h : TH) (Q : Int32 → TH → Prop) : Prop := SX7_isParty E a1 h (fun r2 h1 => ((r2 = 0 → SX7_finds E (-1000000001) h1 (fun r5 h4 => Q r5 h4)) ∧ (¬ r2 = 0 → SX7_isIn E a2 1 1000000 h1 (fun r7 h6 => ((¬ r7 = 0 → vp_in a1 12 ∧ (((h6 29 0 (a1.toNatClampNeg)) = 1 → ((¬ (h6 28 0 3) = 6 → vp_in (h6 28 0 3) 6 ∧ Q (((h6 28 0 3) + 1) - 1) (up (up (up h6 48 0 ((h6 28 0 3).toNatClampNeg) a2) 49 0 ((h6 28 0 3).toNatClampNeg) (h6 28 0 8)) 28 0 3 ((h6 28 0 3) + 1))) ∧ ((h6 28 0 3) = 6 → SX7_finds E (-1000000004) h6 (fun r14 h13 => Q r14 h13)))) ∧ (¬ (h6 29 0 (a1.toNatClampNeg)) = 1 → SX7_finds E (-1000000005) h6 (fun r16 h15 => Q r16 h15)))) ∧ (r7 = 0 → SX7_finds E (-1000000001) h6 (fun r18 h17 => Q r18 h17)))))))
set_option maxRecDepth 20000 in
theorem sX7_loan {E : EN} {a1 : Int32} {a2 : Int32} {h : TH} {Q : Int32 → TH → Prop}  (hS : SX7_loan E a1 a2 h Q) : wi E MX7_loan Q 0 [some (rf 28 0), some (.int a1), some (.int a2)] [] h := by
  refine q_ald0 dX7_loan_0 (q_ild1 dX7_loan_1 ?_)
  refine wz_virtI (M := MX7_loan) (pc := 2) (M' := MX7_isParty) (n := 1) (As := [.int a1]) (st := []) dX7_loan_2 cf7 rfl go_28 gc_28 rfl cat_i okX7_loan_X7_isParty cwX7_136 (Nat.le_of_ble_eq_true rfl) ⟨Nat.zero_le _, Nat.zero_le _⟩ rfl (ls0 := [some (rf 28 0), some (.int a1)]) rfl (sX7_isParty  hS) (fun r2 h1 hS => ?_)
  refine wz_if_eq (tgt := 18) dX7_loan_5 rfl (fun c3 => ?_) (fun c3 => ?_)
  · replace hS := hS.1 c3
    refine q_ald0 dX7_loan_18 (wz_ldc dX7_loan_19 t370 ?_)
    refine wz_virtI (M := MX7_loan) (pc := 21) (M' := MX7_finds) (n := 1) (As := [.int (-1000000001)]) (st := []) dX7_loan_21 cf7 rfl go_28 gc_28 rfl cat_i okX7_loan_X7_finds cwX7_132 (Nat.le_of_ble_eq_true rfl) ⟨Nat.zero_le _, Nat.zero_le _⟩ rfl (ls0 := [some (rf 28 0), some (.int (-1000000001))]) rfl (sX7_finds  hS) (fun r5 h4 hS => ?_)
    exact wi_ret dX7_loan_24 rfl hS
  · replace hS := hS.2 c3
    refine q_ild2 dX7_loan_8 (wz_iconst dX7_loan_9 kiconst_1 (wz_ldc dX7_loan_10 t394 ?_))
    refine wz_statI (M := MX7_loan) (pc := 12) (M' := MX7_isIn) (n := 3) (As := [.int a2, .int 1, .int 1000000]) (st := []) dX7_loan_12 rfl cat_iii okX7_loan_X7_isIn cwX7_121 (Nat.le_of_ble_eq_true rfl) ⟨Nat.zero_le _, Nat.zero_le _⟩ rfl (ls0 := [some (.int a2), some (.int 1), some (.int 1000000)]) rfl (sX7_isIn  hS) (fun r7 h6 hS => ?_)
    refine wz_if_ne (tgt := 25) dX7_loan_15 rfl (fun c8 => ?_) (fun c8 => ?_)
    · replace hS := hS.1 c8
      refine q_ald0 dX7_loan_25 (wz_getR dX7_loan_26 cf7 t364 (kf := 10) gr_28_10 gc_28 (q_ild1 dX7_loan_29 ?_))
      obtain ⟨hi9, hS⟩ := hS
      refine wz_iald dX7_loan_30 ga_29 gc_29 hi9 rfl (wz_iconst dX7_loan_31 kiconst_1 ?_)
      refine wz_icmp_eq (tgt := 42) dX7_loan_32 rfl (fun c10 => ?_) (fun c10 => ?_)
      · replace hS := hS.1 c10
        refine q_ald0 dX7_loan_42 (wz_getI dX7_loan_43 cf7 t472 (kf := 3) gi_28_3 gc_28 rfl (wz_bipush dX7_loan_46 kbipush_6 ?_))
        refine wz_icmp_ne (tgt := 58) dX7_loan_48 rfl (fun c11 => ?_) (fun c11 => ?_)
        · replace hS := hS.1 c11
          refine q_ald0 dX7_loan_58 (wz_getR dX7_loan_59 cf7 t473 (kf := 29) gr_28_29 gc_28 (q_ald0 dX7_loan_62 (wz_getI dX7_loan_63 cf7 t472 (kf := 3) gi_28_3 gc_28 rfl (q_ild2 dX7_loan_66 ?_))))
          obtain ⟨hi12, hS⟩ := hS
          refine wz_iast dX7_loan_67 ga_48 gc_48 hi12 rfl (q_ald0 dX7_loan_68 (wz_getR dX7_loan_69 cf7 t474 (kf := 30) gr_28_30 gc_28 (q_ald0 dX7_loan_72 (wz_getI (v := (h6 28 0 3)) dX7_loan_73 cf7 t472 (kf := 3) gi_28_3 gc_28 (by first | rfl | simp [up]) (q_ald0 dX7_loan_76 (wz_getI (v := (h6 28 0 8)) dX7_loan_77 cf7 t399 (kf := 8) gi_28_8 gc_28 (by first | rfl | simp [up]) (wz_iast dX7_loan_80 ga_49 gc_49 hi12 rfl ?_)))))))
          refine wz_pc (pc2 := 81) rfl ?_
          refine q_ald0 dX7_loan_81 (wz_dup dX7_loan_82 rfl (wz_getI (v := (h6 28 0 3)) dX7_loan_83 cf7 t472 (kf := 3) gi_28_3 gc_28 (by first | rfl | simp [up]) (wz_iconst dX7_loan_86 kiconst_1 (wz_iadd dX7_loan_87 (wz_putI dX7_loan_88 cf7 t472 (kf := 3) gp_28_3 gc_28 rfl (q_ald0 dX7_loan_91 (wz_getI (v := ((h6 28 0 3) + 1)) dX7_loan_92 cf7 t472 (kf := 3) gi_28_3 gc_28 (by first | rfl | simp [up]) ?_)))))))
          refine wz_pc (pc2 := 95) rfl ?_
          refine wz_iconst dX7_loan_95 kiconst_1 (wz_isub dX7_loan_96 ?_)
          exact wi_ret dX7_loan_97 rfl hS
        · replace hS := hS.2 c11
          refine q_ald0 dX7_loan_51 (wz_ldc dX7_loan_52 t365 ?_)
          refine wz_virtI (M := MX7_loan) (pc := 54) (M' := MX7_finds) (n := 1) (As := [.int (-1000000004)]) (st := []) dX7_loan_54 cf7 rfl go_28 gc_28 rfl cat_i okX7_loan_X7_finds cwX7_132 (Nat.le_of_ble_eq_true rfl) ⟨Nat.zero_le _, Nat.zero_le _⟩ rfl (ls0 := [some (rf 28 0), some (.int (-1000000004))]) rfl (sX7_finds  hS) (fun r14 h13 hS => ?_)
          exact wi_ret dX7_loan_57 rfl hS
      · replace hS := hS.2 c10
        refine q_ald0 dX7_loan_35 (wz_ldc dX7_loan_36 t371 ?_)
        refine wz_virtI (M := MX7_loan) (pc := 38) (M' := MX7_finds) (n := 1) (As := [.int (-1000000005)]) (st := []) dX7_loan_38 cf7 rfl go_28 gc_28 rfl cat_i okX7_loan_X7_finds cwX7_132 (Nat.le_of_ble_eq_true rfl) ⟨Nat.zero_le _, Nat.zero_le _⟩ rfl (ls0 := [some (rf 28 0), some (.int (-1000000005))]) rfl (sX7_finds  hS) (fun r16 h15 hS => ?_)
        exact wi_ret dX7_loan_41 rfl hS
    · replace hS := hS.2 c8
      refine q_ald0 dX7_loan_18 (wz_ldc dX7_loan_19 t370 ?_)
      refine wz_virtI (M := MX7_loan) (pc := 21) (M' := MX7_finds) (n := 1) (As := [.int (-1000000001)]) (st := []) dX7_loan_21 cf7 rfl go_28 gc_28 rfl cat_i okX7_loan_X7_finds cwX7_132 (Nat.le_of_ble_eq_true rfl) ⟨Nat.zero_le _, Nat.zero_le _⟩ rfl (ls0 := [some (rf 28 0), some (.int (-1000000001))]) rfl (sX7_finds  hS) (fun r18 h17 hS => ?_)
      exact wi_ret dX7_loan_24 rfl hS
def SX7_lines_0 (E : EN) (a1 : Int32) (h : TH) (Q : TH → Prop) : Prop := wv E MX7_lines Q 2 [some (rf 28 0), some (.int a1), some (.int 0), none] [] h
set_option maxRecDepth 20000 in
theorem sX7_lines_0 {E : EN} {a1 : Int32} {h : TH} {Q : TH → Prop}  (hS : SX7_lines_0 E a1 h Q) : wv E MX7_lines Q 0 [some (rf 28 0), some (.int a1), none, none] [] h := by
  refine wz_iconst dX7_lines_0 kiconst_0 (q_ist2 dX7_lines_1 (ltX7_lines_2) rfl ?_)
  exact hS
def SX7_lines_2 (E : EN) (x1 : Int32) (x2 : Int32) (h : TH) (Q : TH → Prop) : Prop := ((22 ≤ x2 → Q h) ∧ (¬ 22 ≤ x2 → vp_in x2 22 ∧ ((6 ≤ x2 → ((x2 < 6 → wv E MX7_lines Q 2 [some (rf 28 0), some (.int x1), some (.int (x2 + 1)), none] [] (up (up h 61 0 (x2.toNatClampNeg) 0) 58 0 (x2.toNatClampNeg) 0)) ∧ (¬ x2 < 6 → (((h 28 0 2) ≤ (x2 - 6) → wv E MX7_lines Q 2 [some (rf 28 0), some (.int x1), some (.int (x2 + 1)), none] [] (up (up h 61 0 (x2.toNatClampNeg) 0) 58 0 (x2.toNatClampNeg) 0)) ∧ (¬ (h 28 0 2) ≤ (x2 - 6) → vp_in (x2 - 6) 16 ∧ ((¬ (h 47 0 ((x2 - 6).toNatClampNeg)) = 0 → wi E MX7_rankOf (fun r9 h8 => wi E MX7_worthOf (fun r11 h10 => wv E MX7_lines Q 2 [some (rf 28 0), some (.int x1), some (.int (x2 + 1)), none] [] (up h10 60 0 (x2.toNatClampNeg) r11)) 0 [some (rf 28 0), some (.int (x2 - 6)), some (.int (h8 28 0 8)), none, none, none, none, none] [] (up h8 59 0 (x2.toNatClampNeg) r9)) 0 [some (rf 28 0), some (.int (x2 - 6)), some (.int x1), none, none, none] [] (up (up (up h 61 0 (x2.toNatClampNeg) 0) 58 0 (x2.toNatClampNeg) 0) 58 0 (x2.toNatClampNeg) 0)) ∧ ((h 47 0 ((x2 - 6).toNatClampNeg)) = 0 → SX7_judged E (x2 - 6) (h 28 0 8) (up (up h 61 0 (x2.toNatClampNeg) 0) 58 0 (x2.toNatClampNeg) 0) (fun r13 h12 => ((r13 ≤ x1 → wi E MX7_rankOf (fun r16 h15 => wi E MX7_worthOf (fun r18 h17 => wv E MX7_lines Q 2 [some (rf 28 0), some (.int x1), some (.int (x2 + 1)), none] [] (up h17 60 0 (x2.toNatClampNeg) r18)) 0 [some (rf 28 0), some (.int (x2 - 6)), some (.int (h15 28 0 8)), none, none, none, none, none] [] (up h15 59 0 (x2.toNatClampNeg) r16)) 0 [some (rf 28 0), some (.int (x2 - 6)), some (.int x1), none, none, none] [] (up h12 58 0 (x2.toNatClampNeg) 0)) ∧ (¬ r13 ≤ x1 → wi E MX7_rankOf (fun r20 h19 => wi E MX7_worthOf (fun r22 h21 => wv E MX7_lines Q 2 [some (rf 28 0), some (.int x1), some (.int (x2 + 1)), none] [] (up h21 60 0 (x2.toNatClampNeg) r22)) 0 [some (rf 28 0), some (.int (x2 - 6)), some (.int (h19 28 0 8)), none, none, none, none, none] [] (up h19 59 0 (x2.toNatClampNeg) r20)) 0 [some (rf 28 0), some (.int (x2 - 6)), some (.int x1), none, none, none] [] (up h12 58 0 (x2.toNatClampNeg) 1))))))))))) ∧ (¬ 6 ≤ x2 → (((h 28 0 3) ≤ x2 → ((x2 < 6 → wv E MX7_lines Q 2 [some (rf 28 0), some (.int x1), some (.int (x2 + 1)), none] [] (up (up h 61 0 (x2.toNatClampNeg) 0) 58 0 (x2.toNatClampNeg) 0)) ∧ (¬ x2 < 6 → (((h 28 0 2) ≤ (x2 - 6) → wv E MX7_lines Q 2 [some (rf 28 0), some (.int x1), some (.int (x2 + 1)), none] [] (up (up h 61 0 (x2.toNatClampNeg) 0) 58 0 (x2.toNatClampNeg) 0)) ∧ (¬ (h 28 0 2) ≤ (x2 - 6) → vp_in (x2 - 6) 16 ∧ ((¬ (h 47 0 ((x2 - 6).toNatClampNeg)) = 0 → wi E MX7_rankOf (fun r29 h28 => wi E MX7_worthOf (fun r31 h30 => wv E MX7_lines Q 2 [some (rf 28 0), some (.int x1), some (.int (x2 + 1)), none] [] (up h30 60 0 (x2.toNatClampNeg) r31)) 0 [some (rf 28 0), some (.int (x2 - 6)), some (.int (h28 28 0 8)), none, none, none, none, none] [] (up h28 59 0 (x2.toNatClampNeg) r29)) 0 [some (rf 28 0), some (.int (x2 - 6)), some (.int x1), none, none, none] [] (up (up (up h 61 0 (x2.toNatClampNeg) 0) 58 0 (x2.toNatClampNeg) 0) 58 0 (x2.toNatClampNeg) 0)) ∧ ((h 47 0 ((x2 - 6).toNatClampNeg)) = 0 → SX7_judged E (x2 - 6) (h 28 0 8) (up (up h 61 0 (x2.toNatClampNeg) 0) 58 0 (x2.toNatClampNeg) 0) (fun r33 h32 => ((r33 ≤ x1 → wi E MX7_rankOf (fun r36 h35 => wi E MX7_worthOf (fun r38 h37 => wv E MX7_lines Q 2 [some (rf 28 0), some (.int x1), some (.int (x2 + 1)), none] [] (up h37 60 0 (x2.toNatClampNeg) r38)) 0 [some (rf 28 0), some (.int (x2 - 6)), some (.int (h35 28 0 8)), none, none, none, none, none] [] (up h35 59 0 (x2.toNatClampNeg) r36)) 0 [some (rf 28 0), some (.int (x2 - 6)), some (.int x1), none, none, none] [] (up h32 58 0 (x2.toNatClampNeg) 0)) ∧ (¬ r33 ≤ x1 → wi E MX7_rankOf (fun r40 h39 => wi E MX7_worthOf (fun r42 h41 => wv E MX7_lines Q 2 [some (rf 28 0), some (.int x1), some (.int (x2 + 1)), none] [] (up h41 60 0 (x2.toNatClampNeg) r42)) 0 [some (rf 28 0), some (.int (x2 - 6)), some (.int (h39 28 0 8)), none, none, none, none, none] [] (up h39 59 0 (x2.toNatClampNeg) r40)) 0 [some (rf 28 0), some (.int (x2 - 6)), some (.int x1), none, none, none] [] (up h32 58 0 (x2.toNatClampNeg) 1))))))))))) ∧ (¬ (h 28 0 3) ≤ x2 → vp_in x2 6 ∧ wv E MX7_lines Q 2 [some (rf 28 0), some (.int x1), some (.int (x2 + 1)), none] [] (up (up (up (up (up h 61 0 (x2.toNatClampNeg) 0) 58 0 (x2.toNatClampNeg) 0) 58 0 (x2.toNatClampNeg) 1) 59 0 (x2.toNatClampNeg) (h 49 0 (x2.toNatClampNeg))) 60 0 (x2.toNatClampNeg) (h 48 0 (x2.toNatClampNeg)))))))))
set_option maxRecDepth 20000 in
theorem sX7_lines_2 {E : EN} {x1 : Int32} {x2 : Int32} {h : TH} {Q : TH → Prop}  (hS : SX7_lines_2 E x1 x2 h Q) : wv E MX7_lines Q 2 [some (rf 28 0), some (.int x1), some (.int x2), none] [] h := by
  refine q_ild2 dX7_lines_2 (wz_bipush dX7_lines_3 kbipush_22 ?_)
  refine wz_icmp_ge (tgt := 158) dX7_lines_5 rfl (fun c1 => ?_) (fun c1 => ?_)
  · replace hS := hS.1 c1
    exact wv_ret dX7_lines_158 rfl hS
  · replace hS := hS.2 c1
    refine q_ald0 dX7_lines_8 (wz_getR dX7_lines_9 cf7 t475 (kf := 42) gr_28_42 gc_28 (q_ild2 dX7_lines_12 (wz_iconst dX7_lines_13 kiconst_0 ?_)))
    obtain ⟨hi2, hS⟩ := hS
    refine wz_iast dX7_lines_14 ga_61 gc_61 hi2 rfl (q_ald0 dX7_lines_15 (wz_getR dX7_lines_16 cf7 t476 (kf := 39) gr_28_39 gc_28 (q_ild2 dX7_lines_19 (wz_iconst dX7_lines_20 kiconst_0 (wz_zast dX7_lines_21 ga_58 gc_58 hi2 (isB_nar isB_0) rfl (q_ild2 dX7_lines_22 (wz_bipush dX7_lines_23 kbipush_6 ?_)))))))
    refine wz_pc (pc2 := 25) rfl ?_
    refine wz_icmp_ge (tgt := 70) dX7_lines_25 rfl (fun c3 => ?_) (fun c3 => ?_)
    · replace hS := hS.1 c3
      refine q_ild2 dX7_lines_70 (wz_bipush dX7_lines_71 kbipush_6 ?_)
      refine wz_icmp_lt (tgt := 152) dX7_lines_73 rfl (fun c4 => ?_) (fun c4 => ?_)
      · replace hS := hS.1 c4
        refine q_inc2 (v := (x2 + 1)) dX7_lines_152 rfl (ltX7_lines_2) rfl (wz_goto (tgt := 2) dX7_lines_155 rfl ?_)
        exact hS
      · replace hS := hS.2 c4
        refine q_ild2 dX7_lines_76 (wz_bipush dX7_lines_77 kbipush_6 (wz_isub dX7_lines_79 (q_ald0 dX7_lines_80 (wz_getI (v := (h 28 0 2)) dX7_lines_81 cf7 t363 (kf := 2) gi_28_2 gc_28 (by first | rfl | simp [up]) ?_))))
        refine wz_icmp_ge (tgt := 152) dX7_lines_84 rfl (fun c5 => ?_) (fun c5 => ?_)
        · replace hS := hS.1 c5
          refine q_inc2 (v := (x2 + 1)) dX7_lines_152 rfl (ltX7_lines_2) rfl (wz_goto (tgt := 2) dX7_lines_155 rfl ?_)
          exact hS
        · replace hS := hS.2 c5
          refine q_ild2 dX7_lines_87 (wz_bipush dX7_lines_88 kbipush_6 (wz_isub dX7_lines_90 (q_ist3 dX7_lines_91 (ltX7_lines_3) rfl (q_ald0 dX7_lines_92 (wz_getR dX7_lines_93 cf7 t476 (kf := 39) gr_28_39 gc_28 (q_ild2 dX7_lines_96 (q_ald0 dX7_lines_97 ?_)))))))
          refine wz_pc (pc2 := 98) rfl ?_
          refine wz_getR dX7_lines_98 cf7 t436 (kf := 28) gr_28_28 gc_28 (q_ild3 dX7_lines_101 ?_)
          obtain ⟨hi6, hS⟩ := hS
          refine wz_zald (v := (h 47 0 ((x2 - 6).toNatClampNeg))) dX7_lines_102 ga_47 gc_47 hi6 (by first | rfl | simp [up]) ?_
          refine wz_if_ne (tgt := 123) dX7_lines_103 rfl (fun c7 => ?_) (fun c7 => ?_)
          · replace hS := hS.1 c7
            refine wz_iconst dX7_lines_123 kiconst_0 (wz_zast dX7_lines_124 ga_58 gc_58 hi2 (isB_nar isB_0) rfl (q_ald0 dX7_lines_125 (wz_getR dX7_lines_126 cf7 t477 (kf := 40) gr_28_40 gc_28 (q_ild2 dX7_lines_129 (q_ald0 dX7_lines_130 (q_ild3 dX7_lines_131 (q_ild1 dX7_lines_132 ?_)))))))
            refine wz_pc (pc2 := 133) rfl ?_
            refine wz_virtI (M := MX7_lines) (pc := 133) (M' := MX7_rankOf) (n := 2) (As := [.int (x2 - 6), .int x1]) (st := [.int x2, rf 59 0]) dX7_lines_133 cf7 rfl go_28 gc_28 rfl cat_ii okX7_lines_X7_rankOf cwX7_208 (Nat.le_of_ble_eq_true rfl) ⟨Nat.zero_le _, Nat.zero_le _⟩ rfl (ls0 := [some (rf 28 0), some (.int (x2 - 6)), some (.int x1), none, none, none]) rfl hS (fun r9 h8 hS => ?_)
            refine wz_iast dX7_lines_136 ga_59 gc_59 hi2 rfl (q_ald0 dX7_lines_137 (wz_getR dX7_lines_138 cf7 t478 (kf := 41) gr_28_41 gc_28 (q_ild2 dX7_lines_141 (q_ald0 dX7_lines_142 (q_ild3 dX7_lines_143 (q_ald0 dX7_lines_144 (wz_getI (v := (h8 28 0 8)) dX7_lines_145 cf7 t399 (kf := 8) gi_28_8 gc_28 (by first | rfl | simp [up]) ?_)))))))
            refine wz_pc (pc2 := 148) rfl ?_
            refine wz_virtI (M := MX7_lines) (pc := 148) (M' := MX7_worthOf) (n := 2) (As := [.int (x2 - 6), .int (h8 28 0 8)]) (st := [.int x2, rf 60 0]) dX7_lines_148 cf7 rfl go_28 gc_28 rfl cat_ii okX7_lines_X7_worthOf cwX7_205 (Nat.le_of_ble_eq_true rfl) ⟨Nat.zero_le _, Nat.zero_le _⟩ rfl (ls0 := [some (rf 28 0), some (.int (x2 - 6)), some (.int (h8 28 0 8)), none, none, none, none, none]) rfl hS (fun r11 h10 hS => ?_)
            refine wz_iast dX7_lines_151 ga_60 gc_60 hi2 rfl (q_inc2 (v := (x2 + 1)) dX7_lines_152 rfl (ltX7_lines_2) rfl (wz_goto (tgt := 2) dX7_lines_155 rfl ?_))
            exact wz_mask [true, true, true, false] rfl hS
          · replace hS := hS.2 c7
            refine q_ald0 dX7_lines_106 (q_ild3 dX7_lines_107 (q_ald0 dX7_lines_108 (wz_getI (v := (h 28 0 8)) dX7_lines_109 cf7 t399 (kf := 8) gi_28_8 gc_28 (by first | rfl | simp [up]) ?_)))
            refine wz_virtI (M := MX7_lines) (pc := 112) (M' := MX7_judged) (n := 2) (As := [.int (x2 - 6), .int (h 28 0 8)]) (st := [.int x2, rf 58 0]) dX7_lines_112 cf7 rfl go_28 gc_28 rfl cat_ii okX7_lines_X7_judged cwX7_198 (Nat.le_of_ble_eq_true rfl) ⟨Nat.zero_le _, Nat.zero_le _⟩ rfl (ls0 := [some (rf 28 0), some (.int (x2 - 6)), some (.int (h 28 0 8))]) rfl (sX7_judged  hS) (fun r13 h12 hS => ?_)
            refine q_ild1 dX7_lines_115 ?_
            refine wz_icmp_le (tgt := 123) dX7_lines_116 rfl (fun c14 => ?_) (fun c14 => ?_)
            · replace hS := hS.1 c14
              refine wz_iconst dX7_lines_123 kiconst_0 (wz_zast dX7_lines_124 ga_58 gc_58 hi2 (isB_nar isB_0) rfl (q_ald0 dX7_lines_125 (wz_getR dX7_lines_126 cf7 t477 (kf := 40) gr_28_40 gc_28 (q_ild2 dX7_lines_129 (q_ald0 dX7_lines_130 (q_ild3 dX7_lines_131 (q_ild1 dX7_lines_132 ?_)))))))
              refine wz_pc (pc2 := 133) rfl ?_
              refine wz_virtI (M := MX7_lines) (pc := 133) (M' := MX7_rankOf) (n := 2) (As := [.int (x2 - 6), .int x1]) (st := [.int x2, rf 59 0]) dX7_lines_133 cf7 rfl go_28 gc_28 rfl cat_ii okX7_lines_X7_rankOf cwX7_208 (Nat.le_of_ble_eq_true rfl) ⟨Nat.zero_le _, Nat.zero_le _⟩ rfl (ls0 := [some (rf 28 0), some (.int (x2 - 6)), some (.int x1), none, none, none]) rfl hS (fun r16 h15 hS => ?_)
              refine wz_iast dX7_lines_136 ga_59 gc_59 hi2 rfl (q_ald0 dX7_lines_137 (wz_getR dX7_lines_138 cf7 t478 (kf := 41) gr_28_41 gc_28 (q_ild2 dX7_lines_141 (q_ald0 dX7_lines_142 (q_ild3 dX7_lines_143 (q_ald0 dX7_lines_144 (wz_getI (v := (h15 28 0 8)) dX7_lines_145 cf7 t399 (kf := 8) gi_28_8 gc_28 (by first | rfl | simp [up]) ?_)))))))
              refine wz_pc (pc2 := 148) rfl ?_
              refine wz_virtI (M := MX7_lines) (pc := 148) (M' := MX7_worthOf) (n := 2) (As := [.int (x2 - 6), .int (h15 28 0 8)]) (st := [.int x2, rf 60 0]) dX7_lines_148 cf7 rfl go_28 gc_28 rfl cat_ii okX7_lines_X7_worthOf cwX7_205 (Nat.le_of_ble_eq_true rfl) ⟨Nat.zero_le _, Nat.zero_le _⟩ rfl (ls0 := [some (rf 28 0), some (.int (x2 - 6)), some (.int (h15 28 0 8)), none, none, none, none, none]) rfl hS (fun r18 h17 hS => ?_)
              refine wz_iast dX7_lines_151 ga_60 gc_60 hi2 rfl (q_inc2 (v := (x2 + 1)) dX7_lines_152 rfl (ltX7_lines_2) rfl (wz_goto (tgt := 2) dX7_lines_155 rfl ?_))
              exact wz_mask [true, true, true, false] rfl hS
            · replace hS := hS.2 c14
              refine wz_iconst dX7_lines_119 kiconst_1 (wz_goto (tgt := 124) dX7_lines_120 rfl (wz_zast dX7_lines_124 ga_58 gc_58 hi2 (isB_nar isB_1) rfl (q_ald0 dX7_lines_125 (wz_getR dX7_lines_126 cf7 t477 (kf := 40) gr_28_40 gc_28 (q_ild2 dX7_lines_129 (q_ald0 dX7_lines_130 (q_ild3 dX7_lines_131 ?_)))))))
              refine wz_pc (pc2 := 132) rfl ?_
              refine q_ild1 dX7_lines_132 ?_
              refine wz_virtI (M := MX7_lines) (pc := 133) (M' := MX7_rankOf) (n := 2) (As := [.int (x2 - 6), .int x1]) (st := [.int x2, rf 59 0]) dX7_lines_133 cf7 rfl go_28 gc_28 rfl cat_ii okX7_lines_X7_rankOf cwX7_208 (Nat.le_of_ble_eq_true rfl) ⟨Nat.zero_le _, Nat.zero_le _⟩ rfl (ls0 := [some (rf 28 0), some (.int (x2 - 6)), some (.int x1), none, none, none]) rfl hS (fun r20 h19 hS => ?_)
              refine wz_iast dX7_lines_136 ga_59 gc_59 hi2 rfl (q_ald0 dX7_lines_137 (wz_getR dX7_lines_138 cf7 t478 (kf := 41) gr_28_41 gc_28 (q_ild2 dX7_lines_141 (q_ald0 dX7_lines_142 (q_ild3 dX7_lines_143 (q_ald0 dX7_lines_144 (wz_getI (v := (h19 28 0 8)) dX7_lines_145 cf7 t399 (kf := 8) gi_28_8 gc_28 (by first | rfl | simp [up]) ?_)))))))
              refine wz_pc (pc2 := 148) rfl ?_
              refine wz_virtI (M := MX7_lines) (pc := 148) (M' := MX7_worthOf) (n := 2) (As := [.int (x2 - 6), .int (h19 28 0 8)]) (st := [.int x2, rf 60 0]) dX7_lines_148 cf7 rfl go_28 gc_28 rfl cat_ii okX7_lines_X7_worthOf cwX7_205 (Nat.le_of_ble_eq_true rfl) ⟨Nat.zero_le _, Nat.zero_le _⟩ rfl (ls0 := [some (rf 28 0), some (.int (x2 - 6)), some (.int (h19 28 0 8)), none, none, none, none, none]) rfl hS (fun r22 h21 hS => ?_)
              refine wz_iast dX7_lines_151 ga_60 gc_60 hi2 rfl (q_inc2 (v := (x2 + 1)) dX7_lines_152 rfl (ltX7_lines_2) rfl (wz_goto (tgt := 2) dX7_lines_155 rfl ?_))
              exact wz_mask [true, true, true, false] rfl hS
    · replace hS := hS.2 c3
      refine q_ild2 dX7_lines_28 (q_ald0 dX7_lines_29 (wz_getI (v := (h 28 0 3)) dX7_lines_30 cf7 t472 (kf := 3) gi_28_3 gc_28 (by first | rfl | simp [up]) ?_))
      refine wz_icmp_ge (tgt := 70) dX7_lines_33 rfl (fun c23 => ?_) (fun c23 => ?_)
      · replace hS := hS.1 c23
        refine q_ild2 dX7_lines_70 (wz_bipush dX7_lines_71 kbipush_6 ?_)
        refine wz_icmp_lt (tgt := 152) dX7_lines_73 rfl (fun c24 => ?_) (fun c24 => ?_)
        · replace hS := hS.1 c24
          refine q_inc2 (v := (x2 + 1)) dX7_lines_152 rfl (ltX7_lines_2) rfl (wz_goto (tgt := 2) dX7_lines_155 rfl ?_)
          exact hS
        · replace hS := hS.2 c24
          refine q_ild2 dX7_lines_76 (wz_bipush dX7_lines_77 kbipush_6 (wz_isub dX7_lines_79 (q_ald0 dX7_lines_80 (wz_getI (v := (h 28 0 2)) dX7_lines_81 cf7 t363 (kf := 2) gi_28_2 gc_28 (by first | rfl | simp [up]) ?_))))
          refine wz_icmp_ge (tgt := 152) dX7_lines_84 rfl (fun c25 => ?_) (fun c25 => ?_)
          · replace hS := hS.1 c25
            refine q_inc2 (v := (x2 + 1)) dX7_lines_152 rfl (ltX7_lines_2) rfl (wz_goto (tgt := 2) dX7_lines_155 rfl ?_)
            exact hS
          · replace hS := hS.2 c25
            refine q_ild2 dX7_lines_87 (wz_bipush dX7_lines_88 kbipush_6 (wz_isub dX7_lines_90 (q_ist3 dX7_lines_91 (ltX7_lines_3) rfl (q_ald0 dX7_lines_92 (wz_getR dX7_lines_93 cf7 t476 (kf := 39) gr_28_39 gc_28 (q_ild2 dX7_lines_96 (q_ald0 dX7_lines_97 ?_)))))))
            refine wz_pc (pc2 := 98) rfl ?_
            refine wz_getR dX7_lines_98 cf7 t436 (kf := 28) gr_28_28 gc_28 (q_ild3 dX7_lines_101 ?_)
            obtain ⟨hi26, hS⟩ := hS
            refine wz_zald (v := (h 47 0 ((x2 - 6).toNatClampNeg))) dX7_lines_102 ga_47 gc_47 hi26 (by first | rfl | simp [up]) ?_
            refine wz_if_ne (tgt := 123) dX7_lines_103 rfl (fun c27 => ?_) (fun c27 => ?_)
            · replace hS := hS.1 c27
              refine wz_iconst dX7_lines_123 kiconst_0 (wz_zast dX7_lines_124 ga_58 gc_58 hi2 (isB_nar isB_0) rfl (q_ald0 dX7_lines_125 (wz_getR dX7_lines_126 cf7 t477 (kf := 40) gr_28_40 gc_28 (q_ild2 dX7_lines_129 (q_ald0 dX7_lines_130 (q_ild3 dX7_lines_131 (q_ild1 dX7_lines_132 ?_)))))))
              refine wz_pc (pc2 := 133) rfl ?_
              refine wz_virtI (M := MX7_lines) (pc := 133) (M' := MX7_rankOf) (n := 2) (As := [.int (x2 - 6), .int x1]) (st := [.int x2, rf 59 0]) dX7_lines_133 cf7 rfl go_28 gc_28 rfl cat_ii okX7_lines_X7_rankOf cwX7_208 (Nat.le_of_ble_eq_true rfl) ⟨Nat.zero_le _, Nat.zero_le _⟩ rfl (ls0 := [some (rf 28 0), some (.int (x2 - 6)), some (.int x1), none, none, none]) rfl hS (fun r29 h28 hS => ?_)
              refine wz_iast dX7_lines_136 ga_59 gc_59 hi2 rfl (q_ald0 dX7_lines_137 (wz_getR dX7_lines_138 cf7 t478 (kf := 41) gr_28_41 gc_28 (q_ild2 dX7_lines_141 (q_ald0 dX7_lines_142 (q_ild3 dX7_lines_143 (q_ald0 dX7_lines_144 (wz_getI (v := (h28 28 0 8)) dX7_lines_145 cf7 t399 (kf := 8) gi_28_8 gc_28 (by first | rfl | simp [up]) ?_)))))))
              refine wz_pc (pc2 := 148) rfl ?_
              refine wz_virtI (M := MX7_lines) (pc := 148) (M' := MX7_worthOf) (n := 2) (As := [.int (x2 - 6), .int (h28 28 0 8)]) (st := [.int x2, rf 60 0]) dX7_lines_148 cf7 rfl go_28 gc_28 rfl cat_ii okX7_lines_X7_worthOf cwX7_205 (Nat.le_of_ble_eq_true rfl) ⟨Nat.zero_le _, Nat.zero_le _⟩ rfl (ls0 := [some (rf 28 0), some (.int (x2 - 6)), some (.int (h28 28 0 8)), none, none, none, none, none]) rfl hS (fun r31 h30 hS => ?_)
              refine wz_iast dX7_lines_151 ga_60 gc_60 hi2 rfl (q_inc2 (v := (x2 + 1)) dX7_lines_152 rfl (ltX7_lines_2) rfl (wz_goto (tgt := 2) dX7_lines_155 rfl ?_))
              exact wz_mask [true, true, true, false] rfl hS
            · replace hS := hS.2 c27
              refine q_ald0 dX7_lines_106 (q_ild3 dX7_lines_107 (q_ald0 dX7_lines_108 (wz_getI (v := (h 28 0 8)) dX7_lines_109 cf7 t399 (kf := 8) gi_28_8 gc_28 (by first | rfl | simp [up]) ?_)))
              refine wz_virtI (M := MX7_lines) (pc := 112) (M' := MX7_judged) (n := 2) (As := [.int (x2 - 6), .int (h 28 0 8)]) (st := [.int x2, rf 58 0]) dX7_lines_112 cf7 rfl go_28 gc_28 rfl cat_ii okX7_lines_X7_judged cwX7_198 (Nat.le_of_ble_eq_true rfl) ⟨Nat.zero_le _, Nat.zero_le _⟩ rfl (ls0 := [some (rf 28 0), some (.int (x2 - 6)), some (.int (h 28 0 8))]) rfl (sX7_judged  hS) (fun r33 h32 hS => ?_)
              refine q_ild1 dX7_lines_115 ?_
              refine wz_icmp_le (tgt := 123) dX7_lines_116 rfl (fun c34 => ?_) (fun c34 => ?_)
              · replace hS := hS.1 c34
                refine wz_iconst dX7_lines_123 kiconst_0 (wz_zast dX7_lines_124 ga_58 gc_58 hi2 (isB_nar isB_0) rfl (q_ald0 dX7_lines_125 (wz_getR dX7_lines_126 cf7 t477 (kf := 40) gr_28_40 gc_28 (q_ild2 dX7_lines_129 (q_ald0 dX7_lines_130 (q_ild3 dX7_lines_131 (q_ild1 dX7_lines_132 ?_)))))))
                refine wz_pc (pc2 := 133) rfl ?_
                refine wz_virtI (M := MX7_lines) (pc := 133) (M' := MX7_rankOf) (n := 2) (As := [.int (x2 - 6), .int x1]) (st := [.int x2, rf 59 0]) dX7_lines_133 cf7 rfl go_28 gc_28 rfl cat_ii okX7_lines_X7_rankOf cwX7_208 (Nat.le_of_ble_eq_true rfl) ⟨Nat.zero_le _, Nat.zero_le _⟩ rfl (ls0 := [some (rf 28 0), some (.int (x2 - 6)), some (.int x1), none, none, none]) rfl hS (fun r36 h35 hS => ?_)
                refine wz_iast dX7_lines_136 ga_59 gc_59 hi2 rfl (q_ald0 dX7_lines_137 (wz_getR dX7_lines_138 cf7 t478 (kf := 41) gr_28_41 gc_28 (q_ild2 dX7_lines_141 (q_ald0 dX7_lines_142 (q_ild3 dX7_lines_143 (q_ald0 dX7_lines_144 (wz_getI (v := (h35 28 0 8)) dX7_lines_145 cf7 t399 (kf := 8) gi_28_8 gc_28 (by first | rfl | simp [up]) ?_)))))))
                refine wz_pc (pc2 := 148) rfl ?_
                refine wz_virtI (M := MX7_lines) (pc := 148) (M' := MX7_worthOf) (n := 2) (As := [.int (x2 - 6), .int (h35 28 0 8)]) (st := [.int x2, rf 60 0]) dX7_lines_148 cf7 rfl go_28 gc_28 rfl cat_ii okX7_lines_X7_worthOf cwX7_205 (Nat.le_of_ble_eq_true rfl) ⟨Nat.zero_le _, Nat.zero_le _⟩ rfl (ls0 := [some (rf 28 0), some (.int (x2 - 6)), some (.int (h35 28 0 8)), none, none, none, none, none]) rfl hS (fun r38 h37 hS => ?_)
                refine wz_iast dX7_lines_151 ga_60 gc_60 hi2 rfl (q_inc2 (v := (x2 + 1)) dX7_lines_152 rfl (ltX7_lines_2) rfl (wz_goto (tgt := 2) dX7_lines_155 rfl ?_))
                exact wz_mask [true, true, true, false] rfl hS
              · replace hS := hS.2 c34
                refine wz_iconst dX7_lines_119 kiconst_1 (wz_goto (tgt := 124) dX7_lines_120 rfl (wz_zast dX7_lines_124 ga_58 gc_58 hi2 (isB_nar isB_1) rfl (q_ald0 dX7_lines_125 (wz_getR dX7_lines_126 cf7 t477 (kf := 40) gr_28_40 gc_28 (q_ild2 dX7_lines_129 (q_ald0 dX7_lines_130 (q_ild3 dX7_lines_131 ?_)))))))
                refine wz_pc (pc2 := 132) rfl ?_
                refine q_ild1 dX7_lines_132 ?_
                refine wz_virtI (M := MX7_lines) (pc := 133) (M' := MX7_rankOf) (n := 2) (As := [.int (x2 - 6), .int x1]) (st := [.int x2, rf 59 0]) dX7_lines_133 cf7 rfl go_28 gc_28 rfl cat_ii okX7_lines_X7_rankOf cwX7_208 (Nat.le_of_ble_eq_true rfl) ⟨Nat.zero_le _, Nat.zero_le _⟩ rfl (ls0 := [some (rf 28 0), some (.int (x2 - 6)), some (.int x1), none, none, none]) rfl hS (fun r40 h39 hS => ?_)
                refine wz_iast dX7_lines_136 ga_59 gc_59 hi2 rfl (q_ald0 dX7_lines_137 (wz_getR dX7_lines_138 cf7 t478 (kf := 41) gr_28_41 gc_28 (q_ild2 dX7_lines_141 (q_ald0 dX7_lines_142 (q_ild3 dX7_lines_143 (q_ald0 dX7_lines_144 (wz_getI (v := (h39 28 0 8)) dX7_lines_145 cf7 t399 (kf := 8) gi_28_8 gc_28 (by first | rfl | simp [up]) ?_)))))))
                refine wz_pc (pc2 := 148) rfl ?_
                refine wz_virtI (M := MX7_lines) (pc := 148) (M' := MX7_worthOf) (n := 2) (As := [.int (x2 - 6), .int (h39 28 0 8)]) (st := [.int x2, rf 60 0]) dX7_lines_148 cf7 rfl go_28 gc_28 rfl cat_ii okX7_lines_X7_worthOf cwX7_205 (Nat.le_of_ble_eq_true rfl) ⟨Nat.zero_le _, Nat.zero_le _⟩ rfl (ls0 := [some (rf 28 0), some (.int (x2 - 6)), some (.int (h39 28 0 8)), none, none, none, none, none]) rfl hS (fun r42 h41 hS => ?_)
                refine wz_iast dX7_lines_151 ga_60 gc_60 hi2 rfl (q_inc2 (v := (x2 + 1)) dX7_lines_152 rfl (ltX7_lines_2) rfl (wz_goto (tgt := 2) dX7_lines_155 rfl ?_))
                exact wz_mask [true, true, true, false] rfl hS
      · replace hS := hS.2 c23
        refine q_ald0 dX7_lines_36 (wz_getR dX7_lines_37 cf7 t476 (kf := 39) gr_28_39 gc_28 (q_ild2 dX7_lines_40 (wz_iconst dX7_lines_41 kiconst_1 (wz_zast dX7_lines_42 ga_58 gc_58 hi2 (isB_nar isB_1) rfl (q_ald0 dX7_lines_43 (wz_getR dX7_lines_44 cf7 t477 (kf := 40) gr_28_40 gc_28 (q_ild2 dX7_lines_47 ?_)))))))
        refine wz_pc (pc2 := 48) rfl ?_
        refine q_ald0 dX7_lines_48 (wz_getR dX7_lines_49 cf7 t474 (kf := 30) gr_28_30 gc_28 (q_ild2 dX7_lines_52 ?_))
        obtain ⟨hi43, hS⟩ := hS
        refine wz_iald (v := (h 49 0 (x2.toNatClampNeg))) dX7_lines_53 ga_49 gc_49 hi43 (by first | rfl | simp [up]) (wz_iast dX7_lines_54 ga_59 gc_59 hi2 rfl (q_ald0 dX7_lines_55 (wz_getR dX7_lines_56 cf7 t478 (kf := 41) gr_28_41 gc_28 (q_ild2 dX7_lines_59 (q_ald0 dX7_lines_60 (wz_getR dX7_lines_61 cf7 t473 (kf := 29) gr_28_29 gc_28 (q_ild2 dX7_lines_64 ?_)))))))
        refine wz_pc (pc2 := 65) rfl ?_
        refine wz_iald (v := (h 48 0 (x2.toNatClampNeg))) dX7_lines_65 ga_48 gc_48 hi43 (by first | rfl | simp [up]) (wz_iast dX7_lines_66 ga_60 gc_60 hi2 rfl (wz_goto (tgt := 152) dX7_lines_67 rfl (q_inc2 (v := (x2 + 1)) dX7_lines_152 rfl (ltX7_lines_2) rfl (wz_goto (tgt := 2) dX7_lines_155 rfl ?_))))
        exact hS
def SX7_nextRank_0 (E : EN) (a1 : Int32) (h : TH) (Q : Int32 → TH → Prop) : Prop := wi E MX7_nextRank Q 4 [some (rf 28 0), some (.int a1), some (.int (-1)), some (.int 0)] [] h
set_option maxRecDepth 20000 in
theorem sX7_nextRank_0 {E : EN} {a1 : Int32} {h : TH} {Q : Int32 → TH → Prop}  (hS : SX7_nextRank_0 E a1 h Q) : wi E MX7_nextRank Q 0 [some (rf 28 0), some (.int a1), none, none] [] h := by
  refine wz_iconst dX7_nextRank_0 kiconst_m1 (q_ist2 dX7_nextRank_1 (ltX7_nextRank_2) rfl (wz_iconst dX7_nextRank_2 kiconst_0 (q_ist3 dX7_nextRank_3 (ltX7_nextRank_3) rfl ?_)))
  exact hS
def SX7_nextRank_4 (E : EN) (x1 : Int32) (x2 : Int32) (x3 : Int32) (h : TH) (Q : Int32 → TH → Prop) : Prop := ((22 ≤ x3 → Q x2 h) ∧ (¬ 22 ≤ x3 → vp_in x3 22 ∧ (((h 58 0 (x3.toNatClampNeg)) = 0 → wi E MX7_nextRank Q 4 [some (rf 28 0), some (.int x1), some (.int x2), some (.int (x3 + 1))] [] h) ∧ (¬ (h 58 0 (x3.toNatClampNeg)) = 0 → (((h 59 0 (x3.toNatClampNeg)) < x1 → wi E MX7_nextRank Q 4 [some (rf 28 0), some (.int x1), some (.int x2), some (.int (x3 + 1))] [] h) ∧ (¬ (h 59 0 (x3.toNatClampNeg)) < x1 → ((x2 = (-1) → wi E MX7_nextRank Q 4 [some (rf 28 0), some (.int x1), some (.int (h 59 0 (x3.toNatClampNeg))), some (.int (x3 + 1))] [] h) ∧ (¬ x2 = (-1) → ((x2 ≤ (h 59 0 (x3.toNatClampNeg)) → wi E MX7_nextRank Q 4 [some (rf 28 0), some (.int x1), some (.int x2), some (.int (x3 + 1))] [] h) ∧ (¬ x2 ≤ (h 59 0 (x3.toNatClampNeg)) → wi E MX7_nextRank Q 4 [some (rf 28 0), some (.int x1), some (.int (h 59 0 (x3.toNatClampNeg))), some (.int (x3 + 1))] [] h))))))))))
set_option maxRecDepth 20000 in
theorem sX7_nextRank_4 {E : EN} {x1 : Int32} {x2 : Int32} {x3 : Int32} {h : TH} {Q : Int32 → TH → Prop}  (hS : SX7_nextRank_4 E x1 x2 x3 h Q) : wi E MX7_nextRank Q 4 [some (rf 28 0), some (.int x1), some (.int x2), some (.int x3)] [] h := by
  refine q_ild3 dX7_nextRank_4 (wz_bipush dX7_nextRank_5 kbipush_22 ?_)
  refine wz_icmp_ge (tgt := 61) dX7_nextRank_7 rfl (fun c1 => ?_) (fun c1 => ?_)
  · replace hS := hS.1 c1
    refine q_ild2 dX7_nextRank_61 ?_
    exact wi_ret dX7_nextRank_62 rfl hS
  · replace hS := hS.2 c1
    refine q_ald0 dX7_nextRank_10 (wz_getR dX7_nextRank_11 cf7 t476 (kf := 39) gr_28_39 gc_28 (q_ild3 dX7_nextRank_14 ?_))
    obtain ⟨hi2, hS⟩ := hS
    refine wz_zald dX7_nextRank_15 ga_58 gc_58 hi2 rfl ?_
    refine wz_if_eq (tgt := 53) dX7_nextRank_16 rfl (fun c3 => ?_) (fun c3 => ?_)
    · replace hS := hS.1 c3
      refine q_ild2 dX7_nextRank_53 (q_ist2 dX7_nextRank_54 (ltX7_nextRank_2) rfl (q_inc3 (v := (x3 + 1)) dX7_nextRank_55 rfl (ltX7_nextRank_3) rfl (wz_goto (tgt := 4) dX7_nextRank_58 rfl ?_)))
      exact hS
    · replace hS := hS.2 c3
      refine q_ald0 dX7_nextRank_19 (wz_getR dX7_nextRank_20 cf7 t477 (kf := 40) gr_28_40 gc_28 (q_ild3 dX7_nextRank_23 (wz_iald dX7_nextRank_24 ga_59 gc_59 hi2 rfl (q_ild1 dX7_nextRank_25 ?_))))
      refine wz_icmp_lt (tgt := 53) dX7_nextRank_26 rfl (fun c4 => ?_) (fun c4 => ?_)
      · replace hS := hS.1 c4
        refine q_ild2 dX7_nextRank_53 (q_ist2 dX7_nextRank_54 (ltX7_nextRank_2) rfl (q_inc3 (v := (x3 + 1)) dX7_nextRank_55 rfl (ltX7_nextRank_3) rfl (wz_goto (tgt := 4) dX7_nextRank_58 rfl ?_)))
        exact hS
      · replace hS := hS.2 c4
        refine q_ild2 dX7_nextRank_29 (wz_iconst dX7_nextRank_30 kiconst_m1 ?_)
        refine wz_icmp_eq (tgt := 44) dX7_nextRank_31 rfl (fun c5 => ?_) (fun c5 => ?_)
        · replace hS := hS.1 c5
          refine q_ald0 dX7_nextRank_44 (wz_getR dX7_nextRank_45 cf7 t477 (kf := 40) gr_28_40 gc_28 (q_ild3 dX7_nextRank_48 (wz_iald dX7_nextRank_49 ga_59 gc_59 hi2 rfl (wz_goto (tgt := 54) dX7_nextRank_50 rfl (q_ist2 dX7_nextRank_54 (ltX7_nextRank_2) rfl (q_inc3 (v := (x3 + 1)) dX7_nextRank_55 rfl (ltX7_nextRank_3) rfl (wz_goto (tgt := 4) dX7_nextRank_58 rfl ?_)))))))
          exact hS
        · replace hS := hS.2 c5
          refine q_ald0 dX7_nextRank_34 (wz_getR dX7_nextRank_35 cf7 t477 (kf := 40) gr_28_40 gc_28 (q_ild3 dX7_nextRank_38 (wz_iald dX7_nextRank_39 ga_59 gc_59 hi2 rfl (q_ild2 dX7_nextRank_40 ?_))))
          refine wz_icmp_ge (tgt := 53) dX7_nextRank_41 rfl (fun c6 => ?_) (fun c6 => ?_)
          · replace hS := hS.1 c6
            refine q_ild2 dX7_nextRank_53 (q_ist2 dX7_nextRank_54 (ltX7_nextRank_2) rfl (q_inc3 (v := (x3 + 1)) dX7_nextRank_55 rfl (ltX7_nextRank_3) rfl (wz_goto (tgt := 4) dX7_nextRank_58 rfl ?_)))
            exact hS
          · replace hS := hS.2 c6
            refine q_ald0 dX7_nextRank_44 (wz_getR dX7_nextRank_45 cf7 t477 (kf := 40) gr_28_40 gc_28 (q_ild3 dX7_nextRank_48 (wz_iald dX7_nextRank_49 ga_59 gc_59 hi2 rfl (wz_goto (tgt := 54) dX7_nextRank_50 rfl (q_ist2 dX7_nextRank_54 (ltX7_nextRank_2) rfl (q_inc3 (v := (x3 + 1)) dX7_nextRank_55 rfl (ltX7_nextRank_3) rfl (wz_goto (tgt := 4) dX7_nextRank_58 rfl ?_)))))))
            exact hS
def SX7_sell_0 (E : EN) (a1 : Int32) (a2 : Int32) (h : TH) (Q : TH → Prop) : Prop := wv E MX7_lines (fun h1 => wi E MX7_nextRank (fun r4 h3 => wv E MX7_sell Q 15 [some (rf 28 0), none, none, some (.long ((a1 : Int32).toInt64)), none, some (.int r4), none, none, none, none, none] [] h3) 0 [some (rf 28 0), some (.int 0), none, none] [] h1) 0 [some (rf 28 0), some (.int a2), none, none] [] h
set_option maxRecDepth 20000 in
theorem sX7_sell_0 {E : EN} {a1 : Int32} {a2 : Int32} {h : TH} {Q : TH → Prop}  (hS : SX7_sell_0 E a1 a2 h Q) : wv E MX7_sell Q 0 [some (rf 28 0), some (.int a1), some (.int a2), none, none, none, none, none, none, none, none] [] h := by
  refine q_ald0 dX7_sell_0 (q_ild2 dX7_sell_1 ?_)
  refine wz_virtV (M := MX7_sell) (pc := 2) (M' := MX7_lines) (n := 1) (As := [.int a2]) (st := []) dX7_sell_2 cf7 rfl go_28 gc_28 rfl cat_i okX7_sell_X7_lines cwX7_214 (Nat.le_of_ble_eq_true rfl) ⟨Nat.zero_le _, Nat.zero_le _⟩ rfl (ls0 := [some (rf 28 0), some (.int a2), none, none]) rfl hS (fun h1 hS => ?_)
  refine q_ild1 dX7_sell_5 (wz_i2l dX7_sell_6 (wz_lstore_n (ls2 := [some (rf 28 0), some (.int a1), some (.int a2), some (.long ((a1 : Int32).toInt64)), none, none, none, none, none, none, none]) dX7_sell_7 (by decide) rfl rfl (q_ald0 dX7_sell_8 (wz_iconst dX7_sell_9 kiconst_0 ?_))))
  refine wz_virtI (M := MX7_sell) (pc := 10) (M' := MX7_nextRank) (n := 1) (As := [.int 0]) (st := []) dX7_sell_10 cf7 rfl go_28 gc_28 rfl cat_i okX7_sell_X7_nextRank cwX7_218 (Nat.le_of_ble_eq_true rfl) ⟨Nat.zero_le _, Nat.zero_le _⟩ rfl (ls0 := [some (rf 28 0), some (.int 0), none, none]) rfl hS (fun r4 h3 hS => ?_)
  refine q_ist5 dX7_sell_13 (ltX7_sell_5) rfl ?_
  exact wz_mask [true, false, false, true, true, true, true, true, true, true, true] rfl hS
def SX7_sell_15 (E : EN) (x3 : Int64) (x5 : Int32) (h : TH) (Q : TH → Prop) : Prop := ((x5 = (-1) → Q (up h 28 0 43 ((x3 : Int64).toInt32))) ∧ (¬ x5 = (-1) → wv E MX7_sell Q 27 [some (rf 28 0), none, none, some (.long x3), none, some (.int x5), some (.long 0), none, some (.int 0), none, none] [] h))
set_option maxRecDepth 20000 in
theorem sX7_sell_15 {E : EN} {x3 : Int64} {x5 : Int32} {h : TH} {Q : TH → Prop}  (hS : SX7_sell_15 E x3 x5 h Q) : wv E MX7_sell Q 15 [some (rf 28 0), none, none, some (.long x3), none, some (.int x5), none, none, none, none, none] [] h := by
  refine q_ild5 dX7_sell_15 (wz_iconst dX7_sell_17 kiconst_m1 ?_)
  refine wz_icmp_eq (tgt := 264) dX7_sell_18 rfl (fun c1 => ?_) (fun c1 => ?_)
  · replace hS := hS.1 c1
    refine q_ald0 dX7_sell_264 (q_lld3 dX7_sell_265 (wz_l2i dX7_sell_266 (wz_putI dX7_sell_267 cf7 t487 (kf := 43) gp_28_43 gc_28 rfl ?_)))
    exact wv_ret dX7_sell_270 rfl hS
  · replace hS := hS.2 c1
    refine wz_lconst (v := 0) dX7_sell_21 (by decide) (wz_lstore (ls2 := [some (rf 28 0), none, none, some (.long x3), none, some (.int x5), some (.long 0), none, none, none, none]) dX7_sell_22 (by decide) rfl rfl (wz_iconst dX7_sell_24 kiconst_0 (q_ist8 dX7_sell_25 (ltX7_sell_8) rfl ?_)))
    exact hS
def SX7_sell_27 (E : EN) (x3 : Int64) (x5 : Int32) (x6 : Int64) (x8 : Int32) (h : TH) (Q : TH → Prop) : Prop := ((22 ≤ x8 → wv E MX7_sell Q 85 [some (rf 28 0), none, none, some (.long x3), none, some (.int x5), some (.long x6), none, some (.long 0), none, some (.int 0)] [] h) ∧ (¬ 22 ≤ x8 → vp_in x8 22 ∧ (((h 58 0 (x8.toNatClampNeg)) = 0 → wv E MX7_sell Q 27 [some (rf 28 0), none, none, some (.long x3), none, some (.int x5), some (.long (x6 + 0)), none, some (.int (x8 + 1)), none, none] [] h) ∧ (¬ (h 58 0 (x8.toNatClampNeg)) = 0 → ((¬ (h 59 0 (x8.toNatClampNeg)) = x5 → wv E MX7_sell Q 27 [some (rf 28 0), none, none, some (.long x3), none, some (.int x5), some (.long (x6 + 0)), none, some (.int (x8 + 1)), none, none] [] h) ∧ ((h 59 0 (x8.toNatClampNeg)) = x5 → wv E MX7_sell Q 27 [some (rf 28 0), none, none, some (.long x3), none, some (.int x5), some (.long (x6 + ((h 60 0 (x8.toNatClampNeg) : Int32).toInt64))), none, some (.int (x8 + 1)), none, none] [] h))))))
set_option maxRecDepth 20000 in
theorem sX7_sell_27 {E : EN} {x3 : Int64} {x5 : Int32} {x6 : Int64} {x8 : Int32} {h : TH} {Q : TH → Prop}  (hS : SX7_sell_27 E x3 x5 x6 x8 h Q) : wv E MX7_sell Q 27 [some (rf 28 0), none, none, some (.long x3), none, some (.int x5), some (.long x6), none, some (.int x8), none, none] [] h := by
  refine q_ild8 dX7_sell_27 (wz_bipush dX7_sell_29 kbipush_22 ?_)
  refine wz_icmp_ge (tgt := 79) dX7_sell_31 rfl (fun c1 => ?_) (fun c1 => ?_)
  · replace hS := hS.1 c1
    refine wz_lconst (v := 0) dX7_sell_79 (by decide) (wz_lstore (ls2 := [some (rf 28 0), none, none, some (.long x3), none, some (.int x5), some (.long x6), none, some (.long 0), none, none]) dX7_sell_80 (by decide) rfl rfl (wz_iconst dX7_sell_82 kiconst_0 (q_ist10 dX7_sell_83 (ltX7_sell_10) rfl ?_)))
    exact hS
  · replace hS := hS.2 c1
    refine q_lld6 dX7_sell_34 (q_ald0 dX7_sell_36 (wz_getR dX7_sell_37 cf7 t476 (kf := 39) gr_28_39 gc_28 (q_ild8 dX7_sell_40 ?_)))
    obtain ⟨hi2, hS⟩ := hS
    refine wz_zald dX7_sell_42 ga_58 gc_58 hi2 rfl ?_
    refine wz_if_eq (tgt := 69) dX7_sell_43 rfl (fun c3 => ?_) (fun c3 => ?_)
    · replace hS := hS.1 c3
      refine wz_lconst (v := 0) dX7_sell_69 (by decide) (wz_ladd dX7_sell_70 (wz_lstore (ls2 := [some (rf 28 0), none, none, some (.long x3), none, some (.int x5), some (.long (x6 + 0)), none, some (.int x8), none, none]) dX7_sell_71 (by decide) rfl rfl (q_inc8 (v := (x8 + 1)) dX7_sell_73 rfl (ltX7_sell_8) rfl (wz_goto (tgt := 27) dX7_sell_76 rfl ?_))))
      exact hS
    · replace hS := hS.2 c3
      refine q_ald0 dX7_sell_46 (wz_getR dX7_sell_47 cf7 t477 (kf := 40) gr_28_40 gc_28 (q_ild8 dX7_sell_50 (wz_iald dX7_sell_52 ga_59 gc_59 hi2 rfl (q_ild5 dX7_sell_53 ?_))))
      refine wz_icmp_ne (tgt := 69) dX7_sell_55 rfl (fun c4 => ?_) (fun c4 => ?_)
      · replace hS := hS.1 c4
        refine wz_lconst (v := 0) dX7_sell_69 (by decide) (wz_ladd dX7_sell_70 (wz_lstore (ls2 := [some (rf 28 0), none, none, some (.long x3), none, some (.int x5), some (.long (x6 + 0)), none, some (.int x8), none, none]) dX7_sell_71 (by decide) rfl rfl (q_inc8 (v := (x8 + 1)) dX7_sell_73 rfl (ltX7_sell_8) rfl (wz_goto (tgt := 27) dX7_sell_76 rfl ?_))))
        exact hS
      · replace hS := hS.2 c4
        refine q_ald0 dX7_sell_58 (wz_getR dX7_sell_59 cf7 t478 (kf := 41) gr_28_41 gc_28 (q_ild8 dX7_sell_62 (wz_iald dX7_sell_64 ga_60 gc_60 hi2 rfl (wz_i2l dX7_sell_65 (wz_goto (tgt := 70) dX7_sell_66 rfl (wz_ladd dX7_sell_70 (wz_lstore (ls2 := [some (rf 28 0), none, none, some (.long x3), none, some (.int x5), some (.long (x6 + ((h 60 0 (x8.toNatClampNeg) : Int32).toInt64))), none, some (.int x8), none, none]) dX7_sell_71 (by decide) rfl rfl ?_)))))))
        refine wz_pc (pc2 := 73) rfl ?_
        refine q_inc8 (v := (x8 + 1)) dX7_sell_73 rfl (ltX7_sell_8) rfl (wz_goto (tgt := 27) dX7_sell_76 rfl ?_)
        exact hS
def SX7_sell_85 (E : EN) (x3 : Int64) (x5 : Int32) (x6 : Int64) (x8 : Int64) (x10 : Int32) (h : TH) (Q : TH → Prop) : Prop := ((22 ≤ x10 → wv E MX7_sell Q 177 [some (rf 28 0), none, none, some (.long x3), none, some (.int x5), some (.long x6), none, some (.long x8), none, some (.int 0)] [] h) ∧ (¬ 22 ≤ x10 → vp_in x10 22 ∧ (((h 58 0 (x10.toNatClampNeg)) = 0 → wv E MX7_sell Q 85 [some (rf 28 0), none, none, some (.long x3), none, some (.int x5), some (.long x6), none, some (.long x8), none, some (.int (x10 + 1))] [] h) ∧ (¬ (h 58 0 (x10.toNatClampNeg)) = 0 → (((h 59 0 (x10.toNatClampNeg)) = x5 → (((lg_cmp x3 x6) < 0 → (¬ x6 = (0 : Int64)) ∧ wv E MX7_sell Q 85 [some (rf 28 0), none, none, some (.long x3), none, some (.int x5), some (.long x6), none, some (.long (x8 + ((((x3 * ((h 60 0 (x10.toNatClampNeg) : Int32).toInt64)) / x6 : Int64).toInt32 : Int32).toInt64))), none, some (.int (x10 + 1))] [] (up h 61 0 (x10.toNatClampNeg) (((x3 * ((h 60 0 (x10.toNatClampNeg) : Int32).toInt64)) / x6 : Int64).toInt32))) ∧ (¬ (lg_cmp x3 x6) < 0 → wv E MX7_sell Q 85 [some (rf 28 0), none, none, some (.long x3), none, some (.int x5), some (.long x6), none, some (.long (x8 + ((h 60 0 (x10.toNatClampNeg) : Int32).toInt64))), none, some (.int (x10 + 1))] [] (up h 61 0 (x10.toNatClampNeg) (h 60 0 (x10.toNatClampNeg)))))) ∧ (¬ (h 59 0 (x10.toNatClampNeg)) = x5 → wv E MX7_sell Q 85 [some (rf 28 0), none, none, some (.long x3), none, some (.int x5), some (.long x6), none, some (.long x8), none, some (.int (x10 + 1))] [] h))))))
set_option maxRecDepth 20000 in
theorem sX7_sell_85 {E : EN} {x3 : Int64} {x5 : Int32} {x6 : Int64} {x8 : Int64} {x10 : Int32} {h : TH} {Q : TH → Prop}  (hS : SX7_sell_85 E x3 x5 x6 x8 x10 h Q) : wv E MX7_sell Q 85 [some (rf 28 0), none, none, some (.long x3), none, some (.int x5), some (.long x6), none, some (.long x8), none, some (.int x10)] [] h := by
  refine q_ild10 dX7_sell_85 (wz_bipush dX7_sell_87 kbipush_22 ?_)
  refine wz_icmp_ge (tgt := 174) dX7_sell_89 rfl (fun c1 => ?_) (fun c1 => ?_)
  · replace hS := hS.1 c1
    refine wz_iconst dX7_sell_174 kiconst_0 (q_ist10 dX7_sell_175 (ltX7_sell_10) rfl ?_)
    exact hS
  · replace hS := hS.2 c1
    refine q_ald0 dX7_sell_92 (wz_getR dX7_sell_93 cf7 t476 (kf := 39) gr_28_39 gc_28 (q_ild10 dX7_sell_96 ?_))
    obtain ⟨hi2, hS⟩ := hS
    refine wz_zald dX7_sell_98 ga_58 gc_58 hi2 rfl ?_
    refine wz_if_eq (tgt := 168) dX7_sell_99 rfl (fun c3 => ?_) (fun c3 => ?_)
    · replace hS := hS.1 c3
      refine q_inc10 (v := (x10 + 1)) dX7_sell_168 rfl (ltX7_sell_10) rfl (wz_goto (tgt := 85) dX7_sell_171 rfl ?_)
      exact hS
    · replace hS := hS.2 c3
      refine q_ald0 dX7_sell_102 (wz_getR dX7_sell_103 cf7 t477 (kf := 40) gr_28_40 gc_28 (q_ild10 dX7_sell_106 (wz_iald dX7_sell_108 ga_59 gc_59 hi2 rfl (q_ild5 dX7_sell_109 ?_))))
      refine wz_icmp_eq (tgt := 117) dX7_sell_111 rfl (fun c4 => ?_) (fun c4 => ?_)
      · replace hS := hS.1 c4
        refine q_ald0 dX7_sell_117 (wz_getR dX7_sell_118 cf7 t475 (kf := 42) gr_28_42 gc_28 (q_ild10 dX7_sell_121 (q_lld3 dX7_sell_123 (q_lld6 dX7_sell_124 (wz_lcmp dX7_sell_126 ?_)))))
        refine wz_if_lt (tgt := 140) dX7_sell_127 rfl (fun c5 => ?_) (fun c5 => ?_)
        · replace hS := hS.1 c5
          refine q_lld3 dX7_sell_140 (q_ald0 dX7_sell_141 (wz_getR dX7_sell_142 cf7 t478 (kf := 41) gr_28_41 gc_28 (q_ild10 dX7_sell_145 (wz_iald dX7_sell_147 ga_60 gc_60 hi2 rfl (wz_i2l dX7_sell_148 (wz_lmul dX7_sell_149 (q_lld6 dX7_sell_150 ?_)))))))
          refine wz_pc (pc2 := 152) rfl ?_
          obtain ⟨hz6, hS⟩ := hS
          refine wz_ldiv dX7_sell_152 hz6 (wz_l2i dX7_sell_153 (wz_iast dX7_sell_154 ga_61 gc_61 hi2 rfl (q_lld8 dX7_sell_155 (q_ald0 dX7_sell_157 (wz_getR dX7_sell_158 cf7 t475 (kf := 42) gr_28_42 gc_28 (q_ild10 dX7_sell_161 (wz_iald (v := (((x3 * ((h 60 0 (x10.toNatClampNeg) : Int32).toInt64)) / x6 : Int64).toInt32)) dX7_sell_163 ga_61 gc_61 hi2 (by first | rfl | simp [up]) ?_)))))))
          refine wz_pc (pc2 := 164) rfl ?_
          refine wz_i2l dX7_sell_164 (wz_ladd dX7_sell_165 (wz_lstore (ls2 := [some (rf 28 0), none, none, some (.long x3), none, some (.int x5), some (.long x6), none, some (.long (x8 + ((((x3 * ((h 60 0 (x10.toNatClampNeg) : Int32).toInt64)) / x6 : Int64).toInt32 : Int32).toInt64))), none, some (.int x10)]) dX7_sell_166 (by decide) rfl rfl (q_inc10 (v := (x10 + 1)) dX7_sell_168 rfl (ltX7_sell_10) rfl (wz_goto (tgt := 85) dX7_sell_171 rfl ?_))))
          exact hS
        · replace hS := hS.2 c5
          refine q_ald0 dX7_sell_130 (wz_getR dX7_sell_131 cf7 t478 (kf := 41) gr_28_41 gc_28 (q_ild10 dX7_sell_134 (wz_iald dX7_sell_136 ga_60 gc_60 hi2 rfl (wz_goto (tgt := 154) dX7_sell_137 rfl (wz_iast dX7_sell_154 ga_61 gc_61 hi2 rfl (q_lld8 dX7_sell_155 (q_ald0 dX7_sell_157 ?_)))))))
          refine wz_pc (pc2 := 158) rfl ?_
          refine wz_getR dX7_sell_158 cf7 t475 (kf := 42) gr_28_42 gc_28 (q_ild10 dX7_sell_161 (wz_iald (v := (h 60 0 (x10.toNatClampNeg))) dX7_sell_163 ga_61 gc_61 hi2 (by first | rfl | simp [up]) (wz_i2l dX7_sell_164 (wz_ladd dX7_sell_165 (wz_lstore (ls2 := [some (rf 28 0), none, none, some (.long x3), none, some (.int x5), some (.long x6), none, some (.long (x8 + ((h 60 0 (x10.toNatClampNeg) : Int32).toInt64))), none, some (.int x10)]) dX7_sell_166 (by decide) rfl rfl (q_inc10 (v := (x10 + 1)) dX7_sell_168 rfl (ltX7_sell_10) rfl (wz_goto (tgt := 85) dX7_sell_171 rfl ?_)))))))
          exact hS
      · replace hS := hS.2 c4
        refine wz_goto (tgt := 168) dX7_sell_114 rfl (q_inc10 (v := (x10 + 1)) dX7_sell_168 rfl (ltX7_sell_10) rfl (wz_goto (tgt := 85) dX7_sell_171 rfl ?_))
        exact hS
def SX7_sell_177 (E : EN) (x3 : Int64) (x5 : Int32) (x6 : Int64) (x8 : Int64) (x10 : Int32) (h : TH) (Q : TH → Prop) : Prop := ((22 ≤ x10 → wi E MX7_nextRank (fun r3 h2 => wv E MX7_sell Q 15 [some (rf 28 0), none, none, some (.long (x3 - x8)), none, some (.int r3), none, none, none, none, none] [] h2) 0 [some (rf 28 0), some (.int (x5 + 1)), none, none] [] h) ∧ (¬ 22 ≤ x10 → ((0 ≤ (lg_cmp x3 x6) → wi E MX7_nextRank (fun r6 h5 => wv E MX7_sell Q 15 [some (rf 28 0), none, none, some (.long (x3 - x8)), none, some (.int r6), none, none, none, none, none] [] h5) 0 [some (rf 28 0), some (.int (x5 + 1)), none, none] [] h) ∧ (¬ 0 ≤ (lg_cmp x3 x6) → vp_in x10 22 ∧ (((h 58 0 (x10.toNatClampNeg)) = 0 → wv E MX7_sell Q 177 [some (rf 28 0), none, none, some (.long x3), none, some (.int x5), some (.long x6), none, some (.long x8), none, some (.int (x10 + 1))] [] h) ∧ (¬ (h 58 0 (x10.toNatClampNeg)) = 0 → ((¬ (h 59 0 (x10.toNatClampNeg)) = x5 → wv E MX7_sell Q 177 [some (rf 28 0), none, none, some (.long x3), none, some (.int x5), some (.long x6), none, some (.long x8), none, some (.int (x10 + 1))] [] h) ∧ ((h 59 0 (x10.toNatClampNeg)) = x5 → ((¬ (lg_cmp x8 x3) = 0 → wv E MX7_sell Q 177 [some (rf 28 0), none, none, some (.long x3), none, some (.int x5), some (.long x6), none, some (.long (x8 + 1)), none, some (.int (x10 + 1))] [] (up h 61 0 (x10.toNatClampNeg) ((h 61 0 (x10.toNatClampNeg)) + 1))) ∧ ((lg_cmp x8 x3) = 0 → wv E MX7_sell Q 177 [some (rf 28 0), none, none, some (.long x3), none, some (.int x5), some (.long x6), none, some (.long x8), none, some (.int (x10 + 1))] [] h))))))))))
set_option maxRecDepth 20000 in
theorem sX7_sell_177 {E : EN} {x3 : Int64} {x5 : Int32} {x6 : Int64} {x8 : Int64} {x10 : Int32} {h : TH} {Q : TH → Prop}  (hS : SX7_sell_177 E x3 x5 x6 x8 x10 h Q) : wv E MX7_sell Q 177 [some (rf 28 0), none, none, some (.long x3), none, some (.int x5), some (.long x6), none, some (.long x8), none, some (.int x10)] [] h := by
  refine q_ild10 dX7_sell_177 (wz_bipush dX7_sell_179 kbipush_22 ?_)
  refine wz_icmp_ge (tgt := 246) dX7_sell_181 rfl (fun c1 => ?_) (fun c1 => ?_)
  · replace hS := hS.1 c1
    refine q_lld3 dX7_sell_246 (q_lld8 dX7_sell_247 (wz_lsub dX7_sell_249 (wz_lstore_n (ls2 := [some (rf 28 0), none, none, some (.long (x3 - x8)), none, some (.int x5), some (.long x6), none, some (.long x8), none, some (.int x10)]) dX7_sell_250 (by decide) rfl rfl (q_ald0 dX7_sell_251 (q_ild5 dX7_sell_252 (wz_iconst dX7_sell_254 kiconst_1 (wz_iadd dX7_sell_255 ?_)))))))
    refine wz_pc (pc2 := 256) rfl ?_
    refine wz_virtI (M := MX7_sell) (pc := 256) (M' := MX7_nextRank) (n := 1) (As := [.int (x5 + 1)]) (st := []) dX7_sell_256 cf7 rfl go_28 gc_28 rfl cat_i okX7_sell_X7_nextRank cwX7_218 (Nat.le_of_ble_eq_true rfl) ⟨Nat.zero_le _, Nat.zero_le _⟩ rfl (ls0 := [some (rf 28 0), some (.int (x5 + 1)), none, none]) rfl hS (fun r3 h2 hS => ?_)
    refine q_ist5 dX7_sell_259 (ltX7_sell_5) rfl (wz_goto (tgt := 15) dX7_sell_261 rfl ?_)
    exact wz_mask [true, true, true, true, true, true, false, true, false, true, false] rfl hS
  · replace hS := hS.2 c1
    refine q_lld3 dX7_sell_184 (q_lld6 dX7_sell_185 (wz_lcmp dX7_sell_187 ?_))
    refine wz_if_ge (tgt := 246) dX7_sell_188 rfl (fun c4 => ?_) (fun c4 => ?_)
    · replace hS := hS.1 c4
      refine q_lld3 dX7_sell_246 (q_lld8 dX7_sell_247 (wz_lsub dX7_sell_249 (wz_lstore_n (ls2 := [some (rf 28 0), none, none, some (.long (x3 - x8)), none, some (.int x5), some (.long x6), none, some (.long x8), none, some (.int x10)]) dX7_sell_250 (by decide) rfl rfl (q_ald0 dX7_sell_251 (q_ild5 dX7_sell_252 (wz_iconst dX7_sell_254 kiconst_1 (wz_iadd dX7_sell_255 ?_)))))))
      refine wz_pc (pc2 := 256) rfl ?_
      refine wz_virtI (M := MX7_sell) (pc := 256) (M' := MX7_nextRank) (n := 1) (As := [.int (x5 + 1)]) (st := []) dX7_sell_256 cf7 rfl go_28 gc_28 rfl cat_i okX7_sell_X7_nextRank cwX7_218 (Nat.le_of_ble_eq_true rfl) ⟨Nat.zero_le _, Nat.zero_le _⟩ rfl (ls0 := [some (rf 28 0), some (.int (x5 + 1)), none, none]) rfl hS (fun r6 h5 hS => ?_)
      refine q_ist5 dX7_sell_259 (ltX7_sell_5) rfl (wz_goto (tgt := 15) dX7_sell_261 rfl ?_)
      exact wz_mask [true, true, true, true, true, true, false, true, false, true, false] rfl hS
    · replace hS := hS.2 c4
      refine q_ald0 dX7_sell_191 (wz_getR dX7_sell_192 cf7 t476 (kf := 39) gr_28_39 gc_28 (q_ild10 dX7_sell_195 ?_))
      obtain ⟨hi7, hS⟩ := hS
      refine wz_zald dX7_sell_197 ga_58 gc_58 hi7 rfl ?_
      refine wz_if_eq (tgt := 240) dX7_sell_198 rfl (fun c8 => ?_) (fun c8 => ?_)
      · replace hS := hS.1 c8
        refine q_inc10 (v := (x10 + 1)) dX7_sell_240 rfl (ltX7_sell_10) rfl (wz_goto (tgt := 177) dX7_sell_243 rfl ?_)
        exact hS
      · replace hS := hS.2 c8
        refine q_ald0 dX7_sell_201 (wz_getR dX7_sell_202 cf7 t477 (kf := 40) gr_28_40 gc_28 (q_ild10 dX7_sell_205 (wz_iald dX7_sell_207 ga_59 gc_59 hi7 rfl (q_ild5 dX7_sell_208 ?_))))
        refine wz_icmp_ne (tgt := 240) dX7_sell_210 rfl (fun c9 => ?_) (fun c9 => ?_)
        · replace hS := hS.1 c9
          refine q_inc10 (v := (x10 + 1)) dX7_sell_240 rfl (ltX7_sell_10) rfl (wz_goto (tgt := 177) dX7_sell_243 rfl ?_)
          exact hS
        · replace hS := hS.2 c9
          refine q_lld8 dX7_sell_213 (q_lld3 dX7_sell_215 (wz_lcmp dX7_sell_216 ?_))
          refine wz_if_ne (tgt := 223) dX7_sell_217 rfl (fun c10 => ?_) (fun c10 => ?_)
          · replace hS := hS.1 c10
            refine q_ald0 dX7_sell_223 (wz_getR dX7_sell_224 cf7 t475 (kf := 42) gr_28_42 gc_28 (q_ild10 dX7_sell_227 (wz_dup2 dX7_sell_229 rfl rfl (wz_iald dX7_sell_230 ga_61 gc_61 hi7 rfl (wz_iconst dX7_sell_231 kiconst_1 (wz_iadd dX7_sell_232 (wz_iast dX7_sell_233 ga_61 gc_61 hi7 rfl ?_)))))))
            refine wz_pc (pc2 := 234) rfl ?_
            refine q_lld8 dX7_sell_234 (wz_lconst (v := 1) dX7_sell_236 (by decide) (wz_ladd dX7_sell_237 (wz_lstore (ls2 := [some (rf 28 0), none, none, some (.long x3), none, some (.int x5), some (.long x6), none, some (.long (x8 + 1)), none, some (.int x10)]) dX7_sell_238 (by decide) rfl rfl (q_inc10 (v := (x10 + 1)) dX7_sell_240 rfl (ltX7_sell_10) rfl (wz_goto (tgt := 177) dX7_sell_243 rfl ?_)))))
            exact hS
          · replace hS := hS.2 c10
            refine wz_goto (tgt := 240) dX7_sell_220 rfl (q_inc10 (v := (x10 + 1)) dX7_sell_240 rfl (ltX7_sell_10) rfl (wz_goto (tgt := 177) dX7_sell_243 rfl ?_))
            exact hS
def SX7_sale (E : EN) (a1 : Int32) (a2 : Int32) (a3 : Int32) (a4 : Int32) (h : TH) (Q : Int32 → TH → Prop) : Prop := SX7_isIn E a1 0 10000000 h (fun r2 h1 => ((r2 = 0 → SX7_finds E (-1000000001) h1 (fun r5 h4 => Q r5 h4)) ∧ (¬ r2 = 0 → SX7_isIn E a2 0 1 h1 (fun r7 h6 => ((r7 = 0 → SX7_finds E (-1000000001) h6 (fun r10 h9 => Q r10 h9)) ∧ (¬ r7 = 0 → SX7_isIn E a3 0 2 h6 (fun r12 h11 => ((r12 = 0 → SX7_finds E (-1000000001) h11 (fun r15 h14 => Q r15 h14)) ∧ (¬ r12 = 0 → ((¬ a3 = 0 → ((¬ a3 = 1 → SX7_isIn E a4 0 0 h11 (fun r19 h18 => ((¬ r19 = 0 → wv E MX7_sell (fun h21 => ((¬ a3 = 0 → ((¬ a3 = 1 → Q (h21 28 0 43) h21) ∧ (a3 = 1 → vp_in (6 + a4) 22 ∧ Q (h21 61 0 ((6 + a4).toNatClampNeg)) h21))) ∧ (a3 = 0 → vp_in a4 22 ∧ Q (h21 61 0 (a4.toNatClampNeg)) h21))) 0 [some (rf 28 0), some (.int a1), some (.int a2), none, none, none, none, none, none, none, none] [] h18) ∧ (r19 = 0 → SX7_finds E (-1000000001) h18 (fun r28 h27 => Q r28 h27))))) ∧ (a3 = 1 → SX7_isIn E a4 0 ((h11 28 0 2) - 1) h11 (fun r30 h29 => ((¬ r30 = 0 → wv E MX7_sell (fun h32 => ((¬ a3 = 0 → ((¬ a3 = 1 → Q (h32 28 0 43) h32) ∧ (a3 = 1 → vp_in (6 + a4) 22 ∧ Q (h32 61 0 ((6 + a4).toNatClampNeg)) h32))) ∧ (a3 = 0 → vp_in a4 22 ∧ Q (h32 61 0 (a4.toNatClampNeg)) h32))) 0 [some (rf 28 0), some (.int a1), some (.int a2), none, none, none, none, none, none, none, none] [] h29) ∧ (r30 = 0 → SX7_finds E (-1000000001) h29 (fun r39 h38 => Q r39 h38))))))) ∧ (a3 = 0 → SX7_isIn E a4 0 ((h11 28 0 3) - 1) h11 (fun r41 h40 => ((¬ r41 = 0 → wv E MX7_sell (fun h43 => ((¬ a3 = 0 → ((¬ a3 = 1 → Q (h43 28 0 43) h43) ∧ (a3 = 1 → vp_in (6 + a4) 22 ∧ Q (h43 61 0 ((6 + a4).toNatClampNeg)) h43))) ∧ (a3 = 0 → vp_in a4 22 ∧ Q (h43 61 0 (a4.toNatClampNeg)) h43))) 0 [some (rf 28 0), some (.int a1), some (.int a2), none, none, none, none, none, none, none, none] [] h40) ∧ (r41 = 0 → SX7_finds E (-1000000001) h40 (fun r50 h49 => Q r50 h49)))))))))))))))
set_option maxRecDepth 20000 in
theorem sX7_sale {E : EN} {a1 : Int32} {a2 : Int32} {a3 : Int32} {a4 : Int32} {h : TH} {Q : Int32 → TH → Prop}  (hS : SX7_sale E a1 a2 a3 a4 h Q) : wi E MX7_sale Q 0 [some (rf 28 0), some (.int a1), some (.int a2), some (.int a3), some (.int a4)] [] h := by
  refine q_ild1 dX7_sale_0 (wz_iconst dX7_sale_1 kiconst_0 (wz_ldc dX7_sale_2 t488 ?_))
  refine wz_statI (M := MX7_sale) (pc := 4) (M' := MX7_isIn) (n := 3) (As := [.int a1, .int 0, .int 10000000]) (st := []) dX7_sale_4 rfl cat_iii okX7_sale_X7_isIn cwX7_121 (Nat.le_of_ble_eq_true rfl) ⟨Nat.zero_le _, Nat.zero_le _⟩ rfl (ls0 := [some (.int a1), some (.int 0), some (.int 10000000)]) rfl (sX7_isIn  hS) (fun r2 h1 hS => ?_)
  refine wz_if_eq (tgt := 65) dX7_sale_7 rfl (fun c3 => ?_) (fun c3 => ?_)
  · replace hS := hS.1 c3
    refine q_ald0 dX7_sale_65 (wz_ldc dX7_sale_66 t370 ?_)
    refine wz_virtI (M := MX7_sale) (pc := 68) (M' := MX7_finds) (n := 1) (As := [.int (-1000000001)]) (st := []) dX7_sale_68 cf7 rfl go_28 gc_28 rfl cat_i okX7_sale_X7_finds cwX7_132 (Nat.le_of_ble_eq_true rfl) ⟨Nat.zero_le _, Nat.zero_le _⟩ rfl (ls0 := [some (rf 28 0), some (.int (-1000000001))]) rfl (sX7_finds  hS) (fun r5 h4 hS => ?_)
    exact wi_ret dX7_sale_71 rfl hS
  · replace hS := hS.2 c3
    refine q_ild2 dX7_sale_10 (wz_iconst dX7_sale_11 kiconst_0 (wz_iconst dX7_sale_12 kiconst_1 ?_))
    refine wz_statI (M := MX7_sale) (pc := 13) (M' := MX7_isIn) (n := 3) (As := [.int a2, .int 0, .int 1]) (st := []) dX7_sale_13 rfl cat_iii okX7_sale_X7_isIn cwX7_121 (Nat.le_of_ble_eq_true rfl) ⟨Nat.zero_le _, Nat.zero_le _⟩ rfl (ls0 := [some (.int a2), some (.int 0), some (.int 1)]) rfl (sX7_isIn  hS) (fun r7 h6 hS => ?_)
    refine wz_if_eq (tgt := 65) dX7_sale_16 rfl (fun c8 => ?_) (fun c8 => ?_)
    · replace hS := hS.1 c8
      refine q_ald0 dX7_sale_65 (wz_ldc dX7_sale_66 t370 ?_)
      refine wz_virtI (M := MX7_sale) (pc := 68) (M' := MX7_finds) (n := 1) (As := [.int (-1000000001)]) (st := []) dX7_sale_68 cf7 rfl go_28 gc_28 rfl cat_i okX7_sale_X7_finds cwX7_132 (Nat.le_of_ble_eq_true rfl) ⟨Nat.zero_le _, Nat.zero_le _⟩ rfl (ls0 := [some (rf 28 0), some (.int (-1000000001))]) rfl (sX7_finds  hS) (fun r10 h9 hS => ?_)
      exact wi_ret dX7_sale_71 rfl hS
    · replace hS := hS.2 c8
      refine q_ild3 dX7_sale_19 (wz_iconst dX7_sale_20 kiconst_0 (wz_iconst dX7_sale_21 kiconst_2 ?_))
      refine wz_statI (M := MX7_sale) (pc := 22) (M' := MX7_isIn) (n := 3) (As := [.int a3, .int 0, .int 2]) (st := []) dX7_sale_22 rfl cat_iii okX7_sale_X7_isIn cwX7_121 (Nat.le_of_ble_eq_true rfl) ⟨Nat.zero_le _, Nat.zero_le _⟩ rfl (ls0 := [some (.int a3), some (.int 0), some (.int 2)]) rfl (sX7_isIn  hS) (fun r12 h11 hS => ?_)
      refine wz_if_eq (tgt := 65) dX7_sale_25 rfl (fun c13 => ?_) (fun c13 => ?_)
      · replace hS := hS.1 c13
        refine q_ald0 dX7_sale_65 (wz_ldc dX7_sale_66 t370 ?_)
        refine wz_virtI (M := MX7_sale) (pc := 68) (M' := MX7_finds) (n := 1) (As := [.int (-1000000001)]) (st := []) dX7_sale_68 cf7 rfl go_28 gc_28 rfl cat_i okX7_sale_X7_finds cwX7_132 (Nat.le_of_ble_eq_true rfl) ⟨Nat.zero_le _, Nat.zero_le _⟩ rfl (ls0 := [some (rf 28 0), some (.int (-1000000001))]) rfl (sX7_finds  hS) (fun r15 h14 hS => ?_)
        exact wi_ret dX7_sale_71 rfl hS
      · replace hS := hS.2 c13
        refine q_ild4 dX7_sale_28 (wz_iconst dX7_sale_30 kiconst_0 (q_ild3 dX7_sale_31 ?_))
        refine wz_if_ne (tgt := 44) dX7_sale_32 rfl (fun c16 => ?_) (fun c16 => ?_)
        · replace hS := hS.1 c16
          refine q_ild3 dX7_sale_44 (wz_iconst dX7_sale_45 kiconst_1 ?_)
          refine wz_icmp_ne (tgt := 58) dX7_sale_46 rfl (fun c17 => ?_) (fun c17 => ?_)
          · replace hS := hS.1 c17
            refine wz_iconst dX7_sale_58 kiconst_0 ?_
            refine wz_statI (M := MX7_sale) (pc := 59) (M' := MX7_isIn) (n := 3) (As := [.int a4, .int 0, .int 0]) (st := []) dX7_sale_59 rfl cat_iii okX7_sale_X7_isIn cwX7_121 (Nat.le_of_ble_eq_true rfl) ⟨Nat.zero_le _, Nat.zero_le _⟩ rfl (ls0 := [some (.int a4), some (.int 0), some (.int 0)]) rfl (sX7_isIn  hS) (fun r19 h18 hS => ?_)
            refine wz_if_ne (tgt := 72) dX7_sale_62 rfl (fun c20 => ?_) (fun c20 => ?_)
            · replace hS := hS.1 c20
              refine q_ald0 dX7_sale_72 (q_ild1 dX7_sale_73 (q_ild2 dX7_sale_74 ?_))
              refine wz_virtV (M := MX7_sale) (pc := 75) (M' := MX7_sell) (n := 2) (As := [.int a1, .int a2]) (st := []) dX7_sale_75 cf7 rfl go_28 gc_28 rfl cat_ii okX7_sale_X7_sell cwX7_225 (Nat.le_of_ble_eq_true rfl) ⟨Nat.zero_le _, Nat.zero_le _⟩ rfl (ls0 := [some (rf 28 0), some (.int a1), some (.int a2), none, none, none, none, none, none, none, none]) rfl hS (fun h21 hS => ?_)
              refine q_ild3 dX7_sale_78 ?_
              refine wz_if_ne (tgt := 92) dX7_sale_79 rfl (fun c23 => ?_) (fun c23 => ?_)
              · replace hS := hS.1 c23
                refine q_ild3 dX7_sale_92 (wz_iconst dX7_sale_93 kiconst_1 ?_)
                refine wz_icmp_ne (tgt := 110) dX7_sale_94 rfl (fun c24 => ?_) (fun c24 => ?_)
                · replace hS := hS.1 c24
                  refine q_ald0 dX7_sale_110 (wz_getI dX7_sale_111 cf7 t487 (kf := 43) gi_28_43 gc_28 rfl ?_)
                  exact wi_ret dX7_sale_114 rfl hS
                · replace hS := hS.2 c24
                  refine q_ald0 dX7_sale_97 (wz_getR dX7_sale_98 cf7 t475 (kf := 42) gr_28_42 gc_28 (wz_bipush dX7_sale_101 kbipush_6 (q_ild4 dX7_sale_103 (wz_iadd dX7_sale_105 ?_))))
                  obtain ⟨hi25, hS⟩ := hS
                  refine wz_iald dX7_sale_106 ga_61 gc_61 hi25 rfl (wz_goto (tgt := 114) dX7_sale_107 rfl ?_)
                  exact wi_ret dX7_sale_114 rfl hS
              · replace hS := hS.2 c23
                refine q_ald0 dX7_sale_82 (wz_getR dX7_sale_83 cf7 t475 (kf := 42) gr_28_42 gc_28 (q_ild4 dX7_sale_86 ?_))
                obtain ⟨hi26, hS⟩ := hS
                refine wz_iald dX7_sale_88 ga_61 gc_61 hi26 rfl (wz_goto (tgt := 114) dX7_sale_89 rfl ?_)
                exact wi_ret dX7_sale_114 rfl hS
            · replace hS := hS.2 c20
              refine q_ald0 dX7_sale_65 (wz_ldc dX7_sale_66 t370 ?_)
              refine wz_virtI (M := MX7_sale) (pc := 68) (M' := MX7_finds) (n := 1) (As := [.int (-1000000001)]) (st := []) dX7_sale_68 cf7 rfl go_28 gc_28 rfl cat_i okX7_sale_X7_finds cwX7_132 (Nat.le_of_ble_eq_true rfl) ⟨Nat.zero_le _, Nat.zero_le _⟩ rfl (ls0 := [some (rf 28 0), some (.int (-1000000001))]) rfl (sX7_finds  hS) (fun r28 h27 hS => ?_)
              exact wi_ret dX7_sale_71 rfl hS
          · replace hS := hS.2 c17
            refine q_ald0 dX7_sale_49 (wz_getI dX7_sale_50 cf7 t363 (kf := 2) gi_28_2 gc_28 rfl (wz_iconst dX7_sale_53 kiconst_1 (wz_isub dX7_sale_54 (wz_goto (tgt := 59) dX7_sale_55 rfl ?_))))
            refine wz_statI (M := MX7_sale) (pc := 59) (M' := MX7_isIn) (n := 3) (As := [.int a4, .int 0, .int ((h11 28 0 2) - 1)]) (st := []) dX7_sale_59 rfl cat_iii okX7_sale_X7_isIn cwX7_121 (Nat.le_of_ble_eq_true rfl) ⟨Nat.zero_le _, Nat.zero_le _⟩ rfl (ls0 := [some (.int a4), some (.int 0), some (.int ((h11 28 0 2) - 1))]) rfl (sX7_isIn  hS) (fun r30 h29 hS => ?_)
            refine wz_if_ne (tgt := 72) dX7_sale_62 rfl (fun c31 => ?_) (fun c31 => ?_)
            · replace hS := hS.1 c31
              refine q_ald0 dX7_sale_72 (q_ild1 dX7_sale_73 (q_ild2 dX7_sale_74 ?_))
              refine wz_virtV (M := MX7_sale) (pc := 75) (M' := MX7_sell) (n := 2) (As := [.int a1, .int a2]) (st := []) dX7_sale_75 cf7 rfl go_28 gc_28 rfl cat_ii okX7_sale_X7_sell cwX7_225 (Nat.le_of_ble_eq_true rfl) ⟨Nat.zero_le _, Nat.zero_le _⟩ rfl (ls0 := [some (rf 28 0), some (.int a1), some (.int a2), none, none, none, none, none, none, none, none]) rfl hS (fun h32 hS => ?_)
              refine q_ild3 dX7_sale_78 ?_
              refine wz_if_ne (tgt := 92) dX7_sale_79 rfl (fun c34 => ?_) (fun c34 => ?_)
              · replace hS := hS.1 c34
                refine q_ild3 dX7_sale_92 (wz_iconst dX7_sale_93 kiconst_1 ?_)
                refine wz_icmp_ne (tgt := 110) dX7_sale_94 rfl (fun c35 => ?_) (fun c35 => ?_)
                · replace hS := hS.1 c35
                  refine q_ald0 dX7_sale_110 (wz_getI dX7_sale_111 cf7 t487 (kf := 43) gi_28_43 gc_28 rfl ?_)
                  exact wi_ret dX7_sale_114 rfl hS
                · replace hS := hS.2 c35
                  refine q_ald0 dX7_sale_97 (wz_getR dX7_sale_98 cf7 t475 (kf := 42) gr_28_42 gc_28 (wz_bipush dX7_sale_101 kbipush_6 (q_ild4 dX7_sale_103 (wz_iadd dX7_sale_105 ?_))))
                  obtain ⟨hi36, hS⟩ := hS
                  refine wz_iald dX7_sale_106 ga_61 gc_61 hi36 rfl (wz_goto (tgt := 114) dX7_sale_107 rfl ?_)
                  exact wi_ret dX7_sale_114 rfl hS
              · replace hS := hS.2 c34
                refine q_ald0 dX7_sale_82 (wz_getR dX7_sale_83 cf7 t475 (kf := 42) gr_28_42 gc_28 (q_ild4 dX7_sale_86 ?_))
                obtain ⟨hi37, hS⟩ := hS
                refine wz_iald dX7_sale_88 ga_61 gc_61 hi37 rfl (wz_goto (tgt := 114) dX7_sale_89 rfl ?_)
                exact wi_ret dX7_sale_114 rfl hS
            · replace hS := hS.2 c31
              refine q_ald0 dX7_sale_65 (wz_ldc dX7_sale_66 t370 ?_)
              refine wz_virtI (M := MX7_sale) (pc := 68) (M' := MX7_finds) (n := 1) (As := [.int (-1000000001)]) (st := []) dX7_sale_68 cf7 rfl go_28 gc_28 rfl cat_i okX7_sale_X7_finds cwX7_132 (Nat.le_of_ble_eq_true rfl) ⟨Nat.zero_le _, Nat.zero_le _⟩ rfl (ls0 := [some (rf 28 0), some (.int (-1000000001))]) rfl (sX7_finds  hS) (fun r39 h38 hS => ?_)
              exact wi_ret dX7_sale_71 rfl hS
        · replace hS := hS.2 c16
          refine q_ald0 dX7_sale_35 (wz_getI dX7_sale_36 cf7 t472 (kf := 3) gi_28_3 gc_28 rfl (wz_iconst dX7_sale_39 kiconst_1 (wz_isub dX7_sale_40 (wz_goto (tgt := 59) dX7_sale_41 rfl ?_))))
          refine wz_statI (M := MX7_sale) (pc := 59) (M' := MX7_isIn) (n := 3) (As := [.int a4, .int 0, .int ((h11 28 0 3) - 1)]) (st := []) dX7_sale_59 rfl cat_iii okX7_sale_X7_isIn cwX7_121 (Nat.le_of_ble_eq_true rfl) ⟨Nat.zero_le _, Nat.zero_le _⟩ rfl (ls0 := [some (.int a4), some (.int 0), some (.int ((h11 28 0 3) - 1))]) rfl (sX7_isIn  hS) (fun r41 h40 hS => ?_)
          refine wz_if_ne (tgt := 72) dX7_sale_62 rfl (fun c42 => ?_) (fun c42 => ?_)
          · replace hS := hS.1 c42
            refine q_ald0 dX7_sale_72 (q_ild1 dX7_sale_73 (q_ild2 dX7_sale_74 ?_))
            refine wz_virtV (M := MX7_sale) (pc := 75) (M' := MX7_sell) (n := 2) (As := [.int a1, .int a2]) (st := []) dX7_sale_75 cf7 rfl go_28 gc_28 rfl cat_ii okX7_sale_X7_sell cwX7_225 (Nat.le_of_ble_eq_true rfl) ⟨Nat.zero_le _, Nat.zero_le _⟩ rfl (ls0 := [some (rf 28 0), some (.int a1), some (.int a2), none, none, none, none, none, none, none, none]) rfl hS (fun h43 hS => ?_)
            refine q_ild3 dX7_sale_78 ?_
            refine wz_if_ne (tgt := 92) dX7_sale_79 rfl (fun c45 => ?_) (fun c45 => ?_)
            · replace hS := hS.1 c45
              refine q_ild3 dX7_sale_92 (wz_iconst dX7_sale_93 kiconst_1 ?_)
              refine wz_icmp_ne (tgt := 110) dX7_sale_94 rfl (fun c46 => ?_) (fun c46 => ?_)
              · replace hS := hS.1 c46
                refine q_ald0 dX7_sale_110 (wz_getI dX7_sale_111 cf7 t487 (kf := 43) gi_28_43 gc_28 rfl ?_)
                exact wi_ret dX7_sale_114 rfl hS
              · replace hS := hS.2 c46
                refine q_ald0 dX7_sale_97 (wz_getR dX7_sale_98 cf7 t475 (kf := 42) gr_28_42 gc_28 (wz_bipush dX7_sale_101 kbipush_6 (q_ild4 dX7_sale_103 (wz_iadd dX7_sale_105 ?_))))
                obtain ⟨hi47, hS⟩ := hS
                refine wz_iald dX7_sale_106 ga_61 gc_61 hi47 rfl (wz_goto (tgt := 114) dX7_sale_107 rfl ?_)
                exact wi_ret dX7_sale_114 rfl hS
            · replace hS := hS.2 c45
              refine q_ald0 dX7_sale_82 (wz_getR dX7_sale_83 cf7 t475 (kf := 42) gr_28_42 gc_28 (q_ild4 dX7_sale_86 ?_))
              obtain ⟨hi48, hS⟩ := hS
              refine wz_iald dX7_sale_88 ga_61 gc_61 hi48 rfl (wz_goto (tgt := 114) dX7_sale_89 rfl ?_)
              exact wi_ret dX7_sale_114 rfl hS
          · replace hS := hS.2 c42
            refine q_ald0 dX7_sale_65 (wz_ldc dX7_sale_66 t370 ?_)
            refine wz_virtI (M := MX7_sale) (pc := 68) (M' := MX7_finds) (n := 1) (As := [.int (-1000000001)]) (st := []) dX7_sale_68 cf7 rfl go_28 gc_28 rfl cat_i okX7_sale_X7_finds cwX7_132 (Nat.le_of_ble_eq_true rfl) ⟨Nat.zero_le _, Nat.zero_le _⟩ rfl (ls0 := [some (rf 28 0), some (.int (-1000000001))]) rfl (sX7_finds  hS) (fun r50 h49 hS => ?_)
            exact wi_ret dX7_sale_71 rfl hS
def SX7_isBelow_0 (E : EN) (a1 : Int32) (a2 : Int32) (h : TH) (Q : Int32 → TH → Prop) : Prop := SX7_upper E a1 h (fun r2 h1 => wi E MX7_isBelow Q 9 [some (rf 28 0), none, some (.int a2), some (.int 0), some (.int r2)] [] h1)
set_option maxRecDepth 20000 in
theorem sX7_isBelow_0 {E : EN} {a1 : Int32} {a2 : Int32} {h : TH} {Q : Int32 → TH → Prop}  (hS : SX7_isBelow_0 E a1 a2 h Q) : wi E MX7_isBelow Q 0 [some (rf 28 0), some (.int a1), some (.int a2), none, none] [] h := by
  refine wz_iconst dX7_isBelow_0 kiconst_0 (q_ist3 dX7_isBelow_1 (ltX7_isBelow_3) rfl (q_ald0 dX7_isBelow_2 (q_ild1 dX7_isBelow_3 ?_)))
  refine wz_virtI (M := MX7_isBelow) (pc := 4) (M' := MX7_upper) (n := 1) (As := [.int a1]) (st := []) dX7_isBelow_4 cf7 rfl go_28 gc_28 rfl cat_i okX7_isBelow_X7_upper cwX7_169 (Nat.le_of_ble_eq_true rfl) ⟨Nat.zero_le _, Nat.zero_le _⟩ rfl (ls0 := [some (rf 28 0), some (.int a1)]) rfl (sX7_upper  hS) (fun r2 h1 hS => ?_)
  refine q_ist4 dX7_isBelow_7 (ltX7_isBelow_4) rfl ?_
  exact wz_mask [true, false, true, true, true] rfl hS
def SX7_isBelow_9 (E : EN) (x2 : Int32) (x3 : Int32) (x4 : Int32) (h : TH) (Q : Int32 → TH → Prop) : Prop := ((x4 = (-1) → (isB x3 ∧ Q x3 h)) ∧ (¬ x4 = (-1) → ((¬ x3 = 0 → SX7_upper E x4 h (fun r4 h3 => wi E MX7_isBelow Q 9 [some (rf 28 0), none, some (.int x2), some (.int 1), some (.int r4)] [] h3)) ∧ (x3 = 0 → ((¬ x4 = x2 → SX7_upper E x4 h (fun r7 h6 => wi E MX7_isBelow Q 9 [some (rf 28 0), none, some (.int x2), some (.int 0), some (.int r7)] [] h6)) ∧ (x4 = x2 → SX7_upper E x4 h (fun r9 h8 => wi E MX7_isBelow Q 9 [some (rf 28 0), none, some (.int x2), some (.int 1), some (.int r9)] [] h8)))))))
set_option maxRecDepth 20000 in
theorem sX7_isBelow_9 {E : EN} {x2 : Int32} {x3 : Int32} {x4 : Int32} {h : TH} {Q : Int32 → TH → Prop}  (hS : SX7_isBelow_9 E x2 x3 x4 h Q) : wi E MX7_isBelow Q 9 [some (rf 28 0), none, some (.int x2), some (.int x3), some (.int x4)] [] h := by
  refine q_ild4 dX7_isBelow_9 (wz_iconst dX7_isBelow_11 kiconst_m1 ?_)
  refine wz_icmp_eq (tgt := 42) dX7_isBelow_12 rfl (fun c1 => ?_) (fun c1 => ?_)
  · replace hS := hS.1 c1
    refine q_ild3 dX7_isBelow_42 ?_
    exact wi_zret dX7_isBelow_43 rfl (isB_nar hS.1) hS.2
  · replace hS := hS.2 c1
    refine q_ild3 dX7_isBelow_15 ?_
    refine wz_if_ne (tgt := 25) dX7_isBelow_16 rfl (fun c2 => ?_) (fun c2 => ?_)
    · replace hS := hS.1 c2
      refine wz_iconst dX7_isBelow_25 kiconst_1 (wz_goto (tgt := 30) dX7_isBelow_26 rfl (q_ist3 dX7_isBelow_30 (ltX7_isBelow_3) rfl (q_ald0 dX7_isBelow_31 (q_ild4 dX7_isBelow_32 ?_))))
      refine wz_virtI (M := MX7_isBelow) (pc := 34) (M' := MX7_upper) (n := 1) (As := [.int x4]) (st := []) dX7_isBelow_34 cf7 rfl go_28 gc_28 rfl cat_i okX7_isBelow_X7_upper cwX7_169 (Nat.le_of_ble_eq_true rfl) ⟨Nat.zero_le _, Nat.zero_le _⟩ rfl (ls0 := [some (rf 28 0), some (.int x4)]) rfl (sX7_upper  hS) (fun r4 h3 hS => ?_)
      refine q_ist4 dX7_isBelow_37 (ltX7_isBelow_4) rfl (wz_goto (tgt := 9) dX7_isBelow_39 rfl ?_)
      exact hS
    · replace hS := hS.2 c2
      refine q_ild4 dX7_isBelow_19 (q_ild2 dX7_isBelow_21 ?_)
      refine wz_icmp_ne (tgt := 29) dX7_isBelow_22 rfl (fun c5 => ?_) (fun c5 => ?_)
      · replace hS := hS.1 c5
        refine wz_iconst dX7_isBelow_29 kiconst_0 (q_ist3 dX7_isBelow_30 (ltX7_isBelow_3) rfl (q_ald0 dX7_isBelow_31 (q_ild4 dX7_isBelow_32 ?_)))
        refine wz_virtI (M := MX7_isBelow) (pc := 34) (M' := MX7_upper) (n := 1) (As := [.int x4]) (st := []) dX7_isBelow_34 cf7 rfl go_28 gc_28 rfl cat_i okX7_isBelow_X7_upper cwX7_169 (Nat.le_of_ble_eq_true rfl) ⟨Nat.zero_le _, Nat.zero_le _⟩ rfl (ls0 := [some (rf 28 0), some (.int x4)]) rfl (sX7_upper  hS) (fun r7 h6 hS => ?_)
        refine q_ist4 dX7_isBelow_37 (ltX7_isBelow_4) rfl (wz_goto (tgt := 9) dX7_isBelow_39 rfl ?_)
        exact hS
      · replace hS := hS.2 c5
        refine wz_iconst dX7_isBelow_25 kiconst_1 (wz_goto (tgt := 30) dX7_isBelow_26 rfl (q_ist3 dX7_isBelow_30 (ltX7_isBelow_3) rfl (q_ald0 dX7_isBelow_31 (q_ild4 dX7_isBelow_32 ?_))))
        refine wz_virtI (M := MX7_isBelow) (pc := 34) (M' := MX7_upper) (n := 1) (As := [.int x4]) (st := []) dX7_isBelow_34 cf7 rfl go_28 gc_28 rfl cat_i okX7_isBelow_X7_upper cwX7_169 (Nat.le_of_ble_eq_true rfl) ⟨Nat.zero_le _, Nat.zero_le _⟩ rfl (ls0 := [some (rf 28 0), some (.int x4)]) rfl (sX7_upper  hS) (fun r9 h8 hS => ?_)
        refine q_ist4 dX7_isBelow_37 (ltX7_isBelow_4) rfl (wz_goto (tgt := 9) dX7_isBelow_39 rfl ?_)
        exact hS
def SX7_twice_0 (E : EN) (a1 : Int32) (h : TH) (Q : Int32 → TH → Prop) : Prop := SX7_isContract E a1 h (fun r2 h1 => ((¬ r2 = 0 → wi E MX7_degree (fun r5 h4 => ((r5 = 1 → wi E MX7_twice Q 35 [some (rf 28 0), some (.int a1), some (.int 0), some (.int 0)] [] h4) ∧ (¬ r5 = 1 → SX7_finds E (-1000000003) h4 (fun r8 h7 => Q r8 h7)))) 0 [some (rf 28 0), some (.int a1), none, none] [] h1) ∧ (r2 = 0 → SX7_finds E (-1000000001) h1 (fun r10 h9 => Q r10 h9))))
set_option maxRecDepth 20000 in
theorem sX7_twice_0 {E : EN} {a1 : Int32} {h : TH} {Q : Int32 → TH → Prop}  (hS : SX7_twice_0 E a1 h Q) : wi E MX7_twice Q 0 [some (rf 28 0), some (.int a1), none, none] [] h := by
  refine q_ald0 dX7_twice_0 (q_ild1 dX7_twice_1 ?_)
  refine wz_virtI (M := MX7_twice) (pc := 2) (M' := MX7_isContract) (n := 1) (As := [.int a1]) (st := []) dX7_twice_2 cf7 rfl go_28 gc_28 rfl cat_i okX7_twice_X7_isContract cwX7_150 (Nat.le_of_ble_eq_true rfl) ⟨Nat.zero_le _, Nat.zero_le _⟩ rfl (ls0 := [some (rf 28 0), some (.int a1)]) rfl (sX7_isContract  hS) (fun r2 h1 hS => ?_)
  refine wz_if_ne (tgt := 15) dX7_twice_5 rfl (fun c3 => ?_) (fun c3 => ?_)
  · replace hS := hS.1 c3
    refine q_ald0 dX7_twice_15 (q_ild1 dX7_twice_16 ?_)
    refine wz_virtI (M := MX7_twice) (pc := 17) (M' := MX7_degree) (n := 1) (As := [.int a1]) (st := []) dX7_twice_17 cf7 rfl go_28 gc_28 rfl cat_i okX7_twice_X7_degree cwX7_175 (Nat.le_of_ble_eq_true rfl) ⟨Nat.zero_le _, Nat.zero_le _⟩ rfl (ls0 := [some (rf 28 0), some (.int a1), none, none]) rfl hS (fun r5 h4 hS => ?_)
    refine wz_iconst dX7_twice_20 kiconst_1 ?_
    refine wz_icmp_eq (tgt := 31) dX7_twice_21 rfl (fun c6 => ?_) (fun c6 => ?_)
    · replace hS := hS.1 c6
      refine wz_iconst dX7_twice_31 kiconst_0 (q_ist2 dX7_twice_32 (ltX7_twice_2) rfl (wz_iconst dX7_twice_33 kiconst_0 (q_ist3 dX7_twice_34 (ltX7_twice_3) rfl ?_)))
      exact hS
    · replace hS := hS.2 c6
      refine q_ald0 dX7_twice_24 (wz_ldc dX7_twice_25 t382 ?_)
      refine wz_virtI (M := MX7_twice) (pc := 27) (M' := MX7_finds) (n := 1) (As := [.int (-1000000003)]) (st := []) dX7_twice_27 cf7 rfl go_28 gc_28 rfl cat_i okX7_twice_X7_finds cwX7_132 (Nat.le_of_ble_eq_true rfl) ⟨Nat.zero_le _, Nat.zero_le _⟩ rfl (ls0 := [some (rf 28 0), some (.int (-1000000003))]) rfl (sX7_finds  hS) (fun r8 h7 hS => ?_)
      exact wi_ret dX7_twice_30 rfl hS
  · replace hS := hS.2 c3
    refine q_ald0 dX7_twice_8 (wz_ldc dX7_twice_9 t370 ?_)
    refine wz_virtI (M := MX7_twice) (pc := 11) (M' := MX7_finds) (n := 1) (As := [.int (-1000000001)]) (st := []) dX7_twice_11 cf7 rfl go_28 gc_28 rfl cat_i okX7_twice_X7_finds cwX7_132 (Nat.le_of_ble_eq_true rfl) ⟨Nat.zero_le _, Nat.zero_le _⟩ rfl (ls0 := [some (rf 28 0), some (.int (-1000000001))]) rfl (sX7_finds  hS) (fun r10 h9 hS => ?_)
    exact wi_ret dX7_twice_14 rfl hS
def SX7_twice_35 (E : EN) (x1 : Int32) (x2 : Int32) (x3 : Int32) (h : TH) (Q : Int32 → TH → Prop) : Prop := (((h 28 0 2) ≤ x3 → SX7_owing E x1 h (fun r3 h2 => ((x2 ≤ r3 → Q 0 h2) ∧ (¬ x2 ≤ r3 → SX7_owing E x1 h2 (fun r6 h5 => Q (x2 - r6) h5))))) ∧ (¬ (h 28 0 2) ≤ x3 → vp_in x3 16 ∧ wi E MX7_isBelow (fun r9 h8 => ((r9 = 0 → wi E MX7_twice Q 35 [some (rf 28 0), some (.int x1), some (.int (x2 + 0)), some (.int (x3 + 1))] [] h8) ∧ (¬ r9 = 0 → wi E MX7_worthOf (fun r12 h11 => wi E MX7_twice Q 35 [some (rf 28 0), some (.int x1), some (.int (x2 + r12)), some (.int (x3 + 1))] [] h11) 0 [some (rf 28 0), some (.int x3), some (.int (h8 28 0 8)), none, none, none, none, none] [] h8))) 0 [some (rf 28 0), some (.int (h 43 0 (x3.toNatClampNeg))), some (.int x1), none, none] [] h))
set_option maxRecDepth 20000 in
theorem sX7_twice_35 {E : EN} {x1 : Int32} {x2 : Int32} {x3 : Int32} {h : TH} {Q : Int32 → TH → Prop}  (hS : SX7_twice_35 E x1 x2 x3 h Q) : wi E MX7_twice Q 35 [some (rf 28 0), some (.int x1), some (.int x2), some (.int x3)] [] h := by
  refine q_ild3 dX7_twice_35 (q_ald0 dX7_twice_36 (wz_getI dX7_twice_37 cf7 t363 (kf := 2) gi_28_2 gc_28 rfl ?_))
  refine wz_icmp_ge (tgt := 79) dX7_twice_40 rfl (fun c1 => ?_) (fun c1 => ?_)
  · replace hS := hS.1 c1
    refine q_ild2 dX7_twice_79 (q_ald0 dX7_twice_80 (q_ild1 dX7_twice_81 ?_))
    refine wz_virtI (M := MX7_twice) (pc := 82) (M' := MX7_owing) (n := 1) (As := [.int x1]) (st := [.int x2]) dX7_twice_82 cf7 rfl go_28 gc_28 rfl cat_i okX7_twice_X7_owing cwX7_160 (Nat.le_of_ble_eq_true rfl) ⟨Nat.zero_le _, Nat.zero_le _⟩ rfl (ls0 := [some (rf 28 0), some (.int x1)]) rfl (sX7_owing  hS) (fun r3 h2 hS => ?_)
    refine wz_icmp_le (tgt := 98) dX7_twice_85 rfl (fun c4 => ?_) (fun c4 => ?_)
    · replace hS := hS.1 c4
      refine wz_iconst dX7_twice_98 kiconst_0 ?_
      exact wi_ret dX7_twice_99 rfl hS
    · replace hS := hS.2 c4
      refine q_ild2 dX7_twice_88 (q_ald0 dX7_twice_89 (q_ild1 dX7_twice_90 ?_))
      refine wz_virtI (M := MX7_twice) (pc := 91) (M' := MX7_owing) (n := 1) (As := [.int x1]) (st := [.int x2]) dX7_twice_91 cf7 rfl go_28 gc_28 rfl cat_i okX7_twice_X7_owing cwX7_160 (Nat.le_of_ble_eq_true rfl) ⟨Nat.zero_le _, Nat.zero_le _⟩ rfl (ls0 := [some (rf 28 0), some (.int x1)]) rfl (sX7_owing  hS) (fun r6 h5 hS => ?_)
      refine wz_isub dX7_twice_94 (wz_goto (tgt := 99) dX7_twice_95 rfl ?_)
      exact wi_ret dX7_twice_99 rfl hS
  · replace hS := hS.2 c1
    refine q_ild2 dX7_twice_43 (q_ald0 dX7_twice_44 (q_ald0 dX7_twice_45 (wz_getR dX7_twice_46 cf7 t432 (kf := 24) gr_28_24 gc_28 (q_ild3 dX7_twice_49 ?_))))
    obtain ⟨hi7, hS⟩ := hS
    refine wz_iald dX7_twice_50 ga_43 gc_43 hi7 rfl (q_ild1 dX7_twice_51 ?_)
    refine wz_virtI (M := MX7_twice) (pc := 52) (M' := MX7_isBelow) (n := 2) (As := [.int (h 43 0 (x3.toNatClampNeg)), .int x1]) (st := [.int x2]) dX7_twice_52 cf7 rfl go_28 gc_28 rfl cat_ii okX7_twice_X7_isBelow cwX7_229 (Nat.le_of_ble_eq_true rfl) ⟨Nat.zero_le _, Nat.zero_le _⟩ rfl (ls0 := [some (rf 28 0), some (.int (h 43 0 (x3.toNatClampNeg))), some (.int x1), none, none]) rfl hS (fun r9 h8 hS => ?_)
    refine wz_if_eq (tgt := 70) dX7_twice_55 rfl (fun c10 => ?_) (fun c10 => ?_)
    · replace hS := hS.1 c10
      refine wz_iconst dX7_twice_70 kiconst_0 (wz_iadd dX7_twice_71 (q_ist2 dX7_twice_72 (ltX7_twice_2) rfl (q_inc3 (v := (x3 + 1)) dX7_twice_73 rfl (ltX7_twice_3) rfl (wz_goto (tgt := 35) dX7_twice_76 rfl ?_))))
      exact hS
    · replace hS := hS.2 c10
      refine q_ald0 dX7_twice_58 (q_ild3 dX7_twice_59 (q_ald0 dX7_twice_60 (wz_getI dX7_twice_61 cf7 t399 (kf := 8) gi_28_8 gc_28 rfl ?_)))
      refine wz_virtI (M := MX7_twice) (pc := 64) (M' := MX7_worthOf) (n := 2) (As := [.int x3, .int (h8 28 0 8)]) (st := [.int x2]) dX7_twice_64 cf7 rfl go_28 gc_28 rfl cat_ii okX7_twice_X7_worthOf cwX7_205 (Nat.le_of_ble_eq_true rfl) ⟨Nat.zero_le _, Nat.zero_le _⟩ rfl (ls0 := [some (rf 28 0), some (.int x3), some (.int (h8 28 0 8)), none, none, none, none, none]) rfl hS (fun r12 h11 hS => ?_)
      refine wz_goto (tgt := 71) dX7_twice_67 rfl (wz_iadd dX7_twice_71 (q_ist2 dX7_twice_72 (ltX7_twice_2) rfl (q_inc3 (v := (x3 + 1)) dX7_twice_73 rfl (ltX7_twice_3) rfl (wz_goto (tgt := 35) dX7_twice_76 rfl ?_))))
      exact hS
def SX7_bits_0 (E : EN) (a0 : Int32) (h : TH) (Q : Int32 → TH → Prop) : Prop := wi E MX7_bits Q 4 [some (.int a0), some (.int 0), some (.int 0)] [] h
set_option maxRecDepth 20000 in
theorem sX7_bits_0 {E : EN} {a0 : Int32} {h : TH} {Q : Int32 → TH → Prop}  (hS : SX7_bits_0 E a0 h Q) : wi E MX7_bits Q 0 [some (.int a0), none, none] [] h := by
  refine wz_iconst dX7_bits_0 kiconst_0 (q_ist1 dX7_bits_1 (ltX7_bits_1) rfl (wz_iconst dX7_bits_2 kiconst_0 (q_ist2 dX7_bits_3 (ltX7_bits_2) rfl ?_)))
  exact hS
def SX7_bits_4 (E : EN) (x0 : Int32) (x1 : Int32) (x2 : Int32) (h : TH) (Q : Int32 → TH → Prop) : Prop := ((10 ≤ x2 → Q x1 h) ∧ (¬ 10 ≤ x2 → wi E MX7_bits Q 4 [some (.int x0), some (.int (x1 + ((x0 >>> (x2 &&& 31)) &&& 1))), some (.int (x2 + 1))] [] h))
set_option maxRecDepth 20000 in
theorem sX7_bits_4 {E : EN} {x0 : Int32} {x1 : Int32} {x2 : Int32} {h : TH} {Q : Int32 → TH → Prop}  (hS : SX7_bits_4 E x0 x1 x2 h Q) : wi E MX7_bits Q 4 [some (.int x0), some (.int x1), some (.int x2)] [] h := by
  refine q_ild2 dX7_bits_4 (wz_bipush dX7_bits_5 kbipush_10 ?_)
  refine wz_icmp_ge (tgt := 24) dX7_bits_7 rfl (fun c1 => ?_) (fun c1 => ?_)
  · replace hS := hS.1 c1
    refine q_ild1 dX7_bits_24 ?_
    exact wi_ret dX7_bits_25 rfl hS
  · replace hS := hS.2 c1
    refine q_ild1 dX7_bits_10 (q_ild0 dX7_bits_11 (q_ild2 dX7_bits_12 (wz_ishr dX7_bits_13 (wz_iconst dX7_bits_14 kiconst_1 (wz_iand dX7_bits_15 (wz_iadd dX7_bits_16 (q_ist1 dX7_bits_17 (ltX7_bits_1) rfl ?_)))))))
    refine wz_pc (pc2 := 18) rfl ?_
    refine q_inc2 (v := (x2 + 1)) dX7_bits_18 rfl (ltX7_bits_2) rfl (wz_goto (tgt := 4) dX7_bits_21 rfl ?_)
    exact hS
def SX7_sign_0 (E : EN) (a1 : Int32) (a2 : Int32) (a3 : Int32) (h : TH) (Q : Int32 → TH → Prop) : Prop := SX7_isContract E a1 h (fun r2 h1 => ((r2 = 0 → SX7_finds E (-1000000001) h1 (fun r5 h4 => Q r5 h4)) ∧ (¬ r2 = 0 → SX7_isIn E a2 0 1000000 h1 (fun r7 h6 => ((r7 = 0 → SX7_finds E (-1000000001) h6 (fun r10 h9 => Q r10 h9)) ∧ (¬ r7 = 0 → SX7_isIn E a3 0 1 h6 (fun r12 h11 => ((¬ r12 = 0 → wi E MX7_degree (fun r15 h14 => ((r15 = 1 → wi E MX7_sign Q 56 [some (rf 28 0), some (.int a1), some (.int a2), some (.int a3), some (.int 0), some (.int 0), none, none, none] [] h14) ∧ (¬ r15 = 1 → SX7_finds E (-1000000003) h14 (fun r18 h17 => Q r18 h17)))) 0 [some (rf 28 0), some (.int a1), none, none] [] h11) ∧ (r12 = 0 → SX7_finds E (-1000000001) h11 (fun r20 h19 => Q r20 h19))))))))))
set_option maxRecDepth 20000 in
theorem sX7_sign_0 {E : EN} {a1 : Int32} {a2 : Int32} {a3 : Int32} {h : TH} {Q : Int32 → TH → Prop}  (hS : SX7_sign_0 E a1 a2 a3 h Q) : wi E MX7_sign Q 0 [some (rf 28 0), some (.int a1), some (.int a2), some (.int a3), none, none, none, none, none] [] h := by
  refine q_ald0 dX7_sign_0 (q_ild1 dX7_sign_1 ?_)
  refine wz_virtI (M := MX7_sign) (pc := 2) (M' := MX7_isContract) (n := 1) (As := [.int a1]) (st := []) dX7_sign_2 cf7 rfl go_28 gc_28 rfl cat_i okX7_sign_X7_isContract cwX7_150 (Nat.le_of_ble_eq_true rfl) ⟨Nat.zero_le _, Nat.zero_le _⟩ rfl (ls0 := [some (rf 28 0), some (.int a1)]) rfl (sX7_isContract  hS) (fun r2 h1 hS => ?_)
  refine wz_if_eq (tgt := 27) dX7_sign_5 rfl (fun c3 => ?_) (fun c3 => ?_)
  · replace hS := hS.1 c3
    refine q_ald0 dX7_sign_27 (wz_ldc dX7_sign_28 t370 ?_)
    refine wz_virtI (M := MX7_sign) (pc := 30) (M' := MX7_finds) (n := 1) (As := [.int (-1000000001)]) (st := []) dX7_sign_30 cf7 rfl go_28 gc_28 rfl cat_i okX7_sign_X7_finds cwX7_132 (Nat.le_of_ble_eq_true rfl) ⟨Nat.zero_le _, Nat.zero_le _⟩ rfl (ls0 := [some (rf 28 0), some (.int (-1000000001))]) rfl (sX7_finds  hS) (fun r5 h4 hS => ?_)
    exact wi_ret dX7_sign_33 rfl hS
  · replace hS := hS.2 c3
    refine q_ild2 dX7_sign_8 (wz_iconst dX7_sign_9 kiconst_0 (wz_ldc dX7_sign_10 t394 ?_))
    refine wz_statI (M := MX7_sign) (pc := 12) (M' := MX7_isIn) (n := 3) (As := [.int a2, .int 0, .int 1000000]) (st := []) dX7_sign_12 rfl cat_iii okX7_sign_X7_isIn cwX7_121 (Nat.le_of_ble_eq_true rfl) ⟨Nat.zero_le _, Nat.zero_le _⟩ rfl (ls0 := [some (.int a2), some (.int 0), some (.int 1000000)]) rfl (sX7_isIn  hS) (fun r7 h6 hS => ?_)
    refine wz_if_eq (tgt := 27) dX7_sign_15 rfl (fun c8 => ?_) (fun c8 => ?_)
    · replace hS := hS.1 c8
      refine q_ald0 dX7_sign_27 (wz_ldc dX7_sign_28 t370 ?_)
      refine wz_virtI (M := MX7_sign) (pc := 30) (M' := MX7_finds) (n := 1) (As := [.int (-1000000001)]) (st := []) dX7_sign_30 cf7 rfl go_28 gc_28 rfl cat_i okX7_sign_X7_finds cwX7_132 (Nat.le_of_ble_eq_true rfl) ⟨Nat.zero_le _, Nat.zero_le _⟩ rfl (ls0 := [some (rf 28 0), some (.int (-1000000001))]) rfl (sX7_finds  hS) (fun r10 h9 hS => ?_)
      exact wi_ret dX7_sign_33 rfl hS
    · replace hS := hS.2 c8
      refine q_ild3 dX7_sign_18 (wz_iconst dX7_sign_19 kiconst_0 (wz_iconst dX7_sign_20 kiconst_1 ?_))
      refine wz_statI (M := MX7_sign) (pc := 21) (M' := MX7_isIn) (n := 3) (As := [.int a3, .int 0, .int 1]) (st := []) dX7_sign_21 rfl cat_iii okX7_sign_X7_isIn cwX7_121 (Nat.le_of_ble_eq_true rfl) ⟨Nat.zero_le _, Nat.zero_le _⟩ rfl (ls0 := [some (.int a3), some (.int 0), some (.int 1)]) rfl (sX7_isIn  hS) (fun r12 h11 hS => ?_)
      refine wz_if_ne (tgt := 34) dX7_sign_24 rfl (fun c13 => ?_) (fun c13 => ?_)
      · replace hS := hS.1 c13
        refine q_ald0 dX7_sign_34 (q_ild1 dX7_sign_35 ?_)
        refine wz_virtI (M := MX7_sign) (pc := 36) (M' := MX7_degree) (n := 1) (As := [.int a1]) (st := []) dX7_sign_36 cf7 rfl go_28 gc_28 rfl cat_i okX7_sign_X7_degree cwX7_175 (Nat.le_of_ble_eq_true rfl) ⟨Nat.zero_le _, Nat.zero_le _⟩ rfl (ls0 := [some (rf 28 0), some (.int a1), none, none]) rfl hS (fun r15 h14 hS => ?_)
        refine wz_iconst dX7_sign_39 kiconst_1 ?_
        refine wz_icmp_eq (tgt := 50) dX7_sign_40 rfl (fun c16 => ?_) (fun c16 => ?_)
        · replace hS := hS.1 c16
          refine wz_iconst dX7_sign_50 kiconst_0 (q_ist4 dX7_sign_51 (ltX7_sign_4) rfl (wz_iconst dX7_sign_53 kiconst_0 (q_ist5 dX7_sign_54 (ltX7_sign_5) rfl ?_)))
          exact hS
        · replace hS := hS.2 c16
          refine q_ald0 dX7_sign_43 (wz_ldc dX7_sign_44 t382 ?_)
          refine wz_virtI (M := MX7_sign) (pc := 46) (M' := MX7_finds) (n := 1) (As := [.int (-1000000003)]) (st := []) dX7_sign_46 cf7 rfl go_28 gc_28 rfl cat_i okX7_sign_X7_finds cwX7_132 (Nat.le_of_ble_eq_true rfl) ⟨Nat.zero_le _, Nat.zero_le _⟩ rfl (ls0 := [some (rf 28 0), some (.int (-1000000003))]) rfl (sX7_finds  hS) (fun r18 h17 hS => ?_)
          exact wi_ret dX7_sign_49 rfl hS
      · replace hS := hS.2 c13
        refine q_ald0 dX7_sign_27 (wz_ldc dX7_sign_28 t370 ?_)
        refine wz_virtI (M := MX7_sign) (pc := 30) (M' := MX7_finds) (n := 1) (As := [.int (-1000000001)]) (st := []) dX7_sign_30 cf7 rfl go_28 gc_28 rfl cat_i okX7_sign_X7_finds cwX7_132 (Nat.le_of_ble_eq_true rfl) ⟨Nat.zero_le _, Nat.zero_le _⟩ rfl (ls0 := [some (rf 28 0), some (.int (-1000000001))]) rfl (sX7_finds  hS) (fun r20 h19 hS => ?_)
        exact wi_ret dX7_sign_33 rfl hS
def SX7_sign_56 (E : EN) (x1 : Int32) (x2 : Int32) (x3 : Int32) (x4 : Int32) (x5 : Int32) (h : TH) (Q : Int32 → TH → Prop) : Prop := (((h 28 0 1) ≤ x5 → wi E MX7_sign Q 142 [some (rf 28 0), none, some (.int x2), some (.int x3), some (.int x4), some (.int (-1)), some (.int 0), none, none] [] h) ∧ (¬ (h 28 0 1) ≤ x5 → wi E MX7_isBelow (fun r3 h2 => ((r3 = 0 → wi E MX7_isBelow (fun r6 h5 => ((r6 = 0 → vp_in x5 10 ∧ wi E MX7_sign Q 56 [some (rf 28 0), some (.int x1), some (.int x2), some (.int x3), some (.int (x4 ||| 0)), some (.int (x5 + 1)), none, none, none] [] (up h5 62 0 (x5.toNatClampNeg) 0)) ∧ (¬ r6 = 0 → wi E MX7_degree (fun r10 h9 => (((h9 42 0 3) < r10 → vp_in x5 10 ∧ wi E MX7_sign Q 56 [some (rf 28 0), some (.int x1), some (.int x2), some (.int x3), some (.int (x4 ||| 0)), some (.int (x5 + 1)), none, none, none] [] (up h9 62 0 (x5.toNatClampNeg) 0)) ∧ (¬ (h9 42 0 3) < r10 → SX7_open E x5 h9 (fun r14 h13 => vp_in x5 10 ∧ wi E MX7_sign Q 56 [some (rf 28 0), some (.int x1), some (.int x2), some (.int x3), some (.int (x4 ||| 0)), some (.int (x5 + 1)), none, none, none] [] (up h13 62 0 (x5.toNatClampNeg) r14))))) 0 [some (rf 28 0), some (.int x5), none, none] [] h5))) 0 [some (rf 28 0), some (.int x5), some (.int x1), none, none] [] h2) ∧ (¬ r3 = 0 → wi E MX7_isBelow (fun r17 h16 => ((r17 = 0 → vp_in x5 10 ∧ wi E MX7_sign Q 56 [some (rf 28 0), some (.int x1), some (.int x2), some (.int x3), some (.int (x4 ||| (1 <<< (x5 &&& 31)))), some (.int (x5 + 1)), none, none, none] [] (up h16 62 0 (x5.toNatClampNeg) 0)) ∧ (¬ r17 = 0 → wi E MX7_degree (fun r21 h20 => (((h20 42 0 3) < r21 → vp_in x5 10 ∧ wi E MX7_sign Q 56 [some (rf 28 0), some (.int x1), some (.int x2), some (.int x3), some (.int (x4 ||| (1 <<< (x5 &&& 31)))), some (.int (x5 + 1)), none, none, none] [] (up h20 62 0 (x5.toNatClampNeg) 0)) ∧ (¬ (h20 42 0 3) < r21 → SX7_open E x5 h20 (fun r25 h24 => vp_in x5 10 ∧ wi E MX7_sign Q 56 [some (rf 28 0), some (.int x1), some (.int x2), some (.int x3), some (.int (x4 ||| (1 <<< (x5 &&& 31)))), some (.int (x5 + 1)), none, none, none] [] (up h24 62 0 (x5.toNatClampNeg) r25))))) 0 [some (rf 28 0), some (.int x5), none, none] [] h16))) 0 [some (rf 28 0), some (.int x5), some (.int x1), none, none] [] h2))) 0 [some (rf 28 0), some (.int x5), some (.int x1), none, none] [] h))
set_option maxRecDepth 20000 in
theorem sX7_sign_56 {E : EN} {x1 : Int32} {x2 : Int32} {x3 : Int32} {x4 : Int32} {x5 : Int32} {h : TH} {Q : Int32 → TH → Prop}  (hS : SX7_sign_56 E x1 x2 x3 x4 x5 h Q) : wi E MX7_sign Q 56 [some (rf 28 0), some (.int x1), some (.int x2), some (.int x3), some (.int x4), some (.int x5), none, none, none] [] h := by
  refine q_ild5 dX7_sign_56 (q_ald0 dX7_sign_58 (wz_getI dX7_sign_59 cf7 t362 (kf := 1) gi_28_1 gc_28 rfl ?_))
  refine wz_icmp_ge (tgt := 136) dX7_sign_62 rfl (fun c1 => ?_) (fun c1 => ?_)
  · replace hS := hS.1 c1
    refine wz_iconst dX7_sign_136 kiconst_m1 (q_ist5 dX7_sign_137 (ltX7_sign_5) rfl (wz_iconst dX7_sign_139 kiconst_0 (q_ist6 dX7_sign_140 (ltX7_sign_6) rfl ?_)))
    exact wz_mask [true, false, true, true, true, true, true, true, true] rfl hS
  · replace hS := hS.2 c1
    refine q_ild4 dX7_sign_65 (q_ald0 dX7_sign_67 (q_ild5 dX7_sign_68 (q_ild1 dX7_sign_70 ?_)))
    refine wz_virtI (M := MX7_sign) (pc := 71) (M' := MX7_isBelow) (n := 2) (As := [.int x5, .int x1]) (st := [.int x4]) dX7_sign_71 cf7 rfl go_28 gc_28 rfl cat_ii okX7_sign_X7_isBelow cwX7_229 (Nat.le_of_ble_eq_true rfl) ⟨Nat.zero_le _, Nat.zero_le _⟩ rfl (ls0 := [some (rf 28 0), some (.int x5), some (.int x1), none, none]) rfl hS (fun r3 h2 hS => ?_)
    refine wz_if_eq (tgt := 84) dX7_sign_74 rfl (fun c4 => ?_) (fun c4 => ?_)
    · replace hS := hS.1 c4
      refine wz_iconst dX7_sign_84 kiconst_0 (wz_ior dX7_sign_85 (q_ist4 dX7_sign_86 (ltX7_sign_4) rfl (q_ald0 dX7_sign_88 (wz_getR dX7_sign_89 cf7 t497 (kf := 44) gr_28_44 gc_28 (q_ild5 dX7_sign_92 (q_ald0 dX7_sign_94 (q_ild5 dX7_sign_95 ?_)))))))
      refine wz_pc (pc2 := 97) rfl ?_
      refine q_ild1 dX7_sign_97 ?_
      refine wz_virtI (M := MX7_sign) (pc := 98) (M' := MX7_isBelow) (n := 2) (As := [.int x5, .int x1]) (st := [.int x5, rf 62 0]) dX7_sign_98 cf7 rfl go_28 gc_28 rfl cat_ii okX7_sign_X7_isBelow cwX7_229 (Nat.le_of_ble_eq_true rfl) ⟨Nat.zero_le _, Nat.zero_le _⟩ rfl (ls0 := [some (rf 28 0), some (.int x5), some (.int x1), none, none]) rfl hS (fun r6 h5 hS => ?_)
      refine wz_if_eq (tgt := 128) dX7_sign_101 rfl (fun c7 => ?_) (fun c7 => ?_)
      · replace hS := hS.1 c7
        refine wz_iconst dX7_sign_128 kiconst_0 ?_
        obtain ⟨hi8, hS⟩ := hS
        refine wz_iast dX7_sign_129 ga_62 gc_62 hi8 rfl (q_inc5 (v := (x5 + 1)) dX7_sign_130 rfl (ltX7_sign_5) rfl (wz_goto (tgt := 56) dX7_sign_133 rfl ?_))
        exact hS
      · replace hS := hS.2 c7
        refine q_ald0 dX7_sign_104 (q_ild5 dX7_sign_105 ?_)
        refine wz_virtI (M := MX7_sign) (pc := 107) (M' := MX7_degree) (n := 1) (As := [.int x5]) (st := [.int x5, rf 62 0]) dX7_sign_107 cf7 rfl go_28 gc_28 rfl cat_i okX7_sign_X7_degree cwX7_175 (Nat.le_of_ble_eq_true rfl) ⟨Nat.zero_le _, Nat.zero_le _⟩ rfl (ls0 := [some (rf 28 0), some (.int x5), none, none]) rfl hS (fun r10 h9 hS => ?_)
        refine q_ald0 dX7_sign_110 (wz_getR dX7_sign_111 cf7 t428 (kf := 23) gr_28_23 gc_28 (wz_iconst dX7_sign_114 kiconst_3 (wz_iald (v := (h9 42 0 3)) dX7_sign_115 ga_42 gc_42 vi_3_6 (congrArg (h9 42 0) cl_3) ?_)))
        refine wz_icmp_gt (tgt := 128) dX7_sign_116 rfl (fun c11 => ?_) (fun c11 => ?_)
        · replace hS := hS.1 c11
          refine wz_iconst dX7_sign_128 kiconst_0 ?_
          obtain ⟨hi12, hS⟩ := hS
          refine wz_iast dX7_sign_129 ga_62 gc_62 hi12 rfl (q_inc5 (v := (x5 + 1)) dX7_sign_130 rfl (ltX7_sign_5) rfl (wz_goto (tgt := 56) dX7_sign_133 rfl ?_))
          exact hS
        · replace hS := hS.2 c11
          refine q_ald0 dX7_sign_119 (q_ild5 dX7_sign_120 ?_)
          refine wz_virtI (M := MX7_sign) (pc := 122) (M' := MX7_open) (n := 1) (As := [.int x5]) (st := [.int x5, rf 62 0]) dX7_sign_122 cf7 rfl go_28 gc_28 rfl cat_i okX7_sign_X7_open cwX7_172 (Nat.le_of_ble_eq_true rfl) ⟨Nat.zero_le _, Nat.zero_le _⟩ rfl (ls0 := [some (rf 28 0), some (.int x5), none, none]) rfl (sX7_open  hS) (fun r14 h13 hS => ?_)
          refine wz_goto (tgt := 129) dX7_sign_125 rfl ?_
          obtain ⟨hi15, hS⟩ := hS
          refine wz_iast dX7_sign_129 ga_62 gc_62 hi15 rfl (q_inc5 (v := (x5 + 1)) dX7_sign_130 rfl (ltX7_sign_5) rfl (wz_goto (tgt := 56) dX7_sign_133 rfl ?_))
          exact hS
    · replace hS := hS.2 c4
      refine wz_iconst dX7_sign_77 kiconst_1 (q_ild5 dX7_sign_78 (wz_ishl dX7_sign_80 (wz_goto (tgt := 85) dX7_sign_81 rfl (wz_ior dX7_sign_85 (q_ist4 dX7_sign_86 (ltX7_sign_4) rfl (q_ald0 dX7_sign_88 (wz_getR dX7_sign_89 cf7 t497 (kf := 44) gr_28_44 gc_28 ?_)))))))
      refine wz_pc (pc2 := 92) rfl ?_
      refine q_ild5 dX7_sign_92 (q_ald0 dX7_sign_94 (q_ild5 dX7_sign_95 (q_ild1 dX7_sign_97 ?_)))
      refine wz_virtI (M := MX7_sign) (pc := 98) (M' := MX7_isBelow) (n := 2) (As := [.int x5, .int x1]) (st := [.int x5, rf 62 0]) dX7_sign_98 cf7 rfl go_28 gc_28 rfl cat_ii okX7_sign_X7_isBelow cwX7_229 (Nat.le_of_ble_eq_true rfl) ⟨Nat.zero_le _, Nat.zero_le _⟩ rfl (ls0 := [some (rf 28 0), some (.int x5), some (.int x1), none, none]) rfl hS (fun r17 h16 hS => ?_)
      refine wz_if_eq (tgt := 128) dX7_sign_101 rfl (fun c18 => ?_) (fun c18 => ?_)
      · replace hS := hS.1 c18
        refine wz_iconst dX7_sign_128 kiconst_0 ?_
        obtain ⟨hi19, hS⟩ := hS
        refine wz_iast dX7_sign_129 ga_62 gc_62 hi19 rfl (q_inc5 (v := (x5 + 1)) dX7_sign_130 rfl (ltX7_sign_5) rfl (wz_goto (tgt := 56) dX7_sign_133 rfl ?_))
        exact hS
      · replace hS := hS.2 c18
        refine q_ald0 dX7_sign_104 (q_ild5 dX7_sign_105 ?_)
        refine wz_virtI (M := MX7_sign) (pc := 107) (M' := MX7_degree) (n := 1) (As := [.int x5]) (st := [.int x5, rf 62 0]) dX7_sign_107 cf7 rfl go_28 gc_28 rfl cat_i okX7_sign_X7_degree cwX7_175 (Nat.le_of_ble_eq_true rfl) ⟨Nat.zero_le _, Nat.zero_le _⟩ rfl (ls0 := [some (rf 28 0), some (.int x5), none, none]) rfl hS (fun r21 h20 hS => ?_)
        refine q_ald0 dX7_sign_110 (wz_getR dX7_sign_111 cf7 t428 (kf := 23) gr_28_23 gc_28 (wz_iconst dX7_sign_114 kiconst_3 (wz_iald (v := (h20 42 0 3)) dX7_sign_115 ga_42 gc_42 vi_3_6 (congrArg (h20 42 0) cl_3) ?_)))
        refine wz_icmp_gt (tgt := 128) dX7_sign_116 rfl (fun c22 => ?_) (fun c22 => ?_)
        · replace hS := hS.1 c22
          refine wz_iconst dX7_sign_128 kiconst_0 ?_
          obtain ⟨hi23, hS⟩ := hS
          refine wz_iast dX7_sign_129 ga_62 gc_62 hi23 rfl (q_inc5 (v := (x5 + 1)) dX7_sign_130 rfl (ltX7_sign_5) rfl (wz_goto (tgt := 56) dX7_sign_133 rfl ?_))
          exact hS
        · replace hS := hS.2 c22
          refine q_ald0 dX7_sign_119 (q_ild5 dX7_sign_120 ?_)
          refine wz_virtI (M := MX7_sign) (pc := 122) (M' := MX7_open) (n := 1) (As := [.int x5]) (st := [.int x5, rf 62 0]) dX7_sign_122 cf7 rfl go_28 gc_28 rfl cat_i okX7_sign_X7_open cwX7_172 (Nat.le_of_ble_eq_true rfl) ⟨Nat.zero_le _, Nat.zero_le _⟩ rfl (ls0 := [some (rf 28 0), some (.int x5), none, none]) rfl (sX7_open  hS) (fun r25 h24 hS => ?_)
          refine wz_goto (tgt := 129) dX7_sign_125 rfl ?_
          obtain ⟨hi26, hS⟩ := hS
          refine wz_iast dX7_sign_129 ga_62 gc_62 hi26 rfl (q_inc5 (v := (x5 + 1)) dX7_sign_130 rfl (ltX7_sign_5) rfl (wz_goto (tgt := 56) dX7_sign_133 rfl ?_))
          exact hS
def SX7_sign_142 (E : EN) (x2 : Int32) (x3 : Int32) (x4 : Int32) (x5 : Int32) (x6 : Int32) (h : TH) (Q : Int32 → TH → Prop) : Prop := (((1 <<< ((h 28 0 1) &&& 31)) ≤ x6 → ((¬ x3 = 0 → wi E MX7_bits (fun r4 h3 => Q r4 h3) 0 [some (.int x5), none, none] [] h) ∧ (x3 = 0 → Q x5 h))) ∧ (¬ (1 <<< ((h 28 0 1) &&& 31)) ≤ x6 → wi E MX7_sign Q 159 [some (rf 28 0), none, some (.int x2), some (.int x3), some (.int x4), some (.int x5), some (.int x6), some (.int 0), some (.int 0)] [] h))
set_option maxRecDepth 20000 in
theorem sX7_sign_142 {E : EN} {x2 : Int32} {x3 : Int32} {x4 : Int32} {x5 : Int32} {x6 : Int32} {h : TH} {Q : Int32 → TH → Prop}  (hS : SX7_sign_142 E x2 x3 x4 x5 x6 h Q) : wi E MX7_sign Q 142 [some (rf 28 0), none, some (.int x2), some (.int x3), some (.int x4), some (.int x5), some (.int x6), none, none] [] h := by
  refine q_ild6 dX7_sign_142 (wz_iconst dX7_sign_144 kiconst_1 (q_ald0 dX7_sign_145 (wz_getI dX7_sign_146 cf7 t362 (kf := 1) gi_28_1 gc_28 rfl (wz_ishl dX7_sign_149 ?_))))
  refine wz_icmp_ge (tgt := 245) dX7_sign_150 rfl (fun c1 => ?_) (fun c1 => ?_)
  · replace hS := hS.1 c1
    refine q_ild3 dX7_sign_245 ?_
    refine wz_if_ne (tgt := 254) dX7_sign_246 rfl (fun c2 => ?_) (fun c2 => ?_)
    · replace hS := hS.1 c2
      refine q_ild5 dX7_sign_254 ?_
      refine wz_statI (M := MX7_sign) (pc := 256) (M' := MX7_bits) (n := 1) (As := [.int x5]) (st := []) dX7_sign_256 rfl cat_i okX7_sign_X7_bits cwX7_232 (Nat.le_of_ble_eq_true rfl) ⟨Nat.zero_le _, Nat.zero_le _⟩ rfl (ls0 := [some (.int x5), none, none]) rfl hS (fun r4 h3 hS => ?_)
      exact wi_ret dX7_sign_259 rfl hS
    · replace hS := hS.2 c2
      refine q_ild5 dX7_sign_249 (wz_goto (tgt := 259) dX7_sign_251 rfl ?_)
      exact wi_ret dX7_sign_259 rfl hS
  · replace hS := hS.2 c1
    refine wz_iconst dX7_sign_153 kiconst_0 (q_ist7 dX7_sign_154 (ltX7_sign_7) rfl (wz_iconst dX7_sign_156 kiconst_0 (q_ist8 dX7_sign_157 (ltX7_sign_8) rfl ?_)))
    exact hS
def SX7_sign_159 (E : EN) (x2 : Int32) (x3 : Int32) (x4 : Int32) (x5 : Int32) (x6 : Int32) (x7 : Int32) (x8 : Int32) (h : TH) (Q : Int32 → TH → Prop) : Prop := (((h 28 0 1) ≤ x8 → ((¬ (x6 &&& (x4 ^^^ (-1))) = 0 → wi E MX7_sign Q 142 [some (rf 28 0), none, some (.int x2), some (.int x3), some (.int x4), some (.int x5), some (.int (x6 + 1)), none, none] [] h) ∧ ((x6 &&& (x4 ^^^ (-1))) = 0 → ((x2 < x7 → wi E MX7_sign Q 142 [some (rf 28 0), none, some (.int x2), some (.int x3), some (.int x4), some (.int x5), some (.int (x6 + 1)), none, none] [] h) ∧ (¬ x2 < x7 → ((x5 = (-1) → wi E MX7_sign Q 142 [some (rf 28 0), none, some (.int x2), some (.int x3), some (.int x4), some (.int x6), some (.int (x6 + 1)), none, none] [] h) ∧ (¬ x5 = (-1) → wi E MX7_bits (fun r6 h5 => wi E MX7_bits (fun r8 h7 => ((r8 ≤ r6 → wi E MX7_sign Q 142 [some (rf 28 0), none, some (.int x2), some (.int x3), some (.int x4), some (.int x5), some (.int (x6 + 1)), none, none] [] h7) ∧ (¬ r8 ≤ r6 → wi E MX7_sign Q 142 [some (rf 28 0), none, some (.int x2), some (.int x3), some (.int x4), some (.int x6), some (.int (x6 + 1)), none, none] [] h7))) 0 [some (.int x5), none, none] [] h5) 0 [some (.int x6), none, none] [] h))))))) ∧ (¬ (h 28 0 1) ≤ x8 → ((¬ ((x6 >>> (x8 &&& 31)) &&& 1) = 0 → wi E MX7_sign Q 159 [some (rf 28 0), none, some (.int x2), some (.int x3), some (.int x4), some (.int x5), some (.int x6), some (.int (x7 + 0)), some (.int (x8 + 1))] [] h) ∧ (((x6 >>> (x8 &&& 31)) &&& 1) = 0 → vp_in x8 10 ∧ wi E MX7_sign Q 159 [some (rf 28 0), none, some (.int x2), some (.int x3), some (.int x4), some (.int x5), some (.int x6), some (.int (x7 + (h 62 0 (x8.toNatClampNeg)))), some (.int (x8 + 1))] [] h))))
set_option maxRecDepth 20000 in
theorem sX7_sign_159 {E : EN} {x2 : Int32} {x3 : Int32} {x4 : Int32} {x5 : Int32} {x6 : Int32} {x7 : Int32} {x8 : Int32} {h : TH} {Q : Int32 → TH → Prop}  (hS : SX7_sign_159 E x2 x3 x4 x5 x6 x7 x8 h Q) : wi E MX7_sign Q 159 [some (rf 28 0), none, some (.int x2), some (.int x3), some (.int x4), some (.int x5), some (.int x6), some (.int x7), some (.int x8)] [] h := by
  refine q_ild8 dX7_sign_159 (q_ald0 dX7_sign_161 (wz_getI dX7_sign_162 cf7 t362 (kf := 1) gi_28_1 gc_28 rfl ?_))
  refine wz_icmp_ge (tgt := 200) dX7_sign_165 rfl (fun c1 => ?_) (fun c1 => ?_)
  · replace hS := hS.1 c1
    refine q_ild6 dX7_sign_200 (q_ild4 dX7_sign_202 (wz_iconst dX7_sign_204 kiconst_m1 (wz_ixor dX7_sign_205 (wz_iand dX7_sign_206 ?_))))
    refine wz_if_ne (tgt := 239) dX7_sign_207 rfl (fun c2 => ?_) (fun c2 => ?_)
    · replace hS := hS.1 c2
      refine q_inc6 (v := (x6 + 1)) dX7_sign_239 rfl (ltX7_sign_6) rfl (wz_goto (tgt := 142) dX7_sign_242 rfl ?_)
      exact wz_mask [true, true, true, true, true, true, true, false, false] rfl hS
    · replace hS := hS.2 c2
      refine q_ild7 dX7_sign_210 (q_ild2 dX7_sign_212 ?_)
      refine wz_icmp_gt (tgt := 239) dX7_sign_213 rfl (fun c3 => ?_) (fun c3 => ?_)
      · replace hS := hS.1 c3
        refine q_inc6 (v := (x6 + 1)) dX7_sign_239 rfl (ltX7_sign_6) rfl (wz_goto (tgt := 142) dX7_sign_242 rfl ?_)
        exact wz_mask [true, true, true, true, true, true, true, false, false] rfl hS
      · replace hS := hS.2 c3
        refine q_ild5 dX7_sign_216 (wz_iconst dX7_sign_218 kiconst_m1 ?_)
        refine wz_icmp_eq (tgt := 235) dX7_sign_219 rfl (fun c4 => ?_) (fun c4 => ?_)
        · replace hS := hS.1 c4
          refine q_ild6 dX7_sign_235 (q_ist5 dX7_sign_237 (ltX7_sign_5) rfl (q_inc6 (v := (x6 + 1)) dX7_sign_239 rfl (ltX7_sign_6) rfl (wz_goto (tgt := 142) dX7_sign_242 rfl ?_)))
          exact wz_mask [true, true, true, true, true, true, true, false, false] rfl hS
        · replace hS := hS.2 c4
          refine q_ild6 dX7_sign_222 ?_
          refine wz_statI (M := MX7_sign) (pc := 224) (M' := MX7_bits) (n := 1) (As := [.int x6]) (st := []) dX7_sign_224 rfl cat_i okX7_sign_X7_bits cwX7_232 (Nat.le_of_ble_eq_true rfl) ⟨Nat.zero_le _, Nat.zero_le _⟩ rfl (ls0 := [some (.int x6), none, none]) rfl hS (fun r6 h5 hS => ?_)
          refine q_ild5 dX7_sign_227 ?_
          refine wz_statI (M := MX7_sign) (pc := 229) (M' := MX7_bits) (n := 1) (As := [.int x5]) (st := [.int r6]) dX7_sign_229 rfl cat_i okX7_sign_X7_bits cwX7_232 (Nat.le_of_ble_eq_true rfl) ⟨Nat.zero_le _, Nat.zero_le _⟩ rfl (ls0 := [some (.int x5), none, none]) rfl hS (fun r8 h7 hS => ?_)
          refine wz_icmp_ge (tgt := 239) dX7_sign_232 rfl (fun c9 => ?_) (fun c9 => ?_)
          · replace hS := hS.1 c9
            refine q_inc6 (v := (x6 + 1)) dX7_sign_239 rfl (ltX7_sign_6) rfl (wz_goto (tgt := 142) dX7_sign_242 rfl ?_)
            exact wz_mask [true, true, true, true, true, true, true, false, false] rfl hS
          · replace hS := hS.2 c9
            refine q_ild6 dX7_sign_235 (q_ist5 dX7_sign_237 (ltX7_sign_5) rfl (q_inc6 (v := (x6 + 1)) dX7_sign_239 rfl (ltX7_sign_6) rfl (wz_goto (tgt := 142) dX7_sign_242 rfl ?_)))
            exact wz_mask [true, true, true, true, true, true, true, false, false] rfl hS
  · replace hS := hS.2 c1
    refine q_ild7 dX7_sign_168 (q_ild6 dX7_sign_170 (q_ild8 dX7_sign_172 (wz_ishr dX7_sign_174 (wz_iconst dX7_sign_175 kiconst_1 (wz_iand dX7_sign_176 ?_)))))
    refine wz_if_ne (tgt := 190) dX7_sign_177 rfl (fun c10 => ?_) (fun c10 => ?_)
    · replace hS := hS.1 c10
      refine wz_iconst dX7_sign_190 kiconst_0 (wz_iadd dX7_sign_191 (q_ist7 dX7_sign_192 (ltX7_sign_7) rfl (q_inc8 (v := (x8 + 1)) dX7_sign_194 rfl (ltX7_sign_8) rfl (wz_goto (tgt := 159) dX7_sign_197 rfl ?_))))
      exact hS
    · replace hS := hS.2 c10
      refine q_ald0 dX7_sign_180 (wz_getR dX7_sign_181 cf7 t497 (kf := 44) gr_28_44 gc_28 (q_ild8 dX7_sign_184 ?_))
      obtain ⟨hi11, hS⟩ := hS
      refine wz_iald dX7_sign_186 ga_62 gc_62 hi11 rfl (wz_goto (tgt := 191) dX7_sign_187 rfl (wz_iadd dX7_sign_191 (q_ist7 dX7_sign_192 (ltX7_sign_7) rfl (q_inc8 (v := (x8 + 1)) dX7_sign_194 rfl (ltX7_sign_8) rfl (wz_goto (tgt := 159) dX7_sign_197 rfl ?_)))))
      exact hS
def SX7_isBuilder (E : EN) (a1 : Int32) (h : TH) (Q : Int32 → TH → Prop) : Prop := vp_in a1 12 ∧ SX7_isUnder E (h 29 0 (a1.toNatClampNeg)) 2 h (fun r3 h2 => (isB r3 ∧ Q r3 h2))
set_option maxRecDepth 20000 in
theorem sX7_isBuilder {E : EN} {a1 : Int32} {h : TH} {Q : Int32 → TH → Prop}  (hS : SX7_isBuilder E a1 h Q) : wi E MX7_isBuilder Q 0 [some (rf 28 0), some (.int a1)] [] h := by
  refine q_ald0 dX7_isBuilder_0 (wz_getR dX7_isBuilder_1 cf7 t364 (kf := 10) gr_28_10 gc_28 (q_ild1 dX7_isBuilder_4 ?_))
  obtain ⟨hi1, hS⟩ := hS
  refine wz_iald dX7_isBuilder_5 ga_29 gc_29 hi1 rfl (wz_iconst dX7_isBuilder_6 kiconst_2 ?_)
  refine wz_statI (M := MX7_isBuilder) (pc := 7) (M' := MX7_isUnder) (n := 2) (As := [.int (h 29 0 (a1.toNatClampNeg)), .int 2]) (st := []) dX7_isBuilder_7 rfl cat_ii okX7_isBuilder_X7_isUnder cwX7_140 (Nat.le_of_ble_eq_true rfl) ⟨Nat.zero_le _, Nat.zero_le _⟩ rfl (ls0 := [some (.int (h 29 0 (a1.toNatClampNeg))), some (.int 2)]) rfl (sX7_isUnder  hS) (fun r3 h2 hS => ?_)
  exact wi_zret dX7_isBuilder_10 rfl (isB_nar hS.1) hS.2
def SX7_in (E : EN) (a1 : Int32) (a2 : Int32) (a3 : Int32) (h : TH) (Q : Int32 → TH → Prop) : Prop := SX7_isParty E a1 h (fun r2 h1 => ((r2 = 0 → SX7_finds E (-1000000001) h1 (fun r5 h4 => Q r5 h4)) ∧ (¬ r2 = 0 → ((a2 = (-1) → SX7_isIn E a3 1 100000 h1 (fun r8 h7 => ((¬ r8 = 0 → SX7_isBuilder E a1 h7 (fun r11 h10 => ((¬ r11 = 0 → ((a2 = (-1) → ((¬ (h10 28 0 5) = 40 → vp_in (h10 28 0 5) 40 ∧ vp_in (h10 28 0 7) 80 ∧ Q (((h10 28 0 5) + 1) - 1) (up (up (up (up (up (up h10 50 0 ((h10 28 0 5).toNatClampNeg) a1) 51 0 ((h10 28 0 5).toNatClampNeg) a2) 52 0 ((h10 28 0 5).toNatClampNeg) a3) 55 0 ((h10 28 0 7).toNatClampNeg) (h10 28 0 5)) 28 0 7 ((h10 28 0 7) + 1)) 28 0 5 ((h10 28 0 5) + 1))) ∧ ((h10 28 0 5) = 40 → SX7_finds E (-1000000004) h10 (fun r18 h17 => Q r18 h17)))) ∧ (¬ a2 = (-1) → vp_in a2 10 ∧ (((h10 31 0 (a2.toNatClampNeg)) = a1 → ((¬ (h10 28 0 5) = 40 → vp_in (h10 28 0 5) 40 ∧ vp_in (h10 28 0 7) 80 ∧ Q (((h10 28 0 5) + 1) - 1) (up (up (up (up (up (up h10 50 0 ((h10 28 0 5).toNatClampNeg) a1) 51 0 ((h10 28 0 5).toNatClampNeg) a2) 52 0 ((h10 28 0 5).toNatClampNeg) a3) 55 0 ((h10 28 0 7).toNatClampNeg) (h10 28 0 5)) 28 0 7 ((h10 28 0 7) + 1)) 28 0 5 ((h10 28 0 5) + 1))) ∧ ((h10 28 0 5) = 40 → SX7_finds E (-1000000004) h10 (fun r25 h24 => Q r25 h24)))) ∧ (¬ (h10 31 0 (a2.toNatClampNeg)) = a1 → (((h10 30 0 (a2.toNatClampNeg)) = a1 → ((¬ (h10 28 0 5) = 40 → vp_in (h10 28 0 5) 40 ∧ vp_in (h10 28 0 7) 80 ∧ Q (((h10 28 0 5) + 1) - 1) (up (up (up (up (up (up h10 50 0 ((h10 28 0 5).toNatClampNeg) a1) 51 0 ((h10 28 0 5).toNatClampNeg) a2) 52 0 ((h10 28 0 5).toNatClampNeg) a3) 55 0 ((h10 28 0 7).toNatClampNeg) (h10 28 0 5)) 28 0 7 ((h10 28 0 7) + 1)) 28 0 5 ((h10 28 0 5) + 1))) ∧ ((h10 28 0 5) = 40 → SX7_finds E (-1000000004) h10 (fun r31 h30 => Q r31 h30)))) ∧ (¬ (h10 30 0 (a2.toNatClampNeg)) = a1 → SX7_finds E (-1000000003) h10 (fun r33 h32 => Q r33 h32)))))))) ∧ (r11 = 0 → SX7_finds E (-1000000005) h10 (fun r35 h34 => Q r35 h34))))) ∧ (r8 = 0 → SX7_finds E (-1000000001) h7 (fun r37 h36 => Q r37 h36))))) ∧ (¬ a2 = (-1) → SX7_isContract E a2 h1 (fun r39 h38 => ((r39 = 0 → SX7_finds E (-1000000001) h38 (fun r42 h41 => Q r42 h41)) ∧ (¬ r39 = 0 → SX7_isIn E a3 1 100000 h38 (fun r44 h43 => ((¬ r44 = 0 → SX7_isBuilder E a1 h43 (fun r47 h46 => ((¬ r47 = 0 → ((a2 = (-1) → ((¬ (h46 28 0 5) = 40 → vp_in (h46 28 0 5) 40 ∧ vp_in (h46 28 0 7) 80 ∧ Q (((h46 28 0 5) + 1) - 1) (up (up (up (up (up (up h46 50 0 ((h46 28 0 5).toNatClampNeg) a1) 51 0 ((h46 28 0 5).toNatClampNeg) a2) 52 0 ((h46 28 0 5).toNatClampNeg) a3) 55 0 ((h46 28 0 7).toNatClampNeg) (h46 28 0 5)) 28 0 7 ((h46 28 0 7) + 1)) 28 0 5 ((h46 28 0 5) + 1))) ∧ ((h46 28 0 5) = 40 → SX7_finds E (-1000000004) h46 (fun r54 h53 => Q r54 h53)))) ∧ (¬ a2 = (-1) → vp_in a2 10 ∧ (((h46 31 0 (a2.toNatClampNeg)) = a1 → ((¬ (h46 28 0 5) = 40 → vp_in (h46 28 0 5) 40 ∧ vp_in (h46 28 0 7) 80 ∧ Q (((h46 28 0 5) + 1) - 1) (up (up (up (up (up (up h46 50 0 ((h46 28 0 5).toNatClampNeg) a1) 51 0 ((h46 28 0 5).toNatClampNeg) a2) 52 0 ((h46 28 0 5).toNatClampNeg) a3) 55 0 ((h46 28 0 7).toNatClampNeg) (h46 28 0 5)) 28 0 7 ((h46 28 0 7) + 1)) 28 0 5 ((h46 28 0 5) + 1))) ∧ ((h46 28 0 5) = 40 → SX7_finds E (-1000000004) h46 (fun r61 h60 => Q r61 h60)))) ∧ (¬ (h46 31 0 (a2.toNatClampNeg)) = a1 → (((h46 30 0 (a2.toNatClampNeg)) = a1 → ((¬ (h46 28 0 5) = 40 → vp_in (h46 28 0 5) 40 ∧ vp_in (h46 28 0 7) 80 ∧ Q (((h46 28 0 5) + 1) - 1) (up (up (up (up (up (up h46 50 0 ((h46 28 0 5).toNatClampNeg) a1) 51 0 ((h46 28 0 5).toNatClampNeg) a2) 52 0 ((h46 28 0 5).toNatClampNeg) a3) 55 0 ((h46 28 0 7).toNatClampNeg) (h46 28 0 5)) 28 0 7 ((h46 28 0 7) + 1)) 28 0 5 ((h46 28 0 5) + 1))) ∧ ((h46 28 0 5) = 40 → SX7_finds E (-1000000004) h46 (fun r67 h66 => Q r67 h66)))) ∧ (¬ (h46 30 0 (a2.toNatClampNeg)) = a1 → SX7_finds E (-1000000003) h46 (fun r69 h68 => Q r69 h68)))))))) ∧ (r47 = 0 → SX7_finds E (-1000000005) h46 (fun r71 h70 => Q r71 h70))))) ∧ (r44 = 0 → SX7_finds E (-1000000001) h43 (fun r73 h72 => Q r73 h72))))))))))))
set_option maxRecDepth 20000 in
theorem sX7_in {E : EN} {a1 : Int32} {a2 : Int32} {a3 : Int32} {h : TH} {Q : Int32 → TH → Prop}  (hS : SX7_in E a1 a2 a3 h Q) : wi E MX7_in Q 0 [some (rf 28 0), some (.int a1), some (.int a2), some (.int a3)] [] h := by
  refine q_ald0 dX7_in_0 (q_ild1 dX7_in_1 ?_)
  refine wz_virtI (M := MX7_in) (pc := 2) (M' := MX7_isParty) (n := 1) (As := [.int a1]) (st := []) dX7_in_2 cf7 rfl go_28 gc_28 rfl cat_i okX7_in_X7_isParty cwX7_136 (Nat.le_of_ble_eq_true rfl) ⟨Nat.zero_le _, Nat.zero_le _⟩ rfl (ls0 := [some (rf 28 0), some (.int a1)]) rfl (sX7_isParty  hS) (fun r2 h1 hS => ?_)
  refine wz_if_eq (tgt := 31) dX7_in_5 rfl (fun c3 => ?_) (fun c3 => ?_)
  · replace hS := hS.1 c3
    refine q_ald0 dX7_in_31 (wz_ldc dX7_in_32 t370 ?_)
    refine wz_virtI (M := MX7_in) (pc := 34) (M' := MX7_finds) (n := 1) (As := [.int (-1000000001)]) (st := []) dX7_in_34 cf7 rfl go_28 gc_28 rfl cat_i okX7_in_X7_finds cwX7_132 (Nat.le_of_ble_eq_true rfl) ⟨Nat.zero_le _, Nat.zero_le _⟩ rfl (ls0 := [some (rf 28 0), some (.int (-1000000001))]) rfl (sX7_finds  hS) (fun r5 h4 hS => ?_)
    exact wi_ret dX7_in_37 rfl hS
  · replace hS := hS.2 c3
    refine q_ild2 dX7_in_8 (wz_iconst dX7_in_9 kiconst_m1 ?_)
    refine wz_icmp_eq (tgt := 21) dX7_in_10 rfl (fun c6 => ?_) (fun c6 => ?_)
    · replace hS := hS.1 c6
      refine q_ild3 dX7_in_21 (wz_iconst dX7_in_22 kiconst_1 (wz_ldc dX7_in_23 t381 ?_))
      refine wz_statI (M := MX7_in) (pc := 25) (M' := MX7_isIn) (n := 3) (As := [.int a3, .int 1, .int 100000]) (st := []) dX7_in_25 rfl cat_iii okX7_in_X7_isIn cwX7_121 (Nat.le_of_ble_eq_true rfl) ⟨Nat.zero_le _, Nat.zero_le _⟩ rfl (ls0 := [some (.int a3), some (.int 1), some (.int 100000)]) rfl (sX7_isIn  hS) (fun r8 h7 hS => ?_)
      refine wz_if_ne (tgt := 38) dX7_in_28 rfl (fun c9 => ?_) (fun c9 => ?_)
      · replace hS := hS.1 c9
        refine q_ald0 dX7_in_38 (q_ild1 dX7_in_39 ?_)
        refine wz_virtI (M := MX7_in) (pc := 40) (M' := MX7_isBuilder) (n := 1) (As := [.int a1]) (st := []) dX7_in_40 cf7 rfl go_28 gc_28 rfl cat_i okX7_in_X7_isBuilder cwX7_235 (Nat.le_of_ble_eq_true rfl) ⟨Nat.zero_le _, Nat.zero_le _⟩ rfl (ls0 := [some (rf 28 0), some (.int a1)]) rfl (sX7_isBuilder  hS) (fun r11 h10 hS => ?_)
        refine wz_if_ne (tgt := 53) dX7_in_43 rfl (fun c12 => ?_) (fun c12 => ?_)
        · replace hS := hS.1 c12
          refine q_ild2 dX7_in_53 (wz_iconst dX7_in_54 kiconst_m1 ?_)
          refine wz_icmp_eq (tgt := 85) dX7_in_55 rfl (fun c13 => ?_) (fun c13 => ?_)
          · replace hS := hS.1 c13
            refine q_ald0 dX7_in_85 (wz_getI dX7_in_86 cf7 t501 (kf := 5) gi_28_5 gc_28 rfl (wz_bipush dX7_in_89 kbipush_40 ?_))
            refine wz_icmp_ne (tgt := 101) dX7_in_91 rfl (fun c14 => ?_) (fun c14 => ?_)
            · replace hS := hS.1 c14
              refine q_ald0 dX7_in_101 (wz_getR dX7_in_102 cf7 t502 (kf := 31) gr_28_31 gc_28 (q_ald0 dX7_in_105 (wz_getI dX7_in_106 cf7 t501 (kf := 5) gi_28_5 gc_28 rfl (q_ild1 dX7_in_109 ?_))))
              obtain ⟨hi15, hS⟩ := hS
              refine wz_iast dX7_in_110 ga_50 gc_50 hi15 rfl (q_ald0 dX7_in_111 (wz_getR dX7_in_112 cf7 t503 (kf := 32) gr_28_32 gc_28 (q_ald0 dX7_in_115 (wz_getI (v := (h10 28 0 5)) dX7_in_116 cf7 t501 (kf := 5) gi_28_5 gc_28 (by first | rfl | simp [up]) (q_ild2 dX7_in_119 (wz_iast dX7_in_120 ga_51 gc_51 hi15 rfl (q_ald0 dX7_in_121 ?_)))))))
              refine wz_pc (pc2 := 122) rfl ?_
              refine wz_getR dX7_in_122 cf7 t504 (kf := 33) gr_28_33 gc_28 (q_ald0 dX7_in_125 (wz_getI (v := (h10 28 0 5)) dX7_in_126 cf7 t501 (kf := 5) gi_28_5 gc_28 (by first | rfl | simp [up]) (q_ild3 dX7_in_129 (wz_iast dX7_in_130 ga_52 gc_52 hi15 rfl (q_ald0 dX7_in_131 (wz_getR dX7_in_132 cf7 t505 (kf := 36) gr_28_36 gc_28 (q_ald0 dX7_in_135 ?_)))))))
              refine wz_pc (pc2 := 136) rfl ?_
              refine wz_getI (v := (h10 28 0 7)) dX7_in_136 cf7 t506 (kf := 7) gi_28_7 gc_28 (by first | rfl | simp [up]) (q_ald0 dX7_in_139 (wz_getI (v := (h10 28 0 5)) dX7_in_140 cf7 t501 (kf := 5) gi_28_5 gc_28 (by first | rfl | simp [up]) ?_))
              obtain ⟨hi16, hS⟩ := hS
              refine wz_iast dX7_in_143 ga_55 gc_55 hi16 rfl (q_ald0 dX7_in_144 (wz_dup dX7_in_145 rfl (wz_getI (v := (h10 28 0 7)) dX7_in_146 cf7 t506 (kf := 7) gi_28_7 gc_28 (by first | rfl | simp [up]) (wz_iconst dX7_in_149 kiconst_1 (wz_iadd dX7_in_150 (wz_putI dX7_in_151 cf7 t506 (kf := 7) gp_28_7 gc_28 rfl (q_ald0 dX7_in_154 ?_)))))))
              refine wz_pc (pc2 := 155) rfl ?_
              refine wz_dup dX7_in_155 rfl (wz_getI (v := (h10 28 0 5)) dX7_in_156 cf7 t501 (kf := 5) gi_28_5 gc_28 (by first | rfl | simp [up]) (wz_iconst dX7_in_159 kiconst_1 (wz_iadd dX7_in_160 (wz_putI dX7_in_161 cf7 t501 (kf := 5) gp_28_5 gc_28 rfl (q_ald0 dX7_in_164 (wz_getI (v := ((h10 28 0 5) + 1)) dX7_in_165 cf7 t501 (kf := 5) gi_28_5 gc_28 (by first | rfl | simp [up]) (wz_iconst dX7_in_168 kiconst_1 ?_)))))))
              refine wz_pc (pc2 := 169) rfl ?_
              refine wz_isub dX7_in_169 ?_
              exact wi_ret dX7_in_170 rfl hS
            · replace hS := hS.2 c14
              refine q_ald0 dX7_in_94 (wz_ldc dX7_in_95 t365 ?_)
              refine wz_virtI (M := MX7_in) (pc := 97) (M' := MX7_finds) (n := 1) (As := [.int (-1000000004)]) (st := []) dX7_in_97 cf7 rfl go_28 gc_28 rfl cat_i okX7_in_X7_finds cwX7_132 (Nat.le_of_ble_eq_true rfl) ⟨Nat.zero_le _, Nat.zero_le _⟩ rfl (ls0 := [some (rf 28 0), some (.int (-1000000004))]) rfl (sX7_finds  hS) (fun r18 h17 hS => ?_)
              exact wi_ret dX7_in_100 rfl hS
          · replace hS := hS.2 c13
            refine q_ald0 dX7_in_58 (wz_getR dX7_in_59 cf7 t380 (kf := 12) gr_28_12 gc_28 (q_ild2 dX7_in_62 ?_))
            obtain ⟨hi19, hS⟩ := hS
            refine wz_iald dX7_in_63 ga_31 gc_31 hi19 rfl (q_ild1 dX7_in_64 ?_)
            refine wz_icmp_eq (tgt := 85) dX7_in_65 rfl (fun c20 => ?_) (fun c20 => ?_)
            · replace hS := hS.1 c20
              refine q_ald0 dX7_in_85 (wz_getI dX7_in_86 cf7 t501 (kf := 5) gi_28_5 gc_28 rfl (wz_bipush dX7_in_89 kbipush_40 ?_))
              refine wz_icmp_ne (tgt := 101) dX7_in_91 rfl (fun c21 => ?_) (fun c21 => ?_)
              · replace hS := hS.1 c21
                refine q_ald0 dX7_in_101 (wz_getR dX7_in_102 cf7 t502 (kf := 31) gr_28_31 gc_28 (q_ald0 dX7_in_105 (wz_getI dX7_in_106 cf7 t501 (kf := 5) gi_28_5 gc_28 rfl (q_ild1 dX7_in_109 ?_))))
                obtain ⟨hi22, hS⟩ := hS
                refine wz_iast dX7_in_110 ga_50 gc_50 hi22 rfl (q_ald0 dX7_in_111 (wz_getR dX7_in_112 cf7 t503 (kf := 32) gr_28_32 gc_28 (q_ald0 dX7_in_115 (wz_getI (v := (h10 28 0 5)) dX7_in_116 cf7 t501 (kf := 5) gi_28_5 gc_28 (by first | rfl | simp [up]) (q_ild2 dX7_in_119 (wz_iast dX7_in_120 ga_51 gc_51 hi22 rfl (q_ald0 dX7_in_121 ?_)))))))
                refine wz_pc (pc2 := 122) rfl ?_
                refine wz_getR dX7_in_122 cf7 t504 (kf := 33) gr_28_33 gc_28 (q_ald0 dX7_in_125 (wz_getI (v := (h10 28 0 5)) dX7_in_126 cf7 t501 (kf := 5) gi_28_5 gc_28 (by first | rfl | simp [up]) (q_ild3 dX7_in_129 (wz_iast dX7_in_130 ga_52 gc_52 hi22 rfl (q_ald0 dX7_in_131 (wz_getR dX7_in_132 cf7 t505 (kf := 36) gr_28_36 gc_28 (q_ald0 dX7_in_135 ?_)))))))
                refine wz_pc (pc2 := 136) rfl ?_
                refine wz_getI (v := (h10 28 0 7)) dX7_in_136 cf7 t506 (kf := 7) gi_28_7 gc_28 (by first | rfl | simp [up]) (q_ald0 dX7_in_139 (wz_getI (v := (h10 28 0 5)) dX7_in_140 cf7 t501 (kf := 5) gi_28_5 gc_28 (by first | rfl | simp [up]) ?_))
                obtain ⟨hi23, hS⟩ := hS
                refine wz_iast dX7_in_143 ga_55 gc_55 hi23 rfl (q_ald0 dX7_in_144 (wz_dup dX7_in_145 rfl (wz_getI (v := (h10 28 0 7)) dX7_in_146 cf7 t506 (kf := 7) gi_28_7 gc_28 (by first | rfl | simp [up]) (wz_iconst dX7_in_149 kiconst_1 (wz_iadd dX7_in_150 (wz_putI dX7_in_151 cf7 t506 (kf := 7) gp_28_7 gc_28 rfl (q_ald0 dX7_in_154 ?_)))))))
                refine wz_pc (pc2 := 155) rfl ?_
                refine wz_dup dX7_in_155 rfl (wz_getI (v := (h10 28 0 5)) dX7_in_156 cf7 t501 (kf := 5) gi_28_5 gc_28 (by first | rfl | simp [up]) (wz_iconst dX7_in_159 kiconst_1 (wz_iadd dX7_in_160 (wz_putI dX7_in_161 cf7 t501 (kf := 5) gp_28_5 gc_28 rfl (q_ald0 dX7_in_164 (wz_getI (v := ((h10 28 0 5) + 1)) dX7_in_165 cf7 t501 (kf := 5) gi_28_5 gc_28 (by first | rfl | simp [up]) (wz_iconst dX7_in_168 kiconst_1 ?_)))))))
                refine wz_pc (pc2 := 169) rfl ?_
                refine wz_isub dX7_in_169 ?_
                exact wi_ret dX7_in_170 rfl hS
              · replace hS := hS.2 c21
                refine q_ald0 dX7_in_94 (wz_ldc dX7_in_95 t365 ?_)
                refine wz_virtI (M := MX7_in) (pc := 97) (M' := MX7_finds) (n := 1) (As := [.int (-1000000004)]) (st := []) dX7_in_97 cf7 rfl go_28 gc_28 rfl cat_i okX7_in_X7_finds cwX7_132 (Nat.le_of_ble_eq_true rfl) ⟨Nat.zero_le _, Nat.zero_le _⟩ rfl (ls0 := [some (rf 28 0), some (.int (-1000000004))]) rfl (sX7_finds  hS) (fun r25 h24 hS => ?_)
                exact wi_ret dX7_in_100 rfl hS
            · replace hS := hS.2 c20
              refine q_ald0 dX7_in_68 (wz_getR dX7_in_69 cf7 t379 (kf := 11) gr_28_11 gc_28 (q_ild2 dX7_in_72 (wz_iald dX7_in_73 ga_30 gc_30 hi19 rfl (q_ild1 dX7_in_74 ?_))))
              refine wz_icmp_eq (tgt := 85) dX7_in_75 rfl (fun c26 => ?_) (fun c26 => ?_)
              · replace hS := hS.1 c26
                refine q_ald0 dX7_in_85 (wz_getI dX7_in_86 cf7 t501 (kf := 5) gi_28_5 gc_28 rfl (wz_bipush dX7_in_89 kbipush_40 ?_))
                refine wz_icmp_ne (tgt := 101) dX7_in_91 rfl (fun c27 => ?_) (fun c27 => ?_)
                · replace hS := hS.1 c27
                  refine q_ald0 dX7_in_101 (wz_getR dX7_in_102 cf7 t502 (kf := 31) gr_28_31 gc_28 (q_ald0 dX7_in_105 (wz_getI dX7_in_106 cf7 t501 (kf := 5) gi_28_5 gc_28 rfl (q_ild1 dX7_in_109 ?_))))
                  obtain ⟨hi28, hS⟩ := hS
                  refine wz_iast dX7_in_110 ga_50 gc_50 hi28 rfl (q_ald0 dX7_in_111 (wz_getR dX7_in_112 cf7 t503 (kf := 32) gr_28_32 gc_28 (q_ald0 dX7_in_115 (wz_getI (v := (h10 28 0 5)) dX7_in_116 cf7 t501 (kf := 5) gi_28_5 gc_28 (by first | rfl | simp [up]) (q_ild2 dX7_in_119 (wz_iast dX7_in_120 ga_51 gc_51 hi28 rfl (q_ald0 dX7_in_121 ?_)))))))
                  refine wz_pc (pc2 := 122) rfl ?_
                  refine wz_getR dX7_in_122 cf7 t504 (kf := 33) gr_28_33 gc_28 (q_ald0 dX7_in_125 (wz_getI (v := (h10 28 0 5)) dX7_in_126 cf7 t501 (kf := 5) gi_28_5 gc_28 (by first | rfl | simp [up]) (q_ild3 dX7_in_129 (wz_iast dX7_in_130 ga_52 gc_52 hi28 rfl (q_ald0 dX7_in_131 (wz_getR dX7_in_132 cf7 t505 (kf := 36) gr_28_36 gc_28 (q_ald0 dX7_in_135 ?_)))))))
                  refine wz_pc (pc2 := 136) rfl ?_
                  refine wz_getI (v := (h10 28 0 7)) dX7_in_136 cf7 t506 (kf := 7) gi_28_7 gc_28 (by first | rfl | simp [up]) (q_ald0 dX7_in_139 (wz_getI (v := (h10 28 0 5)) dX7_in_140 cf7 t501 (kf := 5) gi_28_5 gc_28 (by first | rfl | simp [up]) ?_))
                  obtain ⟨hi29, hS⟩ := hS
                  refine wz_iast dX7_in_143 ga_55 gc_55 hi29 rfl (q_ald0 dX7_in_144 (wz_dup dX7_in_145 rfl (wz_getI (v := (h10 28 0 7)) dX7_in_146 cf7 t506 (kf := 7) gi_28_7 gc_28 (by first | rfl | simp [up]) (wz_iconst dX7_in_149 kiconst_1 (wz_iadd dX7_in_150 (wz_putI dX7_in_151 cf7 t506 (kf := 7) gp_28_7 gc_28 rfl (q_ald0 dX7_in_154 ?_)))))))
                  refine wz_pc (pc2 := 155) rfl ?_
                  refine wz_dup dX7_in_155 rfl (wz_getI (v := (h10 28 0 5)) dX7_in_156 cf7 t501 (kf := 5) gi_28_5 gc_28 (by first | rfl | simp [up]) (wz_iconst dX7_in_159 kiconst_1 (wz_iadd dX7_in_160 (wz_putI dX7_in_161 cf7 t501 (kf := 5) gp_28_5 gc_28 rfl (q_ald0 dX7_in_164 (wz_getI (v := ((h10 28 0 5) + 1)) dX7_in_165 cf7 t501 (kf := 5) gi_28_5 gc_28 (by first | rfl | simp [up]) (wz_iconst dX7_in_168 kiconst_1 ?_)))))))
                  refine wz_pc (pc2 := 169) rfl ?_
                  refine wz_isub dX7_in_169 ?_
                  exact wi_ret dX7_in_170 rfl hS
                · replace hS := hS.2 c27
                  refine q_ald0 dX7_in_94 (wz_ldc dX7_in_95 t365 ?_)
                  refine wz_virtI (M := MX7_in) (pc := 97) (M' := MX7_finds) (n := 1) (As := [.int (-1000000004)]) (st := []) dX7_in_97 cf7 rfl go_28 gc_28 rfl cat_i okX7_in_X7_finds cwX7_132 (Nat.le_of_ble_eq_true rfl) ⟨Nat.zero_le _, Nat.zero_le _⟩ rfl (ls0 := [some (rf 28 0), some (.int (-1000000004))]) rfl (sX7_finds  hS) (fun r31 h30 hS => ?_)
                  exact wi_ret dX7_in_100 rfl hS
              · replace hS := hS.2 c26
                refine q_ald0 dX7_in_78 (wz_ldc dX7_in_79 t382 ?_)
                refine wz_virtI (M := MX7_in) (pc := 81) (M' := MX7_finds) (n := 1) (As := [.int (-1000000003)]) (st := []) dX7_in_81 cf7 rfl go_28 gc_28 rfl cat_i okX7_in_X7_finds cwX7_132 (Nat.le_of_ble_eq_true rfl) ⟨Nat.zero_le _, Nat.zero_le _⟩ rfl (ls0 := [some (rf 28 0), some (.int (-1000000003))]) rfl (sX7_finds  hS) (fun r33 h32 hS => ?_)
                exact wi_ret dX7_in_84 rfl hS
        · replace hS := hS.2 c12
          refine q_ald0 dX7_in_46 (wz_ldc dX7_in_47 t371 ?_)
          refine wz_virtI (M := MX7_in) (pc := 49) (M' := MX7_finds) (n := 1) (As := [.int (-1000000005)]) (st := []) dX7_in_49 cf7 rfl go_28 gc_28 rfl cat_i okX7_in_X7_finds cwX7_132 (Nat.le_of_ble_eq_true rfl) ⟨Nat.zero_le _, Nat.zero_le _⟩ rfl (ls0 := [some (rf 28 0), some (.int (-1000000005))]) rfl (sX7_finds  hS) (fun r35 h34 hS => ?_)
          exact wi_ret dX7_in_52 rfl hS
      · replace hS := hS.2 c9
        refine q_ald0 dX7_in_31 (wz_ldc dX7_in_32 t370 ?_)
        refine wz_virtI (M := MX7_in) (pc := 34) (M' := MX7_finds) (n := 1) (As := [.int (-1000000001)]) (st := []) dX7_in_34 cf7 rfl go_28 gc_28 rfl cat_i okX7_in_X7_finds cwX7_132 (Nat.le_of_ble_eq_true rfl) ⟨Nat.zero_le _, Nat.zero_le _⟩ rfl (ls0 := [some (rf 28 0), some (.int (-1000000001))]) rfl (sX7_finds  hS) (fun r37 h36 hS => ?_)
        exact wi_ret dX7_in_37 rfl hS
    · replace hS := hS.2 c6
      refine q_ald0 dX7_in_13 (q_ild2 dX7_in_14 ?_)
      refine wz_virtI (M := MX7_in) (pc := 15) (M' := MX7_isContract) (n := 1) (As := [.int a2]) (st := []) dX7_in_15 cf7 rfl go_28 gc_28 rfl cat_i okX7_in_X7_isContract cwX7_150 (Nat.le_of_ble_eq_true rfl) ⟨Nat.zero_le _, Nat.zero_le _⟩ rfl (ls0 := [some (rf 28 0), some (.int a2)]) rfl (sX7_isContract  hS) (fun r39 h38 hS => ?_)
      refine wz_if_eq (tgt := 31) dX7_in_18 rfl (fun c40 => ?_) (fun c40 => ?_)
      · replace hS := hS.1 c40
        refine q_ald0 dX7_in_31 (wz_ldc dX7_in_32 t370 ?_)
        refine wz_virtI (M := MX7_in) (pc := 34) (M' := MX7_finds) (n := 1) (As := [.int (-1000000001)]) (st := []) dX7_in_34 cf7 rfl go_28 gc_28 rfl cat_i okX7_in_X7_finds cwX7_132 (Nat.le_of_ble_eq_true rfl) ⟨Nat.zero_le _, Nat.zero_le _⟩ rfl (ls0 := [some (rf 28 0), some (.int (-1000000001))]) rfl (sX7_finds  hS) (fun r42 h41 hS => ?_)
        exact wi_ret dX7_in_37 rfl hS
      · replace hS := hS.2 c40
        refine q_ild3 dX7_in_21 (wz_iconst dX7_in_22 kiconst_1 (wz_ldc dX7_in_23 t381 ?_))
        refine wz_statI (M := MX7_in) (pc := 25) (M' := MX7_isIn) (n := 3) (As := [.int a3, .int 1, .int 100000]) (st := []) dX7_in_25 rfl cat_iii okX7_in_X7_isIn cwX7_121 (Nat.le_of_ble_eq_true rfl) ⟨Nat.zero_le _, Nat.zero_le _⟩ rfl (ls0 := [some (.int a3), some (.int 1), some (.int 100000)]) rfl (sX7_isIn  hS) (fun r44 h43 hS => ?_)
        refine wz_if_ne (tgt := 38) dX7_in_28 rfl (fun c45 => ?_) (fun c45 => ?_)
        · replace hS := hS.1 c45
          refine q_ald0 dX7_in_38 (q_ild1 dX7_in_39 ?_)
          refine wz_virtI (M := MX7_in) (pc := 40) (M' := MX7_isBuilder) (n := 1) (As := [.int a1]) (st := []) dX7_in_40 cf7 rfl go_28 gc_28 rfl cat_i okX7_in_X7_isBuilder cwX7_235 (Nat.le_of_ble_eq_true rfl) ⟨Nat.zero_le _, Nat.zero_le _⟩ rfl (ls0 := [some (rf 28 0), some (.int a1)]) rfl (sX7_isBuilder  hS) (fun r47 h46 hS => ?_)
          refine wz_if_ne (tgt := 53) dX7_in_43 rfl (fun c48 => ?_) (fun c48 => ?_)
          · replace hS := hS.1 c48
            refine q_ild2 dX7_in_53 (wz_iconst dX7_in_54 kiconst_m1 ?_)
            refine wz_icmp_eq (tgt := 85) dX7_in_55 rfl (fun c49 => ?_) (fun c49 => ?_)
            · replace hS := hS.1 c49
              refine q_ald0 dX7_in_85 (wz_getI dX7_in_86 cf7 t501 (kf := 5) gi_28_5 gc_28 rfl (wz_bipush dX7_in_89 kbipush_40 ?_))
              refine wz_icmp_ne (tgt := 101) dX7_in_91 rfl (fun c50 => ?_) (fun c50 => ?_)
              · replace hS := hS.1 c50
                refine q_ald0 dX7_in_101 (wz_getR dX7_in_102 cf7 t502 (kf := 31) gr_28_31 gc_28 (q_ald0 dX7_in_105 (wz_getI dX7_in_106 cf7 t501 (kf := 5) gi_28_5 gc_28 rfl (q_ild1 dX7_in_109 ?_))))
                obtain ⟨hi51, hS⟩ := hS
                refine wz_iast dX7_in_110 ga_50 gc_50 hi51 rfl (q_ald0 dX7_in_111 (wz_getR dX7_in_112 cf7 t503 (kf := 32) gr_28_32 gc_28 (q_ald0 dX7_in_115 (wz_getI (v := (h46 28 0 5)) dX7_in_116 cf7 t501 (kf := 5) gi_28_5 gc_28 (by first | rfl | simp [up]) (q_ild2 dX7_in_119 (wz_iast dX7_in_120 ga_51 gc_51 hi51 rfl (q_ald0 dX7_in_121 ?_)))))))
                refine wz_pc (pc2 := 122) rfl ?_
                refine wz_getR dX7_in_122 cf7 t504 (kf := 33) gr_28_33 gc_28 (q_ald0 dX7_in_125 (wz_getI (v := (h46 28 0 5)) dX7_in_126 cf7 t501 (kf := 5) gi_28_5 gc_28 (by first | rfl | simp [up]) (q_ild3 dX7_in_129 (wz_iast dX7_in_130 ga_52 gc_52 hi51 rfl (q_ald0 dX7_in_131 (wz_getR dX7_in_132 cf7 t505 (kf := 36) gr_28_36 gc_28 (q_ald0 dX7_in_135 ?_)))))))
                refine wz_pc (pc2 := 136) rfl ?_
                refine wz_getI (v := (h46 28 0 7)) dX7_in_136 cf7 t506 (kf := 7) gi_28_7 gc_28 (by first | rfl | simp [up]) (q_ald0 dX7_in_139 (wz_getI (v := (h46 28 0 5)) dX7_in_140 cf7 t501 (kf := 5) gi_28_5 gc_28 (by first | rfl | simp [up]) ?_))
                obtain ⟨hi52, hS⟩ := hS
                refine wz_iast dX7_in_143 ga_55 gc_55 hi52 rfl (q_ald0 dX7_in_144 (wz_dup dX7_in_145 rfl (wz_getI (v := (h46 28 0 7)) dX7_in_146 cf7 t506 (kf := 7) gi_28_7 gc_28 (by first | rfl | simp [up]) (wz_iconst dX7_in_149 kiconst_1 (wz_iadd dX7_in_150 (wz_putI dX7_in_151 cf7 t506 (kf := 7) gp_28_7 gc_28 rfl (q_ald0 dX7_in_154 ?_)))))))
                refine wz_pc (pc2 := 155) rfl ?_
                refine wz_dup dX7_in_155 rfl (wz_getI (v := (h46 28 0 5)) dX7_in_156 cf7 t501 (kf := 5) gi_28_5 gc_28 (by first | rfl | simp [up]) (wz_iconst dX7_in_159 kiconst_1 (wz_iadd dX7_in_160 (wz_putI dX7_in_161 cf7 t501 (kf := 5) gp_28_5 gc_28 rfl (q_ald0 dX7_in_164 (wz_getI (v := ((h46 28 0 5) + 1)) dX7_in_165 cf7 t501 (kf := 5) gi_28_5 gc_28 (by first | rfl | simp [up]) (wz_iconst dX7_in_168 kiconst_1 ?_)))))))
                refine wz_pc (pc2 := 169) rfl ?_
                refine wz_isub dX7_in_169 ?_
                exact wi_ret dX7_in_170 rfl hS
              · replace hS := hS.2 c50
                refine q_ald0 dX7_in_94 (wz_ldc dX7_in_95 t365 ?_)
                refine wz_virtI (M := MX7_in) (pc := 97) (M' := MX7_finds) (n := 1) (As := [.int (-1000000004)]) (st := []) dX7_in_97 cf7 rfl go_28 gc_28 rfl cat_i okX7_in_X7_finds cwX7_132 (Nat.le_of_ble_eq_true rfl) ⟨Nat.zero_le _, Nat.zero_le _⟩ rfl (ls0 := [some (rf 28 0), some (.int (-1000000004))]) rfl (sX7_finds  hS) (fun r54 h53 hS => ?_)
                exact wi_ret dX7_in_100 rfl hS
            · replace hS := hS.2 c49
              refine q_ald0 dX7_in_58 (wz_getR dX7_in_59 cf7 t380 (kf := 12) gr_28_12 gc_28 (q_ild2 dX7_in_62 ?_))
              obtain ⟨hi55, hS⟩ := hS
              refine wz_iald dX7_in_63 ga_31 gc_31 hi55 rfl (q_ild1 dX7_in_64 ?_)
              refine wz_icmp_eq (tgt := 85) dX7_in_65 rfl (fun c56 => ?_) (fun c56 => ?_)
              · replace hS := hS.1 c56
                refine q_ald0 dX7_in_85 (wz_getI dX7_in_86 cf7 t501 (kf := 5) gi_28_5 gc_28 rfl (wz_bipush dX7_in_89 kbipush_40 ?_))
                refine wz_icmp_ne (tgt := 101) dX7_in_91 rfl (fun c57 => ?_) (fun c57 => ?_)
                · replace hS := hS.1 c57
                  refine q_ald0 dX7_in_101 (wz_getR dX7_in_102 cf7 t502 (kf := 31) gr_28_31 gc_28 (q_ald0 dX7_in_105 (wz_getI dX7_in_106 cf7 t501 (kf := 5) gi_28_5 gc_28 rfl (q_ild1 dX7_in_109 ?_))))
                  obtain ⟨hi58, hS⟩ := hS
                  refine wz_iast dX7_in_110 ga_50 gc_50 hi58 rfl (q_ald0 dX7_in_111 (wz_getR dX7_in_112 cf7 t503 (kf := 32) gr_28_32 gc_28 (q_ald0 dX7_in_115 (wz_getI (v := (h46 28 0 5)) dX7_in_116 cf7 t501 (kf := 5) gi_28_5 gc_28 (by first | rfl | simp [up]) (q_ild2 dX7_in_119 (wz_iast dX7_in_120 ga_51 gc_51 hi58 rfl (q_ald0 dX7_in_121 ?_)))))))
                  refine wz_pc (pc2 := 122) rfl ?_
                  refine wz_getR dX7_in_122 cf7 t504 (kf := 33) gr_28_33 gc_28 (q_ald0 dX7_in_125 (wz_getI (v := (h46 28 0 5)) dX7_in_126 cf7 t501 (kf := 5) gi_28_5 gc_28 (by first | rfl | simp [up]) (q_ild3 dX7_in_129 (wz_iast dX7_in_130 ga_52 gc_52 hi58 rfl (q_ald0 dX7_in_131 (wz_getR dX7_in_132 cf7 t505 (kf := 36) gr_28_36 gc_28 (q_ald0 dX7_in_135 ?_)))))))
                  refine wz_pc (pc2 := 136) rfl ?_
                  refine wz_getI (v := (h46 28 0 7)) dX7_in_136 cf7 t506 (kf := 7) gi_28_7 gc_28 (by first | rfl | simp [up]) (q_ald0 dX7_in_139 (wz_getI (v := (h46 28 0 5)) dX7_in_140 cf7 t501 (kf := 5) gi_28_5 gc_28 (by first | rfl | simp [up]) ?_))
                  obtain ⟨hi59, hS⟩ := hS
                  refine wz_iast dX7_in_143 ga_55 gc_55 hi59 rfl (q_ald0 dX7_in_144 (wz_dup dX7_in_145 rfl (wz_getI (v := (h46 28 0 7)) dX7_in_146 cf7 t506 (kf := 7) gi_28_7 gc_28 (by first | rfl | simp [up]) (wz_iconst dX7_in_149 kiconst_1 (wz_iadd dX7_in_150 (wz_putI dX7_in_151 cf7 t506 (kf := 7) gp_28_7 gc_28 rfl (q_ald0 dX7_in_154 ?_)))))))
                  refine wz_pc (pc2 := 155) rfl ?_
                  refine wz_dup dX7_in_155 rfl (wz_getI (v := (h46 28 0 5)) dX7_in_156 cf7 t501 (kf := 5) gi_28_5 gc_28 (by first | rfl | simp [up]) (wz_iconst dX7_in_159 kiconst_1 (wz_iadd dX7_in_160 (wz_putI dX7_in_161 cf7 t501 (kf := 5) gp_28_5 gc_28 rfl (q_ald0 dX7_in_164 (wz_getI (v := ((h46 28 0 5) + 1)) dX7_in_165 cf7 t501 (kf := 5) gi_28_5 gc_28 (by first | rfl | simp [up]) (wz_iconst dX7_in_168 kiconst_1 ?_)))))))
                  refine wz_pc (pc2 := 169) rfl ?_
                  refine wz_isub dX7_in_169 ?_
                  exact wi_ret dX7_in_170 rfl hS
                · replace hS := hS.2 c57
                  refine q_ald0 dX7_in_94 (wz_ldc dX7_in_95 t365 ?_)
                  refine wz_virtI (M := MX7_in) (pc := 97) (M' := MX7_finds) (n := 1) (As := [.int (-1000000004)]) (st := []) dX7_in_97 cf7 rfl go_28 gc_28 rfl cat_i okX7_in_X7_finds cwX7_132 (Nat.le_of_ble_eq_true rfl) ⟨Nat.zero_le _, Nat.zero_le _⟩ rfl (ls0 := [some (rf 28 0), some (.int (-1000000004))]) rfl (sX7_finds  hS) (fun r61 h60 hS => ?_)
                  exact wi_ret dX7_in_100 rfl hS
              · replace hS := hS.2 c56
                refine q_ald0 dX7_in_68 (wz_getR dX7_in_69 cf7 t379 (kf := 11) gr_28_11 gc_28 (q_ild2 dX7_in_72 (wz_iald dX7_in_73 ga_30 gc_30 hi55 rfl (q_ild1 dX7_in_74 ?_))))
                refine wz_icmp_eq (tgt := 85) dX7_in_75 rfl (fun c62 => ?_) (fun c62 => ?_)
                · replace hS := hS.1 c62
                  refine q_ald0 dX7_in_85 (wz_getI dX7_in_86 cf7 t501 (kf := 5) gi_28_5 gc_28 rfl (wz_bipush dX7_in_89 kbipush_40 ?_))
                  refine wz_icmp_ne (tgt := 101) dX7_in_91 rfl (fun c63 => ?_) (fun c63 => ?_)
                  · replace hS := hS.1 c63
                    refine q_ald0 dX7_in_101 (wz_getR dX7_in_102 cf7 t502 (kf := 31) gr_28_31 gc_28 (q_ald0 dX7_in_105 (wz_getI dX7_in_106 cf7 t501 (kf := 5) gi_28_5 gc_28 rfl (q_ild1 dX7_in_109 ?_))))
                    obtain ⟨hi64, hS⟩ := hS
                    refine wz_iast dX7_in_110 ga_50 gc_50 hi64 rfl (q_ald0 dX7_in_111 (wz_getR dX7_in_112 cf7 t503 (kf := 32) gr_28_32 gc_28 (q_ald0 dX7_in_115 (wz_getI (v := (h46 28 0 5)) dX7_in_116 cf7 t501 (kf := 5) gi_28_5 gc_28 (by first | rfl | simp [up]) (q_ild2 dX7_in_119 (wz_iast dX7_in_120 ga_51 gc_51 hi64 rfl (q_ald0 dX7_in_121 ?_)))))))
                    refine wz_pc (pc2 := 122) rfl ?_
                    refine wz_getR dX7_in_122 cf7 t504 (kf := 33) gr_28_33 gc_28 (q_ald0 dX7_in_125 (wz_getI (v := (h46 28 0 5)) dX7_in_126 cf7 t501 (kf := 5) gi_28_5 gc_28 (by first | rfl | simp [up]) (q_ild3 dX7_in_129 (wz_iast dX7_in_130 ga_52 gc_52 hi64 rfl (q_ald0 dX7_in_131 (wz_getR dX7_in_132 cf7 t505 (kf := 36) gr_28_36 gc_28 (q_ald0 dX7_in_135 ?_)))))))
                    refine wz_pc (pc2 := 136) rfl ?_
                    refine wz_getI (v := (h46 28 0 7)) dX7_in_136 cf7 t506 (kf := 7) gi_28_7 gc_28 (by first | rfl | simp [up]) (q_ald0 dX7_in_139 (wz_getI (v := (h46 28 0 5)) dX7_in_140 cf7 t501 (kf := 5) gi_28_5 gc_28 (by first | rfl | simp [up]) ?_))
                    obtain ⟨hi65, hS⟩ := hS
                    refine wz_iast dX7_in_143 ga_55 gc_55 hi65 rfl (q_ald0 dX7_in_144 (wz_dup dX7_in_145 rfl (wz_getI (v := (h46 28 0 7)) dX7_in_146 cf7 t506 (kf := 7) gi_28_7 gc_28 (by first | rfl | simp [up]) (wz_iconst dX7_in_149 kiconst_1 (wz_iadd dX7_in_150 (wz_putI dX7_in_151 cf7 t506 (kf := 7) gp_28_7 gc_28 rfl (q_ald0 dX7_in_154 ?_)))))))
                    refine wz_pc (pc2 := 155) rfl ?_
                    refine wz_dup dX7_in_155 rfl (wz_getI (v := (h46 28 0 5)) dX7_in_156 cf7 t501 (kf := 5) gi_28_5 gc_28 (by first | rfl | simp [up]) (wz_iconst dX7_in_159 kiconst_1 (wz_iadd dX7_in_160 (wz_putI dX7_in_161 cf7 t501 (kf := 5) gp_28_5 gc_28 rfl (q_ald0 dX7_in_164 (wz_getI (v := ((h46 28 0 5) + 1)) dX7_in_165 cf7 t501 (kf := 5) gi_28_5 gc_28 (by first | rfl | simp [up]) (wz_iconst dX7_in_168 kiconst_1 ?_)))))))
                    refine wz_pc (pc2 := 169) rfl ?_
                    refine wz_isub dX7_in_169 ?_
                    exact wi_ret dX7_in_170 rfl hS
                  · replace hS := hS.2 c63
                    refine q_ald0 dX7_in_94 (wz_ldc dX7_in_95 t365 ?_)
                    refine wz_virtI (M := MX7_in) (pc := 97) (M' := MX7_finds) (n := 1) (As := [.int (-1000000004)]) (st := []) dX7_in_97 cf7 rfl go_28 gc_28 rfl cat_i okX7_in_X7_finds cwX7_132 (Nat.le_of_ble_eq_true rfl) ⟨Nat.zero_le _, Nat.zero_le _⟩ rfl (ls0 := [some (rf 28 0), some (.int (-1000000004))]) rfl (sX7_finds  hS) (fun r67 h66 hS => ?_)
                    exact wi_ret dX7_in_100 rfl hS
                · replace hS := hS.2 c62
                  refine q_ald0 dX7_in_78 (wz_ldc dX7_in_79 t382 ?_)
                  refine wz_virtI (M := MX7_in) (pc := 81) (M' := MX7_finds) (n := 1) (As := [.int (-1000000003)]) (st := []) dX7_in_81 cf7 rfl go_28 gc_28 rfl cat_i okX7_in_X7_finds cwX7_132 (Nat.le_of_ble_eq_true rfl) ⟨Nat.zero_le _, Nat.zero_le _⟩ rfl (ls0 := [some (rf 28 0), some (.int (-1000000003))]) rfl (sX7_finds  hS) (fun r69 h68 hS => ?_)
                  exact wi_ret dX7_in_84 rfl hS
          · replace hS := hS.2 c48
            refine q_ald0 dX7_in_46 (wz_ldc dX7_in_47 t371 ?_)
            refine wz_virtI (M := MX7_in) (pc := 49) (M' := MX7_finds) (n := 1) (As := [.int (-1000000005)]) (st := []) dX7_in_49 cf7 rfl go_28 gc_28 rfl cat_i okX7_in_X7_finds cwX7_132 (Nat.le_of_ble_eq_true rfl) ⟨Nat.zero_le _, Nat.zero_le _⟩ rfl (ls0 := [some (rf 28 0), some (.int (-1000000005))]) rfl (sX7_finds  hS) (fun r71 h70 hS => ?_)
            exact wi_ret dX7_in_52 rfl hS
        · replace hS := hS.2 c45
          refine q_ald0 dX7_in_31 (wz_ldc dX7_in_32 t370 ?_)
          refine wz_virtI (M := MX7_in) (pc := 34) (M' := MX7_finds) (n := 1) (As := [.int (-1000000001)]) (st := []) dX7_in_34 cf7 rfl go_28 gc_28 rfl cat_i okX7_in_X7_finds cwX7_132 (Nat.le_of_ble_eq_true rfl) ⟨Nat.zero_le _, Nat.zero_le _⟩ rfl (ls0 := [some (rf 28 0), some (.int (-1000000001))]) rfl (sX7_finds  hS) (fun r73 h72 hS => ?_)
          exact wi_ret dX7_in_37 rfl hS
def SX7_account_0 (E : EN) (a1 : Int32) (h : TH) (Q : Int32 → TH → Prop) : Prop := wi E MX7_account Q 4 [some (rf 28 0), some (.int a1), some (.int 0), some (.int 0)] [] h
set_option maxRecDepth 20000 in
theorem sX7_account_0 {E : EN} {a1 : Int32} {h : TH} {Q : Int32 → TH → Prop}  (hS : SX7_account_0 E a1 h Q) : wi E MX7_account Q 0 [some (rf 28 0), some (.int a1), none, none] [] h := by
  refine wz_iconst dX7_account_0 kiconst_0 (q_ist2 dX7_account_1 (ltX7_account_2) rfl (wz_iconst dX7_account_2 kiconst_0 (q_ist3 dX7_account_3 (ltX7_account_3) rfl ?_)))
  exact hS
def SX7_account_4 (E : EN) (x1 : Int32) (x2 : Int32) (x3 : Int32) (h : TH) (Q : Int32 → TH → Prop) : Prop := (((h 28 0 5) ≤ x3 → wi E MX7_account Q 43 [some (rf 28 0), some (.int x1), some (.int x2), some (.int 0)] [] h) ∧ (¬ (h 28 0 5) ≤ x3 → vp_in x3 40 ∧ ((¬ (h 50 0 (x3.toNatClampNeg)) = x1 → wi E MX7_account Q 4 [some (rf 28 0), some (.int x1), some (.int (x2 + 0)), some (.int (x3 + 1))] [] h) ∧ ((h 50 0 (x3.toNatClampNeg)) = x1 → wi E MX7_account Q 4 [some (rf 28 0), some (.int x1), some (.int (x2 + (h 52 0 (x3.toNatClampNeg)))), some (.int (x3 + 1))] [] h))))
set_option maxRecDepth 20000 in
theorem sX7_account_4 {E : EN} {x1 : Int32} {x2 : Int32} {x3 : Int32} {h : TH} {Q : Int32 → TH → Prop}  (hS : SX7_account_4 E x1 x2 x3 h Q) : wi E MX7_account Q 4 [some (rf 28 0), some (.int x1), some (.int x2), some (.int x3)] [] h := by
  refine q_ild3 dX7_account_4 (q_ald0 dX7_account_5 (wz_getI dX7_account_6 cf7 t501 (kf := 5) gi_28_5 gc_28 rfl ?_))
  refine wz_icmp_ge (tgt := 41) dX7_account_9 rfl (fun c1 => ?_) (fun c1 => ?_)
  · replace hS := hS.1 c1
    refine wz_iconst dX7_account_41 kiconst_0 (q_ist3 dX7_account_42 (ltX7_account_3) rfl ?_)
    exact hS
  · replace hS := hS.2 c1
    refine q_ild2 dX7_account_12 (q_ald0 dX7_account_13 (wz_getR dX7_account_14 cf7 t502 (kf := 31) gr_28_31 gc_28 (q_ild3 dX7_account_17 ?_)))
    obtain ⟨hi2, hS⟩ := hS
    refine wz_iald dX7_account_18 ga_50 gc_50 hi2 rfl (q_ild1 dX7_account_19 ?_)
    refine wz_icmp_ne (tgt := 32) dX7_account_20 rfl (fun c3 => ?_) (fun c3 => ?_)
    · replace hS := hS.1 c3
      refine wz_iconst dX7_account_32 kiconst_0 (wz_iadd dX7_account_33 (q_ist2 dX7_account_34 (ltX7_account_2) rfl (q_inc3 (v := (x3 + 1)) dX7_account_35 rfl (ltX7_account_3) rfl (wz_goto (tgt := 4) dX7_account_38 rfl ?_))))
      exact hS
    · replace hS := hS.2 c3
      refine q_ald0 dX7_account_23 (wz_getR dX7_account_24 cf7 t504 (kf := 33) gr_28_33 gc_28 (q_ild3 dX7_account_27 (wz_iald dX7_account_28 ga_52 gc_52 hi2 rfl (wz_goto (tgt := 33) dX7_account_29 rfl (wz_iadd dX7_account_33 (q_ist2 dX7_account_34 (ltX7_account_2) rfl (q_inc3 (v := (x3 + 1)) dX7_account_35 rfl (ltX7_account_3) rfl ?_)))))))
      refine wz_pc (pc2 := 38) rfl ?_
      refine wz_goto (tgt := 4) dX7_account_38 rfl ?_
      exact hS
def SX7_account_43 (E : EN) (x1 : Int32) (x2 : Int32) (x3 : Int32) (h : TH) (Q : Int32 → TH → Prop) : Prop := (((h 28 0 6) ≤ x3 → Q x2 h) ∧ (¬ (h 28 0 6) ≤ x3 → vp_in x3 40 ∧ ((¬ (h 53 0 (x3.toNatClampNeg)) = x1 → wi E MX7_account Q 43 [some (rf 28 0), some (.int x1), some (.int (x2 - 0)), some (.int (x3 + 1))] [] h) ∧ ((h 53 0 (x3.toNatClampNeg)) = x1 → wi E MX7_account Q 43 [some (rf 28 0), some (.int x1), some (.int (x2 - (h 54 0 (x3.toNatClampNeg)))), some (.int (x3 + 1))] [] h))))
set_option maxRecDepth 20000 in
theorem sX7_account_43 {E : EN} {x1 : Int32} {x2 : Int32} {x3 : Int32} {h : TH} {Q : Int32 → TH → Prop}  (hS : SX7_account_43 E x1 x2 x3 h Q) : wi E MX7_account Q 43 [some (rf 28 0), some (.int x1), some (.int x2), some (.int x3)] [] h := by
  refine q_ild3 dX7_account_43 (q_ald0 dX7_account_44 (wz_getI dX7_account_45 cf7 t511 (kf := 6) gi_28_6 gc_28 rfl ?_))
  refine wz_icmp_ge (tgt := 80) dX7_account_48 rfl (fun c1 => ?_) (fun c1 => ?_)
  · replace hS := hS.1 c1
    refine q_ild2 dX7_account_80 ?_
    exact wi_ret dX7_account_81 rfl hS
  · replace hS := hS.2 c1
    refine q_ild2 dX7_account_51 (q_ald0 dX7_account_52 (wz_getR dX7_account_53 cf7 t512 (kf := 34) gr_28_34 gc_28 (q_ild3 dX7_account_56 ?_)))
    obtain ⟨hi2, hS⟩ := hS
    refine wz_iald dX7_account_57 ga_53 gc_53 hi2 rfl (q_ild1 dX7_account_58 ?_)
    refine wz_icmp_ne (tgt := 71) dX7_account_59 rfl (fun c3 => ?_) (fun c3 => ?_)
    · replace hS := hS.1 c3
      refine wz_iconst dX7_account_71 kiconst_0 (wz_isub dX7_account_72 (q_ist2 dX7_account_73 (ltX7_account_2) rfl (q_inc3 (v := (x3 + 1)) dX7_account_74 rfl (ltX7_account_3) rfl (wz_goto (tgt := 43) dX7_account_77 rfl ?_))))
      exact hS
    · replace hS := hS.2 c3
      refine q_ald0 dX7_account_62 (wz_getR dX7_account_63 cf7 t513 (kf := 35) gr_28_35 gc_28 (q_ild3 dX7_account_66 (wz_iald dX7_account_67 ga_54 gc_54 hi2 rfl (wz_goto (tgt := 72) dX7_account_68 rfl (wz_isub dX7_account_72 (q_ist2 dX7_account_73 (ltX7_account_2) rfl (q_inc3 (v := (x3 + 1)) dX7_account_74 rfl (ltX7_account_3) rfl ?_)))))))
      refine wz_pc (pc2 := 77) rfl ?_
      refine wz_goto (tgt := 43) dX7_account_77 rfl ?_
      exact hS
def SX7_out (E : EN) (a1 : Int32) (a2 : Int32) (h : TH) (Q : Int32 → TH → Prop) : Prop := SX7_isParty E a1 h (fun r2 h1 => ((r2 = 0 → SX7_finds E (-1000000001) h1 (fun r5 h4 => Q r5 h4)) ∧ (¬ r2 = 0 → SX7_isIn E a2 1 1000000 h1 (fun r7 h6 => ((¬ r7 = 0 → SX7_isBuilder E a1 h6 (fun r10 h9 => ((¬ r10 = 0 → wi E MX7_account (fun r13 h12 => ((a2 ≤ r13 → ((¬ (h12 28 0 6) = 40 → vp_in (h12 28 0 6) 40 ∧ vp_in (h12 28 0 7) 80 ∧ wi E MX7_account (fun r19 h18 => Q r19 h18) 0 [some (rf 28 0), some (.int a1), none, none] [] (up (up (up (up (up h12 53 0 ((h12 28 0 6).toNatClampNeg) a1) 54 0 ((h12 28 0 6).toNatClampNeg) a2) 55 0 ((h12 28 0 7).toNatClampNeg) (100 + (h12 28 0 6))) 28 0 7 ((h12 28 0 7) + 1)) 28 0 6 ((h12 28 0 6) + 1))) ∧ ((h12 28 0 6) = 40 → SX7_finds E (-1000000004) h12 (fun r21 h20 => Q r21 h20)))) ∧ (¬ a2 ≤ r13 → SX7_finds E (-1000000003) h12 (fun r23 h22 => Q r23 h22)))) 0 [some (rf 28 0), some (.int a1), none, none] [] h9) ∧ (r10 = 0 → SX7_finds E (-1000000005) h9 (fun r25 h24 => Q r25 h24))))) ∧ (r7 = 0 → SX7_finds E (-1000000001) h6 (fun r27 h26 => Q r27 h26)))))))
set_option maxRecDepth 20000 in
theorem sX7_out {E : EN} {a1 : Int32} {a2 : Int32} {h : TH} {Q : Int32 → TH → Prop}  (hS : SX7_out E a1 a2 h Q) : wi E MX7_out Q 0 [some (rf 28 0), some (.int a1), some (.int a2)] [] h := by
  refine q_ald0 dX7_out_0 (q_ild1 dX7_out_1 ?_)
  refine wz_virtI (M := MX7_out) (pc := 2) (M' := MX7_isParty) (n := 1) (As := [.int a1]) (st := []) dX7_out_2 cf7 rfl go_28 gc_28 rfl cat_i okX7_out_X7_isParty cwX7_136 (Nat.le_of_ble_eq_true rfl) ⟨Nat.zero_le _, Nat.zero_le _⟩ rfl (ls0 := [some (rf 28 0), some (.int a1)]) rfl (sX7_isParty  hS) (fun r2 h1 hS => ?_)
  refine wz_if_eq (tgt := 18) dX7_out_5 rfl (fun c3 => ?_) (fun c3 => ?_)
  · replace hS := hS.1 c3
    refine q_ald0 dX7_out_18 (wz_ldc dX7_out_19 t370 ?_)
    refine wz_virtI (M := MX7_out) (pc := 21) (M' := MX7_finds) (n := 1) (As := [.int (-1000000001)]) (st := []) dX7_out_21 cf7 rfl go_28 gc_28 rfl cat_i okX7_out_X7_finds cwX7_132 (Nat.le_of_ble_eq_true rfl) ⟨Nat.zero_le _, Nat.zero_le _⟩ rfl (ls0 := [some (rf 28 0), some (.int (-1000000001))]) rfl (sX7_finds  hS) (fun r5 h4 hS => ?_)
    exact wi_ret dX7_out_24 rfl hS
  · replace hS := hS.2 c3
    refine q_ild2 dX7_out_8 (wz_iconst dX7_out_9 kiconst_1 (wz_ldc dX7_out_10 t394 ?_))
    refine wz_statI (M := MX7_out) (pc := 12) (M' := MX7_isIn) (n := 3) (As := [.int a2, .int 1, .int 1000000]) (st := []) dX7_out_12 rfl cat_iii okX7_out_X7_isIn cwX7_121 (Nat.le_of_ble_eq_true rfl) ⟨Nat.zero_le _, Nat.zero_le _⟩ rfl (ls0 := [some (.int a2), some (.int 1), some (.int 1000000)]) rfl (sX7_isIn  hS) (fun r7 h6 hS => ?_)
    refine wz_if_ne (tgt := 25) dX7_out_15 rfl (fun c8 => ?_) (fun c8 => ?_)
    · replace hS := hS.1 c8
      refine q_ald0 dX7_out_25 (q_ild1 dX7_out_26 ?_)
      refine wz_virtI (M := MX7_out) (pc := 27) (M' := MX7_isBuilder) (n := 1) (As := [.int a1]) (st := []) dX7_out_27 cf7 rfl go_28 gc_28 rfl cat_i okX7_out_X7_isBuilder cwX7_235 (Nat.le_of_ble_eq_true rfl) ⟨Nat.zero_le _, Nat.zero_le _⟩ rfl (ls0 := [some (rf 28 0), some (.int a1)]) rfl (sX7_isBuilder  hS) (fun r10 h9 hS => ?_)
      refine wz_if_ne (tgt := 40) dX7_out_30 rfl (fun c11 => ?_) (fun c11 => ?_)
      · replace hS := hS.1 c11
        refine q_ald0 dX7_out_40 (q_ild1 dX7_out_41 ?_)
        refine wz_virtI (M := MX7_out) (pc := 42) (M' := MX7_account) (n := 1) (As := [.int a1]) (st := []) dX7_out_42 cf7 rfl go_28 gc_28 rfl cat_i okX7_out_X7_account cwX7_247 (Nat.le_of_ble_eq_true rfl) ⟨Nat.zero_le _, Nat.zero_le _⟩ rfl (ls0 := [some (rf 28 0), some (.int a1), none, none]) rfl hS (fun r13 h12 hS => ?_)
        refine q_ild2 dX7_out_45 ?_
        refine wz_icmp_ge (tgt := 56) dX7_out_46 rfl (fun c14 => ?_) (fun c14 => ?_)
        · replace hS := hS.1 c14
          refine q_ald0 dX7_out_56 (wz_getI dX7_out_57 cf7 t511 (kf := 6) gi_28_6 gc_28 rfl (wz_bipush dX7_out_60 kbipush_40 ?_))
          refine wz_icmp_ne (tgt := 72) dX7_out_62 rfl (fun c15 => ?_) (fun c15 => ?_)
          · replace hS := hS.1 c15
            refine q_ald0 dX7_out_72 (wz_getR dX7_out_73 cf7 t512 (kf := 34) gr_28_34 gc_28 (q_ald0 dX7_out_76 (wz_getI dX7_out_77 cf7 t511 (kf := 6) gi_28_6 gc_28 rfl (q_ild1 dX7_out_80 ?_))))
            obtain ⟨hi16, hS⟩ := hS
            refine wz_iast dX7_out_81 ga_53 gc_53 hi16 rfl (q_ald0 dX7_out_82 (wz_getR dX7_out_83 cf7 t513 (kf := 35) gr_28_35 gc_28 (q_ald0 dX7_out_86 (wz_getI (v := (h12 28 0 6)) dX7_out_87 cf7 t511 (kf := 6) gi_28_6 gc_28 (by first | rfl | simp [up]) (q_ild2 dX7_out_90 (wz_iast dX7_out_91 ga_54 gc_54 hi16 rfl (q_ald0 dX7_out_92 ?_)))))))
            refine wz_pc (pc2 := 93) rfl ?_
            refine wz_getR dX7_out_93 cf7 t505 (kf := 36) gr_28_36 gc_28 (q_ald0 dX7_out_96 (wz_getI (v := (h12 28 0 7)) dX7_out_97 cf7 t506 (kf := 7) gi_28_7 gc_28 (by first | rfl | simp [up]) (wz_bipush dX7_out_100 kbipush_100 (q_ald0 dX7_out_102 (wz_getI (v := (h12 28 0 6)) dX7_out_103 cf7 t511 (kf := 6) gi_28_6 gc_28 (by first | rfl | simp [up]) (wz_iadd dX7_out_106 ?_))))))
            obtain ⟨hi17, hS⟩ := hS
            refine wz_iast dX7_out_107 ga_55 gc_55 hi17 rfl (q_ald0 dX7_out_108 (wz_dup dX7_out_109 rfl (wz_getI (v := (h12 28 0 7)) dX7_out_110 cf7 t506 (kf := 7) gi_28_7 gc_28 (by first | rfl | simp [up]) (wz_iconst dX7_out_113 kiconst_1 (wz_iadd dX7_out_114 (wz_putI dX7_out_115 cf7 t506 (kf := 7) gp_28_7 gc_28 rfl (q_ald0 dX7_out_118 ?_)))))))
            refine wz_pc (pc2 := 119) rfl ?_
            refine wz_dup dX7_out_119 rfl (wz_getI (v := (h12 28 0 6)) dX7_out_120 cf7 t511 (kf := 6) gi_28_6 gc_28 (by first | rfl | simp [up]) (wz_iconst dX7_out_123 kiconst_1 (wz_iadd dX7_out_124 (wz_putI dX7_out_125 cf7 t511 (kf := 6) gp_28_6 gc_28 rfl (q_ald0 dX7_out_128 (q_ild1 dX7_out_129 ?_))))))
            refine wz_virtI (M := MX7_out) (pc := 130) (M' := MX7_account) (n := 1) (As := [.int a1]) (st := []) dX7_out_130 cf7 rfl go_28 gc_28 rfl cat_i okX7_out_X7_account cwX7_247 (Nat.le_of_ble_eq_true rfl) ⟨Nat.zero_le _, Nat.zero_le _⟩ rfl (ls0 := [some (rf 28 0), some (.int a1), none, none]) rfl hS (fun r19 h18 hS => ?_)
            exact wi_ret dX7_out_133 rfl hS
          · replace hS := hS.2 c15
            refine q_ald0 dX7_out_65 (wz_ldc dX7_out_66 t365 ?_)
            refine wz_virtI (M := MX7_out) (pc := 68) (M' := MX7_finds) (n := 1) (As := [.int (-1000000004)]) (st := []) dX7_out_68 cf7 rfl go_28 gc_28 rfl cat_i okX7_out_X7_finds cwX7_132 (Nat.le_of_ble_eq_true rfl) ⟨Nat.zero_le _, Nat.zero_le _⟩ rfl (ls0 := [some (rf 28 0), some (.int (-1000000004))]) rfl (sX7_finds  hS) (fun r21 h20 hS => ?_)
            exact wi_ret dX7_out_71 rfl hS
        · replace hS := hS.2 c14
          refine q_ald0 dX7_out_49 (wz_ldc dX7_out_50 t382 ?_)
          refine wz_virtI (M := MX7_out) (pc := 52) (M' := MX7_finds) (n := 1) (As := [.int (-1000000003)]) (st := []) dX7_out_52 cf7 rfl go_28 gc_28 rfl cat_i okX7_out_X7_finds cwX7_132 (Nat.le_of_ble_eq_true rfl) ⟨Nat.zero_le _, Nat.zero_le _⟩ rfl (ls0 := [some (rf 28 0), some (.int (-1000000003))]) rfl (sX7_finds  hS) (fun r23 h22 hS => ?_)
          exact wi_ret dX7_out_55 rfl hS
      · replace hS := hS.2 c11
        refine q_ald0 dX7_out_33 (wz_ldc dX7_out_34 t371 ?_)
        refine wz_virtI (M := MX7_out) (pc := 36) (M' := MX7_finds) (n := 1) (As := [.int (-1000000005)]) (st := []) dX7_out_36 cf7 rfl go_28 gc_28 rfl cat_i okX7_out_X7_finds cwX7_132 (Nat.le_of_ble_eq_true rfl) ⟨Nat.zero_le _, Nat.zero_le _⟩ rfl (ls0 := [some (rf 28 0), some (.int (-1000000005))]) rfl (sX7_finds  hS) (fun r25 h24 hS => ?_)
        exact wi_ret dX7_out_39 rfl hS
    · replace hS := hS.2 c8
      refine q_ald0 dX7_out_18 (wz_ldc dX7_out_19 t370 ?_)
      refine wz_virtI (M := MX7_out) (pc := 21) (M' := MX7_finds) (n := 1) (As := [.int (-1000000001)]) (st := []) dX7_out_21 cf7 rfl go_28 gc_28 rfl cat_i okX7_out_X7_finds cwX7_132 (Nat.le_of_ble_eq_true rfl) ⟨Nat.zero_le _, Nat.zero_le _⟩ rfl (ls0 := [some (rf 28 0), some (.int (-1000000001))]) rfl (sX7_finds  hS) (fun r27 h26 hS => ?_)
      exact wi_ret dX7_out_24 rfl hS
def SX7_goes_0 (E : EN) (a1 : Int32) (a2 : Int32) (a3 : Int32) (a4 : Int32) (a5 : Int32) (h : TH) (Q : Int32 → TH → Prop) : Prop := wi E MX7_goes Q 6 [some (rf 28 0), some (.int a1), some (.int a2), none, some (.int a4), some (.int a5), some (.int a3), some (.int 0), none, none] [] h
set_option maxRecDepth 20000 in
theorem sX7_goes_0 {E : EN} {a1 : Int32} {a2 : Int32} {a3 : Int32} {a4 : Int32} {a5 : Int32} {h : TH} {Q : Int32 → TH → Prop}  (hS : SX7_goes_0 E a1 a2 a3 a4 a5 h Q) : wi E MX7_goes Q 0 [some (rf 28 0), some (.int a1), some (.int a2), some (.int a3), some (.int a4), some (.int a5), none, none, none, none] [] h := by
  refine q_ild3 dX7_goes_0 (q_ist6 dX7_goes_1 (ltX7_goes_6) rfl (wz_iconst dX7_goes_3 kiconst_0 (q_ist7 dX7_goes_4 (ltX7_goes_7) rfl ?_)))
  exact wz_mask [true, true, true, false, true, true, true, true, true, true] rfl hS
def SX7_goes_6 (E : EN) (x1 : Int32) (x2 : Int32) (x4 : Int32) (x5 : Int32) (x6 : Int32) (x7 : Int32) (h : TH) (Q : Int32 → TH → Prop) : Prop := ((x2 ≤ x7 → Q x6 h) ∧ (¬ x2 ≤ x7 → ((x4 = 0 → vp_in x7 40 ∧ ((¬ (h 50 0 (x7.toNatClampNeg)) = x1 → wi E MX7_goes Q 6 [some (rf 28 0), some (.int x1), some (.int x2), none, some (.int x4), some (.int x5), some (.int x6), some (.int (x7 + 1)), none, none] [] h) ∧ ((h 50 0 (x7.toNatClampNeg)) = x1 → ((2 ≤ x5 → ((x6 ≤ (h 63 0 (x7.toNatClampNeg)) → wi E MX7_goes Q 6 [some (rf 28 0), some (.int x1), some (.int x2), none, some (.int x4), some (.int x5), some (.int (x6 - x6)), some (.int (x7 + 1)), none, none] [] (up h 63 0 (x7.toNatClampNeg) ((h 63 0 (x7.toNatClampNeg)) - x6))) ∧ (¬ x6 ≤ (h 63 0 (x7.toNatClampNeg)) → wi E MX7_goes Q 6 [some (rf 28 0), some (.int x1), some (.int x2), none, some (.int x4), some (.int x5), some (.int (x6 - (h 63 0 (x7.toNatClampNeg)))), some (.int (x7 + 1)), none, none] [] (up h 63 0 (x7.toNatClampNeg) ((h 63 0 (x7.toNatClampNeg)) - (h 63 0 (x7.toNatClampNeg))))))) ∧ (¬ 2 ≤ x5 → ((¬ (h 51 0 (x7.toNatClampNeg)) = (-1) → ((¬ x5 = 0 → ((x6 ≤ (h 63 0 (x7.toNatClampNeg)) → wi E MX7_goes Q 6 [some (rf 28 0), some (.int x1), some (.int x2), none, some (.int x4), some (.int x5), some (.int (x6 - x6)), some (.int (x7 + 1)), none, none] [] (up h 63 0 (x7.toNatClampNeg) ((h 63 0 (x7.toNatClampNeg)) - x6))) ∧ (¬ x6 ≤ (h 63 0 (x7.toNatClampNeg)) → wi E MX7_goes Q 6 [some (rf 28 0), some (.int x1), some (.int x2), none, some (.int x4), some (.int x5), some (.int (x6 - (h 63 0 (x7.toNatClampNeg)))), some (.int (x7 + 1)), none, none] [] (up h 63 0 (x7.toNatClampNeg) ((h 63 0 (x7.toNatClampNeg)) - (h 63 0 (x7.toNatClampNeg))))))) ∧ (x5 = 0 → wi E MX7_goes Q 6 [some (rf 28 0), some (.int x1), some (.int x2), none, some (.int x4), some (.int x5), some (.int x6), some (.int (x7 + 1)), none, none] [] h))) ∧ ((h 51 0 (x7.toNatClampNeg)) = (-1) → ((¬ x5 = 0 → wi E MX7_goes Q 6 [some (rf 28 0), some (.int x1), some (.int x2), none, some (.int x4), some (.int x5), some (.int x6), some (.int (x7 + 1)), none, none] [] h) ∧ (x5 = 0 → ((x6 ≤ (h 63 0 (x7.toNatClampNeg)) → wi E MX7_goes Q 6 [some (rf 28 0), some (.int x1), some (.int x2), none, some (.int x4), some (.int x5), some (.int (x6 - x6)), some (.int (x7 + 1)), none, none] [] (up h 63 0 (x7.toNatClampNeg) ((h 63 0 (x7.toNatClampNeg)) - x6))) ∧ (¬ x6 ≤ (h 63 0 (x7.toNatClampNeg)) → wi E MX7_goes Q 6 [some (rf 28 0), some (.int x1), some (.int x2), none, some (.int x4), some (.int x5), some (.int (x6 - (h 63 0 (x7.toNatClampNeg)))), some (.int (x7 + 1)), none, none] [] (up h 63 0 (x7.toNatClampNeg) ((h 63 0 (x7.toNatClampNeg)) - (h 63 0 (x7.toNatClampNeg))))))))))))))) ∧ (¬ x4 = 0 → vp_in ((x2 - 1) - x7) 40 ∧ ((¬ (h 50 0 (((x2 - 1) - x7).toNatClampNeg)) = x1 → wi E MX7_goes Q 6 [some (rf 28 0), some (.int x1), some (.int x2), none, some (.int x4), some (.int x5), some (.int x6), some (.int (x7 + 1)), none, none] [] h) ∧ ((h 50 0 (((x2 - 1) - x7).toNatClampNeg)) = x1 → ((2 ≤ x5 → ((x6 ≤ (h 63 0 (((x2 - 1) - x7).toNatClampNeg)) → wi E MX7_goes Q 6 [some (rf 28 0), some (.int x1), some (.int x2), none, some (.int x4), some (.int x5), some (.int (x6 - x6)), some (.int (x7 + 1)), none, none] [] (up h 63 0 (((x2 - 1) - x7).toNatClampNeg) ((h 63 0 (((x2 - 1) - x7).toNatClampNeg)) - x6))) ∧ (¬ x6 ≤ (h 63 0 (((x2 - 1) - x7).toNatClampNeg)) → wi E MX7_goes Q 6 [some (rf 28 0), some (.int x1), some (.int x2), none, some (.int x4), some (.int x5), some (.int (x6 - (h 63 0 (((x2 - 1) - x7).toNatClampNeg)))), some (.int (x7 + 1)), none, none] [] (up h 63 0 (((x2 - 1) - x7).toNatClampNeg) ((h 63 0 (((x2 - 1) - x7).toNatClampNeg)) - (h 63 0 (((x2 - 1) - x7).toNatClampNeg))))))) ∧ (¬ 2 ≤ x5 → ((¬ (h 51 0 (((x2 - 1) - x7).toNatClampNeg)) = (-1) → ((¬ x5 = 0 → ((x6 ≤ (h 63 0 (((x2 - 1) - x7).toNatClampNeg)) → wi E MX7_goes Q 6 [some (rf 28 0), some (.int x1), some (.int x2), none, some (.int x4), some (.int x5), some (.int (x6 - x6)), some (.int (x7 + 1)), none, none] [] (up h 63 0 (((x2 - 1) - x7).toNatClampNeg) ((h 63 0 (((x2 - 1) - x7).toNatClampNeg)) - x6))) ∧ (¬ x6 ≤ (h 63 0 (((x2 - 1) - x7).toNatClampNeg)) → wi E MX7_goes Q 6 [some (rf 28 0), some (.int x1), some (.int x2), none, some (.int x4), some (.int x5), some (.int (x6 - (h 63 0 (((x2 - 1) - x7).toNatClampNeg)))), some (.int (x7 + 1)), none, none] [] (up h 63 0 (((x2 - 1) - x7).toNatClampNeg) ((h 63 0 (((x2 - 1) - x7).toNatClampNeg)) - (h 63 0 (((x2 - 1) - x7).toNatClampNeg))))))) ∧ (x5 = 0 → wi E MX7_goes Q 6 [some (rf 28 0), some (.int x1), some (.int x2), none, some (.int x4), some (.int x5), some (.int x6), some (.int (x7 + 1)), none, none] [] h))) ∧ ((h 51 0 (((x2 - 1) - x7).toNatClampNeg)) = (-1) → ((¬ x5 = 0 → wi E MX7_goes Q 6 [some (rf 28 0), some (.int x1), some (.int x2), none, some (.int x4), some (.int x5), some (.int x6), some (.int (x7 + 1)), none, none] [] h) ∧ (x5 = 0 → ((x6 ≤ (h 63 0 (((x2 - 1) - x7).toNatClampNeg)) → wi E MX7_goes Q 6 [some (rf 28 0), some (.int x1), some (.int x2), none, some (.int x4), some (.int x5), some (.int (x6 - x6)), some (.int (x7 + 1)), none, none] [] (up h 63 0 (((x2 - 1) - x7).toNatClampNeg) ((h 63 0 (((x2 - 1) - x7).toNatClampNeg)) - x6))) ∧ (¬ x6 ≤ (h 63 0 (((x2 - 1) - x7).toNatClampNeg)) → wi E MX7_goes Q 6 [some (rf 28 0), some (.int x1), some (.int x2), none, some (.int x4), some (.int x5), some (.int (x6 - (h 63 0 (((x2 - 1) - x7).toNatClampNeg)))), some (.int (x7 + 1)), none, none] [] (up h 63 0 (((x2 - 1) - x7).toNatClampNeg) ((h 63 0 (((x2 - 1) - x7).toNatClampNeg)) - (h 63 0 (((x2 - 1) - x7).toNatClampNeg))))))))))))))))))
set_option maxRecDepth 20000 in
theorem sX7_goes_6 {E : EN} {x1 : Int32} {x2 : Int32} {x4 : Int32} {x5 : Int32} {x6 : Int32} {x7 : Int32} {h : TH} {Q : Int32 → TH → Prop}  (hS : SX7_goes_6 E x1 x2 x4 x5 x6 x7 h Q) : wi E MX7_goes Q 6 [some (rf 28 0), some (.int x1), some (.int x2), none, some (.int x4), some (.int x5), some (.int x6), some (.int x7), none, none] [] h := by
  refine q_ild7 dX7_goes_6 (q_ild2 dX7_goes_8 ?_)
  refine wz_icmp_ge (tgt := 130) dX7_goes_9 rfl (fun c1 => ?_) (fun c1 => ?_)
  · replace hS := hS.1 c1
    refine q_ild6 dX7_goes_130 ?_
    exact wi_ret dX7_goes_132 rfl hS
  · replace hS := hS.2 c1
    refine q_ild4 dX7_goes_12 ?_
    refine wz_if_eq (tgt := 26) dX7_goes_14 rfl (fun c2 => ?_) (fun c2 => ?_)
    · replace hS := hS.1 c2
      refine q_ild7 dX7_goes_26 (q_ist8 dX7_goes_28 (ltX7_goes_8) rfl (q_ald0 dX7_goes_30 (wz_getR dX7_goes_31 cf7 t502 (kf := 31) gr_28_31 gc_28 (q_ild8 dX7_goes_34 ?_))))
      obtain ⟨hi3, hS⟩ := hS
      refine wz_iald dX7_goes_36 ga_50 gc_50 hi3 rfl (q_ild1 dX7_goes_37 ?_)
      refine wz_icmp_ne (tgt := 124) dX7_goes_38 rfl (fun c4 => ?_) (fun c4 => ?_)
      · replace hS := hS.1 c4
        refine q_inc7 (v := (x7 + 1)) dX7_goes_124 rfl (ltX7_goes_7) rfl (wz_goto (tgt := 6) dX7_goes_127 rfl ?_)
        exact wz_mask [true, true, true, true, true, true, true, true, false, true] rfl hS
      · replace hS := hS.2 c4
        refine q_ild5 dX7_goes_41 (wz_iconst dX7_goes_43 kiconst_2 ?_)
        refine wz_icmp_ge (tgt := 79) dX7_goes_44 rfl (fun c5 => ?_) (fun c5 => ?_)
        · replace hS := hS.1 c5
          refine q_ald0 dX7_goes_79 (wz_getR dX7_goes_80 cf7 t518 (kf := 45) gr_28_45 gc_28 (q_ild8 dX7_goes_83 (wz_iald dX7_goes_85 ga_63 gc_63 hi3 rfl (q_ild6 dX7_goes_86 ?_))))
          refine wz_icmp_ge (tgt := 101) dX7_goes_88 rfl (fun c6 => ?_) (fun c6 => ?_)
          · replace hS := hS.1 c6
            refine q_ild6 dX7_goes_101 (q_ist9 dX7_goes_103 (ltX7_goes_9) rfl (q_ald0 dX7_goes_105 (wz_getR dX7_goes_106 cf7 t518 (kf := 45) gr_28_45 gc_28 (q_ild8 dX7_goes_109 (wz_dup2 dX7_goes_111 rfl rfl (wz_iald dX7_goes_112 ga_63 gc_63 hi3 rfl (q_ild9 dX7_goes_113 ?_)))))))
            refine wz_pc (pc2 := 115) rfl ?_
            refine wz_isub dX7_goes_115 (wz_iast dX7_goes_116 ga_63 gc_63 hi3 rfl (q_ild6 dX7_goes_117 (q_ild9 dX7_goes_119 (wz_isub dX7_goes_121 (q_ist6 dX7_goes_122 (ltX7_goes_6) rfl (q_inc7 (v := (x7 + 1)) dX7_goes_124 rfl (ltX7_goes_7) rfl (wz_goto (tgt := 6) dX7_goes_127 rfl ?_)))))))
            exact wz_mask [true, true, true, true, true, true, true, true, false, false] rfl hS
          · replace hS := hS.2 c6
            refine q_ald0 dX7_goes_91 (wz_getR dX7_goes_92 cf7 t518 (kf := 45) gr_28_45 gc_28 (q_ild8 dX7_goes_95 (wz_iald dX7_goes_97 ga_63 gc_63 hi3 rfl (wz_goto (tgt := 103) dX7_goes_98 rfl (q_ist9 dX7_goes_103 (ltX7_goes_9) rfl (q_ald0 dX7_goes_105 (wz_getR dX7_goes_106 cf7 t518 (kf := 45) gr_28_45 gc_28 ?_)))))))
            refine wz_pc (pc2 := 109) rfl ?_
            refine q_ild8 dX7_goes_109 (wz_dup2 dX7_goes_111 rfl rfl (wz_iald dX7_goes_112 ga_63 gc_63 hi3 rfl (q_ild9 dX7_goes_113 (wz_isub dX7_goes_115 (wz_iast dX7_goes_116 ga_63 gc_63 hi3 rfl (q_ild6 dX7_goes_117 (q_ild9 dX7_goes_119 ?_)))))))
            refine wz_pc (pc2 := 121) rfl ?_
            refine wz_isub dX7_goes_121 (q_ist6 dX7_goes_122 (ltX7_goes_6) rfl (q_inc7 (v := (x7 + 1)) dX7_goes_124 rfl (ltX7_goes_7) rfl (wz_goto (tgt := 6) dX7_goes_127 rfl ?_)))
            exact wz_mask [true, true, true, true, true, true, true, true, false, false] rfl hS
        · replace hS := hS.2 c5
          refine q_ald0 dX7_goes_47 (wz_getR dX7_goes_48 cf7 t503 (kf := 32) gr_28_32 gc_28 (q_ild8 dX7_goes_51 (wz_iald dX7_goes_53 ga_51 gc_51 hi3 rfl (wz_iconst dX7_goes_54 kiconst_m1 ?_))))
          refine wz_icmp_ne (tgt := 62) dX7_goes_55 rfl (fun c7 => ?_) (fun c7 => ?_)
          · replace hS := hS.1 c7
            refine wz_iconst dX7_goes_62 kiconst_0 (q_ild5 dX7_goes_63 ?_)
            refine wz_if_ne (tgt := 72) dX7_goes_65 rfl (fun c8 => ?_) (fun c8 => ?_)
            · replace hS := hS.1 c8
              refine wz_iconst dX7_goes_72 kiconst_0 ?_
              refine wz_icmp_eq (tgt := 79) dX7_goes_73 rfl (fun _ => ?_) (fun z => absurd z (by decide))
              refine q_ald0 dX7_goes_79 (wz_getR dX7_goes_80 cf7 t518 (kf := 45) gr_28_45 gc_28 (q_ild8 dX7_goes_83 (wz_iald dX7_goes_85 ga_63 gc_63 hi3 rfl (q_ild6 dX7_goes_86 ?_))))
              refine wz_icmp_ge (tgt := 101) dX7_goes_88 rfl (fun c9 => ?_) (fun c9 => ?_)
              · replace hS := hS.1 c9
                refine q_ild6 dX7_goes_101 (q_ist9 dX7_goes_103 (ltX7_goes_9) rfl (q_ald0 dX7_goes_105 (wz_getR dX7_goes_106 cf7 t518 (kf := 45) gr_28_45 gc_28 (q_ild8 dX7_goes_109 (wz_dup2 dX7_goes_111 rfl rfl (wz_iald dX7_goes_112 ga_63 gc_63 hi3 rfl (q_ild9 dX7_goes_113 ?_)))))))
                refine wz_pc (pc2 := 115) rfl ?_
                refine wz_isub dX7_goes_115 (wz_iast dX7_goes_116 ga_63 gc_63 hi3 rfl (q_ild6 dX7_goes_117 (q_ild9 dX7_goes_119 (wz_isub dX7_goes_121 (q_ist6 dX7_goes_122 (ltX7_goes_6) rfl (q_inc7 (v := (x7 + 1)) dX7_goes_124 rfl (ltX7_goes_7) rfl (wz_goto (tgt := 6) dX7_goes_127 rfl ?_)))))))
                exact wz_mask [true, true, true, true, true, true, true, true, false, false] rfl hS
              · replace hS := hS.2 c9
                refine q_ald0 dX7_goes_91 (wz_getR dX7_goes_92 cf7 t518 (kf := 45) gr_28_45 gc_28 (q_ild8 dX7_goes_95 (wz_iald dX7_goes_97 ga_63 gc_63 hi3 rfl (wz_goto (tgt := 103) dX7_goes_98 rfl (q_ist9 dX7_goes_103 (ltX7_goes_9) rfl (q_ald0 dX7_goes_105 (wz_getR dX7_goes_106 cf7 t518 (kf := 45) gr_28_45 gc_28 ?_)))))))
                refine wz_pc (pc2 := 109) rfl ?_
                refine q_ild8 dX7_goes_109 (wz_dup2 dX7_goes_111 rfl rfl (wz_iald dX7_goes_112 ga_63 gc_63 hi3 rfl (q_ild9 dX7_goes_113 (wz_isub dX7_goes_115 (wz_iast dX7_goes_116 ga_63 gc_63 hi3 rfl (q_ild6 dX7_goes_117 (q_ild9 dX7_goes_119 ?_)))))))
                refine wz_pc (pc2 := 121) rfl ?_
                refine wz_isub dX7_goes_121 (q_ist6 dX7_goes_122 (ltX7_goes_6) rfl (q_inc7 (v := (x7 + 1)) dX7_goes_124 rfl (ltX7_goes_7) rfl (wz_goto (tgt := 6) dX7_goes_127 rfl ?_)))
                exact wz_mask [true, true, true, true, true, true, true, true, false, false] rfl hS
            · replace hS := hS.2 c8
              refine wz_iconst dX7_goes_68 kiconst_1 (wz_goto (tgt := 73) dX7_goes_69 rfl ?_)
              refine wz_icmp_eq (tgt := 79) dX7_goes_73 rfl (fun z => absurd z (by decide)) (fun _ => ?_)
              refine wz_goto (tgt := 124) dX7_goes_76 rfl (q_inc7 (v := (x7 + 1)) dX7_goes_124 rfl (ltX7_goes_7) rfl (wz_goto (tgt := 6) dX7_goes_127 rfl ?_))
              exact wz_mask [true, true, true, true, true, true, true, true, false, true] rfl hS
          · replace hS := hS.2 c7
            refine wz_iconst dX7_goes_58 kiconst_1 (wz_goto (tgt := 63) dX7_goes_59 rfl (q_ild5 dX7_goes_63 ?_))
            refine wz_if_ne (tgt := 72) dX7_goes_65 rfl (fun c10 => ?_) (fun c10 => ?_)
            · replace hS := hS.1 c10
              refine wz_iconst dX7_goes_72 kiconst_0 ?_
              refine wz_icmp_eq (tgt := 79) dX7_goes_73 rfl (fun z => absurd z (by decide)) (fun _ => ?_)
              refine wz_goto (tgt := 124) dX7_goes_76 rfl (q_inc7 (v := (x7 + 1)) dX7_goes_124 rfl (ltX7_goes_7) rfl (wz_goto (tgt := 6) dX7_goes_127 rfl ?_))
              exact wz_mask [true, true, true, true, true, true, true, true, false, true] rfl hS
            · replace hS := hS.2 c10
              refine wz_iconst dX7_goes_68 kiconst_1 (wz_goto (tgt := 73) dX7_goes_69 rfl ?_)
              refine wz_icmp_eq (tgt := 79) dX7_goes_73 rfl (fun _ => ?_) (fun z => absurd z (by decide))
              refine q_ald0 dX7_goes_79 (wz_getR dX7_goes_80 cf7 t518 (kf := 45) gr_28_45 gc_28 (q_ild8 dX7_goes_83 (wz_iald dX7_goes_85 ga_63 gc_63 hi3 rfl (q_ild6 dX7_goes_86 ?_))))
              refine wz_icmp_ge (tgt := 101) dX7_goes_88 rfl (fun c11 => ?_) (fun c11 => ?_)
              · replace hS := hS.1 c11
                refine q_ild6 dX7_goes_101 (q_ist9 dX7_goes_103 (ltX7_goes_9) rfl (q_ald0 dX7_goes_105 (wz_getR dX7_goes_106 cf7 t518 (kf := 45) gr_28_45 gc_28 (q_ild8 dX7_goes_109 (wz_dup2 dX7_goes_111 rfl rfl (wz_iald dX7_goes_112 ga_63 gc_63 hi3 rfl (q_ild9 dX7_goes_113 ?_)))))))
                refine wz_pc (pc2 := 115) rfl ?_
                refine wz_isub dX7_goes_115 (wz_iast dX7_goes_116 ga_63 gc_63 hi3 rfl (q_ild6 dX7_goes_117 (q_ild9 dX7_goes_119 (wz_isub dX7_goes_121 (q_ist6 dX7_goes_122 (ltX7_goes_6) rfl (q_inc7 (v := (x7 + 1)) dX7_goes_124 rfl (ltX7_goes_7) rfl (wz_goto (tgt := 6) dX7_goes_127 rfl ?_)))))))
                exact wz_mask [true, true, true, true, true, true, true, true, false, false] rfl hS
              · replace hS := hS.2 c11
                refine q_ald0 dX7_goes_91 (wz_getR dX7_goes_92 cf7 t518 (kf := 45) gr_28_45 gc_28 (q_ild8 dX7_goes_95 (wz_iald dX7_goes_97 ga_63 gc_63 hi3 rfl (wz_goto (tgt := 103) dX7_goes_98 rfl (q_ist9 dX7_goes_103 (ltX7_goes_9) rfl (q_ald0 dX7_goes_105 (wz_getR dX7_goes_106 cf7 t518 (kf := 45) gr_28_45 gc_28 ?_)))))))
                refine wz_pc (pc2 := 109) rfl ?_
                refine q_ild8 dX7_goes_109 (wz_dup2 dX7_goes_111 rfl rfl (wz_iald dX7_goes_112 ga_63 gc_63 hi3 rfl (q_ild9 dX7_goes_113 (wz_isub dX7_goes_115 (wz_iast dX7_goes_116 ga_63 gc_63 hi3 rfl (q_ild6 dX7_goes_117 (q_ild9 dX7_goes_119 ?_)))))))
                refine wz_pc (pc2 := 121) rfl ?_
                refine wz_isub dX7_goes_121 (q_ist6 dX7_goes_122 (ltX7_goes_6) rfl (q_inc7 (v := (x7 + 1)) dX7_goes_124 rfl (ltX7_goes_7) rfl (wz_goto (tgt := 6) dX7_goes_127 rfl ?_)))
                exact wz_mask [true, true, true, true, true, true, true, true, false, false] rfl hS
    · replace hS := hS.2 c2
      refine q_ild2 dX7_goes_17 (wz_iconst dX7_goes_18 kiconst_1 (wz_isub dX7_goes_19 (q_ild7 dX7_goes_20 (wz_isub dX7_goes_22 (wz_goto (tgt := 28) dX7_goes_23 rfl (q_ist8 dX7_goes_28 (ltX7_goes_8) rfl (q_ald0 dX7_goes_30 ?_)))))))
      refine wz_pc (pc2 := 31) rfl ?_
      refine wz_getR dX7_goes_31 cf7 t502 (kf := 31) gr_28_31 gc_28 (q_ild8 dX7_goes_34 ?_)
      obtain ⟨hi12, hS⟩ := hS
      refine wz_iald dX7_goes_36 ga_50 gc_50 hi12 rfl (q_ild1 dX7_goes_37 ?_)
      refine wz_icmp_ne (tgt := 124) dX7_goes_38 rfl (fun c13 => ?_) (fun c13 => ?_)
      · replace hS := hS.1 c13
        refine q_inc7 (v := (x7 + 1)) dX7_goes_124 rfl (ltX7_goes_7) rfl (wz_goto (tgt := 6) dX7_goes_127 rfl ?_)
        exact wz_mask [true, true, true, true, true, true, true, true, false, true] rfl hS
      · replace hS := hS.2 c13
        refine q_ild5 dX7_goes_41 (wz_iconst dX7_goes_43 kiconst_2 ?_)
        refine wz_icmp_ge (tgt := 79) dX7_goes_44 rfl (fun c14 => ?_) (fun c14 => ?_)
        · replace hS := hS.1 c14
          refine q_ald0 dX7_goes_79 (wz_getR dX7_goes_80 cf7 t518 (kf := 45) gr_28_45 gc_28 (q_ild8 dX7_goes_83 (wz_iald dX7_goes_85 ga_63 gc_63 hi12 rfl (q_ild6 dX7_goes_86 ?_))))
          refine wz_icmp_ge (tgt := 101) dX7_goes_88 rfl (fun c15 => ?_) (fun c15 => ?_)
          · replace hS := hS.1 c15
            refine q_ild6 dX7_goes_101 (q_ist9 dX7_goes_103 (ltX7_goes_9) rfl (q_ald0 dX7_goes_105 (wz_getR dX7_goes_106 cf7 t518 (kf := 45) gr_28_45 gc_28 (q_ild8 dX7_goes_109 (wz_dup2 dX7_goes_111 rfl rfl (wz_iald dX7_goes_112 ga_63 gc_63 hi12 rfl (q_ild9 dX7_goes_113 ?_)))))))
            refine wz_pc (pc2 := 115) rfl ?_
            refine wz_isub dX7_goes_115 (wz_iast dX7_goes_116 ga_63 gc_63 hi12 rfl (q_ild6 dX7_goes_117 (q_ild9 dX7_goes_119 (wz_isub dX7_goes_121 (q_ist6 dX7_goes_122 (ltX7_goes_6) rfl (q_inc7 (v := (x7 + 1)) dX7_goes_124 rfl (ltX7_goes_7) rfl (wz_goto (tgt := 6) dX7_goes_127 rfl ?_)))))))
            exact wz_mask [true, true, true, true, true, true, true, true, false, false] rfl hS
          · replace hS := hS.2 c15
            refine q_ald0 dX7_goes_91 (wz_getR dX7_goes_92 cf7 t518 (kf := 45) gr_28_45 gc_28 (q_ild8 dX7_goes_95 (wz_iald dX7_goes_97 ga_63 gc_63 hi12 rfl (wz_goto (tgt := 103) dX7_goes_98 rfl (q_ist9 dX7_goes_103 (ltX7_goes_9) rfl (q_ald0 dX7_goes_105 (wz_getR dX7_goes_106 cf7 t518 (kf := 45) gr_28_45 gc_28 ?_)))))))
            refine wz_pc (pc2 := 109) rfl ?_
            refine q_ild8 dX7_goes_109 (wz_dup2 dX7_goes_111 rfl rfl (wz_iald dX7_goes_112 ga_63 gc_63 hi12 rfl (q_ild9 dX7_goes_113 (wz_isub dX7_goes_115 (wz_iast dX7_goes_116 ga_63 gc_63 hi12 rfl (q_ild6 dX7_goes_117 (q_ild9 dX7_goes_119 ?_)))))))
            refine wz_pc (pc2 := 121) rfl ?_
            refine wz_isub dX7_goes_121 (q_ist6 dX7_goes_122 (ltX7_goes_6) rfl (q_inc7 (v := (x7 + 1)) dX7_goes_124 rfl (ltX7_goes_7) rfl (wz_goto (tgt := 6) dX7_goes_127 rfl ?_)))
            exact wz_mask [true, true, true, true, true, true, true, true, false, false] rfl hS
        · replace hS := hS.2 c14
          refine q_ald0 dX7_goes_47 (wz_getR dX7_goes_48 cf7 t503 (kf := 32) gr_28_32 gc_28 (q_ild8 dX7_goes_51 (wz_iald dX7_goes_53 ga_51 gc_51 hi12 rfl (wz_iconst dX7_goes_54 kiconst_m1 ?_))))
          refine wz_icmp_ne (tgt := 62) dX7_goes_55 rfl (fun c16 => ?_) (fun c16 => ?_)
          · replace hS := hS.1 c16
            refine wz_iconst dX7_goes_62 kiconst_0 (q_ild5 dX7_goes_63 ?_)
            refine wz_if_ne (tgt := 72) dX7_goes_65 rfl (fun c17 => ?_) (fun c17 => ?_)
            · replace hS := hS.1 c17
              refine wz_iconst dX7_goes_72 kiconst_0 ?_
              refine wz_icmp_eq (tgt := 79) dX7_goes_73 rfl (fun _ => ?_) (fun z => absurd z (by decide))
              refine q_ald0 dX7_goes_79 (wz_getR dX7_goes_80 cf7 t518 (kf := 45) gr_28_45 gc_28 (q_ild8 dX7_goes_83 (wz_iald dX7_goes_85 ga_63 gc_63 hi12 rfl (q_ild6 dX7_goes_86 ?_))))
              refine wz_icmp_ge (tgt := 101) dX7_goes_88 rfl (fun c18 => ?_) (fun c18 => ?_)
              · replace hS := hS.1 c18
                refine q_ild6 dX7_goes_101 (q_ist9 dX7_goes_103 (ltX7_goes_9) rfl (q_ald0 dX7_goes_105 (wz_getR dX7_goes_106 cf7 t518 (kf := 45) gr_28_45 gc_28 (q_ild8 dX7_goes_109 (wz_dup2 dX7_goes_111 rfl rfl (wz_iald dX7_goes_112 ga_63 gc_63 hi12 rfl (q_ild9 dX7_goes_113 ?_)))))))
                refine wz_pc (pc2 := 115) rfl ?_
                refine wz_isub dX7_goes_115 (wz_iast dX7_goes_116 ga_63 gc_63 hi12 rfl (q_ild6 dX7_goes_117 (q_ild9 dX7_goes_119 (wz_isub dX7_goes_121 (q_ist6 dX7_goes_122 (ltX7_goes_6) rfl (q_inc7 (v := (x7 + 1)) dX7_goes_124 rfl (ltX7_goes_7) rfl (wz_goto (tgt := 6) dX7_goes_127 rfl ?_)))))))
                exact wz_mask [true, true, true, true, true, true, true, true, false, false] rfl hS
              · replace hS := hS.2 c18
                refine q_ald0 dX7_goes_91 (wz_getR dX7_goes_92 cf7 t518 (kf := 45) gr_28_45 gc_28 (q_ild8 dX7_goes_95 (wz_iald dX7_goes_97 ga_63 gc_63 hi12 rfl (wz_goto (tgt := 103) dX7_goes_98 rfl (q_ist9 dX7_goes_103 (ltX7_goes_9) rfl (q_ald0 dX7_goes_105 (wz_getR dX7_goes_106 cf7 t518 (kf := 45) gr_28_45 gc_28 ?_)))))))
                refine wz_pc (pc2 := 109) rfl ?_
                refine q_ild8 dX7_goes_109 (wz_dup2 dX7_goes_111 rfl rfl (wz_iald dX7_goes_112 ga_63 gc_63 hi12 rfl (q_ild9 dX7_goes_113 (wz_isub dX7_goes_115 (wz_iast dX7_goes_116 ga_63 gc_63 hi12 rfl (q_ild6 dX7_goes_117 (q_ild9 dX7_goes_119 ?_)))))))
                refine wz_pc (pc2 := 121) rfl ?_
                refine wz_isub dX7_goes_121 (q_ist6 dX7_goes_122 (ltX7_goes_6) rfl (q_inc7 (v := (x7 + 1)) dX7_goes_124 rfl (ltX7_goes_7) rfl (wz_goto (tgt := 6) dX7_goes_127 rfl ?_)))
                exact wz_mask [true, true, true, true, true, true, true, true, false, false] rfl hS
            · replace hS := hS.2 c17
              refine wz_iconst dX7_goes_68 kiconst_1 (wz_goto (tgt := 73) dX7_goes_69 rfl ?_)
              refine wz_icmp_eq (tgt := 79) dX7_goes_73 rfl (fun z => absurd z (by decide)) (fun _ => ?_)
              refine wz_goto (tgt := 124) dX7_goes_76 rfl (q_inc7 (v := (x7 + 1)) dX7_goes_124 rfl (ltX7_goes_7) rfl (wz_goto (tgt := 6) dX7_goes_127 rfl ?_))
              exact wz_mask [true, true, true, true, true, true, true, true, false, true] rfl hS
          · replace hS := hS.2 c16
            refine wz_iconst dX7_goes_58 kiconst_1 (wz_goto (tgt := 63) dX7_goes_59 rfl (q_ild5 dX7_goes_63 ?_))
            refine wz_if_ne (tgt := 72) dX7_goes_65 rfl (fun c19 => ?_) (fun c19 => ?_)
            · replace hS := hS.1 c19
              refine wz_iconst dX7_goes_72 kiconst_0 ?_
              refine wz_icmp_eq (tgt := 79) dX7_goes_73 rfl (fun z => absurd z (by decide)) (fun _ => ?_)
              refine wz_goto (tgt := 124) dX7_goes_76 rfl (q_inc7 (v := (x7 + 1)) dX7_goes_124 rfl (ltX7_goes_7) rfl (wz_goto (tgt := 6) dX7_goes_127 rfl ?_))
              exact wz_mask [true, true, true, true, true, true, true, true, false, true] rfl hS
            · replace hS := hS.2 c19
              refine wz_iconst dX7_goes_68 kiconst_1 (wz_goto (tgt := 73) dX7_goes_69 rfl ?_)
              refine wz_icmp_eq (tgt := 79) dX7_goes_73 rfl (fun _ => ?_) (fun z => absurd z (by decide))
              refine q_ald0 dX7_goes_79 (wz_getR dX7_goes_80 cf7 t518 (kf := 45) gr_28_45 gc_28 (q_ild8 dX7_goes_83 (wz_iald dX7_goes_85 ga_63 gc_63 hi12 rfl (q_ild6 dX7_goes_86 ?_))))
              refine wz_icmp_ge (tgt := 101) dX7_goes_88 rfl (fun c20 => ?_) (fun c20 => ?_)
              · replace hS := hS.1 c20
                refine q_ild6 dX7_goes_101 (q_ist9 dX7_goes_103 (ltX7_goes_9) rfl (q_ald0 dX7_goes_105 (wz_getR dX7_goes_106 cf7 t518 (kf := 45) gr_28_45 gc_28 (q_ild8 dX7_goes_109 (wz_dup2 dX7_goes_111 rfl rfl (wz_iald dX7_goes_112 ga_63 gc_63 hi12 rfl (q_ild9 dX7_goes_113 ?_)))))))
                refine wz_pc (pc2 := 115) rfl ?_
                refine wz_isub dX7_goes_115 (wz_iast dX7_goes_116 ga_63 gc_63 hi12 rfl (q_ild6 dX7_goes_117 (q_ild9 dX7_goes_119 (wz_isub dX7_goes_121 (q_ist6 dX7_goes_122 (ltX7_goes_6) rfl (q_inc7 (v := (x7 + 1)) dX7_goes_124 rfl (ltX7_goes_7) rfl (wz_goto (tgt := 6) dX7_goes_127 rfl ?_)))))))
                exact wz_mask [true, true, true, true, true, true, true, true, false, false] rfl hS
              · replace hS := hS.2 c20
                refine q_ald0 dX7_goes_91 (wz_getR dX7_goes_92 cf7 t518 (kf := 45) gr_28_45 gc_28 (q_ild8 dX7_goes_95 (wz_iald dX7_goes_97 ga_63 gc_63 hi12 rfl (wz_goto (tgt := 103) dX7_goes_98 rfl (q_ist9 dX7_goes_103 (ltX7_goes_9) rfl (q_ald0 dX7_goes_105 (wz_getR dX7_goes_106 cf7 t518 (kf := 45) gr_28_45 gc_28 ?_)))))))
                refine wz_pc (pc2 := 109) rfl ?_
                refine q_ild8 dX7_goes_109 (wz_dup2 dX7_goes_111 rfl rfl (wz_iald dX7_goes_112 ga_63 gc_63 hi12 rfl (q_ild9 dX7_goes_113 (wz_isub dX7_goes_115 (wz_iast dX7_goes_116 ga_63 gc_63 hi12 rfl (q_ild6 dX7_goes_117 (q_ild9 dX7_goes_119 ?_)))))))
                refine wz_pc (pc2 := 121) rfl ?_
                refine wz_isub dX7_goes_121 (q_ist6 dX7_goes_122 (ltX7_goes_6) rfl (q_inc7 (v := (x7 + 1)) dX7_goes_124 rfl (ltX7_goes_7) rfl (wz_goto (tgt := 6) dX7_goes_127 rfl ?_)))
                exact wz_mask [true, true, true, true, true, true, true, true, false, false] rfl hS
def SX7_traces_0 (E : EN) (a1 : Int32) (h : TH) (Q : TH → Prop) : Prop := wv E MX7_traces Q 4 [some (rf 28 0), some (.int a1), some (.int 0), some (.int 0), none, none] [] h
set_option maxRecDepth 20000 in
theorem sX7_traces_0 {E : EN} {a1 : Int32} {h : TH} {Q : TH → Prop}  (hS : SX7_traces_0 E a1 h Q) : wv E MX7_traces Q 0 [some (rf 28 0), some (.int a1), none, none, none, none] [] h := by
  refine wz_iconst dX7_traces_0 kiconst_0 (q_ist2 dX7_traces_1 (ltX7_traces_2) rfl (wz_iconst dX7_traces_2 kiconst_0 (q_ist3 dX7_traces_3 (ltX7_traces_3) rfl ?_)))
  exact hS
def SX7_traces_4 (E : EN) (x1 : Int32) (x2 : Int32) (x3 : Int32) (h : TH) (Q : TH → Prop) : Prop := (((h 28 0 7) ≤ x3 → Q h) ∧ (¬ (h 28 0 7) ≤ x3 → vp_in x3 80 ∧ ((100 ≤ (h 55 0 (x3.toNatClampNeg)) → vp_in ((h 55 0 (x3.toNatClampNeg)) - 100) 40 ∧ ((¬ x1 = 1 → ((¬ x1 = 2 → wi E MX7_goes (fun r8 h7 => ((¬ x1 = 2 → wi E MX7_goes (fun r11 h10 => wv E MX7_traces Q 4 [some (rf 28 0), some (.int x1), some (.int x2), some (.int (x3 + 1)), none, none] [] h10) 0 [some (rf 28 0), some (.int (h7 53 0 (((h 55 0 (x3.toNatClampNeg)) - 100).toNatClampNeg))), some (.int x2), some (.int r8), some (.int 0), some (.int 2), none, none, none, none] [] h7) ∧ (x1 = 2 → wi E MX7_goes (fun r13 h12 => wv E MX7_traces Q 4 [some (rf 28 0), some (.int x1), some (.int x2), some (.int (x3 + 1)), none, none] [] h12) 0 [some (rf 28 0), some (.int (h7 53 0 (((h 55 0 (x3.toNatClampNeg)) - 100).toNatClampNeg))), some (.int x2), some (.int r8), some (.int 0), some (.int 1), none, none, none, none] [] h7))) 0 [some (rf 28 0), some (.int (h 53 0 (((h 55 0 (x3.toNatClampNeg)) - 100).toNatClampNeg))), some (.int x2), some (.int (h 54 0 (((h 55 0 (x3.toNatClampNeg)) - 100).toNatClampNeg))), some (.int 0), some (.int 2), none, none, none, none] [] h) ∧ (x1 = 2 → wi E MX7_goes (fun r15 h14 => ((¬ x1 = 2 → wi E MX7_goes (fun r18 h17 => wv E MX7_traces Q 4 [some (rf 28 0), some (.int x1), some (.int x2), some (.int (x3 + 1)), none, none] [] h17) 0 [some (rf 28 0), some (.int (h14 53 0 (((h 55 0 (x3.toNatClampNeg)) - 100).toNatClampNeg))), some (.int x2), some (.int r15), some (.int 0), some (.int 2), none, none, none, none] [] h14) ∧ (x1 = 2 → wi E MX7_goes (fun r20 h19 => wv E MX7_traces Q 4 [some (rf 28 0), some (.int x1), some (.int x2), some (.int (x3 + 1)), none, none] [] h19) 0 [some (rf 28 0), some (.int (h14 53 0 (((h 55 0 (x3.toNatClampNeg)) - 100).toNatClampNeg))), some (.int x2), some (.int r15), some (.int 0), some (.int 1), none, none, none, none] [] h14))) 0 [some (rf 28 0), some (.int (h 53 0 (((h 55 0 (x3.toNatClampNeg)) - 100).toNatClampNeg))), some (.int x2), some (.int (h 54 0 (((h 55 0 (x3.toNatClampNeg)) - 100).toNatClampNeg))), some (.int 0), some (.int 0), none, none, none, none] [] h))) ∧ (x1 = 1 → ((¬ x1 = 2 → wi E MX7_goes (fun r23 h22 => ((¬ x1 = 2 → wi E MX7_goes (fun r26 h25 => wv E MX7_traces Q 4 [some (rf 28 0), some (.int x1), some (.int x2), some (.int (x3 + 1)), none, none] [] h25) 0 [some (rf 28 0), some (.int (h22 53 0 (((h 55 0 (x3.toNatClampNeg)) - 100).toNatClampNeg))), some (.int x2), some (.int r23), some (.int 0), some (.int 2), none, none, none, none] [] h22) ∧ (x1 = 2 → wi E MX7_goes (fun r28 h27 => wv E MX7_traces Q 4 [some (rf 28 0), some (.int x1), some (.int x2), some (.int (x3 + 1)), none, none] [] h27) 0 [some (rf 28 0), some (.int (h22 53 0 (((h 55 0 (x3.toNatClampNeg)) - 100).toNatClampNeg))), some (.int x2), some (.int r23), some (.int 0), some (.int 1), none, none, none, none] [] h22))) 0 [some (rf 28 0), some (.int (h 53 0 (((h 55 0 (x3.toNatClampNeg)) - 100).toNatClampNeg))), some (.int x2), some (.int (h 54 0 (((h 55 0 (x3.toNatClampNeg)) - 100).toNatClampNeg))), some (.int 1), some (.int 2), none, none, none, none] [] h) ∧ (x1 = 2 → wi E MX7_goes (fun r30 h29 => ((¬ x1 = 2 → wi E MX7_goes (fun r33 h32 => wv E MX7_traces Q 4 [some (rf 28 0), some (.int x1), some (.int x2), some (.int (x3 + 1)), none, none] [] h32) 0 [some (rf 28 0), some (.int (h29 53 0 (((h 55 0 (x3.toNatClampNeg)) - 100).toNatClampNeg))), some (.int x2), some (.int r30), some (.int 0), some (.int 2), none, none, none, none] [] h29) ∧ (x1 = 2 → wi E MX7_goes (fun r35 h34 => wv E MX7_traces Q 4 [some (rf 28 0), some (.int x1), some (.int x2), some (.int (x3 + 1)), none, none] [] h34) 0 [some (rf 28 0), some (.int (h29 53 0 (((h 55 0 (x3.toNatClampNeg)) - 100).toNatClampNeg))), some (.int x2), some (.int r30), some (.int 0), some (.int 1), none, none, none, none] [] h29))) 0 [some (rf 28 0), some (.int (h 53 0 (((h 55 0 (x3.toNatClampNeg)) - 100).toNatClampNeg))), some (.int x2), some (.int (h 54 0 (((h 55 0 (x3.toNatClampNeg)) - 100).toNatClampNeg))), some (.int 1), some (.int 0), none, none, none, none] [] h))))) ∧ (¬ 100 ≤ (h 55 0 (x3.toNatClampNeg)) → vp_in x2 40 ∧ wv E MX7_traces Q 4 [some (rf 28 0), some (.int x1), some (.int (x2 + 1)), some (.int (x3 + 1)), none, none] [] (up h 63 0 (x2.toNatClampNeg) (h 52 0 (x2.toNatClampNeg)))))))
set_option maxRecDepth 20000 in
theorem sX7_traces_4 {E : EN} {x1 : Int32} {x2 : Int32} {x3 : Int32} {h : TH} {Q : TH → Prop}  (hS : SX7_traces_4 E x1 x2 x3 h Q) : wv E MX7_traces Q 4 [some (rf 28 0), some (.int x1), some (.int x2), some (.int x3), none, none] [] h := by
  refine q_ild3 dX7_traces_4 (q_ald0 dX7_traces_5 (wz_getI dX7_traces_6 cf7 t506 (kf := 7) gi_28_7 gc_28 rfl ?_))
  refine wz_icmp_ge (tgt := 130) dX7_traces_9 rfl (fun c1 => ?_) (fun c1 => ?_)
  · replace hS := hS.1 c1
    exact wv_ret dX7_traces_130 rfl hS
  · replace hS := hS.2 c1
    refine q_ald0 dX7_traces_12 (wz_getR dX7_traces_13 cf7 t505 (kf := 36) gr_28_36 gc_28 (q_ild3 dX7_traces_16 ?_))
    obtain ⟨hi2, hS⟩ := hS
    refine wz_iald dX7_traces_17 ga_55 gc_55 hi2 rfl (wz_bipush dX7_traces_18 kbipush_100 ?_)
    refine wz_icmp_ge (tgt := 41) dX7_traces_20 rfl (fun c3 => ?_) (fun c3 => ?_)
    · replace hS := hS.1 c3
      refine q_ald0 dX7_traces_41 (wz_getR dX7_traces_42 cf7 t505 (kf := 36) gr_28_36 gc_28 (q_ild3 dX7_traces_45 (wz_iald dX7_traces_46 ga_55 gc_55 hi2 rfl (wz_bipush dX7_traces_47 kbipush_100 (wz_isub dX7_traces_49 (q_ist4 dX7_traces_50 (ltX7_traces_4) rfl (q_ald0 dX7_traces_52 ?_)))))))
      refine wz_pc (pc2 := 53) rfl ?_
      refine wz_getR dX7_traces_53 cf7 t513 (kf := 35) gr_28_35 gc_28 (q_ild4 dX7_traces_56 ?_)
      obtain ⟨hi4, hS⟩ := hS
      refine wz_iald dX7_traces_58 ga_54 gc_54 hi4 rfl (q_ist5 dX7_traces_59 (ltX7_traces_5) rfl (q_ald0 dX7_traces_61 (q_ald0 dX7_traces_62 (wz_getR dX7_traces_63 cf7 t512 (kf := 34) gr_28_34 gc_28 (q_ild4 dX7_traces_66 (wz_iald dX7_traces_68 ga_53 gc_53 hi4 rfl (q_ild2 dX7_traces_69 ?_)))))))
      refine wz_pc (pc2 := 70) rfl ?_
      refine q_ild5 dX7_traces_70 (q_ild1 dX7_traces_72 (wz_iconst dX7_traces_73 kiconst_1 ?_))
      refine wz_icmp_ne (tgt := 81) dX7_traces_74 rfl (fun c5 => ?_) (fun c5 => ?_)
      · replace hS := hS.1 c5
        refine wz_iconst dX7_traces_81 kiconst_0 (q_ild1 dX7_traces_82 (wz_iconst dX7_traces_83 kiconst_2 ?_))
        refine wz_icmp_ne (tgt := 91) dX7_traces_84 rfl (fun c6 => ?_) (fun c6 => ?_)
        · replace hS := hS.1 c6
          refine wz_iconst dX7_traces_91 kiconst_2 ?_
          refine wz_virtI (M := MX7_traces) (pc := 92) (M' := MX7_goes) (n := 5) (As := [.int (h 53 0 (((h 55 0 (x3.toNatClampNeg)) - 100).toNatClampNeg)), .int x2, .int (h 54 0 (((h 55 0 (x3.toNatClampNeg)) - 100).toNatClampNeg)), .int 0, .int 2]) (st := []) dX7_traces_92 cf7 rfl go_28 gc_28 rfl cat_iiiii okX7_traces_X7_goes cwX7_250 (Nat.le_of_ble_eq_true rfl) ⟨Nat.zero_le _, Nat.zero_le _⟩ rfl (ls0 := [some (rf 28 0), some (.int (h 53 0 (((h 55 0 (x3.toNatClampNeg)) - 100).toNatClampNeg))), some (.int x2), some (.int (h 54 0 (((h 55 0 (x3.toNatClampNeg)) - 100).toNatClampNeg))), some (.int 0), some (.int 2), none, none, none, none]) rfl hS (fun r8 h7 hS => ?_)
          refine q_ist5 dX7_traces_95 (ltX7_traces_5) rfl (q_ald0 dX7_traces_97 (q_ald0 dX7_traces_98 (wz_getR dX7_traces_99 cf7 t512 (kf := 34) gr_28_34 gc_28 (q_ild4 dX7_traces_102 (wz_iald dX7_traces_104 ga_53 gc_53 hi4 rfl (q_ild2 dX7_traces_105 (q_ild5 dX7_traces_106 ?_)))))))
          refine wz_pc (pc2 := 108) rfl ?_
          refine wz_iconst dX7_traces_108 kiconst_0 (q_ild1 dX7_traces_109 (wz_iconst dX7_traces_110 kiconst_2 ?_))
          refine wz_icmp_ne (tgt := 118) dX7_traces_111 rfl (fun c9 => ?_) (fun c9 => ?_)
          · replace hS := hS.1 c9
            refine wz_iconst dX7_traces_118 kiconst_2 ?_
            refine wz_virtI (M := MX7_traces) (pc := 119) (M' := MX7_goes) (n := 5) (As := [.int (h7 53 0 (((h 55 0 (x3.toNatClampNeg)) - 100).toNatClampNeg)), .int x2, .int r8, .int 0, .int 2]) (st := []) dX7_traces_119 cf7 rfl go_28 gc_28 rfl cat_iiiii okX7_traces_X7_goes cwX7_250 (Nat.le_of_ble_eq_true rfl) ⟨Nat.zero_le _, Nat.zero_le _⟩ rfl (ls0 := [some (rf 28 0), some (.int (h7 53 0 (((h 55 0 (x3.toNatClampNeg)) - 100).toNatClampNeg))), some (.int x2), some (.int r8), some (.int 0), some (.int 2), none, none, none, none]) rfl hS (fun r11 h10 hS => ?_)
            refine q_ist5 dX7_traces_122 (ltX7_traces_5) rfl (q_inc3 (v := (x3 + 1)) dX7_traces_124 rfl (ltX7_traces_3) rfl (wz_goto (tgt := 4) dX7_traces_127 rfl ?_))
            exact wz_mask [true, true, true, true, false, false] rfl hS
          · replace hS := hS.2 c9
            refine wz_iconst dX7_traces_114 kiconst_1 (wz_goto (tgt := 119) dX7_traces_115 rfl ?_)
            refine wz_virtI (M := MX7_traces) (pc := 119) (M' := MX7_goes) (n := 5) (As := [.int (h7 53 0 (((h 55 0 (x3.toNatClampNeg)) - 100).toNatClampNeg)), .int x2, .int r8, .int 0, .int 1]) (st := []) dX7_traces_119 cf7 rfl go_28 gc_28 rfl cat_iiiii okX7_traces_X7_goes cwX7_250 (Nat.le_of_ble_eq_true rfl) ⟨Nat.zero_le _, Nat.zero_le _⟩ rfl (ls0 := [some (rf 28 0), some (.int (h7 53 0 (((h 55 0 (x3.toNatClampNeg)) - 100).toNatClampNeg))), some (.int x2), some (.int r8), some (.int 0), some (.int 1), none, none, none, none]) rfl hS (fun r13 h12 hS => ?_)
            refine q_ist5 dX7_traces_122 (ltX7_traces_5) rfl (q_inc3 (v := (x3 + 1)) dX7_traces_124 rfl (ltX7_traces_3) rfl (wz_goto (tgt := 4) dX7_traces_127 rfl ?_))
            exact wz_mask [true, true, true, true, false, false] rfl hS
        · replace hS := hS.2 c6
          refine wz_iconst dX7_traces_87 kiconst_0 (wz_goto (tgt := 92) dX7_traces_88 rfl ?_)
          refine wz_virtI (M := MX7_traces) (pc := 92) (M' := MX7_goes) (n := 5) (As := [.int (h 53 0 (((h 55 0 (x3.toNatClampNeg)) - 100).toNatClampNeg)), .int x2, .int (h 54 0 (((h 55 0 (x3.toNatClampNeg)) - 100).toNatClampNeg)), .int 0, .int 0]) (st := []) dX7_traces_92 cf7 rfl go_28 gc_28 rfl cat_iiiii okX7_traces_X7_goes cwX7_250 (Nat.le_of_ble_eq_true rfl) ⟨Nat.zero_le _, Nat.zero_le _⟩ rfl (ls0 := [some (rf 28 0), some (.int (h 53 0 (((h 55 0 (x3.toNatClampNeg)) - 100).toNatClampNeg))), some (.int x2), some (.int (h 54 0 (((h 55 0 (x3.toNatClampNeg)) - 100).toNatClampNeg))), some (.int 0), some (.int 0), none, none, none, none]) rfl hS (fun r15 h14 hS => ?_)
          refine q_ist5 dX7_traces_95 (ltX7_traces_5) rfl (q_ald0 dX7_traces_97 (q_ald0 dX7_traces_98 (wz_getR dX7_traces_99 cf7 t512 (kf := 34) gr_28_34 gc_28 (q_ild4 dX7_traces_102 (wz_iald dX7_traces_104 ga_53 gc_53 hi4 rfl (q_ild2 dX7_traces_105 (q_ild5 dX7_traces_106 ?_)))))))
          refine wz_pc (pc2 := 108) rfl ?_
          refine wz_iconst dX7_traces_108 kiconst_0 (q_ild1 dX7_traces_109 (wz_iconst dX7_traces_110 kiconst_2 ?_))
          refine wz_icmp_ne (tgt := 118) dX7_traces_111 rfl (fun c16 => ?_) (fun c16 => ?_)
          · replace hS := hS.1 c16
            refine wz_iconst dX7_traces_118 kiconst_2 ?_
            refine wz_virtI (M := MX7_traces) (pc := 119) (M' := MX7_goes) (n := 5) (As := [.int (h14 53 0 (((h 55 0 (x3.toNatClampNeg)) - 100).toNatClampNeg)), .int x2, .int r15, .int 0, .int 2]) (st := []) dX7_traces_119 cf7 rfl go_28 gc_28 rfl cat_iiiii okX7_traces_X7_goes cwX7_250 (Nat.le_of_ble_eq_true rfl) ⟨Nat.zero_le _, Nat.zero_le _⟩ rfl (ls0 := [some (rf 28 0), some (.int (h14 53 0 (((h 55 0 (x3.toNatClampNeg)) - 100).toNatClampNeg))), some (.int x2), some (.int r15), some (.int 0), some (.int 2), none, none, none, none]) rfl hS (fun r18 h17 hS => ?_)
            refine q_ist5 dX7_traces_122 (ltX7_traces_5) rfl (q_inc3 (v := (x3 + 1)) dX7_traces_124 rfl (ltX7_traces_3) rfl (wz_goto (tgt := 4) dX7_traces_127 rfl ?_))
            exact wz_mask [true, true, true, true, false, false] rfl hS
          · replace hS := hS.2 c16
            refine wz_iconst dX7_traces_114 kiconst_1 (wz_goto (tgt := 119) dX7_traces_115 rfl ?_)
            refine wz_virtI (M := MX7_traces) (pc := 119) (M' := MX7_goes) (n := 5) (As := [.int (h14 53 0 (((h 55 0 (x3.toNatClampNeg)) - 100).toNatClampNeg)), .int x2, .int r15, .int 0, .int 1]) (st := []) dX7_traces_119 cf7 rfl go_28 gc_28 rfl cat_iiiii okX7_traces_X7_goes cwX7_250 (Nat.le_of_ble_eq_true rfl) ⟨Nat.zero_le _, Nat.zero_le _⟩ rfl (ls0 := [some (rf 28 0), some (.int (h14 53 0 (((h 55 0 (x3.toNatClampNeg)) - 100).toNatClampNeg))), some (.int x2), some (.int r15), some (.int 0), some (.int 1), none, none, none, none]) rfl hS (fun r20 h19 hS => ?_)
            refine q_ist5 dX7_traces_122 (ltX7_traces_5) rfl (q_inc3 (v := (x3 + 1)) dX7_traces_124 rfl (ltX7_traces_3) rfl (wz_goto (tgt := 4) dX7_traces_127 rfl ?_))
            exact wz_mask [true, true, true, true, false, false] rfl hS
      · replace hS := hS.2 c5
        refine wz_iconst dX7_traces_77 kiconst_1 (wz_goto (tgt := 82) dX7_traces_78 rfl (q_ild1 dX7_traces_82 (wz_iconst dX7_traces_83 kiconst_2 ?_)))
        refine wz_icmp_ne (tgt := 91) dX7_traces_84 rfl (fun c21 => ?_) (fun c21 => ?_)
        · replace hS := hS.1 c21
          refine wz_iconst dX7_traces_91 kiconst_2 ?_
          refine wz_virtI (M := MX7_traces) (pc := 92) (M' := MX7_goes) (n := 5) (As := [.int (h 53 0 (((h 55 0 (x3.toNatClampNeg)) - 100).toNatClampNeg)), .int x2, .int (h 54 0 (((h 55 0 (x3.toNatClampNeg)) - 100).toNatClampNeg)), .int 1, .int 2]) (st := []) dX7_traces_92 cf7 rfl go_28 gc_28 rfl cat_iiiii okX7_traces_X7_goes cwX7_250 (Nat.le_of_ble_eq_true rfl) ⟨Nat.zero_le _, Nat.zero_le _⟩ rfl (ls0 := [some (rf 28 0), some (.int (h 53 0 (((h 55 0 (x3.toNatClampNeg)) - 100).toNatClampNeg))), some (.int x2), some (.int (h 54 0 (((h 55 0 (x3.toNatClampNeg)) - 100).toNatClampNeg))), some (.int 1), some (.int 2), none, none, none, none]) rfl hS (fun r23 h22 hS => ?_)
          refine q_ist5 dX7_traces_95 (ltX7_traces_5) rfl (q_ald0 dX7_traces_97 (q_ald0 dX7_traces_98 (wz_getR dX7_traces_99 cf7 t512 (kf := 34) gr_28_34 gc_28 (q_ild4 dX7_traces_102 (wz_iald dX7_traces_104 ga_53 gc_53 hi4 rfl (q_ild2 dX7_traces_105 (q_ild5 dX7_traces_106 ?_)))))))
          refine wz_pc (pc2 := 108) rfl ?_
          refine wz_iconst dX7_traces_108 kiconst_0 (q_ild1 dX7_traces_109 (wz_iconst dX7_traces_110 kiconst_2 ?_))
          refine wz_icmp_ne (tgt := 118) dX7_traces_111 rfl (fun c24 => ?_) (fun c24 => ?_)
          · replace hS := hS.1 c24
            refine wz_iconst dX7_traces_118 kiconst_2 ?_
            refine wz_virtI (M := MX7_traces) (pc := 119) (M' := MX7_goes) (n := 5) (As := [.int (h22 53 0 (((h 55 0 (x3.toNatClampNeg)) - 100).toNatClampNeg)), .int x2, .int r23, .int 0, .int 2]) (st := []) dX7_traces_119 cf7 rfl go_28 gc_28 rfl cat_iiiii okX7_traces_X7_goes cwX7_250 (Nat.le_of_ble_eq_true rfl) ⟨Nat.zero_le _, Nat.zero_le _⟩ rfl (ls0 := [some (rf 28 0), some (.int (h22 53 0 (((h 55 0 (x3.toNatClampNeg)) - 100).toNatClampNeg))), some (.int x2), some (.int r23), some (.int 0), some (.int 2), none, none, none, none]) rfl hS (fun r26 h25 hS => ?_)
            refine q_ist5 dX7_traces_122 (ltX7_traces_5) rfl (q_inc3 (v := (x3 + 1)) dX7_traces_124 rfl (ltX7_traces_3) rfl (wz_goto (tgt := 4) dX7_traces_127 rfl ?_))
            exact wz_mask [true, true, true, true, false, false] rfl hS
          · replace hS := hS.2 c24
            refine wz_iconst dX7_traces_114 kiconst_1 (wz_goto (tgt := 119) dX7_traces_115 rfl ?_)
            refine wz_virtI (M := MX7_traces) (pc := 119) (M' := MX7_goes) (n := 5) (As := [.int (h22 53 0 (((h 55 0 (x3.toNatClampNeg)) - 100).toNatClampNeg)), .int x2, .int r23, .int 0, .int 1]) (st := []) dX7_traces_119 cf7 rfl go_28 gc_28 rfl cat_iiiii okX7_traces_X7_goes cwX7_250 (Nat.le_of_ble_eq_true rfl) ⟨Nat.zero_le _, Nat.zero_le _⟩ rfl (ls0 := [some (rf 28 0), some (.int (h22 53 0 (((h 55 0 (x3.toNatClampNeg)) - 100).toNatClampNeg))), some (.int x2), some (.int r23), some (.int 0), some (.int 1), none, none, none, none]) rfl hS (fun r28 h27 hS => ?_)
            refine q_ist5 dX7_traces_122 (ltX7_traces_5) rfl (q_inc3 (v := (x3 + 1)) dX7_traces_124 rfl (ltX7_traces_3) rfl (wz_goto (tgt := 4) dX7_traces_127 rfl ?_))
            exact wz_mask [true, true, true, true, false, false] rfl hS
        · replace hS := hS.2 c21
          refine wz_iconst dX7_traces_87 kiconst_0 (wz_goto (tgt := 92) dX7_traces_88 rfl ?_)
          refine wz_virtI (M := MX7_traces) (pc := 92) (M' := MX7_goes) (n := 5) (As := [.int (h 53 0 (((h 55 0 (x3.toNatClampNeg)) - 100).toNatClampNeg)), .int x2, .int (h 54 0 (((h 55 0 (x3.toNatClampNeg)) - 100).toNatClampNeg)), .int 1, .int 0]) (st := []) dX7_traces_92 cf7 rfl go_28 gc_28 rfl cat_iiiii okX7_traces_X7_goes cwX7_250 (Nat.le_of_ble_eq_true rfl) ⟨Nat.zero_le _, Nat.zero_le _⟩ rfl (ls0 := [some (rf 28 0), some (.int (h 53 0 (((h 55 0 (x3.toNatClampNeg)) - 100).toNatClampNeg))), some (.int x2), some (.int (h 54 0 (((h 55 0 (x3.toNatClampNeg)) - 100).toNatClampNeg))), some (.int 1), some (.int 0), none, none, none, none]) rfl hS (fun r30 h29 hS => ?_)
          refine q_ist5 dX7_traces_95 (ltX7_traces_5) rfl (q_ald0 dX7_traces_97 (q_ald0 dX7_traces_98 (wz_getR dX7_traces_99 cf7 t512 (kf := 34) gr_28_34 gc_28 (q_ild4 dX7_traces_102 (wz_iald dX7_traces_104 ga_53 gc_53 hi4 rfl (q_ild2 dX7_traces_105 (q_ild5 dX7_traces_106 ?_)))))))
          refine wz_pc (pc2 := 108) rfl ?_
          refine wz_iconst dX7_traces_108 kiconst_0 (q_ild1 dX7_traces_109 (wz_iconst dX7_traces_110 kiconst_2 ?_))
          refine wz_icmp_ne (tgt := 118) dX7_traces_111 rfl (fun c31 => ?_) (fun c31 => ?_)
          · replace hS := hS.1 c31
            refine wz_iconst dX7_traces_118 kiconst_2 ?_
            refine wz_virtI (M := MX7_traces) (pc := 119) (M' := MX7_goes) (n := 5) (As := [.int (h29 53 0 (((h 55 0 (x3.toNatClampNeg)) - 100).toNatClampNeg)), .int x2, .int r30, .int 0, .int 2]) (st := []) dX7_traces_119 cf7 rfl go_28 gc_28 rfl cat_iiiii okX7_traces_X7_goes cwX7_250 (Nat.le_of_ble_eq_true rfl) ⟨Nat.zero_le _, Nat.zero_le _⟩ rfl (ls0 := [some (rf 28 0), some (.int (h29 53 0 (((h 55 0 (x3.toNatClampNeg)) - 100).toNatClampNeg))), some (.int x2), some (.int r30), some (.int 0), some (.int 2), none, none, none, none]) rfl hS (fun r33 h32 hS => ?_)
            refine q_ist5 dX7_traces_122 (ltX7_traces_5) rfl (q_inc3 (v := (x3 + 1)) dX7_traces_124 rfl (ltX7_traces_3) rfl (wz_goto (tgt := 4) dX7_traces_127 rfl ?_))
            exact wz_mask [true, true, true, true, false, false] rfl hS
          · replace hS := hS.2 c31
            refine wz_iconst dX7_traces_114 kiconst_1 (wz_goto (tgt := 119) dX7_traces_115 rfl ?_)
            refine wz_virtI (M := MX7_traces) (pc := 119) (M' := MX7_goes) (n := 5) (As := [.int (h29 53 0 (((h 55 0 (x3.toNatClampNeg)) - 100).toNatClampNeg)), .int x2, .int r30, .int 0, .int 1]) (st := []) dX7_traces_119 cf7 rfl go_28 gc_28 rfl cat_iiiii okX7_traces_X7_goes cwX7_250 (Nat.le_of_ble_eq_true rfl) ⟨Nat.zero_le _, Nat.zero_le _⟩ rfl (ls0 := [some (rf 28 0), some (.int (h29 53 0 (((h 55 0 (x3.toNatClampNeg)) - 100).toNatClampNeg))), some (.int x2), some (.int r30), some (.int 0), some (.int 1), none, none, none, none]) rfl hS (fun r35 h34 hS => ?_)
            refine q_ist5 dX7_traces_122 (ltX7_traces_5) rfl (q_inc3 (v := (x3 + 1)) dX7_traces_124 rfl (ltX7_traces_3) rfl (wz_goto (tgt := 4) dX7_traces_127 rfl ?_))
            exact wz_mask [true, true, true, true, false, false] rfl hS
    · replace hS := hS.2 c3
      refine q_ald0 dX7_traces_23 (wz_getR dX7_traces_24 cf7 t518 (kf := 45) gr_28_45 gc_28 (q_ild2 dX7_traces_27 (q_ald0 dX7_traces_28 (wz_getR dX7_traces_29 cf7 t504 (kf := 33) gr_28_33 gc_28 (q_ild2 dX7_traces_32 ?_)))))
      obtain ⟨hi36, hS⟩ := hS
      refine wz_iald dX7_traces_33 ga_52 gc_52 hi36 rfl (wz_iast dX7_traces_34 ga_63 gc_63 hi36 rfl (q_inc2 (v := (x2 + 1)) dX7_traces_35 rfl (ltX7_traces_2) rfl (wz_goto (tgt := 124) dX7_traces_38 rfl (q_inc3 (v := (x3 + 1)) dX7_traces_124 rfl (ltX7_traces_3) rfl (wz_goto (tgt := 4) dX7_traces_127 rfl ?_)))))
      exact hS
def SX7_trace (E : EN) (a1 : Int32) (a2 : Int32) (h : TH) (Q : Int32 → TH → Prop) : Prop := SX7_isIn E a1 0 ((h 28 0 5) - 1) h (fun r2 h1 => ((r2 = 0 → SX7_finds E (-1000000001) h1 (fun r5 h4 => Q r5 h4)) ∧ (¬ r2 = 0 → SX7_isIn E a2 0 2 h1 (fun r7 h6 => ((¬ r7 = 0 → wv E MX7_traces (fun h9 => vp_in a1 40 ∧ Q (h9 63 0 (a1.toNatClampNeg)) h9) 0 [some (rf 28 0), some (.int a2), none, none, none, none] [] h6) ∧ (r7 = 0 → SX7_finds E (-1000000001) h6 (fun r13 h12 => Q r13 h12)))))))
set_option maxRecDepth 20000 in
theorem sX7_trace {E : EN} {a1 : Int32} {a2 : Int32} {h : TH} {Q : Int32 → TH → Prop}  (hS : SX7_trace E a1 a2 h Q) : wi E MX7_trace Q 0 [some (rf 28 0), some (.int a1), some (.int a2)] [] h := by
  refine q_ild1 dX7_trace_0 (wz_iconst dX7_trace_1 kiconst_0 (q_ald0 dX7_trace_2 (wz_getI dX7_trace_3 cf7 t501 (kf := 5) gi_28_5 gc_28 rfl (wz_iconst dX7_trace_6 kiconst_1 (wz_isub dX7_trace_7 ?_)))))
  refine wz_statI (M := MX7_trace) (pc := 8) (M' := MX7_isIn) (n := 3) (As := [.int a1, .int 0, .int ((h 28 0 5) - 1)]) (st := []) dX7_trace_8 rfl cat_iii okX7_trace_X7_isIn cwX7_121 (Nat.le_of_ble_eq_true rfl) ⟨Nat.zero_le _, Nat.zero_le _⟩ rfl (ls0 := [some (.int a1), some (.int 0), some (.int ((h 28 0 5) - 1))]) rfl (sX7_isIn  hS) (fun r2 h1 hS => ?_)
  refine wz_if_eq (tgt := 23) dX7_trace_11 rfl (fun c3 => ?_) (fun c3 => ?_)
  · replace hS := hS.1 c3
    refine q_ald0 dX7_trace_23 (wz_ldc dX7_trace_24 t370 ?_)
    refine wz_virtI (M := MX7_trace) (pc := 26) (M' := MX7_finds) (n := 1) (As := [.int (-1000000001)]) (st := []) dX7_trace_26 cf7 rfl go_28 gc_28 rfl cat_i okX7_trace_X7_finds cwX7_132 (Nat.le_of_ble_eq_true rfl) ⟨Nat.zero_le _, Nat.zero_le _⟩ rfl (ls0 := [some (rf 28 0), some (.int (-1000000001))]) rfl (sX7_finds  hS) (fun r5 h4 hS => ?_)
    exact wi_ret dX7_trace_29 rfl hS
  · replace hS := hS.2 c3
    refine q_ild2 dX7_trace_14 (wz_iconst dX7_trace_15 kiconst_0 (wz_iconst dX7_trace_16 kiconst_2 ?_))
    refine wz_statI (M := MX7_trace) (pc := 17) (M' := MX7_isIn) (n := 3) (As := [.int a2, .int 0, .int 2]) (st := []) dX7_trace_17 rfl cat_iii okX7_trace_X7_isIn cwX7_121 (Nat.le_of_ble_eq_true rfl) ⟨Nat.zero_le _, Nat.zero_le _⟩ rfl (ls0 := [some (.int a2), some (.int 0), some (.int 2)]) rfl (sX7_isIn  hS) (fun r7 h6 hS => ?_)
    refine wz_if_ne (tgt := 30) dX7_trace_20 rfl (fun c8 => ?_) (fun c8 => ?_)
    · replace hS := hS.1 c8
      refine q_ald0 dX7_trace_30 (q_ild2 dX7_trace_31 ?_)
      refine wz_virtV (M := MX7_trace) (pc := 32) (M' := MX7_traces) (n := 1) (As := [.int a2]) (st := []) dX7_trace_32 cf7 rfl go_28 gc_28 rfl cat_i okX7_trace_X7_traces cwX7_254 (Nat.le_of_ble_eq_true rfl) ⟨Nat.zero_le _, Nat.zero_le _⟩ rfl (ls0 := [some (rf 28 0), some (.int a2), none, none, none, none]) rfl hS (fun h9 hS => ?_)
      refine q_ald0 dX7_trace_35 (wz_getR dX7_trace_36 cf7 t518 (kf := 45) gr_28_45 gc_28 (q_ild1 dX7_trace_39 ?_))
      obtain ⟨hi11, hS⟩ := hS
      refine wz_iald dX7_trace_40 ga_63 gc_63 hi11 rfl ?_
      exact wi_ret dX7_trace_41 rfl hS
    · replace hS := hS.2 c8
      refine q_ald0 dX7_trace_23 (wz_ldc dX7_trace_24 t370 ?_)
      refine wz_virtI (M := MX7_trace) (pc := 26) (M' := MX7_finds) (n := 1) (As := [.int (-1000000001)]) (st := []) dX7_trace_26 cf7 rfl go_28 gc_28 rfl cat_i okX7_trace_X7_finds cwX7_132 (Nat.le_of_ble_eq_true rfl) ⟨Nat.zero_le _, Nat.zero_le _⟩ rfl (ls0 := [some (rf 28 0), some (.int (-1000000001))]) rfl (sX7_finds  hS) (fun r13 h12 hS => ?_)
      exact wi_ret dX7_trace_29 rfl hS
def SX7_held_0 (E : EN) (a1 : Int32) (a2 : Int32) (a3 : Int32) (h : TH) (Q : Int32 → TH → Prop) : Prop := SX7_isParty E a1 h (fun r2 h1 => ((r2 = 0 → SX7_finds E (-1000000001) h1 (fun r5 h4 => Q r5 h4)) ∧ (¬ r2 = 0 → ((a2 = (-1) → SX7_isIn E a3 0 2 h1 (fun r8 h7 => ((¬ r8 = 0 → SX7_isBuilder E a1 h7 (fun r11 h10 => ((¬ r11 = 0 → wv E MX7_traces (fun h13 => wi E MX7_held Q 63 [some (rf 28 0), some (.int a1), some (.int a2), none, some (.int 0), some (.int 0)] [] h13) 0 [some (rf 28 0), some (.int a3), none, none, none, none] [] h10) ∧ (r11 = 0 → SX7_finds E (-1000000005) h10 (fun r16 h15 => Q r16 h15))))) ∧ (r8 = 0 → SX7_finds E (-1000000001) h7 (fun r18 h17 => Q r18 h17))))) ∧ (¬ a2 = (-1) → SX7_isContract E a2 h1 (fun r20 h19 => ((r20 = 0 → SX7_finds E (-1000000001) h19 (fun r23 h22 => Q r23 h22)) ∧ (¬ r20 = 0 → SX7_isIn E a3 0 2 h19 (fun r25 h24 => ((¬ r25 = 0 → SX7_isBuilder E a1 h24 (fun r28 h27 => ((¬ r28 = 0 → wv E MX7_traces (fun h30 => wi E MX7_held Q 63 [some (rf 28 0), some (.int a1), some (.int a2), none, some (.int 0), some (.int 0)] [] h30) 0 [some (rf 28 0), some (.int a3), none, none, none, none] [] h27) ∧ (r28 = 0 → SX7_finds E (-1000000005) h27 (fun r33 h32 => Q r33 h32))))) ∧ (r25 = 0 → SX7_finds E (-1000000001) h24 (fun r35 h34 => Q r35 h34))))))))))))
set_option maxRecDepth 20000 in
theorem sX7_held_0 {E : EN} {a1 : Int32} {a2 : Int32} {a3 : Int32} {h : TH} {Q : Int32 → TH → Prop}  (hS : SX7_held_0 E a1 a2 a3 h Q) : wi E MX7_held Q 0 [some (rf 28 0), some (.int a1), some (.int a2), some (.int a3), none, none] [] h := by
  refine q_ald0 dX7_held_0 (q_ild1 dX7_held_1 ?_)
  refine wz_virtI (M := MX7_held) (pc := 2) (M' := MX7_isParty) (n := 1) (As := [.int a1]) (st := []) dX7_held_2 cf7 rfl go_28 gc_28 rfl cat_i okX7_held_X7_isParty cwX7_136 (Nat.le_of_ble_eq_true rfl) ⟨Nat.zero_le _, Nat.zero_le _⟩ rfl (ls0 := [some (rf 28 0), some (.int a1)]) rfl (sX7_isParty  hS) (fun r2 h1 hS => ?_)
  refine wz_if_eq (tgt := 30) dX7_held_5 rfl (fun c3 => ?_) (fun c3 => ?_)
  · replace hS := hS.1 c3
    refine q_ald0 dX7_held_30 (wz_ldc dX7_held_31 t370 ?_)
    refine wz_virtI (M := MX7_held) (pc := 33) (M' := MX7_finds) (n := 1) (As := [.int (-1000000001)]) (st := []) dX7_held_33 cf7 rfl go_28 gc_28 rfl cat_i okX7_held_X7_finds cwX7_132 (Nat.le_of_ble_eq_true rfl) ⟨Nat.zero_le _, Nat.zero_le _⟩ rfl (ls0 := [some (rf 28 0), some (.int (-1000000001))]) rfl (sX7_finds  hS) (fun r5 h4 hS => ?_)
    exact wi_ret dX7_held_36 rfl hS
  · replace hS := hS.2 c3
    refine q_ild2 dX7_held_8 (wz_iconst dX7_held_9 kiconst_m1 ?_)
    refine wz_icmp_eq (tgt := 21) dX7_held_10 rfl (fun c6 => ?_) (fun c6 => ?_)
    · replace hS := hS.1 c6
      refine q_ild3 dX7_held_21 (wz_iconst dX7_held_22 kiconst_0 (wz_iconst dX7_held_23 kiconst_2 ?_))
      refine wz_statI (M := MX7_held) (pc := 24) (M' := MX7_isIn) (n := 3) (As := [.int a3, .int 0, .int 2]) (st := []) dX7_held_24 rfl cat_iii okX7_held_X7_isIn cwX7_121 (Nat.le_of_ble_eq_true rfl) ⟨Nat.zero_le _, Nat.zero_le _⟩ rfl (ls0 := [some (.int a3), some (.int 0), some (.int 2)]) rfl (sX7_isIn  hS) (fun r8 h7 hS => ?_)
      refine wz_if_ne (tgt := 37) dX7_held_27 rfl (fun c9 => ?_) (fun c9 => ?_)
      · replace hS := hS.1 c9
        refine q_ald0 dX7_held_37 (q_ild1 dX7_held_38 ?_)
        refine wz_virtI (M := MX7_held) (pc := 39) (M' := MX7_isBuilder) (n := 1) (As := [.int a1]) (st := []) dX7_held_39 cf7 rfl go_28 gc_28 rfl cat_i okX7_held_X7_isBuilder cwX7_235 (Nat.le_of_ble_eq_true rfl) ⟨Nat.zero_le _, Nat.zero_le _⟩ rfl (ls0 := [some (rf 28 0), some (.int a1)]) rfl (sX7_isBuilder  hS) (fun r11 h10 hS => ?_)
        refine wz_if_ne (tgt := 52) dX7_held_42 rfl (fun c12 => ?_) (fun c12 => ?_)
        · replace hS := hS.1 c12
          refine q_ald0 dX7_held_52 (q_ild3 dX7_held_53 ?_)
          refine wz_virtV (M := MX7_held) (pc := 54) (M' := MX7_traces) (n := 1) (As := [.int a3]) (st := []) dX7_held_54 cf7 rfl go_28 gc_28 rfl cat_i okX7_held_X7_traces cwX7_254 (Nat.le_of_ble_eq_true rfl) ⟨Nat.zero_le _, Nat.zero_le _⟩ rfl (ls0 := [some (rf 28 0), some (.int a3), none, none, none, none]) rfl hS (fun h13 hS => ?_)
          refine wz_iconst dX7_held_57 kiconst_0 (q_ist4 dX7_held_58 (ltX7_held_4) rfl (wz_iconst dX7_held_60 kiconst_0 (q_ist5 dX7_held_61 (ltX7_held_5) rfl ?_)))
          exact wz_mask [true, true, true, false, true, true] rfl hS
        · replace hS := hS.2 c12
          refine q_ald0 dX7_held_45 (wz_ldc dX7_held_46 t371 ?_)
          refine wz_virtI (M := MX7_held) (pc := 48) (M' := MX7_finds) (n := 1) (As := [.int (-1000000005)]) (st := []) dX7_held_48 cf7 rfl go_28 gc_28 rfl cat_i okX7_held_X7_finds cwX7_132 (Nat.le_of_ble_eq_true rfl) ⟨Nat.zero_le _, Nat.zero_le _⟩ rfl (ls0 := [some (rf 28 0), some (.int (-1000000005))]) rfl (sX7_finds  hS) (fun r16 h15 hS => ?_)
          exact wi_ret dX7_held_51 rfl hS
      · replace hS := hS.2 c9
        refine q_ald0 dX7_held_30 (wz_ldc dX7_held_31 t370 ?_)
        refine wz_virtI (M := MX7_held) (pc := 33) (M' := MX7_finds) (n := 1) (As := [.int (-1000000001)]) (st := []) dX7_held_33 cf7 rfl go_28 gc_28 rfl cat_i okX7_held_X7_finds cwX7_132 (Nat.le_of_ble_eq_true rfl) ⟨Nat.zero_le _, Nat.zero_le _⟩ rfl (ls0 := [some (rf 28 0), some (.int (-1000000001))]) rfl (sX7_finds  hS) (fun r18 h17 hS => ?_)
        exact wi_ret dX7_held_36 rfl hS
    · replace hS := hS.2 c6
      refine q_ald0 dX7_held_13 (q_ild2 dX7_held_14 ?_)
      refine wz_virtI (M := MX7_held) (pc := 15) (M' := MX7_isContract) (n := 1) (As := [.int a2]) (st := []) dX7_held_15 cf7 rfl go_28 gc_28 rfl cat_i okX7_held_X7_isContract cwX7_150 (Nat.le_of_ble_eq_true rfl) ⟨Nat.zero_le _, Nat.zero_le _⟩ rfl (ls0 := [some (rf 28 0), some (.int a2)]) rfl (sX7_isContract  hS) (fun r20 h19 hS => ?_)
      refine wz_if_eq (tgt := 30) dX7_held_18 rfl (fun c21 => ?_) (fun c21 => ?_)
      · replace hS := hS.1 c21
        refine q_ald0 dX7_held_30 (wz_ldc dX7_held_31 t370 ?_)
        refine wz_virtI (M := MX7_held) (pc := 33) (M' := MX7_finds) (n := 1) (As := [.int (-1000000001)]) (st := []) dX7_held_33 cf7 rfl go_28 gc_28 rfl cat_i okX7_held_X7_finds cwX7_132 (Nat.le_of_ble_eq_true rfl) ⟨Nat.zero_le _, Nat.zero_le _⟩ rfl (ls0 := [some (rf 28 0), some (.int (-1000000001))]) rfl (sX7_finds  hS) (fun r23 h22 hS => ?_)
        exact wi_ret dX7_held_36 rfl hS
      · replace hS := hS.2 c21
        refine q_ild3 dX7_held_21 (wz_iconst dX7_held_22 kiconst_0 (wz_iconst dX7_held_23 kiconst_2 ?_))
        refine wz_statI (M := MX7_held) (pc := 24) (M' := MX7_isIn) (n := 3) (As := [.int a3, .int 0, .int 2]) (st := []) dX7_held_24 rfl cat_iii okX7_held_X7_isIn cwX7_121 (Nat.le_of_ble_eq_true rfl) ⟨Nat.zero_le _, Nat.zero_le _⟩ rfl (ls0 := [some (.int a3), some (.int 0), some (.int 2)]) rfl (sX7_isIn  hS) (fun r25 h24 hS => ?_)
        refine wz_if_ne (tgt := 37) dX7_held_27 rfl (fun c26 => ?_) (fun c26 => ?_)
        · replace hS := hS.1 c26
          refine q_ald0 dX7_held_37 (q_ild1 dX7_held_38 ?_)
          refine wz_virtI (M := MX7_held) (pc := 39) (M' := MX7_isBuilder) (n := 1) (As := [.int a1]) (st := []) dX7_held_39 cf7 rfl go_28 gc_28 rfl cat_i okX7_held_X7_isBuilder cwX7_235 (Nat.le_of_ble_eq_true rfl) ⟨Nat.zero_le _, Nat.zero_le _⟩ rfl (ls0 := [some (rf 28 0), some (.int a1)]) rfl (sX7_isBuilder  hS) (fun r28 h27 hS => ?_)
          refine wz_if_ne (tgt := 52) dX7_held_42 rfl (fun c29 => ?_) (fun c29 => ?_)
          · replace hS := hS.1 c29
            refine q_ald0 dX7_held_52 (q_ild3 dX7_held_53 ?_)
            refine wz_virtV (M := MX7_held) (pc := 54) (M' := MX7_traces) (n := 1) (As := [.int a3]) (st := []) dX7_held_54 cf7 rfl go_28 gc_28 rfl cat_i okX7_held_X7_traces cwX7_254 (Nat.le_of_ble_eq_true rfl) ⟨Nat.zero_le _, Nat.zero_le _⟩ rfl (ls0 := [some (rf 28 0), some (.int a3), none, none, none, none]) rfl hS (fun h30 hS => ?_)
            refine wz_iconst dX7_held_57 kiconst_0 (q_ist4 dX7_held_58 (ltX7_held_4) rfl (wz_iconst dX7_held_60 kiconst_0 (q_ist5 dX7_held_61 (ltX7_held_5) rfl ?_)))
            exact wz_mask [true, true, true, false, true, true] rfl hS
          · replace hS := hS.2 c29
            refine q_ald0 dX7_held_45 (wz_ldc dX7_held_46 t371 ?_)
            refine wz_virtI (M := MX7_held) (pc := 48) (M' := MX7_finds) (n := 1) (As := [.int (-1000000005)]) (st := []) dX7_held_48 cf7 rfl go_28 gc_28 rfl cat_i okX7_held_X7_finds cwX7_132 (Nat.le_of_ble_eq_true rfl) ⟨Nat.zero_le _, Nat.zero_le _⟩ rfl (ls0 := [some (rf 28 0), some (.int (-1000000005))]) rfl (sX7_finds  hS) (fun r33 h32 hS => ?_)
            exact wi_ret dX7_held_51 rfl hS
        · replace hS := hS.2 c26
          refine q_ald0 dX7_held_30 (wz_ldc dX7_held_31 t370 ?_)
          refine wz_virtI (M := MX7_held) (pc := 33) (M' := MX7_finds) (n := 1) (As := [.int (-1000000001)]) (st := []) dX7_held_33 cf7 rfl go_28 gc_28 rfl cat_i okX7_held_X7_finds cwX7_132 (Nat.le_of_ble_eq_true rfl) ⟨Nat.zero_le _, Nat.zero_le _⟩ rfl (ls0 := [some (rf 28 0), some (.int (-1000000001))]) rfl (sX7_finds  hS) (fun r35 h34 hS => ?_)
          exact wi_ret dX7_held_36 rfl hS
def SX7_held_63 (E : EN) (x1 : Int32) (x2 : Int32) (x4 : Int32) (x5 : Int32) (h : TH) (Q : Int32 → TH → Prop) : Prop := (((h 28 0 5) ≤ x5 → Q x4 h) ∧ (¬ (h 28 0 5) ≤ x5 → vp_in x5 40 ∧ ((¬ (h 50 0 (x5.toNatClampNeg)) = x1 → wi E MX7_held Q 63 [some (rf 28 0), some (.int x1), some (.int x2), none, some (.int (x4 + 0)), some (.int (x5 + 1))] [] h) ∧ ((h 50 0 (x5.toNatClampNeg)) = x1 → ((¬ (h 51 0 (x5.toNatClampNeg)) = x2 → wi E MX7_held Q 63 [some (rf 28 0), some (.int x1), some (.int x2), none, some (.int (x4 + 0)), some (.int (x5 + 1))] [] h) ∧ ((h 51 0 (x5.toNatClampNeg)) = x2 → wi E MX7_held Q 63 [some (rf 28 0), some (.int x1), some (.int x2), none, some (.int (x4 + (h 63 0 (x5.toNatClampNeg)))), some (.int (x5 + 1))] [] h))))))
set_option maxRecDepth 20000 in
theorem sX7_held_63 {E : EN} {x1 : Int32} {x2 : Int32} {x4 : Int32} {x5 : Int32} {h : TH} {Q : Int32 → TH → Prop}  (hS : SX7_held_63 E x1 x2 x4 x5 h Q) : wi E MX7_held Q 63 [some (rf 28 0), some (.int x1), some (.int x2), none, some (.int x4), some (.int x5)] [] h := by
  refine q_ild5 dX7_held_63 (q_ald0 dX7_held_65 (wz_getI dX7_held_66 cf7 t501 (kf := 5) gi_28_5 gc_28 rfl ?_))
  refine wz_icmp_ge (tgt := 116) dX7_held_69 rfl (fun c1 => ?_) (fun c1 => ?_)
  · replace hS := hS.1 c1
    refine q_ild4 dX7_held_116 ?_
    exact wi_ret dX7_held_118 rfl hS
  · replace hS := hS.2 c1
    refine q_ild4 dX7_held_72 (q_ald0 dX7_held_74 (wz_getR dX7_held_75 cf7 t502 (kf := 31) gr_28_31 gc_28 (q_ild5 dX7_held_78 ?_)))
    obtain ⟨hi2, hS⟩ := hS
    refine wz_iald dX7_held_80 ga_50 gc_50 hi2 rfl (q_ild1 dX7_held_81 ?_)
    refine wz_icmp_ne (tgt := 106) dX7_held_82 rfl (fun c3 => ?_) (fun c3 => ?_)
    · replace hS := hS.1 c3
      refine wz_iconst dX7_held_106 kiconst_0 (wz_iadd dX7_held_107 (q_ist4 dX7_held_108 (ltX7_held_4) rfl (q_inc5 (v := (x5 + 1)) dX7_held_110 rfl (ltX7_held_5) rfl (wz_goto (tgt := 63) dX7_held_113 rfl ?_))))
      exact hS
    · replace hS := hS.2 c3
      refine q_ald0 dX7_held_85 (wz_getR dX7_held_86 cf7 t503 (kf := 32) gr_28_32 gc_28 (q_ild5 dX7_held_89 (wz_iald dX7_held_91 ga_51 gc_51 hi2 rfl (q_ild2 dX7_held_92 ?_))))
      refine wz_icmp_ne (tgt := 106) dX7_held_93 rfl (fun c4 => ?_) (fun c4 => ?_)
      · replace hS := hS.1 c4
        refine wz_iconst dX7_held_106 kiconst_0 (wz_iadd dX7_held_107 (q_ist4 dX7_held_108 (ltX7_held_4) rfl (q_inc5 (v := (x5 + 1)) dX7_held_110 rfl (ltX7_held_5) rfl (wz_goto (tgt := 63) dX7_held_113 rfl ?_))))
        exact hS
      · replace hS := hS.2 c4
        refine q_ald0 dX7_held_96 (wz_getR dX7_held_97 cf7 t518 (kf := 45) gr_28_45 gc_28 (q_ild5 dX7_held_100 (wz_iald dX7_held_102 ga_63 gc_63 hi2 rfl (wz_goto (tgt := 107) dX7_held_103 rfl (wz_iadd dX7_held_107 (q_ist4 dX7_held_108 (ltX7_held_4) rfl (q_inc5 (v := (x5 + 1)) dX7_held_110 rfl (ltX7_held_5) rfl ?_)))))))
        refine wz_pc (pc2 := 113) rfl ?_
        refine wz_goto (tgt := 63) dX7_held_113 rfl ?_
        exact hS
def SX7_tell (E : EN) (a1 : Int32) (h : TH) (Q : Int32 → TH → Prop) : Prop := ((¬ (h 28 0 9) = 16 → vp_in (h 28 0 9) 16 ∧ Q ((h 28 0 9) + 1) (up (up h 56 0 ((h 28 0 9).toNatClampNeg) a1) 28 0 9 ((h 28 0 9) + 1))) ∧ ((h 28 0 9) = 16 → SX7_finds E (-1000000004) h (fun r4 h3 => Q r4 h3)))
set_option maxRecDepth 20000 in
theorem sX7_tell {E : EN} {a1 : Int32} {h : TH} {Q : Int32 → TH → Prop}  (hS : SX7_tell E a1 h Q) : wi E MX7_tell Q 0 [some (rf 28 0), some (.int a1)] [] h := by
  refine q_ald0 dX7_tell_0 (wz_getI dX7_tell_1 cf7 t527 (kf := 9) gi_28_9 gc_28 rfl (wz_bipush dX7_tell_4 kbipush_16 ?_))
  refine wz_icmp_ne (tgt := 16) dX7_tell_6 rfl (fun c1 => ?_) (fun c1 => ?_)
  · replace hS := hS.1 c1
    refine q_ald0 dX7_tell_16 (wz_getR dX7_tell_17 cf7 t528 (kf := 37) gr_28_37 gc_28 (q_ald0 dX7_tell_20 (wz_getI dX7_tell_21 cf7 t527 (kf := 9) gi_28_9 gc_28 rfl (q_ild1 dX7_tell_24 ?_))))
    obtain ⟨hi2, hS⟩ := hS
    refine wz_iast dX7_tell_25 ga_56 gc_56 hi2 rfl (q_ald0 dX7_tell_26 (wz_dup dX7_tell_27 rfl (wz_getI (v := (h 28 0 9)) dX7_tell_28 cf7 t527 (kf := 9) gi_28_9 gc_28 (by first | rfl | simp [up]) (wz_iconst dX7_tell_31 kiconst_1 (wz_iadd dX7_tell_32 (wz_putI dX7_tell_33 cf7 t527 (kf := 9) gp_28_9 gc_28 rfl (q_ald0 dX7_tell_36 ?_)))))))
    refine wz_pc (pc2 := 37) rfl ?_
    refine wz_getI (v := ((h 28 0 9) + 1)) dX7_tell_37 cf7 t527 (kf := 9) gi_28_9 gc_28 (by first | rfl | simp [up]) ?_
    exact wi_ret dX7_tell_40 rfl hS
  · replace hS := hS.2 c1
    refine q_ald0 dX7_tell_9 (wz_ldc dX7_tell_10 t365 ?_)
    refine wz_virtI (M := MX7_tell) (pc := 12) (M' := MX7_finds) (n := 1) (As := [.int (-1000000004)]) (st := []) dX7_tell_12 cf7 rfl go_28 gc_28 rfl cat_i okX7_tell_X7_finds cwX7_132 (Nat.le_of_ble_eq_true rfl) ⟨Nat.zero_le _, Nat.zero_le _⟩ rfl (ls0 := [some (rf 28 0), some (.int (-1000000004))]) rfl (sX7_finds  hS) (fun r4 h3 hS => ?_)
    exact wi_ret dX7_tell_15 rfl hS
def SX7_check_0 (E : EN) (a1 : Int32) (h : TH) (Q : Int32 → TH → Prop) : Prop := SX7_isIn E a1 0 10000000 (up h 28 0 9 0) (fun r2 h1 => ((¬ r2 = 0 → wv E MX7_sell (fun h4 => wi E MX7_check Q 35 [some (rf 28 0), none, some (.int (h 28 0 9)), some (.int 0)] [] h4) 0 [some (rf 28 0), some (.int a1), some (.int 0), none, none, none, none, none, none, none, none] [] h1) ∧ (r2 = 0 → SX7_finds E (-1000000001) h1 (fun r7 h6 => Q r7 h6))))
set_option maxRecDepth 20000 in
theorem sX7_check_0 {E : EN} {a1 : Int32} {h : TH} {Q : Int32 → TH → Prop}  (hS : SX7_check_0 E a1 h Q) : wi E MX7_check Q 0 [some (rf 28 0), some (.int a1), none, none] [] h := by
  refine q_ald0 dX7_check_0 (wz_getI dX7_check_1 cf7 t527 (kf := 9) gi_28_9 gc_28 rfl (q_ist2 dX7_check_4 (ltX7_check_2) rfl (q_ald0 dX7_check_5 (wz_iconst dX7_check_6 kiconst_0 (wz_putI dX7_check_7 cf7 t527 (kf := 9) gp_28_9 gc_28 rfl (q_ild1 dX7_check_10 (wz_iconst dX7_check_11 kiconst_0 ?_)))))))
  refine wz_pc (pc2 := 12) rfl ?_
  refine wz_ldc dX7_check_12 t488 ?_
  refine wz_statI (M := MX7_check) (pc := 14) (M' := MX7_isIn) (n := 3) (As := [.int a1, .int 0, .int 10000000]) (st := []) dX7_check_14 rfl cat_iii okX7_check_X7_isIn cwX7_121 (Nat.le_of_ble_eq_true rfl) ⟨Nat.zero_le _, Nat.zero_le _⟩ rfl (ls0 := [some (.int a1), some (.int 0), some (.int 10000000)]) rfl (sX7_isIn  hS) (fun r2 h1 hS => ?_)
  refine wz_if_ne (tgt := 27) dX7_check_17 rfl (fun c3 => ?_) (fun c3 => ?_)
  · replace hS := hS.1 c3
    refine q_ald0 dX7_check_27 (q_ild1 dX7_check_28 (wz_iconst dX7_check_29 kiconst_0 ?_))
    refine wz_virtV (M := MX7_check) (pc := 30) (M' := MX7_sell) (n := 2) (As := [.int a1, .int 0]) (st := []) dX7_check_30 cf7 rfl go_28 gc_28 rfl cat_ii okX7_check_X7_sell cwX7_225 (Nat.le_of_ble_eq_true rfl) ⟨Nat.zero_le _, Nat.zero_le _⟩ rfl (ls0 := [some (rf 28 0), some (.int a1), some (.int 0), none, none, none, none, none, none, none, none]) rfl hS (fun h4 hS => ?_)
    refine wz_iconst dX7_check_33 kiconst_0 (q_ist3 dX7_check_34 (ltX7_check_3) rfl ?_)
    exact wz_mask [true, false, true, true] rfl hS
  · replace hS := hS.2 c3
    refine q_ald0 dX7_check_20 (wz_ldc dX7_check_21 t370 ?_)
    refine wz_virtI (M := MX7_check) (pc := 23) (M' := MX7_finds) (n := 1) (As := [.int (-1000000001)]) (st := []) dX7_check_23 cf7 rfl go_28 gc_28 rfl cat_i okX7_check_X7_finds cwX7_132 (Nat.le_of_ble_eq_true rfl) ⟨Nat.zero_le _, Nat.zero_le _⟩ rfl (ls0 := [some (rf 28 0), some (.int (-1000000001))]) rfl (sX7_finds  hS) (fun r7 h6 hS => ?_)
    exact wi_ret dX7_check_26 rfl hS
def SX7_check_35 (E : EN) (x2 : Int32) (x3 : Int32) (h : TH) (Q : Int32 → TH → Prop) : Prop := ((x2 ≤ x3 → Q 0 h) ∧ (¬ x2 ≤ x3 → (((h 28 0 2) ≤ x3 → Q (1 + x3) h) ∧ (¬ (h 28 0 2) ≤ x3 → vp_in x3 16 ∧ vp_in (6 + x3) 22 ∧ (((h 56 0 (x3.toNatClampNeg)) = (h 61 0 ((6 + x3).toNatClampNeg)) → wi E MX7_check Q 35 [some (rf 28 0), none, some (.int x2), some (.int (x3 + 1))] [] h) ∧ (¬ (h 56 0 (x3.toNatClampNeg)) = (h 61 0 ((6 + x3).toNatClampNeg)) → Q (1 + x3) h))))))
set_option maxRecDepth 20000 in
theorem sX7_check_35 {E : EN} {x2 : Int32} {x3 : Int32} {h : TH} {Q : Int32 → TH → Prop}  (hS : SX7_check_35 E x2 x3 h Q) : wi E MX7_check Q 35 [some (rf 28 0), none, some (.int x2), some (.int x3)] [] h := by
  refine q_ild3 dX7_check_35 (q_ild2 dX7_check_36 ?_)
  refine wz_icmp_ge (tgt := 76) dX7_check_37 rfl (fun c1 => ?_) (fun c1 => ?_)
  · replace hS := hS.1 c1
    refine wz_iconst dX7_check_76 kiconst_0 ?_
    exact wi_ret dX7_check_77 rfl hS
  · replace hS := hS.2 c1
    refine q_ild3 dX7_check_40 (q_ald0 dX7_check_41 (wz_getI dX7_check_42 cf7 t363 (kf := 2) gi_28_2 gc_28 rfl ?_))
    refine wz_icmp_ge (tgt := 66) dX7_check_45 rfl (fun c2 => ?_) (fun c2 => ?_)
    · replace hS := hS.1 c2
      refine wz_iconst dX7_check_66 kiconst_1 (q_ild3 dX7_check_67 (wz_iadd dX7_check_68 ?_))
      exact wi_ret dX7_check_69 rfl hS
    · replace hS := hS.2 c2
      refine q_ald0 dX7_check_48 (wz_getR dX7_check_49 cf7 t528 (kf := 37) gr_28_37 gc_28 (q_ild3 dX7_check_52 ?_))
      obtain ⟨hi3, hS⟩ := hS
      refine wz_iald dX7_check_53 ga_56 gc_56 hi3 rfl (q_ald0 dX7_check_54 (wz_getR dX7_check_55 cf7 t475 (kf := 42) gr_28_42 gc_28 (wz_bipush dX7_check_58 kbipush_6 (q_ild3 dX7_check_60 (wz_iadd dX7_check_61 ?_)))))
      obtain ⟨hi4, hS⟩ := hS
      refine wz_iald dX7_check_62 ga_61 gc_61 hi4 rfl ?_
      refine wz_icmp_eq (tgt := 70) dX7_check_63 rfl (fun c5 => ?_) (fun c5 => ?_)
      · replace hS := hS.1 c5
        refine q_inc3 (v := (x3 + 1)) dX7_check_70 rfl (ltX7_check_3) rfl (wz_goto (tgt := 35) dX7_check_73 rfl ?_)
        exact hS
      · replace hS := hS.2 c5
        refine wz_iconst dX7_check_66 kiconst_1 (q_ild3 dX7_check_67 (wz_iadd dX7_check_68 ?_))
        exact wi_ret dX7_check_69 rfl hS
def SX7_count_0 (E : EN) (a1 : Int32) (h : TH) (Q : Int32 → TH → Prop) : Prop := ((a1 = (0 : Int32) → Q (h 28 0 0) h) ∧ (a1 = (1 : Int32) → Q (h 28 0 1) h) ∧ (a1 = (2 : Int32) → Q (h 28 0 2) h) ∧ (a1 = (3 : Int32) → Q (h 28 0 3) h) ∧ (a1 = (4 : Int32) → Q (h 28 0 4) h) ∧ (a1 = (5 : Int32) → Q (h 28 0 5) h) ∧ (a1 = (6 : Int32) → Q (h 28 0 6) h) ∧ (a1 = (7 : Int32) → Q (h 28 0 8) h) ∧ (a1 = (8 : Int32) → Q (h 28 0 9) h) ∧ (a1 = (9 : Int32) → wi E MX7_count Q 103 [some (rf 28 0), none, some (.int 0), some (.int 0)] [] h) ∧ (¬ a1 = (0 : Int32) → ¬ a1 = (1 : Int32) → ¬ a1 = (2 : Int32) → ¬ a1 = (3 : Int32) → ¬ a1 = (4 : Int32) → ¬ a1 = (5 : Int32) → ¬ a1 = (6 : Int32) → ¬ a1 = (7 : Int32) → ¬ a1 = (8 : Int32) → ¬ a1 = (9 : Int32) → SX7_finds E (-1000000001) h (fun r12 h11 => Q r12 h11)))
set_option maxRecDepth 20000 in
theorem sX7_count_0 {E : EN} {a1 : Int32} {h : TH} {Q : Int32 → TH → Prop}  (hS : SX7_count_0 E a1 h Q) : wi E MX7_count Q 0 [some (rf 28 0), some (.int a1), none, none] [] h := by
  refine wz_iconst dX7_count_0 kiconst_0 (q_ist2 dX7_count_1 (ltX7_count_2) rfl (q_ild1 dX7_count_2 ?_))
  by_cases q1 : a1 = (0 : Int32)
  · refine wz_tab1 (tgt := 56) (j := 0) dX7_count_3 (by rw [q1]; decide) (by decide) (by decide) rfl rfl ?_
    replace hS := hS.1 q1
    refine q_ald0 dX7_count_56 (wz_getI dX7_count_57 cf7 t357 (kf := 0) gi_28_0 gc_28 rfl ?_)
    exact wi_ret dX7_count_60 rfl hS
  by_cases q2 : a1 = (1 : Int32)
  · refine wz_tab1 (tgt := 61) (j := 1) dX7_count_3 (by rw [q2]; decide) (by decide) (by decide) rfl rfl ?_
    replace hS := hS.2.1 q2
    refine q_ald0 dX7_count_61 (wz_getI dX7_count_62 cf7 t362 (kf := 1) gi_28_1 gc_28 rfl ?_)
    exact wi_ret dX7_count_65 rfl hS
  by_cases q3 : a1 = (2 : Int32)
  · refine wz_tab1 (tgt := 66) (j := 2) dX7_count_3 (by rw [q3]; decide) (by decide) (by decide) rfl rfl ?_
    replace hS := hS.2.2.1 q3
    refine q_ald0 dX7_count_66 (wz_getI dX7_count_67 cf7 t363 (kf := 2) gi_28_2 gc_28 rfl ?_)
    exact wi_ret dX7_count_70 rfl hS
  by_cases q4 : a1 = (3 : Int32)
  · refine wz_tab1 (tgt := 71) (j := 3) dX7_count_3 (by rw [q4]; decide) (by decide) (by decide) rfl rfl ?_
    replace hS := hS.2.2.2.1 q4
    refine q_ald0 dX7_count_71 (wz_getI dX7_count_72 cf7 t472 (kf := 3) gi_28_3 gc_28 rfl ?_)
    exact wi_ret dX7_count_75 rfl hS
  by_cases q5 : a1 = (4 : Int32)
  · refine wz_tab1 (tgt := 76) (j := 4) dX7_count_3 (by rw [q5]; decide) (by decide) (by decide) rfl rfl ?_
    replace hS := hS.2.2.2.2.1 q5
    refine q_ald0 dX7_count_76 (wz_getI dX7_count_77 cf7 t408 (kf := 4) gi_28_4 gc_28 rfl ?_)
    exact wi_ret dX7_count_80 rfl hS
  by_cases q6 : a1 = (5 : Int32)
  · refine wz_tab1 (tgt := 81) (j := 5) dX7_count_3 (by rw [q6]; decide) (by decide) (by decide) rfl rfl ?_
    replace hS := hS.2.2.2.2.2.1 q6
    refine q_ald0 dX7_count_81 (wz_getI dX7_count_82 cf7 t501 (kf := 5) gi_28_5 gc_28 rfl ?_)
    exact wi_ret dX7_count_85 rfl hS
  by_cases q7 : a1 = (6 : Int32)
  · refine wz_tab1 (tgt := 86) (j := 6) dX7_count_3 (by rw [q7]; decide) (by decide) (by decide) rfl rfl ?_
    replace hS := hS.2.2.2.2.2.2.1 q7
    refine q_ald0 dX7_count_86 (wz_getI dX7_count_87 cf7 t511 (kf := 6) gi_28_6 gc_28 rfl ?_)
    exact wi_ret dX7_count_90 rfl hS
  by_cases q8 : a1 = (7 : Int32)
  · refine wz_tab1 (tgt := 91) (j := 7) dX7_count_3 (by rw [q8]; decide) (by decide) (by decide) rfl rfl ?_
    replace hS := hS.2.2.2.2.2.2.2.1 q8
    refine q_ald0 dX7_count_91 (wz_getI dX7_count_92 cf7 t399 (kf := 8) gi_28_8 gc_28 rfl ?_)
    exact wi_ret dX7_count_95 rfl hS
  by_cases q9 : a1 = (8 : Int32)
  · refine wz_tab1 (tgt := 96) (j := 8) dX7_count_3 (by rw [q9]; decide) (by decide) (by decide) rfl rfl ?_
    replace hS := hS.2.2.2.2.2.2.2.2.1 q9
    refine q_ald0 dX7_count_96 (wz_getI dX7_count_97 cf7 t527 (kf := 9) gi_28_9 gc_28 rfl ?_)
    exact wi_ret dX7_count_100 rfl hS
  by_cases q10 : a1 = (9 : Int32)
  · refine wz_tab1 (tgt := 101) (j := 9) dX7_count_3 (by rw [q10]; decide) (by decide) (by decide) rfl rfl ?_
    replace hS := hS.2.2.2.2.2.2.2.2.2.1 q10
    refine wz_iconst dX7_count_101 kiconst_0 (q_ist3 dX7_count_102 (ltX7_count_3) rfl ?_)
    exact wz_mask [true, false, true, true] rfl hS
  refine wz_tabD (tgt := 140) dX7_count_3 (tab_out (lo := 0) (n := 10) (by decide) (by decide) (fun j hj => match j, hj with | 0, _ => fun z => q1 (Int32.toInt_inj.mp (z.trans (by decide))) | 1, _ => fun z => q2 (Int32.toInt_inj.mp (z.trans (by decide))) | 2, _ => fun z => q3 (Int32.toInt_inj.mp (z.trans (by decide))) | 3, _ => fun z => q4 (Int32.toInt_inj.mp (z.trans (by decide))) | 4, _ => fun z => q5 (Int32.toInt_inj.mp (z.trans (by decide))) | 5, _ => fun z => q6 (Int32.toInt_inj.mp (z.trans (by decide))) | 6, _ => fun z => q7 (Int32.toInt_inj.mp (z.trans (by decide))) | 7, _ => fun z => q8 (Int32.toInt_inj.mp (z.trans (by decide))) | 8, _ => fun z => q9 (Int32.toInt_inj.mp (z.trans (by decide))) | 9, _ => fun z => q10 (Int32.toInt_inj.mp (z.trans (by decide))) | j + 10, hj => absurd hj (by omega))) rfl ?_
  replace hS := hS.2.2.2.2.2.2.2.2.2.2 q1 q2 q3 q4 q5 q6 q7 q8 q9 q10
  refine q_ald0 dX7_count_140 (wz_ldc dX7_count_141 t370 ?_)
  refine wz_virtI (M := MX7_count) (pc := 143) (M' := MX7_finds) (n := 1) (As := [.int (-1000000001)]) (st := []) dX7_count_143 cf7 rfl go_28 gc_28 rfl cat_i okX7_count_X7_finds cwX7_132 (Nat.le_of_ble_eq_true rfl) ⟨Nat.zero_le _, Nat.zero_le _⟩ rfl (ls0 := [some (rf 28 0), some (.int (-1000000001))]) rfl (sX7_finds  hS) (fun r12 h11 hS => ?_)
  exact wi_ret dX7_count_146 rfl hS
def SX7_count_103 (E : EN) (x2 : Int32) (x3 : Int32) (h : TH) (Q : Int32 → TH → Prop) : Prop := (((h 28 0 2) ≤ x3 → Q x2 h) ∧ (¬ (h 28 0 2) ≤ x3 → SX7_judged E x3 (h 28 0 8) h (fun r3 h2 => ((¬ r3 = 2 → wi E MX7_count Q 103 [some (rf 28 0), none, some (.int (x2 + 0)), some (.int (x3 + 1))] [] h2) ∧ (r3 = 2 → wi E MX7_count Q 103 [some (rf 28 0), none, some (.int (x2 + 1)), some (.int (x3 + 1))] [] h2)))))
set_option maxRecDepth 20000 in
theorem sX7_count_103 {E : EN} {x2 : Int32} {x3 : Int32} {h : TH} {Q : Int32 → TH → Prop}  (hS : SX7_count_103 E x2 x3 h Q) : wi E MX7_count Q 103 [some (rf 28 0), none, some (.int x2), some (.int x3)] [] h := by
  refine q_ild3 dX7_count_103 (q_ald0 dX7_count_104 (wz_getI dX7_count_105 cf7 t363 (kf := 2) gi_28_2 gc_28 rfl ?_))
  refine wz_icmp_ge (tgt := 138) dX7_count_108 rfl (fun c1 => ?_) (fun c1 => ?_)
  · replace hS := hS.1 c1
    refine q_ild2 dX7_count_138 ?_
    exact wi_ret dX7_count_139 rfl hS
  · replace hS := hS.2 c1
    refine q_ild2 dX7_count_111 (q_ald0 dX7_count_112 (q_ild3 dX7_count_113 (q_ald0 dX7_count_114 (wz_getI dX7_count_115 cf7 t399 (kf := 8) gi_28_8 gc_28 rfl ?_))))
    refine wz_virtI (M := MX7_count) (pc := 118) (M' := MX7_judged) (n := 2) (As := [.int x3, .int (h 28 0 8)]) (st := [.int x2]) dX7_count_118 cf7 rfl go_28 gc_28 rfl cat_ii okX7_count_X7_judged cwX7_198 (Nat.le_of_ble_eq_true rfl) ⟨Nat.zero_le _, Nat.zero_le _⟩ rfl (ls0 := [some (rf 28 0), some (.int x3), some (.int (h 28 0 8))]) rfl (sX7_judged  hS) (fun r3 h2 hS => ?_)
    refine wz_iconst dX7_count_121 kiconst_2 ?_
    refine wz_icmp_ne (tgt := 129) dX7_count_122 rfl (fun c4 => ?_) (fun c4 => ?_)
    · replace hS := hS.1 c4
      refine wz_iconst dX7_count_129 kiconst_0 (wz_iadd dX7_count_130 (q_ist2 dX7_count_131 (ltX7_count_2) rfl (q_inc3 (v := (x3 + 1)) dX7_count_132 rfl (ltX7_count_3) rfl (wz_goto (tgt := 103) dX7_count_135 rfl ?_))))
      exact hS
    · replace hS := hS.2 c4
      refine wz_iconst dX7_count_125 kiconst_1 (wz_goto (tgt := 130) dX7_count_126 rfl (wz_iadd dX7_count_130 (q_ist2 dX7_count_131 (ltX7_count_2) rfl (q_inc3 (v := (x3 + 1)) dX7_count_132 rfl (ltX7_count_3) rfl (wz_goto (tgt := 103) dX7_count_135 rfl ?_)))))
      exact hS
def SX7_found (E : EN) (a1 : Int32) (h : TH) (Q : Int32 → TH → Prop) : Prop := SX7_isIn E a1 1 5 h (fun r2 h1 => ((r2 = 0 → SX7_finds E (-1000000001) h1 (fun r5 h4 => Q r5 h4)) ∧ (¬ r2 = 0 → vp_in a1 6 ∧ Q (h1 57 0 (a1.toNatClampNeg)) h1)))
set_option maxRecDepth 20000 in
theorem sX7_found {E : EN} {a1 : Int32} {h : TH} {Q : Int32 → TH → Prop}  (hS : SX7_found E a1 h Q) : wi E MX7_found Q 0 [some (rf 28 0), some (.int a1)] [] h := by
  refine q_ild1 dX7_found_0 (wz_iconst dX7_found_1 kiconst_1 (wz_iconst dX7_found_2 kiconst_5 ?_))
  refine wz_statI (M := MX7_found) (pc := 3) (M' := MX7_isIn) (n := 3) (As := [.int a1, .int 1, .int 5]) (st := []) dX7_found_3 rfl cat_iii okX7_found_X7_isIn cwX7_121 (Nat.le_of_ble_eq_true rfl) ⟨Nat.zero_le _, Nat.zero_le _⟩ rfl (ls0 := [some (.int a1), some (.int 1), some (.int 5)]) rfl (sX7_isIn  hS) (fun r2 h1 hS => ?_)
  refine wz_if_eq (tgt := 18) dX7_found_6 rfl (fun c3 => ?_) (fun c3 => ?_)
  · replace hS := hS.1 c3
    refine q_ald0 dX7_found_18 (wz_ldc dX7_found_19 t370 ?_)
    refine wz_virtI (M := MX7_found) (pc := 21) (M' := MX7_finds) (n := 1) (As := [.int (-1000000001)]) (st := []) dX7_found_21 cf7 rfl go_28 gc_28 rfl cat_i okX7_found_X7_finds cwX7_132 (Nat.le_of_ble_eq_true rfl) ⟨Nat.zero_le _, Nat.zero_le _⟩ rfl (ls0 := [some (rf 28 0), some (.int (-1000000001))]) rfl (sX7_finds  hS) (fun r5 h4 hS => ?_)
    exact wi_ret dX7_found_24 rfl hS
  · replace hS := hS.2 c3
    refine q_ald0 dX7_found_9 (wz_getR dX7_found_10 cf7 t355 (kf := 38) gr_28_38 gc_28 (q_ild1 dX7_found_13 ?_))
    obtain ⟨hi6, hS⟩ := hS
    refine wz_iald dX7_found_14 ga_57 gc_57 hi6 rfl (wz_goto (tgt := 24) dX7_found_15 rfl ?_)
    exact wi_ret dX7_found_24 rfl hS
