def SX7_isIn (E : EN) (a0 : Int32) (a1 : Int32) (a2 : Int32) (h : TH) (Q : Int32 → TH → Prop) : Prop := ((a0 < a1 → Q 0 h) ∧ (¬ a0 < a1 → ((a2 < a0 → Q 0 h) ∧ (¬ a2 < a0 → Q 1 h))))
set_option maxRecDepth 20000 in
theorem sX7_isIn {E : EN} {a0 : Int32} {a1 : Int32} {a2 : Int32} {h : TH} {Q : Int32 → TH → Prop}  (hS : SX7_isIn E a0 a1 a2 h Q) : wi E MX7_isIn Q 0 [some (.int a0), some (.int a1), some (.int a2)] [] h := by
  refine q_ild0 dX7_isIn_0 (q_ild1 dX7_isIn_1 ?_)
  refine wz_icmp_lt (tgt := 14) dX7_isIn_2 rfl (fun c1 => ?_) (fun c1 => ?_)
  · replace hS := hS.1 c1
    refine wz_iconst dX7_isIn_14 kiconst_0 ?_
    exact wi_zret dX7_isIn_15 rfl (isB_nar isB_0) hS
  · replace hS := hS.2 c1
    refine q_ild0 dX7_isIn_5 (q_ild2 dX7_isIn_6 ?_)
    refine wz_icmp_gt (tgt := 14) dX7_isIn_7 rfl (fun c2 => ?_) (fun c2 => ?_)
    · replace hS := hS.1 c2
      refine wz_iconst dX7_isIn_14 kiconst_0 ?_
      exact wi_zret dX7_isIn_15 rfl (isB_nar isB_0) hS
    · replace hS := hS.2 c2
      refine wz_iconst dX7_isIn_10 kiconst_1 (wz_goto (tgt := 15) dX7_isIn_11 rfl ?_)
      exact wi_zret dX7_isIn_15 rfl (isB_nar isB_1) hS
def SX7_finds (E : EN) (a1 : Int32) (h : TH) (Q : Int32 → TH → Prop) : Prop := vp_in ((-1000000000) - a1) 6 ∧ Q a1 (up h 57 0 (((-1000000000) - a1).toNatClampNeg) ((h 57 0 (((-1000000000) - a1).toNatClampNeg)) + 1))
set_option maxRecDepth 20000 in
theorem sX7_finds {E : EN} {a1 : Int32} {h : TH} {Q : Int32 → TH → Prop}  (hS : SX7_finds E a1 h Q) : wi E MX7_finds Q 0 [some (rf 28 0), some (.int a1)] [] h := by
  refine q_ald0 dX7_finds_0 (wz_getR dX7_finds_1 cf7 t355 (kf := 38) gr_28_38 gc_28 (wz_ldc dX7_finds_4 t356 (q_ild1 dX7_finds_6 (wz_isub dX7_finds_7 (wz_dup2 dX7_finds_8 rfl rfl ?_)))))
  obtain ⟨hi1, hS⟩ := hS
  refine wz_iald dX7_finds_9 ga_57 gc_57 hi1 rfl (wz_iconst dX7_finds_10 kiconst_1 (wz_iadd dX7_finds_11 (wz_iast dX7_finds_12 ga_57 gc_57 hi1 rfl (q_ild1 dX7_finds_13 ?_))))
  exact wi_ret dX7_finds_14 rfl hS
def SX7_isParty (E : EN) (a1 : Int32) (h : TH) (Q : Int32 → TH → Prop) : Prop := SX7_isIn E a1 0 ((h 28 0 0) - 1) h (fun r2 h1 => (isB r2 ∧ Q r2 h1))
set_option maxRecDepth 20000 in
theorem sX7_isParty {E : EN} {a1 : Int32} {h : TH} {Q : Int32 → TH → Prop}  (hS : SX7_isParty E a1 h Q) : wi E MX7_isParty Q 0 [some (rf 28 0), some (.int a1)] [] h := by
  refine q_ild1 dX7_isParty_0 (wz_iconst dX7_isParty_1 kiconst_0 (q_ald0 dX7_isParty_2 (wz_getI dX7_isParty_3 cf7 t357 (kf := 0) gi_28_0 gc_28 rfl (wz_iconst dX7_isParty_6 kiconst_1 (wz_isub dX7_isParty_7 ?_)))))
  refine wz_statI (M := MX7_isParty) (pc := 8) (M' := MX7_isIn) (n := 3) (As := [.int a1, .int 0, .int ((h 28 0 0) - 1)]) (st := []) dX7_isParty_8 rfl cat_iii okX7_isParty_X7_isIn cwX7_121 (Nat.le_of_ble_eq_true rfl) ⟨Nat.zero_le _, Nat.zero_le _⟩ rfl (ls0 := [some (.int a1), some (.int 0), some (.int ((h 28 0 0) - 1))]) rfl (sX7_isIn  hS) (fun r2 h1 hS => ?_)
  exact wi_zret dX7_isParty_11 rfl (isB_nar hS.1) hS.2
def SX7_isContract (E : EN) (a1 : Int32) (h : TH) (Q : Int32 → TH → Prop) : Prop := SX7_isIn E a1 0 ((h 28 0 1) - 1) h (fun r2 h1 => (isB r2 ∧ Q r2 h1))
set_option maxRecDepth 20000 in
theorem sX7_isContract {E : EN} {a1 : Int32} {h : TH} {Q : Int32 → TH → Prop}  (hS : SX7_isContract E a1 h Q) : wi E MX7_isContract Q 0 [some (rf 28 0), some (.int a1)] [] h := by
  refine q_ild1 dX7_isContract_0 (wz_iconst dX7_isContract_1 kiconst_0 (q_ald0 dX7_isContract_2 (wz_getI dX7_isContract_3 cf7 t362 (kf := 1) gi_28_1 gc_28 rfl (wz_iconst dX7_isContract_6 kiconst_1 (wz_isub dX7_isContract_7 ?_)))))
  refine wz_statI (M := MX7_isContract) (pc := 8) (M' := MX7_isIn) (n := 3) (As := [.int a1, .int 0, .int ((h 28 0 1) - 1)]) (st := []) dX7_isContract_8 rfl cat_iii okX7_isContract_X7_isIn cwX7_121 (Nat.le_of_ble_eq_true rfl) ⟨Nat.zero_le _, Nat.zero_le _⟩ rfl (ls0 := [some (.int a1), some (.int 0), some (.int ((h 28 0 1) - 1))]) rfl (sX7_isIn  hS) (fun r2 h1 hS => ?_)
  exact wi_zret dX7_isContract_11 rfl (isB_nar hS.1) hS.2
def SX7_isClaim (E : EN) (a1 : Int32) (h : TH) (Q : Int32 → TH → Prop) : Prop := SX7_isIn E a1 0 ((h 28 0 2) - 1) h (fun r2 h1 => (isB r2 ∧ Q r2 h1))
set_option maxRecDepth 20000 in
theorem sX7_isClaim {E : EN} {a1 : Int32} {h : TH} {Q : Int32 → TH → Prop}  (hS : SX7_isClaim E a1 h Q) : wi E MX7_isClaim Q 0 [some (rf 28 0), some (.int a1)] [] h := by
  refine q_ild1 dX7_isClaim_0 (wz_iconst dX7_isClaim_1 kiconst_0 (q_ald0 dX7_isClaim_2 (wz_getI dX7_isClaim_3 cf7 t363 (kf := 2) gi_28_2 gc_28 rfl (wz_iconst dX7_isClaim_6 kiconst_1 (wz_isub dX7_isClaim_7 ?_)))))
  refine wz_statI (M := MX7_isClaim) (pc := 8) (M' := MX7_isIn) (n := 3) (As := [.int a1, .int 0, .int ((h 28 0 2) - 1)]) (st := []) dX7_isClaim_8 rfl cat_iii okX7_isClaim_X7_isIn cwX7_121 (Nat.le_of_ble_eq_true rfl) ⟨Nat.zero_le _, Nat.zero_le _⟩ rfl (ls0 := [some (.int a1), some (.int 0), some (.int ((h 28 0 2) - 1))]) rfl (sX7_isIn  hS) (fun r2 h1 hS => ?_)
  exact wi_zret dX7_isClaim_11 rfl (isB_nar hS.1) hS.2
def SX7_isUnder (E : EN) (a0 : Int32) (a1 : Int32) (h : TH) (Q : Int32 → TH → Prop) : Prop := ((a1 = 0 → Q 1 h) ∧ (¬ a1 = 0 → ((a0 = a1 → Q 1 h) ∧ (¬ a0 = a1 → ((¬ a0 = 3 → Q 0 h) ∧ (a0 = 3 → ((¬ a1 = 2 → Q 0 h) ∧ (a1 = 2 → Q 1 h))))))))
set_option maxRecDepth 20000 in
theorem sX7_isUnder {E : EN} {a0 : Int32} {a1 : Int32} {h : TH} {Q : Int32 → TH → Prop}  (hS : SX7_isUnder E a0 a1 h Q) : wi E MX7_isUnder Q 0 [some (.int a0), some (.int a1)] [] h := by
  refine q_ild1 dX7_isUnder_0 ?_
  refine wz_if_eq (tgt := 19) dX7_isUnder_1 rfl (fun c1 => ?_) (fun c1 => ?_)
  · replace hS := hS.1 c1
    refine wz_iconst dX7_isUnder_19 kiconst_1 (wz_goto (tgt := 24) dX7_isUnder_20 rfl ?_)
    exact wi_zret dX7_isUnder_24 rfl (isB_nar isB_1) hS
  · replace hS := hS.2 c1
    refine q_ild0 dX7_isUnder_4 (q_ild1 dX7_isUnder_5 ?_)
    refine wz_icmp_eq (tgt := 19) dX7_isUnder_6 rfl (fun c2 => ?_) (fun c2 => ?_)
    · replace hS := hS.1 c2
      refine wz_iconst dX7_isUnder_19 kiconst_1 (wz_goto (tgt := 24) dX7_isUnder_20 rfl ?_)
      exact wi_zret dX7_isUnder_24 rfl (isB_nar isB_1) hS
    · replace hS := hS.2 c2
      refine q_ild0 dX7_isUnder_9 (wz_iconst dX7_isUnder_10 kiconst_3 ?_)
      refine wz_icmp_ne (tgt := 23) dX7_isUnder_11 rfl (fun c3 => ?_) (fun c3 => ?_)
      · replace hS := hS.1 c3
        refine wz_iconst dX7_isUnder_23 kiconst_0 ?_
        exact wi_zret dX7_isUnder_24 rfl (isB_nar isB_0) hS
      · replace hS := hS.2 c3
        refine q_ild1 dX7_isUnder_14 (wz_iconst dX7_isUnder_15 kiconst_2 ?_)
        refine wz_icmp_ne (tgt := 23) dX7_isUnder_16 rfl (fun c4 => ?_) (fun c4 => ?_)
        · replace hS := hS.1 c4
          refine wz_iconst dX7_isUnder_23 kiconst_0 ?_
          exact wi_zret dX7_isUnder_24 rfl (isB_nar isB_0) hS
        · replace hS := hS.2 c4
          refine wz_iconst dX7_isUnder_19 kiconst_1 (wz_goto (tgt := 24) dX7_isUnder_20 rfl ?_)
          exact wi_zret dX7_isUnder_24 rfl (isB_nar isB_1) hS
def SX7_party (E : EN) (a1 : Int32) (h : TH) (Q : Int32 → TH → Prop) : Prop := SX7_isIn E a1 0 3 h (fun r2 h1 => ((¬ r2 = 0 → ((¬ (h1 28 0 0) = 12 → vp_in (h1 28 0 0) 12 ∧ Q (((h1 28 0 0) + 1) - 1) (up (up h1 29 0 ((h1 28 0 0).toNatClampNeg) a1) 28 0 0 ((h1 28 0 0) + 1))) ∧ ((h1 28 0 0) = 12 → SX7_finds E (-1000000004) h1 (fun r7 h6 => Q r7 h6)))) ∧ (r2 = 0 → SX7_finds E (-1000000001) h1 (fun r9 h8 => Q r9 h8))))
set_option maxRecDepth 20000 in
theorem sX7_party {E : EN} {a1 : Int32} {h : TH} {Q : Int32 → TH → Prop}  (hS : SX7_party E a1 h Q) : wi E MX7_party Q 0 [some (rf 28 0), some (.int a1)] [] h := by
  refine q_ild1 dX7_party_0 (wz_iconst dX7_party_1 kiconst_0 (wz_iconst dX7_party_2 kiconst_3 ?_))
  refine wz_statI (M := MX7_party) (pc := 3) (M' := MX7_isIn) (n := 3) (As := [.int a1, .int 0, .int 3]) (st := []) dX7_party_3 rfl cat_iii okX7_party_X7_isIn cwX7_121 (Nat.le_of_ble_eq_true rfl) ⟨Nat.zero_le _, Nat.zero_le _⟩ rfl (ls0 := [some (.int a1), some (.int 0), some (.int 3)]) rfl (sX7_isIn  hS) (fun r2 h1 hS => ?_)
  refine wz_if_ne (tgt := 16) dX7_party_6 rfl (fun c3 => ?_) (fun c3 => ?_)
  · replace hS := hS.1 c3
    refine q_ald0 dX7_party_16 (wz_getI dX7_party_17 cf7 t357 (kf := 0) gi_28_0 gc_28 rfl (wz_bipush dX7_party_20 kbipush_12 ?_))
    refine wz_icmp_ne (tgt := 32) dX7_party_22 rfl (fun c4 => ?_) (fun c4 => ?_)
    · replace hS := hS.1 c4
      refine q_ald0 dX7_party_32 (wz_getR dX7_party_33 cf7 t364 (kf := 10) gr_28_10 gc_28 (q_ald0 dX7_party_36 (wz_getI dX7_party_37 cf7 t357 (kf := 0) gi_28_0 gc_28 rfl (q_ild1 dX7_party_40 ?_))))
      obtain ⟨hi5, hS⟩ := hS
      refine wz_iast dX7_party_41 ga_29 gc_29 hi5 rfl (q_ald0 dX7_party_42 (wz_dup dX7_party_43 rfl (wz_getI (v := (h1 28 0 0)) dX7_party_44 cf7 t357 (kf := 0) gi_28_0 gc_28 (by first | rfl | simp [up]) (wz_iconst dX7_party_47 kiconst_1 (wz_iadd dX7_party_48 (wz_putI dX7_party_49 cf7 t357 (kf := 0) gp_28_0 gc_28 rfl (q_ald0 dX7_party_52 ?_)))))))
      refine wz_pc (pc2 := 53) rfl ?_
      refine wz_getI (v := ((h1 28 0 0) + 1)) dX7_party_53 cf7 t357 (kf := 0) gi_28_0 gc_28 (by first | rfl | simp [up]) (wz_iconst dX7_party_56 kiconst_1 (wz_isub dX7_party_57 ?_))
      exact wi_ret dX7_party_58 rfl hS
    · replace hS := hS.2 c4
      refine q_ald0 dX7_party_25 (wz_ldc dX7_party_26 t365 ?_)
      refine wz_virtI (M := MX7_party) (pc := 28) (M' := MX7_finds) (n := 1) (As := [.int (-1000000004)]) (st := []) dX7_party_28 cf7 rfl go_28 gc_28 rfl cat_i okX7_party_X7_finds cwX7_132 (Nat.le_of_ble_eq_true rfl) ⟨Nat.zero_le _, Nat.zero_le _⟩ rfl (ls0 := [some (rf 28 0), some (.int (-1000000004))]) rfl (sX7_finds  hS) (fun r7 h6 hS => ?_)
      exact wi_ret dX7_party_31 rfl hS
  · replace hS := hS.2 c3
    refine q_ald0 dX7_party_9 (wz_ldc dX7_party_10 t370 ?_)
    refine wz_virtI (M := MX7_party) (pc := 12) (M' := MX7_finds) (n := 1) (As := [.int (-1000000001)]) (st := []) dX7_party_12 cf7 rfl go_28 gc_28 rfl cat_i okX7_party_X7_finds cwX7_132 (Nat.le_of_ble_eq_true rfl) ⟨Nat.zero_le _, Nat.zero_le _⟩ rfl (ls0 := [some (rf 28 0), some (.int (-1000000001))]) rfl (sX7_finds  hS) (fun r9 h8 hS => ?_)
    exact wi_ret dX7_party_15 rfl hS
def SX7_as_0 (E : EN) (a1 : Int32) (a2 : Int32) (h : TH) (Q : Int32 → TH → Prop) : Prop := SX7_isParty E a1 h (fun r2 h1 => ((r2 = 0 → SX7_finds E (-1000000001) h1 (fun r5 h4 => Q r5 h4)) ∧ (¬ r2 = 0 → SX7_isIn E a2 0 3 h1 (fun r7 h6 => ((¬ r7 = 0 → vp_in a1 12 ∧ SX7_isUnder E (h6 29 0 (a1.toNatClampNeg)) a2 h6 (fun r11 h10 => ((¬ r11 = 0 → wi E MX7_as Q 49 [some (rf 28 0), some (.int a1), none, some (.int 0), some (.int 0)] [] h10) ∧ (r11 = 0 → SX7_finds E (-1000000005) h10 (fun r14 h13 => Q r14 h13))))) ∧ (r7 = 0 → SX7_finds E (-1000000001) h6 (fun r16 h15 => Q r16 h15)))))))
set_option maxRecDepth 20000 in
theorem sX7_as_0 {E : EN} {a1 : Int32} {a2 : Int32} {h : TH} {Q : Int32 → TH → Prop}  (hS : SX7_as_0 E a1 a2 h Q) : wi E MX7_as Q 0 [some (rf 28 0), some (.int a1), some (.int a2), none, none] [] h := by
  refine q_ald0 dX7_as_0 (q_ild1 dX7_as_1 ?_)
  refine wz_virtI (M := MX7_as) (pc := 2) (M' := MX7_isParty) (n := 1) (As := [.int a1]) (st := []) dX7_as_2 cf7 rfl go_28 gc_28 rfl cat_i okX7_as_X7_isParty cwX7_136 (Nat.le_of_ble_eq_true rfl) ⟨Nat.zero_le _, Nat.zero_le _⟩ rfl (ls0 := [some (rf 28 0), some (.int a1)]) rfl (sX7_isParty  hS) (fun r2 h1 hS => ?_)
  refine wz_if_eq (tgt := 17) dX7_as_5 rfl (fun c3 => ?_) (fun c3 => ?_)
  · replace hS := hS.1 c3
    refine q_ald0 dX7_as_17 (wz_ldc dX7_as_18 t370 ?_)
    refine wz_virtI (M := MX7_as) (pc := 20) (M' := MX7_finds) (n := 1) (As := [.int (-1000000001)]) (st := []) dX7_as_20 cf7 rfl go_28 gc_28 rfl cat_i okX7_as_X7_finds cwX7_132 (Nat.le_of_ble_eq_true rfl) ⟨Nat.zero_le _, Nat.zero_le _⟩ rfl (ls0 := [some (rf 28 0), some (.int (-1000000001))]) rfl (sX7_finds  hS) (fun r5 h4 hS => ?_)
    exact wi_ret dX7_as_23 rfl hS
  · replace hS := hS.2 c3
    refine q_ild2 dX7_as_8 (wz_iconst dX7_as_9 kiconst_0 (wz_iconst dX7_as_10 kiconst_3 ?_))
    refine wz_statI (M := MX7_as) (pc := 11) (M' := MX7_isIn) (n := 3) (As := [.int a2, .int 0, .int 3]) (st := []) dX7_as_11 rfl cat_iii okX7_as_X7_isIn cwX7_121 (Nat.le_of_ble_eq_true rfl) ⟨Nat.zero_le _, Nat.zero_le _⟩ rfl (ls0 := [some (.int a2), some (.int 0), some (.int 3)]) rfl (sX7_isIn  hS) (fun r7 h6 hS => ?_)
    refine wz_if_ne (tgt := 24) dX7_as_14 rfl (fun c8 => ?_) (fun c8 => ?_)
    · replace hS := hS.1 c8
      refine q_ald0 dX7_as_24 (wz_getR dX7_as_25 cf7 t364 (kf := 10) gr_28_10 gc_28 (q_ild1 dX7_as_28 ?_))
      obtain ⟨hi9, hS⟩ := hS
      refine wz_iald dX7_as_29 ga_29 gc_29 hi9 rfl (q_ild2 dX7_as_30 ?_)
      refine wz_statI (M := MX7_as) (pc := 31) (M' := MX7_isUnder) (n := 2) (As := [.int (h6 29 0 (a1.toNatClampNeg)), .int a2]) (st := []) dX7_as_31 rfl cat_ii okX7_as_X7_isUnder cwX7_140 (Nat.le_of_ble_eq_true rfl) ⟨Nat.zero_le _, Nat.zero_le _⟩ rfl (ls0 := [some (.int (h6 29 0 (a1.toNatClampNeg))), some (.int a2)]) rfl (sX7_isUnder  hS) (fun r11 h10 hS => ?_)
      refine wz_if_ne (tgt := 44) dX7_as_34 rfl (fun c12 => ?_) (fun c12 => ?_)
      · replace hS := hS.1 c12
        refine wz_iconst dX7_as_44 kiconst_0 (q_ist3 dX7_as_45 (ltX7_as_3) rfl (wz_iconst dX7_as_46 kiconst_0 (q_ist4 dX7_as_47 (ltX7_as_4) rfl ?_)))
        exact wz_mask [true, true, false, true, true] rfl hS
      · replace hS := hS.2 c12
        refine q_ald0 dX7_as_37 (wz_ldc dX7_as_38 t371 ?_)
        refine wz_virtI (M := MX7_as) (pc := 40) (M' := MX7_finds) (n := 1) (As := [.int (-1000000005)]) (st := []) dX7_as_40 cf7 rfl go_28 gc_28 rfl cat_i okX7_as_X7_finds cwX7_132 (Nat.le_of_ble_eq_true rfl) ⟨Nat.zero_le _, Nat.zero_le _⟩ rfl (ls0 := [some (rf 28 0), some (.int (-1000000005))]) rfl (sX7_finds  hS) (fun r14 h13 hS => ?_)
        exact wi_ret dX7_as_43 rfl hS
    · replace hS := hS.2 c8
      refine q_ald0 dX7_as_17 (wz_ldc dX7_as_18 t370 ?_)
      refine wz_virtI (M := MX7_as) (pc := 20) (M' := MX7_finds) (n := 1) (As := [.int (-1000000001)]) (st := []) dX7_as_20 cf7 rfl go_28 gc_28 rfl cat_i okX7_as_X7_finds cwX7_132 (Nat.le_of_ble_eq_true rfl) ⟨Nat.zero_le _, Nat.zero_le _⟩ rfl (ls0 := [some (rf 28 0), some (.int (-1000000001))]) rfl (sX7_finds  hS) (fun r16 h15 hS => ?_)
      exact wi_ret dX7_as_23 rfl hS
def SX7_as_49 (E : EN) (x1 : Int32) (x3 : Int32) (x4 : Int32) (h : TH) (Q : Int32 → TH → Prop) : Prop := (((h 28 0 1) ≤ x4 → Q x3 h) ∧ (¬ (h 28 0 1) ≤ x4 → vp_in x4 10 ∧ ((¬ (h 30 0 (x4.toNatClampNeg)) = x1 → wi E MX7_as Q 49 [some (rf 28 0), some (.int x1), none, some (.int (x3 + 0)), some (.int (x4 + 1))] [] h) ∧ ((h 30 0 (x4.toNatClampNeg)) = x1 → wi E MX7_as Q 49 [some (rf 28 0), some (.int x1), none, some (.int (x3 + 1)), some (.int (x4 + 1))] [] h))))
set_option maxRecDepth 20000 in
theorem sX7_as_49 {E : EN} {x1 : Int32} {x3 : Int32} {x4 : Int32} {h : TH} {Q : Int32 → TH → Prop}  (hS : SX7_as_49 E x1 x3 x4 h Q) : wi E MX7_as Q 49 [some (rf 28 0), some (.int x1), none, some (.int x3), some (.int x4)] [] h := by
  refine q_ild4 dX7_as_49 (q_ald0 dX7_as_51 (wz_getI dX7_as_52 cf7 t362 (kf := 1) gi_28_1 gc_28 rfl ?_))
  refine wz_icmp_ge (tgt := 83) dX7_as_55 rfl (fun c1 => ?_) (fun c1 => ?_)
  · replace hS := hS.1 c1
    refine q_ild3 dX7_as_83 ?_
    exact wi_ret dX7_as_84 rfl hS
  · replace hS := hS.2 c1
    refine q_ild3 dX7_as_58 (q_ald0 dX7_as_59 (wz_getR dX7_as_60 cf7 t379 (kf := 11) gr_28_11 gc_28 (q_ild4 dX7_as_63 ?_)))
    obtain ⟨hi2, hS⟩ := hS
    refine wz_iald dX7_as_65 ga_30 gc_30 hi2 rfl (q_ild1 dX7_as_66 ?_)
    refine wz_icmp_ne (tgt := 74) dX7_as_67 rfl (fun c3 => ?_) (fun c3 => ?_)
    · replace hS := hS.1 c3
      refine wz_iconst dX7_as_74 kiconst_0 (wz_iadd dX7_as_75 (q_ist3 dX7_as_76 (ltX7_as_3) rfl (q_inc4 (v := (x4 + 1)) dX7_as_77 rfl (ltX7_as_4) rfl (wz_goto (tgt := 49) dX7_as_80 rfl ?_))))
      exact hS
    · replace hS := hS.2 c3
      refine wz_iconst dX7_as_70 kiconst_1 (wz_goto (tgt := 75) dX7_as_71 rfl (wz_iadd dX7_as_75 (q_ist3 dX7_as_76 (ltX7_as_3) rfl (q_inc4 (v := (x4 + 1)) dX7_as_77 rfl (ltX7_as_4) rfl (wz_goto (tgt := 49) dX7_as_80 rfl ?_)))))
      exact hS
def SX7_contractTo_0 (E : EN) (a1 : Int32) (h : TH) (Q : Int32 → TH → Prop) : Prop := wi E MX7_contractTo Q 4 [some (rf 28 0), some (.int a1), some (.int (-1)), some (.int 0)] [] h
set_option maxRecDepth 20000 in
theorem sX7_contractTo_0 {E : EN} {a1 : Int32} {h : TH} {Q : Int32 → TH → Prop}  (hS : SX7_contractTo_0 E a1 h Q) : wi E MX7_contractTo Q 0 [some (rf 28 0), some (.int a1), none, none] [] h := by
  refine wz_iconst dX7_contractTo_0 kiconst_m1 (q_ist2 dX7_contractTo_1 (ltX7_contractTo_2) rfl (wz_iconst dX7_contractTo_2 kiconst_0 (q_ist3 dX7_contractTo_3 (ltX7_contractTo_3) rfl ?_)))
  exact hS
def SX7_contractTo_4 (E : EN) (x1 : Int32) (x2 : Int32) (x3 : Int32) (h : TH) (Q : Int32 → TH → Prop) : Prop := (((h 28 0 1) ≤ x3 → Q x2 h) ∧ (¬ (h 28 0 1) ≤ x3 → vp_in x3 10 ∧ ((¬ (h 31 0 (x3.toNatClampNeg)) = x1 → wi E MX7_contractTo Q 4 [some (rf 28 0), some (.int x1), some (.int x2), some (.int (x3 + 1))] [] h) ∧ ((h 31 0 (x3.toNatClampNeg)) = x1 → wi E MX7_contractTo Q 4 [some (rf 28 0), some (.int x1), some (.int x3), some (.int (x3 + 1))] [] h))))
set_option maxRecDepth 20000 in
theorem sX7_contractTo_4 {E : EN} {x1 : Int32} {x2 : Int32} {x3 : Int32} {h : TH} {Q : Int32 → TH → Prop}  (hS : SX7_contractTo_4 E x1 x2 x3 h Q) : wi E MX7_contractTo Q 4 [some (rf 28 0), some (.int x1), some (.int x2), some (.int x3)] [] h := by
  refine q_ild3 dX7_contractTo_4 (q_ald0 dX7_contractTo_5 (wz_getI dX7_contractTo_6 cf7 t362 (kf := 1) gi_28_1 gc_28 rfl ?_))
  refine wz_icmp_ge (tgt := 34) dX7_contractTo_9 rfl (fun c1 => ?_) (fun c1 => ?_)
  · replace hS := hS.1 c1
    refine q_ild2 dX7_contractTo_34 ?_
    exact wi_ret dX7_contractTo_35 rfl hS
  · replace hS := hS.2 c1
    refine q_ald0 dX7_contractTo_12 (wz_getR dX7_contractTo_13 cf7 t380 (kf := 12) gr_28_12 gc_28 (q_ild3 dX7_contractTo_16 ?_))
    obtain ⟨hi2, hS⟩ := hS
    refine wz_iald dX7_contractTo_17 ga_31 gc_31 hi2 rfl (q_ild1 dX7_contractTo_18 ?_)
    refine wz_icmp_ne (tgt := 26) dX7_contractTo_19 rfl (fun c3 => ?_) (fun c3 => ?_)
    · replace hS := hS.1 c3
      refine q_ild2 dX7_contractTo_26 (q_ist2 dX7_contractTo_27 (ltX7_contractTo_2) rfl (q_inc3 (v := (x3 + 1)) dX7_contractTo_28 rfl (ltX7_contractTo_3) rfl (wz_goto (tgt := 4) dX7_contractTo_31 rfl ?_)))
      exact hS
    · replace hS := hS.2 c3
      refine q_ild3 dX7_contractTo_22 (wz_goto (tgt := 27) dX7_contractTo_23 rfl (q_ist2 dX7_contractTo_27 (ltX7_contractTo_2) rfl (q_inc3 (v := (x3 + 1)) dX7_contractTo_28 rfl (ltX7_contractTo_3) rfl (wz_goto (tgt := 4) dX7_contractTo_31 rfl ?_))))
      exact hS
def SX7_contract (E : EN) (a1 : Int32) (a2 : Int32) (a3 : Int32) (h : TH) (Q : Int32 → TH → Prop) : Prop := SX7_isParty E a1 h (fun r2 h1 => ((r2 = 0 → SX7_finds E (-1000000001) h1 (fun r5 h4 => Q r5 h4)) ∧ (¬ r2 = 0 → SX7_isParty E a2 h1 (fun r7 h6 => ((r7 = 0 → SX7_finds E (-1000000001) h6 (fun r10 h9 => Q r10 h9)) ∧ (¬ r7 = 0 → SX7_isIn E a3 1 100000 h6 (fun r12 h11 => ((¬ r12 = 0 → vp_in a2 12 ∧ SX7_isUnder E (h11 29 0 (a2.toNatClampNeg)) 2 h11 (fun r16 h15 => ((r16 = 0 → SX7_finds E (-1000000005) h15 (fun r19 h18 => Q r19 h18)) ∧ (¬ r16 = 0 → ((a1 = 0 → wi E MX7_contractTo (fun r22 h21 => ((¬ r22 = (-1) → SX7_finds E (-1000000003) h21 (fun r25 h24 => Q r25 h24)) ∧ (r22 = (-1) → ((a1 = 0 → ((¬ a1 = a2 → ((¬ (h21 28 0 1) = 10 → vp_in (h21 28 0 1) 10 ∧ Q (h21 28 0 1) (up (up (up (up (up (up (up (up (up (up h21 30 0 ((h21 28 0 1).toNatClampNeg) a1) 31 0 ((h21 28 0 1).toNatClampNeg) a2) 32 0 ((h21 28 0 1).toNatClampNeg) a3) 33 0 ((h21 28 0 1).toNatClampNeg) 0) 34 0 ((h21 28 0 1).toNatClampNeg) (-1)) 35 0 ((h21 28 0 1).toNatClampNeg) (-1)) 36 0 ((h21 28 0 1).toNatClampNeg) (-1)) 37 0 ((h21 28 0 1).toNatClampNeg) (-1)) 38 0 ((h21 28 0 1).toNatClampNeg) (-1)) 28 0 1 ((h21 28 0 1) + 1))) ∧ ((h21 28 0 1) = 10 → SX7_finds E (-1000000004) h21 (fun r31 h30 => Q r31 h30)))) ∧ (a1 = a2 → SX7_finds E (-1000000003) h21 (fun r33 h32 => Q r33 h32)))) ∧ (¬ a1 = 0 → wi E MX7_contractTo (fun r35 h34 => ((r35 = (-1) → SX7_finds E (-1000000003) h34 (fun r38 h37 => Q r38 h37)) ∧ (¬ r35 = (-1) → ((¬ a1 = a2 → ((¬ (h34 28 0 1) = 10 → vp_in (h34 28 0 1) 10 ∧ Q (h34 28 0 1) (up (up (up (up (up (up (up (up (up (up h34 30 0 ((h34 28 0 1).toNatClampNeg) a1) 31 0 ((h34 28 0 1).toNatClampNeg) a2) 32 0 ((h34 28 0 1).toNatClampNeg) a3) 33 0 ((h34 28 0 1).toNatClampNeg) 0) 34 0 ((h34 28 0 1).toNatClampNeg) (-1)) 35 0 ((h34 28 0 1).toNatClampNeg) (-1)) 36 0 ((h34 28 0 1).toNatClampNeg) (-1)) 37 0 ((h34 28 0 1).toNatClampNeg) (-1)) 38 0 ((h34 28 0 1).toNatClampNeg) (-1)) 28 0 1 ((h34 28 0 1) + 1))) ∧ ((h34 28 0 1) = 10 → SX7_finds E (-1000000004) h34 (fun r43 h42 => Q r43 h42)))) ∧ (a1 = a2 → SX7_finds E (-1000000003) h34 (fun r45 h44 => Q r45 h44)))))) 0 [some (rf 28 0), some (.int a1), none, none] [] h21))))) 0 [some (rf 28 0), some (.int a2), none, none] [] h15) ∧ (¬ a1 = 0 → vp_in a1 12 ∧ (((h15 29 0 (a1.toNatClampNeg)) = 2 → wi E MX7_contractTo (fun r49 h48 => ((¬ r49 = (-1) → SX7_finds E (-1000000003) h48 (fun r52 h51 => Q r52 h51)) ∧ (r49 = (-1) → ((a1 = 0 → ((¬ a1 = a2 → ((¬ (h48 28 0 1) = 10 → vp_in (h48 28 0 1) 10 ∧ Q (h48 28 0 1) (up (up (up (up (up (up (up (up (up (up h48 30 0 ((h48 28 0 1).toNatClampNeg) a1) 31 0 ((h48 28 0 1).toNatClampNeg) a2) 32 0 ((h48 28 0 1).toNatClampNeg) a3) 33 0 ((h48 28 0 1).toNatClampNeg) 0) 34 0 ((h48 28 0 1).toNatClampNeg) (-1)) 35 0 ((h48 28 0 1).toNatClampNeg) (-1)) 36 0 ((h48 28 0 1).toNatClampNeg) (-1)) 37 0 ((h48 28 0 1).toNatClampNeg) (-1)) 38 0 ((h48 28 0 1).toNatClampNeg) (-1)) 28 0 1 ((h48 28 0 1) + 1))) ∧ ((h48 28 0 1) = 10 → SX7_finds E (-1000000004) h48 (fun r58 h57 => Q r58 h57)))) ∧ (a1 = a2 → SX7_finds E (-1000000003) h48 (fun r60 h59 => Q r60 h59)))) ∧ (¬ a1 = 0 → wi E MX7_contractTo (fun r62 h61 => ((r62 = (-1) → SX7_finds E (-1000000003) h61 (fun r65 h64 => Q r65 h64)) ∧ (¬ r62 = (-1) → ((¬ a1 = a2 → ((¬ (h61 28 0 1) = 10 → vp_in (h61 28 0 1) 10 ∧ Q (h61 28 0 1) (up (up (up (up (up (up (up (up (up (up h61 30 0 ((h61 28 0 1).toNatClampNeg) a1) 31 0 ((h61 28 0 1).toNatClampNeg) a2) 32 0 ((h61 28 0 1).toNatClampNeg) a3) 33 0 ((h61 28 0 1).toNatClampNeg) 0) 34 0 ((h61 28 0 1).toNatClampNeg) (-1)) 35 0 ((h61 28 0 1).toNatClampNeg) (-1)) 36 0 ((h61 28 0 1).toNatClampNeg) (-1)) 37 0 ((h61 28 0 1).toNatClampNeg) (-1)) 38 0 ((h61 28 0 1).toNatClampNeg) (-1)) 28 0 1 ((h61 28 0 1) + 1))) ∧ ((h61 28 0 1) = 10 → SX7_finds E (-1000000004) h61 (fun r70 h69 => Q r70 h69)))) ∧ (a1 = a2 → SX7_finds E (-1000000003) h61 (fun r72 h71 => Q r72 h71)))))) 0 [some (rf 28 0), some (.int a1), none, none] [] h48))))) 0 [some (rf 28 0), some (.int a2), none, none] [] h15) ∧ (¬ (h15 29 0 (a1.toNatClampNeg)) = 2 → SX7_finds E (-1000000005) h15 (fun r74 h73 => Q r74 h73))))))))) ∧ (r12 = 0 → SX7_finds E (-1000000001) h11 (fun r76 h75 => Q r76 h75))))))))))
set_option maxRecDepth 20000 in
theorem sX7_contract {E : EN} {a1 : Int32} {a2 : Int32} {a3 : Int32} {h : TH} {Q : Int32 → TH → Prop}  (hS : SX7_contract E a1 a2 a3 h Q) : wi E MX7_contract Q 0 [some (rf 28 0), some (.int a1), some (.int a2), some (.int a3), none] [] h := by
  refine q_ald0 dX7_contract_0 (q_ild1 dX7_contract_1 ?_)
  refine wz_virtI (M := MX7_contract) (pc := 2) (M' := MX7_isParty) (n := 1) (As := [.int a1]) (st := []) dX7_contract_2 cf7 rfl go_28 gc_28 rfl cat_i okX7_contract_X7_isParty cwX7_136 (Nat.le_of_ble_eq_true rfl) ⟨Nat.zero_le _, Nat.zero_le _⟩ rfl (ls0 := [some (rf 28 0), some (.int a1)]) rfl (sX7_isParty  hS) (fun r2 h1 hS => ?_)
  refine wz_if_eq (tgt := 26) dX7_contract_5 rfl (fun c3 => ?_) (fun c3 => ?_)
  · replace hS := hS.1 c3
    refine q_ald0 dX7_contract_26 (wz_ldc dX7_contract_27 t370 ?_)
    refine wz_virtI (M := MX7_contract) (pc := 29) (M' := MX7_finds) (n := 1) (As := [.int (-1000000001)]) (st := []) dX7_contract_29 cf7 rfl go_28 gc_28 rfl cat_i okX7_contract_X7_finds cwX7_132 (Nat.le_of_ble_eq_true rfl) ⟨Nat.zero_le _, Nat.zero_le _⟩ rfl (ls0 := [some (rf 28 0), some (.int (-1000000001))]) rfl (sX7_finds  hS) (fun r5 h4 hS => ?_)
    exact wi_ret dX7_contract_32 rfl hS
  · replace hS := hS.2 c3
    refine q_ald0 dX7_contract_8 (q_ild2 dX7_contract_9 ?_)
    refine wz_virtI (M := MX7_contract) (pc := 10) (M' := MX7_isParty) (n := 1) (As := [.int a2]) (st := []) dX7_contract_10 cf7 rfl go_28 gc_28 rfl cat_i okX7_contract_X7_isParty cwX7_136 (Nat.le_of_ble_eq_true rfl) ⟨Nat.zero_le _, Nat.zero_le _⟩ rfl (ls0 := [some (rf 28 0), some (.int a2)]) rfl (sX7_isParty  hS) (fun r7 h6 hS => ?_)
    refine wz_if_eq (tgt := 26) dX7_contract_13 rfl (fun c8 => ?_) (fun c8 => ?_)
    · replace hS := hS.1 c8
      refine q_ald0 dX7_contract_26 (wz_ldc dX7_contract_27 t370 ?_)
      refine wz_virtI (M := MX7_contract) (pc := 29) (M' := MX7_finds) (n := 1) (As := [.int (-1000000001)]) (st := []) dX7_contract_29 cf7 rfl go_28 gc_28 rfl cat_i okX7_contract_X7_finds cwX7_132 (Nat.le_of_ble_eq_true rfl) ⟨Nat.zero_le _, Nat.zero_le _⟩ rfl (ls0 := [some (rf 28 0), some (.int (-1000000001))]) rfl (sX7_finds  hS) (fun r10 h9 hS => ?_)
      exact wi_ret dX7_contract_32 rfl hS
    · replace hS := hS.2 c8
      refine q_ild3 dX7_contract_16 (wz_iconst dX7_contract_17 kiconst_1 (wz_ldc dX7_contract_18 t381 ?_))
      refine wz_statI (M := MX7_contract) (pc := 20) (M' := MX7_isIn) (n := 3) (As := [.int a3, .int 1, .int 100000]) (st := []) dX7_contract_20 rfl cat_iii okX7_contract_X7_isIn cwX7_121 (Nat.le_of_ble_eq_true rfl) ⟨Nat.zero_le _, Nat.zero_le _⟩ rfl (ls0 := [some (.int a3), some (.int 1), some (.int 100000)]) rfl (sX7_isIn  hS) (fun r12 h11 hS => ?_)
      refine wz_if_ne (tgt := 33) dX7_contract_23 rfl (fun c13 => ?_) (fun c13 => ?_)
      · replace hS := hS.1 c13
        refine q_ald0 dX7_contract_33 (wz_getR dX7_contract_34 cf7 t364 (kf := 10) gr_28_10 gc_28 (q_ild2 dX7_contract_37 ?_))
        obtain ⟨hi14, hS⟩ := hS
        refine wz_iald dX7_contract_38 ga_29 gc_29 hi14 rfl (wz_iconst dX7_contract_39 kiconst_2 ?_)
        refine wz_statI (M := MX7_contract) (pc := 40) (M' := MX7_isUnder) (n := 2) (As := [.int (h11 29 0 (a2.toNatClampNeg)), .int 2]) (st := []) dX7_contract_40 rfl cat_ii okX7_contract_X7_isUnder cwX7_140 (Nat.le_of_ble_eq_true rfl) ⟨Nat.zero_le _, Nat.zero_le _⟩ rfl (ls0 := [some (.int (h11 29 0 (a2.toNatClampNeg))), some (.int 2)]) rfl (sX7_isUnder  hS) (fun r16 h15 hS => ?_)
        refine wz_if_eq (tgt := 60) dX7_contract_43 rfl (fun c17 => ?_) (fun c17 => ?_)
        · replace hS := hS.1 c17
          refine q_ald0 dX7_contract_60 (wz_ldc dX7_contract_61 t371 ?_)
          refine wz_virtI (M := MX7_contract) (pc := 63) (M' := MX7_finds) (n := 1) (As := [.int (-1000000005)]) (st := []) dX7_contract_63 cf7 rfl go_28 gc_28 rfl cat_i okX7_contract_X7_finds cwX7_132 (Nat.le_of_ble_eq_true rfl) ⟨Nat.zero_le _, Nat.zero_le _⟩ rfl (ls0 := [some (rf 28 0), some (.int (-1000000005))]) rfl (sX7_finds  hS) (fun r19 h18 hS => ?_)
          exact wi_ret dX7_contract_66 rfl hS
        · replace hS := hS.2 c17
          refine q_ild1 dX7_contract_46 ?_
          refine wz_if_eq (tgt := 67) dX7_contract_47 rfl (fun c20 => ?_) (fun c20 => ?_)
          · replace hS := hS.1 c20
            refine q_ald0 dX7_contract_67 (q_ild2 dX7_contract_68 ?_)
            refine wz_virtI (M := MX7_contract) (pc := 69) (M' := MX7_contractTo) (n := 1) (As := [.int a2]) (st := []) dX7_contract_69 cf7 rfl go_28 gc_28 rfl cat_i okX7_contract_X7_contractTo cwX7_146 (Nat.le_of_ble_eq_true rfl) ⟨Nat.zero_le _, Nat.zero_le _⟩ rfl (ls0 := [some (rf 28 0), some (.int a2), none, none]) rfl hS (fun r22 h21 hS => ?_)
            refine wz_iconst dX7_contract_72 kiconst_m1 ?_
            refine wz_icmp_ne (tgt := 94) dX7_contract_73 rfl (fun c23 => ?_) (fun c23 => ?_)
            · replace hS := hS.1 c23
              refine q_ald0 dX7_contract_94 (wz_ldc dX7_contract_95 t382 ?_)
              refine wz_virtI (M := MX7_contract) (pc := 97) (M' := MX7_finds) (n := 1) (As := [.int (-1000000003)]) (st := []) dX7_contract_97 cf7 rfl go_28 gc_28 rfl cat_i okX7_contract_X7_finds cwX7_132 (Nat.le_of_ble_eq_true rfl) ⟨Nat.zero_le _, Nat.zero_le _⟩ rfl (ls0 := [some (rf 28 0), some (.int (-1000000003))]) rfl (sX7_finds  hS) (fun r25 h24 hS => ?_)
              exact wi_ret dX7_contract_100 rfl hS
            · replace hS := hS.2 c23
              refine q_ild1 dX7_contract_76 ?_
              refine wz_if_eq (tgt := 89) dX7_contract_77 rfl (fun c26 => ?_) (fun c26 => ?_)
              · replace hS := hS.1 c26
                refine q_ild1 dX7_contract_89 (q_ild2 dX7_contract_90 ?_)
                refine wz_icmp_ne (tgt := 101) dX7_contract_91 rfl (fun c27 => ?_) (fun c27 => ?_)
                · replace hS := hS.1 c27
                  refine q_ald0 dX7_contract_101 (wz_getI dX7_contract_102 cf7 t362 (kf := 1) gi_28_1 gc_28 rfl (wz_bipush dX7_contract_105 kbipush_10 ?_))
                  refine wz_icmp_ne (tgt := 117) dX7_contract_107 rfl (fun c28 => ?_) (fun c28 => ?_)
                  · replace hS := hS.1 c28
                    refine q_ald0 dX7_contract_117 (wz_getI dX7_contract_118 cf7 t362 (kf := 1) gi_28_1 gc_28 rfl (q_ist4 dX7_contract_121 (ltX7_contract_4) rfl (q_ald0 dX7_contract_123 (wz_getR dX7_contract_124 cf7 t379 (kf := 11) gr_28_11 gc_28 (q_ild4 dX7_contract_127 (q_ild1 dX7_contract_129 ?_))))))
                    obtain ⟨hi29, hS⟩ := hS
                    refine wz_iast dX7_contract_130 ga_30 gc_30 hi29 rfl (q_ald0 dX7_contract_131 (wz_getR dX7_contract_132 cf7 t380 (kf := 12) gr_28_12 gc_28 (q_ild4 dX7_contract_135 (q_ild2 dX7_contract_137 (wz_iast dX7_contract_138 ga_31 gc_31 hi29 rfl (q_ald0 dX7_contract_139 (wz_getR dX7_contract_140 cf7 t383 (kf := 13) gr_28_13 gc_28 ?_)))))))
                    refine wz_pc (pc2 := 143) rfl ?_
                    refine q_ild4 dX7_contract_143 (q_ild3 dX7_contract_145 (wz_iast dX7_contract_146 ga_32 gc_32 hi29 rfl (q_ald0 dX7_contract_147 (wz_getR dX7_contract_148 cf7 t384 (kf := 14) gr_28_14 gc_28 (q_ild4 dX7_contract_151 (wz_iconst dX7_contract_153 kiconst_0 (wz_iast dX7_contract_154 ga_33 gc_33 hi29 rfl ?_)))))))
                    refine wz_pc (pc2 := 155) rfl ?_
                    refine q_ald0 dX7_contract_155 (wz_getR dX7_contract_156 cf7 t385 (kf := 15) gr_28_15 gc_28 (q_ild4 dX7_contract_159 (wz_iconst dX7_contract_161 kiconst_m1 (wz_iast dX7_contract_162 ga_34 gc_34 hi29 rfl (q_ald0 dX7_contract_163 (wz_getR dX7_contract_164 cf7 t386 (kf := 16) gr_28_16 gc_28 (q_ild4 dX7_contract_167 ?_)))))))
                    refine wz_pc (pc2 := 169) rfl ?_
                    refine wz_iconst dX7_contract_169 kiconst_m1 (wz_iast dX7_contract_170 ga_35 gc_35 hi29 rfl (q_ald0 dX7_contract_171 (wz_getR dX7_contract_172 cf7 t387 (kf := 17) gr_28_17 gc_28 (q_ild4 dX7_contract_175 (wz_iconst dX7_contract_177 kiconst_m1 (wz_iast dX7_contract_178 ga_36 gc_36 hi29 rfl (q_ald0 dX7_contract_179 ?_)))))))
                    refine wz_pc (pc2 := 180) rfl ?_
                    refine wz_getR dX7_contract_180 cf7 t388 (kf := 18) gr_28_18 gc_28 (q_ild4 dX7_contract_183 (wz_iconst dX7_contract_185 kiconst_m1 (wz_iast dX7_contract_186 ga_37 gc_37 hi29 rfl (q_ald0 dX7_contract_187 (wz_getR dX7_contract_188 cf7 t389 (kf := 19) gr_28_19 gc_28 (q_ild4 dX7_contract_191 (wz_iconst dX7_contract_193 kiconst_m1 ?_)))))))
                    refine wz_pc (pc2 := 194) rfl ?_
                    refine wz_iast dX7_contract_194 ga_38 gc_38 hi29 rfl (q_ald0 dX7_contract_195 (wz_dup dX7_contract_196 rfl (wz_getI (v := (h21 28 0 1)) dX7_contract_197 cf7 t362 (kf := 1) gi_28_1 gc_28 (by first | rfl | simp [up]) (wz_iconst dX7_contract_200 kiconst_1 (wz_iadd dX7_contract_201 (wz_putI dX7_contract_202 cf7 t362 (kf := 1) gp_28_1 gc_28 rfl (q_ild4 dX7_contract_205 ?_)))))))
                    refine wz_pc (pc2 := 207) rfl ?_
                    exact wi_ret dX7_contract_207 rfl hS
                  · replace hS := hS.2 c28
                    refine q_ald0 dX7_contract_110 (wz_ldc dX7_contract_111 t365 ?_)
                    refine wz_virtI (M := MX7_contract) (pc := 113) (M' := MX7_finds) (n := 1) (As := [.int (-1000000004)]) (st := []) dX7_contract_113 cf7 rfl go_28 gc_28 rfl cat_i okX7_contract_X7_finds cwX7_132 (Nat.le_of_ble_eq_true rfl) ⟨Nat.zero_le _, Nat.zero_le _⟩ rfl (ls0 := [some (rf 28 0), some (.int (-1000000004))]) rfl (sX7_finds  hS) (fun r31 h30 hS => ?_)
                    exact wi_ret dX7_contract_116 rfl hS
                · replace hS := hS.2 c27
                  refine q_ald0 dX7_contract_94 (wz_ldc dX7_contract_95 t382 ?_)
                  refine wz_virtI (M := MX7_contract) (pc := 97) (M' := MX7_finds) (n := 1) (As := [.int (-1000000003)]) (st := []) dX7_contract_97 cf7 rfl go_28 gc_28 rfl cat_i okX7_contract_X7_finds cwX7_132 (Nat.le_of_ble_eq_true rfl) ⟨Nat.zero_le _, Nat.zero_le _⟩ rfl (ls0 := [some (rf 28 0), some (.int (-1000000003))]) rfl (sX7_finds  hS) (fun r33 h32 hS => ?_)
                  exact wi_ret dX7_contract_100 rfl hS
              · replace hS := hS.2 c26
                refine q_ald0 dX7_contract_80 (q_ild1 dX7_contract_81 ?_)
                refine wz_virtI (M := MX7_contract) (pc := 82) (M' := MX7_contractTo) (n := 1) (As := [.int a1]) (st := []) dX7_contract_82 cf7 rfl go_28 gc_28 rfl cat_i okX7_contract_X7_contractTo cwX7_146 (Nat.le_of_ble_eq_true rfl) ⟨Nat.zero_le _, Nat.zero_le _⟩ rfl (ls0 := [some (rf 28 0), some (.int a1), none, none]) rfl hS (fun r35 h34 hS => ?_)
                refine wz_iconst dX7_contract_85 kiconst_m1 ?_
                refine wz_icmp_eq (tgt := 94) dX7_contract_86 rfl (fun c36 => ?_) (fun c36 => ?_)
                · replace hS := hS.1 c36
                  refine q_ald0 dX7_contract_94 (wz_ldc dX7_contract_95 t382 ?_)
                  refine wz_virtI (M := MX7_contract) (pc := 97) (M' := MX7_finds) (n := 1) (As := [.int (-1000000003)]) (st := []) dX7_contract_97 cf7 rfl go_28 gc_28 rfl cat_i okX7_contract_X7_finds cwX7_132 (Nat.le_of_ble_eq_true rfl) ⟨Nat.zero_le _, Nat.zero_le _⟩ rfl (ls0 := [some (rf 28 0), some (.int (-1000000003))]) rfl (sX7_finds  hS) (fun r38 h37 hS => ?_)
                  exact wi_ret dX7_contract_100 rfl hS
                · replace hS := hS.2 c36
                  refine q_ild1 dX7_contract_89 (q_ild2 dX7_contract_90 ?_)
                  refine wz_icmp_ne (tgt := 101) dX7_contract_91 rfl (fun c39 => ?_) (fun c39 => ?_)
                  · replace hS := hS.1 c39
                    refine q_ald0 dX7_contract_101 (wz_getI dX7_contract_102 cf7 t362 (kf := 1) gi_28_1 gc_28 rfl (wz_bipush dX7_contract_105 kbipush_10 ?_))
                    refine wz_icmp_ne (tgt := 117) dX7_contract_107 rfl (fun c40 => ?_) (fun c40 => ?_)
                    · replace hS := hS.1 c40
                      refine q_ald0 dX7_contract_117 (wz_getI dX7_contract_118 cf7 t362 (kf := 1) gi_28_1 gc_28 rfl (q_ist4 dX7_contract_121 (ltX7_contract_4) rfl (q_ald0 dX7_contract_123 (wz_getR dX7_contract_124 cf7 t379 (kf := 11) gr_28_11 gc_28 (q_ild4 dX7_contract_127 (q_ild1 dX7_contract_129 ?_))))))
                      obtain ⟨hi41, hS⟩ := hS
                      refine wz_iast dX7_contract_130 ga_30 gc_30 hi41 rfl (q_ald0 dX7_contract_131 (wz_getR dX7_contract_132 cf7 t380 (kf := 12) gr_28_12 gc_28 (q_ild4 dX7_contract_135 (q_ild2 dX7_contract_137 (wz_iast dX7_contract_138 ga_31 gc_31 hi41 rfl (q_ald0 dX7_contract_139 (wz_getR dX7_contract_140 cf7 t383 (kf := 13) gr_28_13 gc_28 ?_)))))))
                      refine wz_pc (pc2 := 143) rfl ?_
                      refine q_ild4 dX7_contract_143 (q_ild3 dX7_contract_145 (wz_iast dX7_contract_146 ga_32 gc_32 hi41 rfl (q_ald0 dX7_contract_147 (wz_getR dX7_contract_148 cf7 t384 (kf := 14) gr_28_14 gc_28 (q_ild4 dX7_contract_151 (wz_iconst dX7_contract_153 kiconst_0 (wz_iast dX7_contract_154 ga_33 gc_33 hi41 rfl ?_)))))))
                      refine wz_pc (pc2 := 155) rfl ?_
                      refine q_ald0 dX7_contract_155 (wz_getR dX7_contract_156 cf7 t385 (kf := 15) gr_28_15 gc_28 (q_ild4 dX7_contract_159 (wz_iconst dX7_contract_161 kiconst_m1 (wz_iast dX7_contract_162 ga_34 gc_34 hi41 rfl (q_ald0 dX7_contract_163 (wz_getR dX7_contract_164 cf7 t386 (kf := 16) gr_28_16 gc_28 (q_ild4 dX7_contract_167 ?_)))))))
                      refine wz_pc (pc2 := 169) rfl ?_
                      refine wz_iconst dX7_contract_169 kiconst_m1 (wz_iast dX7_contract_170 ga_35 gc_35 hi41 rfl (q_ald0 dX7_contract_171 (wz_getR dX7_contract_172 cf7 t387 (kf := 17) gr_28_17 gc_28 (q_ild4 dX7_contract_175 (wz_iconst dX7_contract_177 kiconst_m1 (wz_iast dX7_contract_178 ga_36 gc_36 hi41 rfl (q_ald0 dX7_contract_179 ?_)))))))
                      refine wz_pc (pc2 := 180) rfl ?_
                      refine wz_getR dX7_contract_180 cf7 t388 (kf := 18) gr_28_18 gc_28 (q_ild4 dX7_contract_183 (wz_iconst dX7_contract_185 kiconst_m1 (wz_iast dX7_contract_186 ga_37 gc_37 hi41 rfl (q_ald0 dX7_contract_187 (wz_getR dX7_contract_188 cf7 t389 (kf := 19) gr_28_19 gc_28 (q_ild4 dX7_contract_191 (wz_iconst dX7_contract_193 kiconst_m1 ?_)))))))
                      refine wz_pc (pc2 := 194) rfl ?_
                      refine wz_iast dX7_contract_194 ga_38 gc_38 hi41 rfl (q_ald0 dX7_contract_195 (wz_dup dX7_contract_196 rfl (wz_getI (v := (h34 28 0 1)) dX7_contract_197 cf7 t362 (kf := 1) gi_28_1 gc_28 (by first | rfl | simp [up]) (wz_iconst dX7_contract_200 kiconst_1 (wz_iadd dX7_contract_201 (wz_putI dX7_contract_202 cf7 t362 (kf := 1) gp_28_1 gc_28 rfl (q_ild4 dX7_contract_205 ?_)))))))
                      refine wz_pc (pc2 := 207) rfl ?_
                      exact wi_ret dX7_contract_207 rfl hS
                    · replace hS := hS.2 c40
                      refine q_ald0 dX7_contract_110 (wz_ldc dX7_contract_111 t365 ?_)
                      refine wz_virtI (M := MX7_contract) (pc := 113) (M' := MX7_finds) (n := 1) (As := [.int (-1000000004)]) (st := []) dX7_contract_113 cf7 rfl go_28 gc_28 rfl cat_i okX7_contract_X7_finds cwX7_132 (Nat.le_of_ble_eq_true rfl) ⟨Nat.zero_le _, Nat.zero_le _⟩ rfl (ls0 := [some (rf 28 0), some (.int (-1000000004))]) rfl (sX7_finds  hS) (fun r43 h42 hS => ?_)
                      exact wi_ret dX7_contract_116 rfl hS
                  · replace hS := hS.2 c39
                    refine q_ald0 dX7_contract_94 (wz_ldc dX7_contract_95 t382 ?_)
                    refine wz_virtI (M := MX7_contract) (pc := 97) (M' := MX7_finds) (n := 1) (As := [.int (-1000000003)]) (st := []) dX7_contract_97 cf7 rfl go_28 gc_28 rfl cat_i okX7_contract_X7_finds cwX7_132 (Nat.le_of_ble_eq_true rfl) ⟨Nat.zero_le _, Nat.zero_le _⟩ rfl (ls0 := [some (rf 28 0), some (.int (-1000000003))]) rfl (sX7_finds  hS) (fun r45 h44 hS => ?_)
                    exact wi_ret dX7_contract_100 rfl hS
          · replace hS := hS.2 c20
            refine q_ald0 dX7_contract_50 (wz_getR dX7_contract_51 cf7 t364 (kf := 10) gr_28_10 gc_28 (q_ild1 dX7_contract_54 ?_))
            obtain ⟨hi46, hS⟩ := hS
            refine wz_iald dX7_contract_55 ga_29 gc_29 hi46 rfl (wz_iconst dX7_contract_56 kiconst_2 ?_)
            refine wz_icmp_eq (tgt := 67) dX7_contract_57 rfl (fun c47 => ?_) (fun c47 => ?_)
            · replace hS := hS.1 c47
              refine q_ald0 dX7_contract_67 (q_ild2 dX7_contract_68 ?_)
              refine wz_virtI (M := MX7_contract) (pc := 69) (M' := MX7_contractTo) (n := 1) (As := [.int a2]) (st := []) dX7_contract_69 cf7 rfl go_28 gc_28 rfl cat_i okX7_contract_X7_contractTo cwX7_146 (Nat.le_of_ble_eq_true rfl) ⟨Nat.zero_le _, Nat.zero_le _⟩ rfl (ls0 := [some (rf 28 0), some (.int a2), none, none]) rfl hS (fun r49 h48 hS => ?_)
              refine wz_iconst dX7_contract_72 kiconst_m1 ?_
              refine wz_icmp_ne (tgt := 94) dX7_contract_73 rfl (fun c50 => ?_) (fun c50 => ?_)
              · replace hS := hS.1 c50
                refine q_ald0 dX7_contract_94 (wz_ldc dX7_contract_95 t382 ?_)
                refine wz_virtI (M := MX7_contract) (pc := 97) (M' := MX7_finds) (n := 1) (As := [.int (-1000000003)]) (st := []) dX7_contract_97 cf7 rfl go_28 gc_28 rfl cat_i okX7_contract_X7_finds cwX7_132 (Nat.le_of_ble_eq_true rfl) ⟨Nat.zero_le _, Nat.zero_le _⟩ rfl (ls0 := [some (rf 28 0), some (.int (-1000000003))]) rfl (sX7_finds  hS) (fun r52 h51 hS => ?_)
                exact wi_ret dX7_contract_100 rfl hS
              · replace hS := hS.2 c50
                refine q_ild1 dX7_contract_76 ?_
                refine wz_if_eq (tgt := 89) dX7_contract_77 rfl (fun c53 => ?_) (fun c53 => ?_)
                · replace hS := hS.1 c53
                  refine q_ild1 dX7_contract_89 (q_ild2 dX7_contract_90 ?_)
                  refine wz_icmp_ne (tgt := 101) dX7_contract_91 rfl (fun c54 => ?_) (fun c54 => ?_)
                  · replace hS := hS.1 c54
                    refine q_ald0 dX7_contract_101 (wz_getI dX7_contract_102 cf7 t362 (kf := 1) gi_28_1 gc_28 rfl (wz_bipush dX7_contract_105 kbipush_10 ?_))
                    refine wz_icmp_ne (tgt := 117) dX7_contract_107 rfl (fun c55 => ?_) (fun c55 => ?_)
                    · replace hS := hS.1 c55
                      refine q_ald0 dX7_contract_117 (wz_getI dX7_contract_118 cf7 t362 (kf := 1) gi_28_1 gc_28 rfl (q_ist4 dX7_contract_121 (ltX7_contract_4) rfl (q_ald0 dX7_contract_123 (wz_getR dX7_contract_124 cf7 t379 (kf := 11) gr_28_11 gc_28 (q_ild4 dX7_contract_127 (q_ild1 dX7_contract_129 ?_))))))
                      obtain ⟨hi56, hS⟩ := hS
                      refine wz_iast dX7_contract_130 ga_30 gc_30 hi56 rfl (q_ald0 dX7_contract_131 (wz_getR dX7_contract_132 cf7 t380 (kf := 12) gr_28_12 gc_28 (q_ild4 dX7_contract_135 (q_ild2 dX7_contract_137 (wz_iast dX7_contract_138 ga_31 gc_31 hi56 rfl (q_ald0 dX7_contract_139 (wz_getR dX7_contract_140 cf7 t383 (kf := 13) gr_28_13 gc_28 ?_)))))))
                      refine wz_pc (pc2 := 143) rfl ?_
                      refine q_ild4 dX7_contract_143 (q_ild3 dX7_contract_145 (wz_iast dX7_contract_146 ga_32 gc_32 hi56 rfl (q_ald0 dX7_contract_147 (wz_getR dX7_contract_148 cf7 t384 (kf := 14) gr_28_14 gc_28 (q_ild4 dX7_contract_151 (wz_iconst dX7_contract_153 kiconst_0 (wz_iast dX7_contract_154 ga_33 gc_33 hi56 rfl ?_)))))))
                      refine wz_pc (pc2 := 155) rfl ?_
                      refine q_ald0 dX7_contract_155 (wz_getR dX7_contract_156 cf7 t385 (kf := 15) gr_28_15 gc_28 (q_ild4 dX7_contract_159 (wz_iconst dX7_contract_161 kiconst_m1 (wz_iast dX7_contract_162 ga_34 gc_34 hi56 rfl (q_ald0 dX7_contract_163 (wz_getR dX7_contract_164 cf7 t386 (kf := 16) gr_28_16 gc_28 (q_ild4 dX7_contract_167 ?_)))))))
                      refine wz_pc (pc2 := 169) rfl ?_
                      refine wz_iconst dX7_contract_169 kiconst_m1 (wz_iast dX7_contract_170 ga_35 gc_35 hi56 rfl (q_ald0 dX7_contract_171 (wz_getR dX7_contract_172 cf7 t387 (kf := 17) gr_28_17 gc_28 (q_ild4 dX7_contract_175 (wz_iconst dX7_contract_177 kiconst_m1 (wz_iast dX7_contract_178 ga_36 gc_36 hi56 rfl (q_ald0 dX7_contract_179 ?_)))))))
                      refine wz_pc (pc2 := 180) rfl ?_
                      refine wz_getR dX7_contract_180 cf7 t388 (kf := 18) gr_28_18 gc_28 (q_ild4 dX7_contract_183 (wz_iconst dX7_contract_185 kiconst_m1 (wz_iast dX7_contract_186 ga_37 gc_37 hi56 rfl (q_ald0 dX7_contract_187 (wz_getR dX7_contract_188 cf7 t389 (kf := 19) gr_28_19 gc_28 (q_ild4 dX7_contract_191 (wz_iconst dX7_contract_193 kiconst_m1 ?_)))))))
                      refine wz_pc (pc2 := 194) rfl ?_
                      refine wz_iast dX7_contract_194 ga_38 gc_38 hi56 rfl (q_ald0 dX7_contract_195 (wz_dup dX7_contract_196 rfl (wz_getI (v := (h48 28 0 1)) dX7_contract_197 cf7 t362 (kf := 1) gi_28_1 gc_28 (by first | rfl | simp [up]) (wz_iconst dX7_contract_200 kiconst_1 (wz_iadd dX7_contract_201 (wz_putI dX7_contract_202 cf7 t362 (kf := 1) gp_28_1 gc_28 rfl (q_ild4 dX7_contract_205 ?_)))))))
                      refine wz_pc (pc2 := 207) rfl ?_
                      exact wi_ret dX7_contract_207 rfl hS
                    · replace hS := hS.2 c55
                      refine q_ald0 dX7_contract_110 (wz_ldc dX7_contract_111 t365 ?_)
                      refine wz_virtI (M := MX7_contract) (pc := 113) (M' := MX7_finds) (n := 1) (As := [.int (-1000000004)]) (st := []) dX7_contract_113 cf7 rfl go_28 gc_28 rfl cat_i okX7_contract_X7_finds cwX7_132 (Nat.le_of_ble_eq_true rfl) ⟨Nat.zero_le _, Nat.zero_le _⟩ rfl (ls0 := [some (rf 28 0), some (.int (-1000000004))]) rfl (sX7_finds  hS) (fun r58 h57 hS => ?_)
                      exact wi_ret dX7_contract_116 rfl hS
                  · replace hS := hS.2 c54
                    refine q_ald0 dX7_contract_94 (wz_ldc dX7_contract_95 t382 ?_)
                    refine wz_virtI (M := MX7_contract) (pc := 97) (M' := MX7_finds) (n := 1) (As := [.int (-1000000003)]) (st := []) dX7_contract_97 cf7 rfl go_28 gc_28 rfl cat_i okX7_contract_X7_finds cwX7_132 (Nat.le_of_ble_eq_true rfl) ⟨Nat.zero_le _, Nat.zero_le _⟩ rfl (ls0 := [some (rf 28 0), some (.int (-1000000003))]) rfl (sX7_finds  hS) (fun r60 h59 hS => ?_)
                    exact wi_ret dX7_contract_100 rfl hS
                · replace hS := hS.2 c53
                  refine q_ald0 dX7_contract_80 (q_ild1 dX7_contract_81 ?_)
                  refine wz_virtI (M := MX7_contract) (pc := 82) (M' := MX7_contractTo) (n := 1) (As := [.int a1]) (st := []) dX7_contract_82 cf7 rfl go_28 gc_28 rfl cat_i okX7_contract_X7_contractTo cwX7_146 (Nat.le_of_ble_eq_true rfl) ⟨Nat.zero_le _, Nat.zero_le _⟩ rfl (ls0 := [some (rf 28 0), some (.int a1), none, none]) rfl hS (fun r62 h61 hS => ?_)
                  refine wz_iconst dX7_contract_85 kiconst_m1 ?_
                  refine wz_icmp_eq (tgt := 94) dX7_contract_86 rfl (fun c63 => ?_) (fun c63 => ?_)
                  · replace hS := hS.1 c63
                    refine q_ald0 dX7_contract_94 (wz_ldc dX7_contract_95 t382 ?_)
                    refine wz_virtI (M := MX7_contract) (pc := 97) (M' := MX7_finds) (n := 1) (As := [.int (-1000000003)]) (st := []) dX7_contract_97 cf7 rfl go_28 gc_28 rfl cat_i okX7_contract_X7_finds cwX7_132 (Nat.le_of_ble_eq_true rfl) ⟨Nat.zero_le _, Nat.zero_le _⟩ rfl (ls0 := [some (rf 28 0), some (.int (-1000000003))]) rfl (sX7_finds  hS) (fun r65 h64 hS => ?_)
                    exact wi_ret dX7_contract_100 rfl hS
                  · replace hS := hS.2 c63
                    refine q_ild1 dX7_contract_89 (q_ild2 dX7_contract_90 ?_)
                    refine wz_icmp_ne (tgt := 101) dX7_contract_91 rfl (fun c66 => ?_) (fun c66 => ?_)
                    · replace hS := hS.1 c66
                      refine q_ald0 dX7_contract_101 (wz_getI dX7_contract_102 cf7 t362 (kf := 1) gi_28_1 gc_28 rfl (wz_bipush dX7_contract_105 kbipush_10 ?_))
                      refine wz_icmp_ne (tgt := 117) dX7_contract_107 rfl (fun c67 => ?_) (fun c67 => ?_)
                      · replace hS := hS.1 c67
                        refine q_ald0 dX7_contract_117 (wz_getI dX7_contract_118 cf7 t362 (kf := 1) gi_28_1 gc_28 rfl (q_ist4 dX7_contract_121 (ltX7_contract_4) rfl (q_ald0 dX7_contract_123 (wz_getR dX7_contract_124 cf7 t379 (kf := 11) gr_28_11 gc_28 (q_ild4 dX7_contract_127 (q_ild1 dX7_contract_129 ?_))))))
                        obtain ⟨hi68, hS⟩ := hS
                        refine wz_iast dX7_contract_130 ga_30 gc_30 hi68 rfl (q_ald0 dX7_contract_131 (wz_getR dX7_contract_132 cf7 t380 (kf := 12) gr_28_12 gc_28 (q_ild4 dX7_contract_135 (q_ild2 dX7_contract_137 (wz_iast dX7_contract_138 ga_31 gc_31 hi68 rfl (q_ald0 dX7_contract_139 (wz_getR dX7_contract_140 cf7 t383 (kf := 13) gr_28_13 gc_28 ?_)))))))
                        refine wz_pc (pc2 := 143) rfl ?_
                        refine q_ild4 dX7_contract_143 (q_ild3 dX7_contract_145 (wz_iast dX7_contract_146 ga_32 gc_32 hi68 rfl (q_ald0 dX7_contract_147 (wz_getR dX7_contract_148 cf7 t384 (kf := 14) gr_28_14 gc_28 (q_ild4 dX7_contract_151 (wz_iconst dX7_contract_153 kiconst_0 (wz_iast dX7_contract_154 ga_33 gc_33 hi68 rfl ?_)))))))
                        refine wz_pc (pc2 := 155) rfl ?_
                        refine q_ald0 dX7_contract_155 (wz_getR dX7_contract_156 cf7 t385 (kf := 15) gr_28_15 gc_28 (q_ild4 dX7_contract_159 (wz_iconst dX7_contract_161 kiconst_m1 (wz_iast dX7_contract_162 ga_34 gc_34 hi68 rfl (q_ald0 dX7_contract_163 (wz_getR dX7_contract_164 cf7 t386 (kf := 16) gr_28_16 gc_28 (q_ild4 dX7_contract_167 ?_)))))))
                        refine wz_pc (pc2 := 169) rfl ?_
                        refine wz_iconst dX7_contract_169 kiconst_m1 (wz_iast dX7_contract_170 ga_35 gc_35 hi68 rfl (q_ald0 dX7_contract_171 (wz_getR dX7_contract_172 cf7 t387 (kf := 17) gr_28_17 gc_28 (q_ild4 dX7_contract_175 (wz_iconst dX7_contract_177 kiconst_m1 (wz_iast dX7_contract_178 ga_36 gc_36 hi68 rfl (q_ald0 dX7_contract_179 ?_)))))))
                        refine wz_pc (pc2 := 180) rfl ?_
                        refine wz_getR dX7_contract_180 cf7 t388 (kf := 18) gr_28_18 gc_28 (q_ild4 dX7_contract_183 (wz_iconst dX7_contract_185 kiconst_m1 (wz_iast dX7_contract_186 ga_37 gc_37 hi68 rfl (q_ald0 dX7_contract_187 (wz_getR dX7_contract_188 cf7 t389 (kf := 19) gr_28_19 gc_28 (q_ild4 dX7_contract_191 (wz_iconst dX7_contract_193 kiconst_m1 ?_)))))))
                        refine wz_pc (pc2 := 194) rfl ?_
                        refine wz_iast dX7_contract_194 ga_38 gc_38 hi68 rfl (q_ald0 dX7_contract_195 (wz_dup dX7_contract_196 rfl (wz_getI (v := (h61 28 0 1)) dX7_contract_197 cf7 t362 (kf := 1) gi_28_1 gc_28 (by first | rfl | simp [up]) (wz_iconst dX7_contract_200 kiconst_1 (wz_iadd dX7_contract_201 (wz_putI dX7_contract_202 cf7 t362 (kf := 1) gp_28_1 gc_28 rfl (q_ild4 dX7_contract_205 ?_)))))))
                        refine wz_pc (pc2 := 207) rfl ?_
                        exact wi_ret dX7_contract_207 rfl hS
                      · replace hS := hS.2 c67
                        refine q_ald0 dX7_contract_110 (wz_ldc dX7_contract_111 t365 ?_)
                        refine wz_virtI (M := MX7_contract) (pc := 113) (M' := MX7_finds) (n := 1) (As := [.int (-1000000004)]) (st := []) dX7_contract_113 cf7 rfl go_28 gc_28 rfl cat_i okX7_contract_X7_finds cwX7_132 (Nat.le_of_ble_eq_true rfl) ⟨Nat.zero_le _, Nat.zero_le _⟩ rfl (ls0 := [some (rf 28 0), some (.int (-1000000004))]) rfl (sX7_finds  hS) (fun r70 h69 hS => ?_)
                        exact wi_ret dX7_contract_116 rfl hS
                    · replace hS := hS.2 c66
                      refine q_ald0 dX7_contract_94 (wz_ldc dX7_contract_95 t382 ?_)
                      refine wz_virtI (M := MX7_contract) (pc := 97) (M' := MX7_finds) (n := 1) (As := [.int (-1000000003)]) (st := []) dX7_contract_97 cf7 rfl go_28 gc_28 rfl cat_i okX7_contract_X7_finds cwX7_132 (Nat.le_of_ble_eq_true rfl) ⟨Nat.zero_le _, Nat.zero_le _⟩ rfl (ls0 := [some (rf 28 0), some (.int (-1000000003))]) rfl (sX7_finds  hS) (fun r72 h71 hS => ?_)
                      exact wi_ret dX7_contract_100 rfl hS
            · replace hS := hS.2 c47
              refine q_ald0 dX7_contract_60 (wz_ldc dX7_contract_61 t371 ?_)
              refine wz_virtI (M := MX7_contract) (pc := 63) (M' := MX7_finds) (n := 1) (As := [.int (-1000000005)]) (st := []) dX7_contract_63 cf7 rfl go_28 gc_28 rfl cat_i okX7_contract_X7_finds cwX7_132 (Nat.le_of_ble_eq_true rfl) ⟨Nat.zero_le _, Nat.zero_le _⟩ rfl (ls0 := [some (rf 28 0), some (.int (-1000000005))]) rfl (sX7_finds  hS) (fun r74 h73 hS => ?_)
              exact wi_ret dX7_contract_66 rfl hS
      · replace hS := hS.2 c13
        refine q_ald0 dX7_contract_26 (wz_ldc dX7_contract_27 t370 ?_)
        refine wz_virtI (M := MX7_contract) (pc := 29) (M' := MX7_finds) (n := 1) (As := [.int (-1000000001)]) (st := []) dX7_contract_29 cf7 rfl go_28 gc_28 rfl cat_i okX7_contract_X7_finds cwX7_132 (Nat.le_of_ble_eq_true rfl) ⟨Nat.zero_le _, Nat.zero_le _⟩ rfl (ls0 := [some (rf 28 0), some (.int (-1000000001))]) rfl (sX7_finds  hS) (fun r76 h75 hS => ?_)
        exact wi_ret dX7_contract_32 rfl hS
def SX7_extra (E : EN) (a1 : Int32) (a2 : Int32) (h : TH) (Q : Int32 → TH → Prop) : Prop := SX7_isContract E a1 h (fun r2 h1 => ((r2 = 0 → SX7_finds E (-1000000001) h1 (fun r5 h4 => Q r5 h4)) ∧ (¬ r2 = 0 → SX7_isIn E a2 1 100000 h1 (fun r7 h6 => ((¬ r7 = 0 → vp_in a1 10 ∧ ((((h6 32 0 (a1.toNatClampNeg)) + a2) ≤ 1000000 → Q ((h6 32 0 (a1.toNatClampNeg)) + a2) (up h6 32 0 (a1.toNatClampNeg) ((h6 32 0 (a1.toNatClampNeg)) + a2))) ∧ (¬ ((h6 32 0 (a1.toNatClampNeg)) + a2) ≤ 1000000 → SX7_finds E (-1000000004) h6 (fun r12 h11 => Q r12 h11)))) ∧ (r7 = 0 → SX7_finds E (-1000000001) h6 (fun r14 h13 => Q r14 h13)))))))
set_option maxRecDepth 20000 in
theorem sX7_extra {E : EN} {a1 : Int32} {a2 : Int32} {h : TH} {Q : Int32 → TH → Prop}  (hS : SX7_extra E a1 a2 h Q) : wi E MX7_extra Q 0 [some (rf 28 0), some (.int a1), some (.int a2)] [] h := by
  refine q_ald0 dX7_extra_0 (q_ild1 dX7_extra_1 ?_)
  refine wz_virtI (M := MX7_extra) (pc := 2) (M' := MX7_isContract) (n := 1) (As := [.int a1]) (st := []) dX7_extra_2 cf7 rfl go_28 gc_28 rfl cat_i okX7_extra_X7_isContract cwX7_150 (Nat.le_of_ble_eq_true rfl) ⟨Nat.zero_le _, Nat.zero_le _⟩ rfl (ls0 := [some (rf 28 0), some (.int a1)]) rfl (sX7_isContract  hS) (fun r2 h1 hS => ?_)
  refine wz_if_eq (tgt := 18) dX7_extra_5 rfl (fun c3 => ?_) (fun c3 => ?_)
  · replace hS := hS.1 c3
    refine q_ald0 dX7_extra_18 (wz_ldc dX7_extra_19 t370 ?_)
    refine wz_virtI (M := MX7_extra) (pc := 21) (M' := MX7_finds) (n := 1) (As := [.int (-1000000001)]) (st := []) dX7_extra_21 cf7 rfl go_28 gc_28 rfl cat_i okX7_extra_X7_finds cwX7_132 (Nat.le_of_ble_eq_true rfl) ⟨Nat.zero_le _, Nat.zero_le _⟩ rfl (ls0 := [some (rf 28 0), some (.int (-1000000001))]) rfl (sX7_finds  hS) (fun r5 h4 hS => ?_)
    exact wi_ret dX7_extra_24 rfl hS
  · replace hS := hS.2 c3
    refine q_ild2 dX7_extra_8 (wz_iconst dX7_extra_9 kiconst_1 (wz_ldc dX7_extra_10 t381 ?_))
    refine wz_statI (M := MX7_extra) (pc := 12) (M' := MX7_isIn) (n := 3) (As := [.int a2, .int 1, .int 100000]) (st := []) dX7_extra_12 rfl cat_iii okX7_extra_X7_isIn cwX7_121 (Nat.le_of_ble_eq_true rfl) ⟨Nat.zero_le _, Nat.zero_le _⟩ rfl (ls0 := [some (.int a2), some (.int 1), some (.int 100000)]) rfl (sX7_isIn  hS) (fun r7 h6 hS => ?_)
    refine wz_if_ne (tgt := 25) dX7_extra_15 rfl (fun c8 => ?_) (fun c8 => ?_)
    · replace hS := hS.1 c8
      refine q_ald0 dX7_extra_25 (wz_getR dX7_extra_26 cf7 t383 (kf := 13) gr_28_13 gc_28 (q_ild1 dX7_extra_29 ?_))
      obtain ⟨hi9, hS⟩ := hS
      refine wz_iald dX7_extra_30 ga_32 gc_32 hi9 rfl (q_ild2 dX7_extra_31 (wz_iadd dX7_extra_32 (wz_ldc dX7_extra_33 t394 ?_)))
      refine wz_icmp_le (tgt := 45) dX7_extra_35 rfl (fun c10 => ?_) (fun c10 => ?_)
      · replace hS := hS.1 c10
        refine q_ald0 dX7_extra_45 (wz_getR dX7_extra_46 cf7 t383 (kf := 13) gr_28_13 gc_28 (q_ild1 dX7_extra_49 (wz_dup2 dX7_extra_50 rfl rfl (wz_iald dX7_extra_51 ga_32 gc_32 hi9 rfl (q_ild2 dX7_extra_52 (wz_iadd dX7_extra_53 (wz_iast dX7_extra_54 ga_32 gc_32 hi9 rfl ?_)))))))
        refine wz_pc (pc2 := 55) rfl ?_
        refine q_ald0 dX7_extra_55 (wz_getR dX7_extra_56 cf7 t383 (kf := 13) gr_28_13 gc_28 (q_ild1 dX7_extra_59 (wz_iald (v := ((h6 32 0 (a1.toNatClampNeg)) + a2)) dX7_extra_60 ga_32 gc_32 hi9 (by first | rfl | simp [up]) ?_)))
        exact wi_ret dX7_extra_61 rfl hS
      · replace hS := hS.2 c10
        refine q_ald0 dX7_extra_38 (wz_ldc dX7_extra_39 t365 ?_)
        refine wz_virtI (M := MX7_extra) (pc := 41) (M' := MX7_finds) (n := 1) (As := [.int (-1000000004)]) (st := []) dX7_extra_41 cf7 rfl go_28 gc_28 rfl cat_i okX7_extra_X7_finds cwX7_132 (Nat.le_of_ble_eq_true rfl) ⟨Nat.zero_le _, Nat.zero_le _⟩ rfl (ls0 := [some (rf 28 0), some (.int (-1000000004))]) rfl (sX7_finds  hS) (fun r12 h11 hS => ?_)
        exact wi_ret dX7_extra_44 rfl hS
    · replace hS := hS.2 c8
      refine q_ald0 dX7_extra_18 (wz_ldc dX7_extra_19 t370 ?_)
      refine wz_virtI (M := MX7_extra) (pc := 21) (M' := MX7_finds) (n := 1) (As := [.int (-1000000001)]) (st := []) dX7_extra_21 cf7 rfl go_28 gc_28 rfl cat_i okX7_extra_X7_finds cwX7_132 (Nat.le_of_ble_eq_true rfl) ⟨Nat.zero_le _, Nat.zero_le _⟩ rfl (ls0 := [some (rf 28 0), some (.int (-1000000001))]) rfl (sX7_finds  hS) (fun r14 h13 hS => ?_)
      exact wi_ret dX7_extra_24 rfl hS
def SX7_isSpan (E : EN) (a1 : Int32) (a2 : Int32) (h : TH) (Q : Int32 → TH → Prop) : Prop := ((a1 < 0 → Q 0 h) ∧ (¬ a1 < 0 → ((a2 < a1 → Q 0 h) ∧ (¬ a2 < a1 → (((h 28 0 8) < a2 → Q 0 h) ∧ (¬ (h 28 0 8) < a2 → Q 1 h))))))
set_option maxRecDepth 20000 in
theorem sX7_isSpan {E : EN} {a1 : Int32} {a2 : Int32} {h : TH} {Q : Int32 → TH → Prop}  (hS : SX7_isSpan E a1 a2 h Q) : wi E MX7_isSpan Q 0 [some (rf 28 0), some (.int a1), some (.int a2)] [] h := by
  refine q_ild1 dX7_isSpan_0 ?_
  refine wz_if_lt (tgt := 21) dX7_isSpan_1 rfl (fun c1 => ?_) (fun c1 => ?_)
  · replace hS := hS.1 c1
    refine wz_iconst dX7_isSpan_21 kiconst_0 ?_
    exact wi_zret dX7_isSpan_22 rfl (isB_nar isB_0) hS
  · replace hS := hS.2 c1
    refine q_ild1 dX7_isSpan_4 (q_ild2 dX7_isSpan_5 ?_)
    refine wz_icmp_gt (tgt := 21) dX7_isSpan_6 rfl (fun c2 => ?_) (fun c2 => ?_)
    · replace hS := hS.1 c2
      refine wz_iconst dX7_isSpan_21 kiconst_0 ?_
      exact wi_zret dX7_isSpan_22 rfl (isB_nar isB_0) hS
    · replace hS := hS.2 c2
      refine q_ild2 dX7_isSpan_9 (q_ald0 dX7_isSpan_10 (wz_getI dX7_isSpan_11 cf7 t399 (kf := 8) gi_28_8 gc_28 rfl ?_))
      refine wz_icmp_gt (tgt := 21) dX7_isSpan_14 rfl (fun c3 => ?_) (fun c3 => ?_)
      · replace hS := hS.1 c3
        refine wz_iconst dX7_isSpan_21 kiconst_0 ?_
        exact wi_zret dX7_isSpan_22 rfl (isB_nar isB_0) hS
      · replace hS := hS.2 c3
        refine wz_iconst dX7_isSpan_17 kiconst_1 (wz_goto (tgt := 22) dX7_isSpan_18 rfl ?_)
        exact wi_zret dX7_isSpan_22 rfl (isB_nar isB_1) hS
def SX7_began (E : EN) (a1 : Int32) (a2 : Int32) (a3 : Int32) (h : TH) (Q : Int32 → TH → Prop) : Prop := SX7_isContract E a1 h (fun r2 h1 => ((r2 = 0 → SX7_finds E (-1000000001) h1 (fun r5 h4 => Q r5 h4)) ∧ (¬ r2 = 0 → SX7_isSpan E a2 a3 h1 (fun r7 h6 => ((¬ r7 = 0 → vp_in a1 10 ∧ (((h6 37 0 (a1.toNatClampNeg)) = (-1) → Q 1 (up (up h6 35 0 (a1.toNatClampNeg) a2) 36 0 (a1.toNatClampNeg) a3)) ∧ (¬ (h6 37 0 (a1.toNatClampNeg)) = (-1) → SX7_finds E (-1000000003) h6 (fun r12 h11 => Q r12 h11)))) ∧ (r7 = 0 → SX7_finds E (-1000000001) h6 (fun r14 h13 => Q r14 h13)))))))
set_option maxRecDepth 20000 in
theorem sX7_began {E : EN} {a1 : Int32} {a2 : Int32} {a3 : Int32} {h : TH} {Q : Int32 → TH → Prop}  (hS : SX7_began E a1 a2 a3 h Q) : wi E MX7_began Q 0 [some (rf 28 0), some (.int a1), some (.int a2), some (.int a3)] [] h := by
  refine q_ald0 dX7_began_0 (q_ild1 dX7_began_1 ?_)
  refine wz_virtI (M := MX7_began) (pc := 2) (M' := MX7_isContract) (n := 1) (As := [.int a1]) (st := []) dX7_began_2 cf7 rfl go_28 gc_28 rfl cat_i okX7_began_X7_isContract cwX7_150 (Nat.le_of_ble_eq_true rfl) ⟨Nat.zero_le _, Nat.zero_le _⟩ rfl (ls0 := [some (rf 28 0), some (.int a1)]) rfl (sX7_isContract  hS) (fun r2 h1 hS => ?_)
  refine wz_if_eq (tgt := 17) dX7_began_5 rfl (fun c3 => ?_) (fun c3 => ?_)
  · replace hS := hS.1 c3
    refine q_ald0 dX7_began_17 (wz_ldc dX7_began_18 t370 ?_)
    refine wz_virtI (M := MX7_began) (pc := 20) (M' := MX7_finds) (n := 1) (As := [.int (-1000000001)]) (st := []) dX7_began_20 cf7 rfl go_28 gc_28 rfl cat_i okX7_began_X7_finds cwX7_132 (Nat.le_of_ble_eq_true rfl) ⟨Nat.zero_le _, Nat.zero_le _⟩ rfl (ls0 := [some (rf 28 0), some (.int (-1000000001))]) rfl (sX7_finds  hS) (fun r5 h4 hS => ?_)
    exact wi_ret dX7_began_23 rfl hS
  · replace hS := hS.2 c3
    refine q_ald0 dX7_began_8 (q_ild2 dX7_began_9 (q_ild3 dX7_began_10 ?_))
    refine wz_virtI (M := MX7_began) (pc := 11) (M' := MX7_isSpan) (n := 2) (As := [.int a2, .int a3]) (st := []) dX7_began_11 cf7 rfl go_28 gc_28 rfl cat_ii okX7_began_X7_isSpan cwX7_157 (Nat.le_of_ble_eq_true rfl) ⟨Nat.zero_le _, Nat.zero_le _⟩ rfl (ls0 := [some (rf 28 0), some (.int a2), some (.int a3)]) rfl (sX7_isSpan  hS) (fun r7 h6 hS => ?_)
    refine wz_if_ne (tgt := 24) dX7_began_14 rfl (fun c8 => ?_) (fun c8 => ?_)
    · replace hS := hS.1 c8
      refine q_ald0 dX7_began_24 (wz_getR dX7_began_25 cf7 t388 (kf := 18) gr_28_18 gc_28 (q_ild1 dX7_began_28 ?_))
      obtain ⟨hi9, hS⟩ := hS
      refine wz_iald dX7_began_29 ga_37 gc_37 hi9 rfl (wz_iconst dX7_began_30 kiconst_m1 ?_)
      refine wz_icmp_eq (tgt := 41) dX7_began_31 rfl (fun c10 => ?_) (fun c10 => ?_)
      · replace hS := hS.1 c10
        refine q_ald0 dX7_began_41 (wz_getR dX7_began_42 cf7 t386 (kf := 16) gr_28_16 gc_28 (q_ild1 dX7_began_45 (q_ild2 dX7_began_46 (wz_iast dX7_began_47 ga_35 gc_35 hi9 rfl (q_ald0 dX7_began_48 (wz_getR dX7_began_49 cf7 t387 (kf := 17) gr_28_17 gc_28 (q_ild1 dX7_began_52 ?_)))))))
        refine wz_pc (pc2 := 53) rfl ?_
        refine q_ild3 dX7_began_53 (wz_iast dX7_began_54 ga_36 gc_36 hi9 rfl (wz_iconst dX7_began_55 kiconst_1 ?_))
        exact wi_ret dX7_began_56 rfl hS
      · replace hS := hS.2 c10
        refine q_ald0 dX7_began_34 (wz_ldc dX7_began_35 t382 ?_)
        refine wz_virtI (M := MX7_began) (pc := 37) (M' := MX7_finds) (n := 1) (As := [.int (-1000000003)]) (st := []) dX7_began_37 cf7 rfl go_28 gc_28 rfl cat_i okX7_began_X7_finds cwX7_132 (Nat.le_of_ble_eq_true rfl) ⟨Nat.zero_le _, Nat.zero_le _⟩ rfl (ls0 := [some (rf 28 0), some (.int (-1000000003))]) rfl (sX7_finds  hS) (fun r12 h11 hS => ?_)
        exact wi_ret dX7_began_40 rfl hS
    · replace hS := hS.2 c8
      refine q_ald0 dX7_began_17 (wz_ldc dX7_began_18 t370 ?_)
      refine wz_virtI (M := MX7_began) (pc := 20) (M' := MX7_finds) (n := 1) (As := [.int (-1000000001)]) (st := []) dX7_began_20 cf7 rfl go_28 gc_28 rfl cat_i okX7_began_X7_finds cwX7_132 (Nat.le_of_ble_eq_true rfl) ⟨Nat.zero_le _, Nat.zero_le _⟩ rfl (ls0 := [some (rf 28 0), some (.int (-1000000001))]) rfl (sX7_finds  hS) (fun r14 h13 hS => ?_)
      exact wi_ret dX7_began_23 rfl hS
def SX7_ended (E : EN) (a1 : Int32) (a2 : Int32) (a3 : Int32) (h : TH) (Q : Int32 → TH → Prop) : Prop := SX7_isContract E a1 h (fun r2 h1 => ((r2 = 0 → SX7_finds E (-1000000001) h1 (fun r5 h4 => Q r5 h4)) ∧ (¬ r2 = 0 → SX7_isSpan E a2 a3 h1 (fun r7 h6 => ((r7 = 0 → SX7_finds E (-1000000001) h6 (fun r10 h9 => Q r10 h9)) ∧ (¬ r7 = 0 → vp_in a1 10 ∧ (((h6 35 0 (a1.toNatClampNeg)) ≤ a2 → ((¬ (h6 35 0 (a1.toNatClampNeg)) = (-1) → Q 1 (up (up h6 37 0 (a1.toNatClampNeg) a2) 38 0 (a1.toNatClampNeg) a3)) ∧ ((h6 35 0 (a1.toNatClampNeg)) = (-1) → SX7_finds E (-1000000003) h6 (fun r15 h14 => Q r15 h14)))) ∧ (¬ (h6 35 0 (a1.toNatClampNeg)) ≤ a2 → SX7_finds E (-1000000001) h6 (fun r17 h16 => Q r17 h16)))))))))
set_option maxRecDepth 20000 in
theorem sX7_ended {E : EN} {a1 : Int32} {a2 : Int32} {a3 : Int32} {h : TH} {Q : Int32 → TH → Prop}  (hS : SX7_ended E a1 a2 a3 h Q) : wi E MX7_ended Q 0 [some (rf 28 0), some (.int a1), some (.int a2), some (.int a3)] [] h := by
  refine q_ald0 dX7_ended_0 (q_ild1 dX7_ended_1 ?_)
  refine wz_virtI (M := MX7_ended) (pc := 2) (M' := MX7_isContract) (n := 1) (As := [.int a1]) (st := []) dX7_ended_2 cf7 rfl go_28 gc_28 rfl cat_i okX7_ended_X7_isContract cwX7_150 (Nat.le_of_ble_eq_true rfl) ⟨Nat.zero_le _, Nat.zero_le _⟩ rfl (ls0 := [some (rf 28 0), some (.int a1)]) rfl (sX7_isContract  hS) (fun r2 h1 hS => ?_)
  refine wz_if_eq (tgt := 27) dX7_ended_5 rfl (fun c3 => ?_) (fun c3 => ?_)
  · replace hS := hS.1 c3
    refine q_ald0 dX7_ended_27 (wz_ldc dX7_ended_28 t370 ?_)
    refine wz_virtI (M := MX7_ended) (pc := 30) (M' := MX7_finds) (n := 1) (As := [.int (-1000000001)]) (st := []) dX7_ended_30 cf7 rfl go_28 gc_28 rfl cat_i okX7_ended_X7_finds cwX7_132 (Nat.le_of_ble_eq_true rfl) ⟨Nat.zero_le _, Nat.zero_le _⟩ rfl (ls0 := [some (rf 28 0), some (.int (-1000000001))]) rfl (sX7_finds  hS) (fun r5 h4 hS => ?_)
    exact wi_ret dX7_ended_33 rfl hS
  · replace hS := hS.2 c3
    refine q_ald0 dX7_ended_8 (q_ild2 dX7_ended_9 (q_ild3 dX7_ended_10 ?_))
    refine wz_virtI (M := MX7_ended) (pc := 11) (M' := MX7_isSpan) (n := 2) (As := [.int a2, .int a3]) (st := []) dX7_ended_11 cf7 rfl go_28 gc_28 rfl cat_ii okX7_ended_X7_isSpan cwX7_157 (Nat.le_of_ble_eq_true rfl) ⟨Nat.zero_le _, Nat.zero_le _⟩ rfl (ls0 := [some (rf 28 0), some (.int a2), some (.int a3)]) rfl (sX7_isSpan  hS) (fun r7 h6 hS => ?_)
    refine wz_if_eq (tgt := 27) dX7_ended_14 rfl (fun c8 => ?_) (fun c8 => ?_)
    · replace hS := hS.1 c8
      refine q_ald0 dX7_ended_27 (wz_ldc dX7_ended_28 t370 ?_)
      refine wz_virtI (M := MX7_ended) (pc := 30) (M' := MX7_finds) (n := 1) (As := [.int (-1000000001)]) (st := []) dX7_ended_30 cf7 rfl go_28 gc_28 rfl cat_i okX7_ended_X7_finds cwX7_132 (Nat.le_of_ble_eq_true rfl) ⟨Nat.zero_le _, Nat.zero_le _⟩ rfl (ls0 := [some (rf 28 0), some (.int (-1000000001))]) rfl (sX7_finds  hS) (fun r10 h9 hS => ?_)
      exact wi_ret dX7_ended_33 rfl hS
    · replace hS := hS.2 c8
      refine q_ild2 dX7_ended_17 (q_ald0 dX7_ended_18 (wz_getR dX7_ended_19 cf7 t386 (kf := 16) gr_28_16 gc_28 (q_ild1 dX7_ended_22 ?_)))
      obtain ⟨hi11, hS⟩ := hS
      refine wz_iald dX7_ended_23 ga_35 gc_35 hi11 rfl ?_
      refine wz_icmp_ge (tgt := 34) dX7_ended_24 rfl (fun c12 => ?_) (fun c12 => ?_)
      · replace hS := hS.1 c12
        refine q_ald0 dX7_ended_34 (wz_getR dX7_ended_35 cf7 t386 (kf := 16) gr_28_16 gc_28 (q_ild1 dX7_ended_38 (wz_iald dX7_ended_39 ga_35 gc_35 hi11 rfl (wz_iconst dX7_ended_40 kiconst_m1 ?_))))
        refine wz_icmp_ne (tgt := 51) dX7_ended_41 rfl (fun c13 => ?_) (fun c13 => ?_)
        · replace hS := hS.1 c13
          refine q_ald0 dX7_ended_51 (wz_getR dX7_ended_52 cf7 t388 (kf := 18) gr_28_18 gc_28 (q_ild1 dX7_ended_55 (q_ild2 dX7_ended_56 (wz_iast dX7_ended_57 ga_37 gc_37 hi11 rfl (q_ald0 dX7_ended_58 (wz_getR dX7_ended_59 cf7 t389 (kf := 19) gr_28_19 gc_28 (q_ild1 dX7_ended_62 ?_)))))))
          refine wz_pc (pc2 := 63) rfl ?_
          refine q_ild3 dX7_ended_63 (wz_iast dX7_ended_64 ga_38 gc_38 hi11 rfl (wz_iconst dX7_ended_65 kiconst_1 ?_))
          exact wi_ret dX7_ended_66 rfl hS
        · replace hS := hS.2 c13
          refine q_ald0 dX7_ended_44 (wz_ldc dX7_ended_45 t382 ?_)
          refine wz_virtI (M := MX7_ended) (pc := 47) (M' := MX7_finds) (n := 1) (As := [.int (-1000000003)]) (st := []) dX7_ended_47 cf7 rfl go_28 gc_28 rfl cat_i okX7_ended_X7_finds cwX7_132 (Nat.le_of_ble_eq_true rfl) ⟨Nat.zero_le _, Nat.zero_le _⟩ rfl (ls0 := [some (rf 28 0), some (.int (-1000000003))]) rfl (sX7_finds  hS) (fun r15 h14 hS => ?_)
          exact wi_ret dX7_ended_50 rfl hS
      · replace hS := hS.2 c12
        refine q_ald0 dX7_ended_27 (wz_ldc dX7_ended_28 t370 ?_)
        refine wz_virtI (M := MX7_ended) (pc := 30) (M' := MX7_finds) (n := 1) (As := [.int (-1000000001)]) (st := []) dX7_ended_30 cf7 rfl go_28 gc_28 rfl cat_i okX7_ended_X7_finds cwX7_132 (Nat.le_of_ble_eq_true rfl) ⟨Nat.zero_le _, Nat.zero_le _⟩ rfl (ls0 := [some (rf 28 0), some (.int (-1000000001))]) rfl (sX7_finds  hS) (fun r17 h16 hS => ?_)
        exact wi_ret dX7_ended_33 rfl hS
def SX7_notice (E : EN) (a1 : Int32) (h : TH) (Q : Int32 → TH → Prop) : Prop := SX7_isContract E a1 h (fun r2 h1 => ((¬ r2 = 0 → vp_in a1 10 ∧ (((h1 34 0 (a1.toNatClampNeg)) = (-1) → Q 1 (up h1 34 0 (a1.toNatClampNeg) (h1 28 0 8))) ∧ (¬ (h1 34 0 (a1.toNatClampNeg)) = (-1) → SX7_finds E (-1000000003) h1 (fun r7 h6 => Q r7 h6)))) ∧ (r2 = 0 → SX7_finds E (-1000000001) h1 (fun r9 h8 => Q r9 h8))))
set_option maxRecDepth 20000 in
theorem sX7_notice {E : EN} {a1 : Int32} {h : TH} {Q : Int32 → TH → Prop}  (hS : SX7_notice E a1 h Q) : wi E MX7_notice Q 0 [some (rf 28 0), some (.int a1)] [] h := by
  refine q_ald0 dX7_notice_0 (q_ild1 dX7_notice_1 ?_)
  refine wz_virtI (M := MX7_notice) (pc := 2) (M' := MX7_isContract) (n := 1) (As := [.int a1]) (st := []) dX7_notice_2 cf7 rfl go_28 gc_28 rfl cat_i okX7_notice_X7_isContract cwX7_150 (Nat.le_of_ble_eq_true rfl) ⟨Nat.zero_le _, Nat.zero_le _⟩ rfl (ls0 := [some (rf 28 0), some (.int a1)]) rfl (sX7_isContract  hS) (fun r2 h1 hS => ?_)
  refine wz_if_ne (tgt := 15) dX7_notice_5 rfl (fun c3 => ?_) (fun c3 => ?_)
  · replace hS := hS.1 c3
    refine q_ald0 dX7_notice_15 (wz_getR dX7_notice_16 cf7 t385 (kf := 15) gr_28_15 gc_28 (q_ild1 dX7_notice_19 ?_))
    obtain ⟨hi4, hS⟩ := hS
    refine wz_iald dX7_notice_20 ga_34 gc_34 hi4 rfl (wz_iconst dX7_notice_21 kiconst_m1 ?_)
    refine wz_icmp_eq (tgt := 32) dX7_notice_22 rfl (fun c5 => ?_) (fun c5 => ?_)
    · replace hS := hS.1 c5
      refine q_ald0 dX7_notice_32 (wz_getR dX7_notice_33 cf7 t385 (kf := 15) gr_28_15 gc_28 (q_ild1 dX7_notice_36 (q_ald0 dX7_notice_37 (wz_getI dX7_notice_38 cf7 t399 (kf := 8) gi_28_8 gc_28 rfl (wz_iast dX7_notice_41 ga_34 gc_34 hi4 rfl (wz_iconst dX7_notice_42 kiconst_1 ?_))))))
      exact wi_ret dX7_notice_43 rfl hS
    · replace hS := hS.2 c5
      refine q_ald0 dX7_notice_25 (wz_ldc dX7_notice_26 t382 ?_)
      refine wz_virtI (M := MX7_notice) (pc := 28) (M' := MX7_finds) (n := 1) (As := [.int (-1000000003)]) (st := []) dX7_notice_28 cf7 rfl go_28 gc_28 rfl cat_i okX7_notice_X7_finds cwX7_132 (Nat.le_of_ble_eq_true rfl) ⟨Nat.zero_le _, Nat.zero_le _⟩ rfl (ls0 := [some (rf 28 0), some (.int (-1000000003))]) rfl (sX7_finds  hS) (fun r7 h6 hS => ?_)
      exact wi_ret dX7_notice_31 rfl hS
  · replace hS := hS.2 c3
    refine q_ald0 dX7_notice_8 (wz_ldc dX7_notice_9 t370 ?_)
    refine wz_virtI (M := MX7_notice) (pc := 11) (M' := MX7_finds) (n := 1) (As := [.int (-1000000001)]) (st := []) dX7_notice_11 cf7 rfl go_28 gc_28 rfl cat_i okX7_notice_X7_finds cwX7_132 (Nat.le_of_ble_eq_true rfl) ⟨Nat.zero_le _, Nat.zero_le _⟩ rfl (ls0 := [some (rf 28 0), some (.int (-1000000001))]) rfl (sX7_finds  hS) (fun r9 h8 hS => ?_)
    exact wi_ret dX7_notice_14 rfl hS
def SX7_owing (E : EN) (a1 : Int32) (h : TH) (Q : Int32 → TH → Prop) : Prop := vp_in a1 10 ∧ Q ((h 32 0 (a1.toNatClampNeg)) - (h 33 0 (a1.toNatClampNeg))) h
set_option maxRecDepth 20000 in
theorem sX7_owing {E : EN} {a1 : Int32} {h : TH} {Q : Int32 → TH → Prop}  (hS : SX7_owing E a1 h Q) : wi E MX7_owing Q 0 [some (rf 28 0), some (.int a1)] [] h := by
  refine q_ald0 dX7_owing_0 (wz_getR dX7_owing_1 cf7 t383 (kf := 13) gr_28_13 gc_28 (q_ild1 dX7_owing_4 ?_))
  obtain ⟨hi1, hS⟩ := hS
  refine wz_iald dX7_owing_5 ga_32 gc_32 hi1 rfl (q_ald0 dX7_owing_6 (wz_getR dX7_owing_7 cf7 t384 (kf := 14) gr_28_14 gc_28 (q_ild1 dX7_owing_10 (wz_iald dX7_owing_11 ga_33 gc_33 hi1 rfl (wz_isub dX7_owing_12 ?_)))))
  exact wi_ret dX7_owing_13 rfl hS
def SX7_pay (E : EN) (a1 : Int32) (a2 : Int32) (h : TH) (Q : Int32 → TH → Prop) : Prop := SX7_isContract E a1 h (fun r2 h1 => ((r2 = 0 → SX7_finds E (-1000000001) h1 (fun r5 h4 => Q r5 h4)) ∧ (¬ r2 = 0 → SX7_isIn E a2 1 100000 h1 (fun r7 h6 => ((¬ r7 = 0 → vp_in a1 10 ∧ ((((h6 33 0 (a1.toNatClampNeg)) + a2) ≤ (h6 32 0 (a1.toNatClampNeg)) → SX7_owing E a1 (up h6 33 0 (a1.toNatClampNeg) ((h6 33 0 (a1.toNatClampNeg)) + a2)) (fun r12 h11 => Q r12 h11)) ∧ (¬ ((h6 33 0 (a1.toNatClampNeg)) + a2) ≤ (h6 32 0 (a1.toNatClampNeg)) → SX7_finds E (-1000000003) h6 (fun r14 h13 => Q r14 h13)))) ∧ (r7 = 0 → SX7_finds E (-1000000001) h6 (fun r16 h15 => Q r16 h15)))))))
set_option maxRecDepth 20000 in
theorem sX7_pay {E : EN} {a1 : Int32} {a2 : Int32} {h : TH} {Q : Int32 → TH → Prop}  (hS : SX7_pay E a1 a2 h Q) : wi E MX7_pay Q 0 [some (rf 28 0), some (.int a1), some (.int a2)] [] h := by
  refine q_ald0 dX7_pay_0 (q_ild1 dX7_pay_1 ?_)
  refine wz_virtI (M := MX7_pay) (pc := 2) (M' := MX7_isContract) (n := 1) (As := [.int a1]) (st := []) dX7_pay_2 cf7 rfl go_28 gc_28 rfl cat_i okX7_pay_X7_isContract cwX7_150 (Nat.le_of_ble_eq_true rfl) ⟨Nat.zero_le _, Nat.zero_le _⟩ rfl (ls0 := [some (rf 28 0), some (.int a1)]) rfl (sX7_isContract  hS) (fun r2 h1 hS => ?_)
  refine wz_if_eq (tgt := 18) dX7_pay_5 rfl (fun c3 => ?_) (fun c3 => ?_)
  · replace hS := hS.1 c3
    refine q_ald0 dX7_pay_18 (wz_ldc dX7_pay_19 t370 ?_)
    refine wz_virtI (M := MX7_pay) (pc := 21) (M' := MX7_finds) (n := 1) (As := [.int (-1000000001)]) (st := []) dX7_pay_21 cf7 rfl go_28 gc_28 rfl cat_i okX7_pay_X7_finds cwX7_132 (Nat.le_of_ble_eq_true rfl) ⟨Nat.zero_le _, Nat.zero_le _⟩ rfl (ls0 := [some (rf 28 0), some (.int (-1000000001))]) rfl (sX7_finds  hS) (fun r5 h4 hS => ?_)
    exact wi_ret dX7_pay_24 rfl hS
  · replace hS := hS.2 c3
    refine q_ild2 dX7_pay_8 (wz_iconst dX7_pay_9 kiconst_1 (wz_ldc dX7_pay_10 t381 ?_))
    refine wz_statI (M := MX7_pay) (pc := 12) (M' := MX7_isIn) (n := 3) (As := [.int a2, .int 1, .int 100000]) (st := []) dX7_pay_12 rfl cat_iii okX7_pay_X7_isIn cwX7_121 (Nat.le_of_ble_eq_true rfl) ⟨Nat.zero_le _, Nat.zero_le _⟩ rfl (ls0 := [some (.int a2), some (.int 1), some (.int 100000)]) rfl (sX7_isIn  hS) (fun r7 h6 hS => ?_)
    refine wz_if_ne (tgt := 25) dX7_pay_15 rfl (fun c8 => ?_) (fun c8 => ?_)
    · replace hS := hS.1 c8
      refine q_ald0 dX7_pay_25 (wz_getR dX7_pay_26 cf7 t384 (kf := 14) gr_28_14 gc_28 (q_ild1 dX7_pay_29 ?_))
      obtain ⟨hi9, hS⟩ := hS
      refine wz_iald dX7_pay_30 ga_33 gc_33 hi9 rfl (q_ild2 dX7_pay_31 (wz_iadd dX7_pay_32 (q_ald0 dX7_pay_33 (wz_getR dX7_pay_34 cf7 t383 (kf := 13) gr_28_13 gc_28 (q_ild1 dX7_pay_37 (wz_iald dX7_pay_38 ga_32 gc_32 hi9 rfl ?_))))))
      refine wz_icmp_le (tgt := 49) dX7_pay_39 rfl (fun c10 => ?_) (fun c10 => ?_)
      · replace hS := hS.1 c10
        refine q_ald0 dX7_pay_49 (wz_getR dX7_pay_50 cf7 t384 (kf := 14) gr_28_14 gc_28 (q_ild1 dX7_pay_53 (wz_dup2 dX7_pay_54 rfl rfl (wz_iald dX7_pay_55 ga_33 gc_33 hi9 rfl (q_ild2 dX7_pay_56 (wz_iadd dX7_pay_57 (wz_iast dX7_pay_58 ga_33 gc_33 hi9 rfl ?_)))))))
        refine wz_pc (pc2 := 59) rfl ?_
        refine q_ald0 dX7_pay_59 (q_ild1 dX7_pay_60 ?_)
        refine wz_virtI (M := MX7_pay) (pc := 61) (M' := MX7_owing) (n := 1) (As := [.int a1]) (st := []) dX7_pay_61 cf7 rfl go_28 gc_28 rfl cat_i okX7_pay_X7_owing cwX7_160 (Nat.le_of_ble_eq_true rfl) ⟨Nat.zero_le _, Nat.zero_le _⟩ rfl (ls0 := [some (rf 28 0), some (.int a1)]) rfl (sX7_owing  hS) (fun r12 h11 hS => ?_)
        exact wi_ret dX7_pay_64 rfl hS
      · replace hS := hS.2 c10
        refine q_ald0 dX7_pay_42 (wz_ldc dX7_pay_43 t382 ?_)
        refine wz_virtI (M := MX7_pay) (pc := 45) (M' := MX7_finds) (n := 1) (As := [.int (-1000000003)]) (st := []) dX7_pay_45 cf7 rfl go_28 gc_28 rfl cat_i okX7_pay_X7_finds cwX7_132 (Nat.le_of_ble_eq_true rfl) ⟨Nat.zero_le _, Nat.zero_le _⟩ rfl (ls0 := [some (rf 28 0), some (.int (-1000000003))]) rfl (sX7_finds  hS) (fun r14 h13 hS => ?_)
        exact wi_ret dX7_pay_48 rfl hS
    · replace hS := hS.2 c8
      refine q_ald0 dX7_pay_18 (wz_ldc dX7_pay_19 t370 ?_)
      refine wz_virtI (M := MX7_pay) (pc := 21) (M' := MX7_finds) (n := 1) (As := [.int (-1000000001)]) (st := []) dX7_pay_21 cf7 rfl go_28 gc_28 rfl cat_i okX7_pay_X7_finds cwX7_132 (Nat.le_of_ble_eq_true rfl) ⟨Nat.zero_le _, Nat.zero_le _⟩ rfl (ls0 := [some (rf 28 0), some (.int (-1000000001))]) rfl (sX7_finds  hS) (fun r16 h15 hS => ?_)
      exact wi_ret dX7_pay_24 rfl hS
def SX7_waived_0 (E : EN) (a1 : Int32) (h : TH) (Q : Int32 → TH → Prop) : Prop := wi E MX7_waived Q 4 [some (rf 28 0), some (.int a1), some (.int 0), some (.int 0), none] [] h
set_option maxRecDepth 20000 in
theorem sX7_waived_0 {E : EN} {a1 : Int32} {h : TH} {Q : Int32 → TH → Prop}  (hS : SX7_waived_0 E a1 h Q) : wi E MX7_waived Q 0 [some (rf 28 0), some (.int a1), none, none, none] [] h := by
  refine wz_iconst dX7_waived_0 kiconst_0 (q_ist2 dX7_waived_1 (ltX7_waived_2) rfl (wz_iconst dX7_waived_2 kiconst_0 (q_ist3 dX7_waived_3 (ltX7_waived_3) rfl ?_)))
  exact hS
def SX7_waived_4 (E : EN) (x1 : Int32) (x2 : Int32) (x3 : Int32) (h : TH) (Q : Int32 → TH → Prop) : Prop := (((h 28 0 4) ≤ x3 → Q x2 h) ∧ (¬ (h 28 0 4) ≤ x3 → vp_in x3 20 ∧ ((¬ (h 39 0 (x3.toNatClampNeg)) = x1 → wi E MX7_waived Q 4 [some (rf 28 0), some (.int x1), some (.int x2), some (.int (x3 + 1)), none] [] h) ∧ ((h 39 0 (x3.toNatClampNeg)) = x1 → (((h 41 0 (x3.toNatClampNeg)) = 0 → (((h 40 0 (x3.toNatClampNeg)) ≤ x2 → wi E MX7_waived Q 4 [some (rf 28 0), some (.int x1), some (.int x2), some (.int (x3 + 1)), none] [] h) ∧ (¬ (h 40 0 (x3.toNatClampNeg)) ≤ x2 → wi E MX7_waived Q 4 [some (rf 28 0), some (.int x1), some (.int (h 40 0 (x3.toNatClampNeg))), some (.int (x3 + 1)), none] [] h))) ∧ (¬ (h 41 0 (x3.toNatClampNeg)) = 0 → vp_in x1 10 ∧ (((h 33 0 (x1.toNatClampNeg)) < (h 40 0 (x3.toNatClampNeg)) → wi E MX7_waived Q 4 [some (rf 28 0), some (.int x1), some (.int x2), some (.int (x3 + 1)), none] [] h) ∧ (¬ (h 33 0 (x1.toNatClampNeg)) < (h 40 0 (x3.toNatClampNeg)) → (((h 40 0 (x3.toNatClampNeg)) ≤ x2 → wi E MX7_waived Q 4 [some (rf 28 0), some (.int x1), some (.int x2), some (.int (x3 + 1)), none] [] h) ∧ (¬ (h 40 0 (x3.toNatClampNeg)) ≤ x2 → wi E MX7_waived Q 4 [some (rf 28 0), some (.int x1), some (.int (h 40 0 (x3.toNatClampNeg))), some (.int (x3 + 1)), none] [] h))))))))))
set_option maxRecDepth 20000 in
theorem sX7_waived_4 {E : EN} {x1 : Int32} {x2 : Int32} {x3 : Int32} {h : TH} {Q : Int32 → TH → Prop}  (hS : SX7_waived_4 E x1 x2 x3 h Q) : wi E MX7_waived Q 4 [some (rf 28 0), some (.int x1), some (.int x2), some (.int x3), none] [] h := by
  refine q_ild3 dX7_waived_4 (q_ald0 dX7_waived_5 (wz_getI dX7_waived_6 cf7 t408 (kf := 4) gi_28_4 gc_28 rfl ?_))
  refine wz_icmp_ge (tgt := 85) dX7_waived_9 rfl (fun c1 => ?_) (fun c1 => ?_)
  · replace hS := hS.1 c1
    refine q_ild2 dX7_waived_85 ?_
    exact wi_ret dX7_waived_86 rfl hS
  · replace hS := hS.2 c1
    refine q_ald0 dX7_waived_12 (wz_getR dX7_waived_13 cf7 t409 (kf := 20) gr_28_20 gc_28 (q_ild3 dX7_waived_16 ?_))
    obtain ⟨hi2, hS⟩ := hS
    refine wz_iald dX7_waived_17 ga_39 gc_39 hi2 rfl (q_ild1 dX7_waived_18 ?_)
    refine wz_icmp_ne (tgt := 50) dX7_waived_19 rfl (fun c3 => ?_) (fun c3 => ?_)
    · replace hS := hS.1 c3
      refine wz_iconst dX7_waived_50 kiconst_0 (q_ist4 dX7_waived_51 (ltX7_waived_4) rfl (q_ild4 dX7_waived_53 ?_))
      refine wz_if_eq (tgt := 77) dX7_waived_55 rfl (fun _ => ?_) (fun z => absurd z (by decide))
      refine q_ild2 dX7_waived_77 (q_ist2 dX7_waived_78 (ltX7_waived_2) rfl (q_inc3 (v := (x3 + 1)) dX7_waived_79 rfl (ltX7_waived_3) rfl (wz_goto (tgt := 4) dX7_waived_82 rfl ?_)))
      exact wz_mask [true, true, true, true, false] rfl hS
    · replace hS := hS.2 c3
      refine q_ald0 dX7_waived_22 (wz_getR dX7_waived_23 cf7 t410 (kf := 22) gr_28_22 gc_28 (q_ild3 dX7_waived_26 (wz_zald dX7_waived_27 ga_41 gc_41 hi2 rfl ?_)))
      refine wz_if_eq (tgt := 46) dX7_waived_28 rfl (fun c4 => ?_) (fun c4 => ?_)
      · replace hS := hS.1 c4
        refine wz_iconst dX7_waived_46 kiconst_1 (wz_goto (tgt := 51) dX7_waived_47 rfl (q_ist4 dX7_waived_51 (ltX7_waived_4) rfl (q_ild4 dX7_waived_53 ?_)))
        refine wz_if_eq (tgt := 77) dX7_waived_55 rfl (fun z => absurd z (by decide)) (fun _ => ?_)
        refine q_ald0 dX7_waived_58 (wz_getR dX7_waived_59 cf7 t411 (kf := 21) gr_28_21 gc_28 (q_ild3 dX7_waived_62 (wz_iald dX7_waived_63 ga_40 gc_40 hi2 rfl (q_ild2 dX7_waived_64 ?_))))
        refine wz_icmp_le (tgt := 77) dX7_waived_65 rfl (fun c5 => ?_) (fun c5 => ?_)
        · replace hS := hS.1 c5
          refine q_ild2 dX7_waived_77 (q_ist2 dX7_waived_78 (ltX7_waived_2) rfl (q_inc3 (v := (x3 + 1)) dX7_waived_79 rfl (ltX7_waived_3) rfl (wz_goto (tgt := 4) dX7_waived_82 rfl ?_)))
          exact wz_mask [true, true, true, true, false] rfl hS
        · replace hS := hS.2 c5
          refine q_ald0 dX7_waived_68 (wz_getR dX7_waived_69 cf7 t411 (kf := 21) gr_28_21 gc_28 (q_ild3 dX7_waived_72 (wz_iald dX7_waived_73 ga_40 gc_40 hi2 rfl (wz_goto (tgt := 78) dX7_waived_74 rfl (q_ist2 dX7_waived_78 (ltX7_waived_2) rfl (q_inc3 (v := (x3 + 1)) dX7_waived_79 rfl (ltX7_waived_3) rfl (wz_goto (tgt := 4) dX7_waived_82 rfl ?_)))))))
          exact wz_mask [true, true, true, true, false] rfl hS
      · replace hS := hS.2 c4
        refine q_ald0 dX7_waived_31 (wz_getR dX7_waived_32 cf7 t384 (kf := 14) gr_28_14 gc_28 (q_ild1 dX7_waived_35 ?_))
        obtain ⟨hi6, hS⟩ := hS
        refine wz_iald dX7_waived_36 ga_33 gc_33 hi6 rfl (q_ald0 dX7_waived_37 (wz_getR dX7_waived_38 cf7 t411 (kf := 21) gr_28_21 gc_28 (q_ild3 dX7_waived_41 (wz_iald dX7_waived_42 ga_40 gc_40 hi2 rfl ?_))))
        refine wz_icmp_lt (tgt := 50) dX7_waived_43 rfl (fun c7 => ?_) (fun c7 => ?_)
        · replace hS := hS.1 c7
          refine wz_iconst dX7_waived_50 kiconst_0 (q_ist4 dX7_waived_51 (ltX7_waived_4) rfl (q_ild4 dX7_waived_53 ?_))
          refine wz_if_eq (tgt := 77) dX7_waived_55 rfl (fun _ => ?_) (fun z => absurd z (by decide))
          refine q_ild2 dX7_waived_77 (q_ist2 dX7_waived_78 (ltX7_waived_2) rfl (q_inc3 (v := (x3 + 1)) dX7_waived_79 rfl (ltX7_waived_3) rfl (wz_goto (tgt := 4) dX7_waived_82 rfl ?_)))
          exact wz_mask [true, true, true, true, false] rfl hS
        · replace hS := hS.2 c7
          refine wz_iconst dX7_waived_46 kiconst_1 (wz_goto (tgt := 51) dX7_waived_47 rfl (q_ist4 dX7_waived_51 (ltX7_waived_4) rfl (q_ild4 dX7_waived_53 ?_)))
          refine wz_if_eq (tgt := 77) dX7_waived_55 rfl (fun z => absurd z (by decide)) (fun _ => ?_)
          refine q_ald0 dX7_waived_58 (wz_getR dX7_waived_59 cf7 t411 (kf := 21) gr_28_21 gc_28 (q_ild3 dX7_waived_62 (wz_iald dX7_waived_63 ga_40 gc_40 hi2 rfl (q_ild2 dX7_waived_64 ?_))))
          refine wz_icmp_le (tgt := 77) dX7_waived_65 rfl (fun c8 => ?_) (fun c8 => ?_)
          · replace hS := hS.1 c8
            refine q_ild2 dX7_waived_77 (q_ist2 dX7_waived_78 (ltX7_waived_2) rfl (q_inc3 (v := (x3 + 1)) dX7_waived_79 rfl (ltX7_waived_3) rfl (wz_goto (tgt := 4) dX7_waived_82 rfl ?_)))
            exact wz_mask [true, true, true, true, false] rfl hS
          · replace hS := hS.2 c8
            refine q_ald0 dX7_waived_68 (wz_getR dX7_waived_69 cf7 t411 (kf := 21) gr_28_21 gc_28 (q_ild3 dX7_waived_72 (wz_iald dX7_waived_73 ga_40 gc_40 hi2 rfl (wz_goto (tgt := 78) dX7_waived_74 rfl (q_ist2 dX7_waived_78 (ltX7_waived_2) rfl (q_inc3 (v := (x3 + 1)) dX7_waived_79 rfl (ltX7_waived_3) rfl (wz_goto (tgt := 4) dX7_waived_82 rfl ?_)))))))
            exact wz_mask [true, true, true, true, false] rfl hS
def SX7_waive (E : EN) (a1 : Int32) (a2 : Int32) (a3 : Int32) (h : TH) (Q : Int32 → TH → Prop) : Prop := SX7_isContract E a1 h (fun r2 h1 => ((r2 = 0 → SX7_finds E (-1000000001) h1 (fun r5 h4 => Q r5 h4)) ∧ (¬ r2 = 0 → SX7_isIn E a2 0 1000000 h1 (fun r7 h6 => ((r7 = 0 → SX7_finds E (-1000000001) h6 (fun r10 h9 => Q r10 h9)) ∧ (¬ r7 = 0 → SX7_isIn E a3 0 1 h6 (fun r12 h11 => ((¬ r12 = 0 → ((¬ (h11 28 0 4) = 20 → vp_in (h11 28 0 4) 20 ∧ ((¬ a3 = 1 → wi E MX7_waived (fun r18 h17 => Q r18 h17) 0 [some (rf 28 0), some (.int a1), none, none, none] [] (up (up (up (up h11 39 0 ((h11 28 0 4).toNatClampNeg) a1) 40 0 ((h11 28 0 4).toNatClampNeg) a2) 41 0 ((h11 28 0 4).toNatClampNeg) 0) 28 0 4 ((h11 28 0 4) + 1))) ∧ (a3 = 1 → wi E MX7_waived (fun r20 h19 => Q r20 h19) 0 [some (rf 28 0), some (.int a1), none, none, none] [] (up (up (up (up h11 39 0 ((h11 28 0 4).toNatClampNeg) a1) 40 0 ((h11 28 0 4).toNatClampNeg) a2) 41 0 ((h11 28 0 4).toNatClampNeg) 1) 28 0 4 ((h11 28 0 4) + 1))))) ∧ ((h11 28 0 4) = 20 → SX7_finds E (-1000000004) h11 (fun r22 h21 => Q r22 h21)))) ∧ (r12 = 0 → SX7_finds E (-1000000001) h11 (fun r24 h23 => Q r24 h23))))))))))
set_option maxRecDepth 20000 in
theorem sX7_waive {E : EN} {a1 : Int32} {a2 : Int32} {a3 : Int32} {h : TH} {Q : Int32 → TH → Prop}  (hS : SX7_waive E a1 a2 a3 h Q) : wi E MX7_waive Q 0 [some (rf 28 0), some (.int a1), some (.int a2), some (.int a3)] [] h := by
  refine q_ald0 dX7_waive_0 (q_ild1 dX7_waive_1 ?_)
  refine wz_virtI (M := MX7_waive) (pc := 2) (M' := MX7_isContract) (n := 1) (As := [.int a1]) (st := []) dX7_waive_2 cf7 rfl go_28 gc_28 rfl cat_i okX7_waive_X7_isContract cwX7_150 (Nat.le_of_ble_eq_true rfl) ⟨Nat.zero_le _, Nat.zero_le _⟩ rfl (ls0 := [some (rf 28 0), some (.int a1)]) rfl (sX7_isContract  hS) (fun r2 h1 hS => ?_)
  refine wz_if_eq (tgt := 27) dX7_waive_5 rfl (fun c3 => ?_) (fun c3 => ?_)
  · replace hS := hS.1 c3
    refine q_ald0 dX7_waive_27 (wz_ldc dX7_waive_28 t370 ?_)
    refine wz_virtI (M := MX7_waive) (pc := 30) (M' := MX7_finds) (n := 1) (As := [.int (-1000000001)]) (st := []) dX7_waive_30 cf7 rfl go_28 gc_28 rfl cat_i okX7_waive_X7_finds cwX7_132 (Nat.le_of_ble_eq_true rfl) ⟨Nat.zero_le _, Nat.zero_le _⟩ rfl (ls0 := [some (rf 28 0), some (.int (-1000000001))]) rfl (sX7_finds  hS) (fun r5 h4 hS => ?_)
    exact wi_ret dX7_waive_33 rfl hS
  · replace hS := hS.2 c3
    refine q_ild2 dX7_waive_8 (wz_iconst dX7_waive_9 kiconst_0 (wz_ldc dX7_waive_10 t394 ?_))
    refine wz_statI (M := MX7_waive) (pc := 12) (M' := MX7_isIn) (n := 3) (As := [.int a2, .int 0, .int 1000000]) (st := []) dX7_waive_12 rfl cat_iii okX7_waive_X7_isIn cwX7_121 (Nat.le_of_ble_eq_true rfl) ⟨Nat.zero_le _, Nat.zero_le _⟩ rfl (ls0 := [some (.int a2), some (.int 0), some (.int 1000000)]) rfl (sX7_isIn  hS) (fun r7 h6 hS => ?_)
    refine wz_if_eq (tgt := 27) dX7_waive_15 rfl (fun c8 => ?_) (fun c8 => ?_)
    · replace hS := hS.1 c8
      refine q_ald0 dX7_waive_27 (wz_ldc dX7_waive_28 t370 ?_)
      refine wz_virtI (M := MX7_waive) (pc := 30) (M' := MX7_finds) (n := 1) (As := [.int (-1000000001)]) (st := []) dX7_waive_30 cf7 rfl go_28 gc_28 rfl cat_i okX7_waive_X7_finds cwX7_132 (Nat.le_of_ble_eq_true rfl) ⟨Nat.zero_le _, Nat.zero_le _⟩ rfl (ls0 := [some (rf 28 0), some (.int (-1000000001))]) rfl (sX7_finds  hS) (fun r10 h9 hS => ?_)
      exact wi_ret dX7_waive_33 rfl hS
    · replace hS := hS.2 c8
      refine q_ild3 dX7_waive_18 (wz_iconst dX7_waive_19 kiconst_0 (wz_iconst dX7_waive_20 kiconst_1 ?_))
      refine wz_statI (M := MX7_waive) (pc := 21) (M' := MX7_isIn) (n := 3) (As := [.int a3, .int 0, .int 1]) (st := []) dX7_waive_21 rfl cat_iii okX7_waive_X7_isIn cwX7_121 (Nat.le_of_ble_eq_true rfl) ⟨Nat.zero_le _, Nat.zero_le _⟩ rfl (ls0 := [some (.int a3), some (.int 0), some (.int 1)]) rfl (sX7_isIn  hS) (fun r12 h11 hS => ?_)
      refine wz_if_ne (tgt := 34) dX7_waive_24 rfl (fun c13 => ?_) (fun c13 => ?_)
      · replace hS := hS.1 c13
        refine q_ald0 dX7_waive_34 (wz_getI dX7_waive_35 cf7 t408 (kf := 4) gi_28_4 gc_28 rfl (wz_bipush dX7_waive_38 kbipush_20 ?_))
        refine wz_icmp_ne (tgt := 50) dX7_waive_40 rfl (fun c14 => ?_) (fun c14 => ?_)
        · replace hS := hS.1 c14
          refine q_ald0 dX7_waive_50 (wz_getR dX7_waive_51 cf7 t409 (kf := 20) gr_28_20 gc_28 (q_ald0 dX7_waive_54 (wz_getI dX7_waive_55 cf7 t408 (kf := 4) gi_28_4 gc_28 rfl (q_ild1 dX7_waive_58 ?_))))
          obtain ⟨hi15, hS⟩ := hS
          refine wz_iast dX7_waive_59 ga_39 gc_39 hi15 rfl (q_ald0 dX7_waive_60 (wz_getR dX7_waive_61 cf7 t411 (kf := 21) gr_28_21 gc_28 (q_ald0 dX7_waive_64 (wz_getI (v := (h11 28 0 4)) dX7_waive_65 cf7 t408 (kf := 4) gi_28_4 gc_28 (by first | rfl | simp [up]) (q_ild2 dX7_waive_68 (wz_iast dX7_waive_69 ga_40 gc_40 hi15 rfl (q_ald0 dX7_waive_70 ?_)))))))
          refine wz_pc (pc2 := 71) rfl ?_
          refine wz_getR dX7_waive_71 cf7 t410 (kf := 22) gr_28_22 gc_28 (q_ald0 dX7_waive_74 (wz_getI (v := (h11 28 0 4)) dX7_waive_75 cf7 t408 (kf := 4) gi_28_4 gc_28 (by first | rfl | simp [up]) (q_ild3 dX7_waive_78 (wz_iconst dX7_waive_79 kiconst_1 ?_))))
          refine wz_icmp_ne (tgt := 87) dX7_waive_80 rfl (fun c16 => ?_) (fun c16 => ?_)
          · replace hS := hS.1 c16
            refine wz_iconst dX7_waive_87 kiconst_0 (wz_zast dX7_waive_88 ga_41 gc_41 hi15 (isB_nar isB_0) rfl (q_ald0 dX7_waive_89 (wz_dup dX7_waive_90 rfl (wz_getI (v := (h11 28 0 4)) dX7_waive_91 cf7 t408 (kf := 4) gi_28_4 gc_28 (by first | rfl | simp [up]) (wz_iconst dX7_waive_94 kiconst_1 (wz_iadd dX7_waive_95 (wz_putI dX7_waive_96 cf7 t408 (kf := 4) gp_28_4 gc_28 rfl ?_)))))))
            refine wz_pc (pc2 := 99) rfl ?_
            refine q_ald0 dX7_waive_99 (q_ild1 dX7_waive_100 ?_)
            refine wz_virtI (M := MX7_waive) (pc := 101) (M' := MX7_waived) (n := 1) (As := [.int a1]) (st := []) dX7_waive_101 cf7 rfl go_28 gc_28 rfl cat_i okX7_waive_X7_waived cwX7_166 (Nat.le_of_ble_eq_true rfl) ⟨Nat.zero_le _, Nat.zero_le _⟩ rfl (ls0 := [some (rf 28 0), some (.int a1), none, none, none]) rfl hS (fun r18 h17 hS => ?_)
            exact wi_ret dX7_waive_104 rfl hS
          · replace hS := hS.2 c16
            refine wz_iconst dX7_waive_83 kiconst_1 (wz_goto (tgt := 88) dX7_waive_84 rfl (wz_zast dX7_waive_88 ga_41 gc_41 hi15 (isB_nar isB_1) rfl (q_ald0 dX7_waive_89 (wz_dup dX7_waive_90 rfl (wz_getI (v := (h11 28 0 4)) dX7_waive_91 cf7 t408 (kf := 4) gi_28_4 gc_28 (by first | rfl | simp [up]) (wz_iconst dX7_waive_94 kiconst_1 (wz_iadd dX7_waive_95 ?_)))))))
            refine wz_pc (pc2 := 96) rfl ?_
            refine wz_putI dX7_waive_96 cf7 t408 (kf := 4) gp_28_4 gc_28 rfl (q_ald0 dX7_waive_99 (q_ild1 dX7_waive_100 ?_))
            refine wz_virtI (M := MX7_waive) (pc := 101) (M' := MX7_waived) (n := 1) (As := [.int a1]) (st := []) dX7_waive_101 cf7 rfl go_28 gc_28 rfl cat_i okX7_waive_X7_waived cwX7_166 (Nat.le_of_ble_eq_true rfl) ⟨Nat.zero_le _, Nat.zero_le _⟩ rfl (ls0 := [some (rf 28 0), some (.int a1), none, none, none]) rfl hS (fun r20 h19 hS => ?_)
            exact wi_ret dX7_waive_104 rfl hS
        · replace hS := hS.2 c14
          refine q_ald0 dX7_waive_43 (wz_ldc dX7_waive_44 t365 ?_)
          refine wz_virtI (M := MX7_waive) (pc := 46) (M' := MX7_finds) (n := 1) (As := [.int (-1000000004)]) (st := []) dX7_waive_46 cf7 rfl go_28 gc_28 rfl cat_i okX7_waive_X7_finds cwX7_132 (Nat.le_of_ble_eq_true rfl) ⟨Nat.zero_le _, Nat.zero_le _⟩ rfl (ls0 := [some (rf 28 0), some (.int (-1000000004))]) rfl (sX7_finds  hS) (fun r22 h21 hS => ?_)
          exact wi_ret dX7_waive_49 rfl hS
      · replace hS := hS.2 c13
        refine q_ald0 dX7_waive_27 (wz_ldc dX7_waive_28 t370 ?_)
        refine wz_virtI (M := MX7_waive) (pc := 30) (M' := MX7_finds) (n := 1) (As := [.int (-1000000001)]) (st := []) dX7_waive_30 cf7 rfl go_28 gc_28 rfl cat_i okX7_waive_X7_finds cwX7_132 (Nat.le_of_ble_eq_true rfl) ⟨Nat.zero_le _, Nat.zero_le _⟩ rfl (ls0 := [some (rf 28 0), some (.int (-1000000001))]) rfl (sX7_finds  hS) (fun r24 h23 hS => ?_)
        exact wi_ret dX7_waive_33 rfl hS
def SX7_open (E : EN) (a1 : Int32) (h : TH) (Q : Int32 → TH → Prop) : Prop := wi E MX7_waived (fun r2 h1 => vp_in a1 10 ∧ (((h1 33 0 (a1.toNatClampNeg)) ≤ r2 → (((h1 32 0 (a1.toNatClampNeg)) ≤ r2 → Q 0 h1) ∧ (¬ (h1 32 0 (a1.toNatClampNeg)) ≤ r2 → Q ((h1 32 0 (a1.toNatClampNeg)) - r2) h1))) ∧ (¬ (h1 33 0 (a1.toNatClampNeg)) ≤ r2 → (((h1 32 0 (a1.toNatClampNeg)) ≤ (h1 33 0 (a1.toNatClampNeg)) → Q 0 h1) ∧ (¬ (h1 32 0 (a1.toNatClampNeg)) ≤ (h1 33 0 (a1.toNatClampNeg)) → Q ((h1 32 0 (a1.toNatClampNeg)) - (h1 33 0 (a1.toNatClampNeg))) h1))))) 0 [some (rf 28 0), some (.int a1), none, none, none] [] h
set_option maxRecDepth 20000 in
theorem sX7_open {E : EN} {a1 : Int32} {h : TH} {Q : Int32 → TH → Prop}  (hS : SX7_open E a1 h Q) : wi E MX7_open Q 0 [some (rf 28 0), some (.int a1), none, none] [] h := by
  refine q_ald0 dX7_open_0 (q_ild1 dX7_open_1 ?_)
  refine wz_virtI (M := MX7_open) (pc := 2) (M' := MX7_waived) (n := 1) (As := [.int a1]) (st := []) dX7_open_2 cf7 rfl go_28 gc_28 rfl cat_i okX7_open_X7_waived cwX7_166 (Nat.le_of_ble_eq_true rfl) ⟨Nat.zero_le _, Nat.zero_le _⟩ rfl (ls0 := [some (rf 28 0), some (.int a1), none, none, none]) rfl hS (fun r2 h1 hS => ?_)
  refine q_ist2 dX7_open_5 (ltX7_open_2) rfl (q_ald0 dX7_open_6 (wz_getR dX7_open_7 cf7 t384 (kf := 14) gr_28_14 gc_28 (q_ild1 dX7_open_10 ?_)))
  obtain ⟨hi3, hS⟩ := hS
  refine wz_iald dX7_open_11 ga_33 gc_33 hi3 rfl (q_ild2 dX7_open_12 ?_)
  refine wz_icmp_le (tgt := 25) dX7_open_13 rfl (fun c4 => ?_) (fun c4 => ?_)
  · replace hS := hS.1 c4
    refine q_ild2 dX7_open_25 (q_ist3 dX7_open_26 (ltX7_open_3) rfl (q_ald0 dX7_open_27 (wz_getR dX7_open_28 cf7 t383 (kf := 13) gr_28_13 gc_28 (q_ild1 dX7_open_31 (wz_iald dX7_open_32 ga_32 gc_32 hi3 rfl (q_ild3 dX7_open_33 ?_))))))
    refine wz_icmp_le (tgt := 48) dX7_open_34 rfl (fun c5 => ?_) (fun c5 => ?_)
    · replace hS := hS.1 c5
      refine wz_iconst dX7_open_48 kiconst_0 ?_
      exact wi_ret dX7_open_49 rfl hS
    · replace hS := hS.2 c5
      refine q_ald0 dX7_open_37 (wz_getR dX7_open_38 cf7 t383 (kf := 13) gr_28_13 gc_28 (q_ild1 dX7_open_41 (wz_iald dX7_open_42 ga_32 gc_32 hi3 rfl (q_ild3 dX7_open_43 (wz_isub dX7_open_44 (wz_goto (tgt := 49) dX7_open_45 rfl ?_))))))
      exact wi_ret dX7_open_49 rfl hS
  · replace hS := hS.2 c4
    refine q_ald0 dX7_open_16 (wz_getR dX7_open_17 cf7 t384 (kf := 14) gr_28_14 gc_28 (q_ild1 dX7_open_20 (wz_iald dX7_open_21 ga_33 gc_33 hi3 rfl (wz_goto (tgt := 26) dX7_open_22 rfl (q_ist3 dX7_open_26 (ltX7_open_3) rfl (q_ald0 dX7_open_27 (wz_getR dX7_open_28 cf7 t383 (kf := 13) gr_28_13 gc_28 ?_)))))))
    refine wz_pc (pc2 := 31) rfl ?_
    refine q_ild1 dX7_open_31 (wz_iald dX7_open_32 ga_32 gc_32 hi3 rfl (q_ild3 dX7_open_33 ?_))
    refine wz_icmp_le (tgt := 48) dX7_open_34 rfl (fun c6 => ?_) (fun c6 => ?_)
    · replace hS := hS.1 c6
      refine wz_iconst dX7_open_48 kiconst_0 ?_
      exact wi_ret dX7_open_49 rfl hS
    · replace hS := hS.2 c6
      refine q_ald0 dX7_open_37 (wz_getR dX7_open_38 cf7 t383 (kf := 13) gr_28_13 gc_28 (q_ild1 dX7_open_41 (wz_iald dX7_open_42 ga_32 gc_32 hi3 rfl (q_ild3 dX7_open_43 (wz_isub dX7_open_44 (wz_goto (tgt := 49) dX7_open_45 rfl ?_))))))
      exact wi_ret dX7_open_49 rfl hS
def SX7_upper (E : EN) (a1 : Int32) (h : TH) (Q : Int32 → TH → Prop) : Prop := vp_in a1 10 ∧ ((¬ (h 30 0 (a1.toNatClampNeg)) = 0 → wi E MX7_contractTo (fun r4 h3 => Q r4 h3) 0 [some (rf 28 0), some (.int (h 30 0 (a1.toNatClampNeg))), none, none] [] h) ∧ ((h 30 0 (a1.toNatClampNeg)) = 0 → Q (-1) h))
set_option maxRecDepth 20000 in
theorem sX7_upper {E : EN} {a1 : Int32} {h : TH} {Q : Int32 → TH → Prop}  (hS : SX7_upper E a1 h Q) : wi E MX7_upper Q 0 [some (rf 28 0), some (.int a1)] [] h := by
  refine q_ald0 dX7_upper_0 (wz_getR dX7_upper_1 cf7 t379 (kf := 11) gr_28_11 gc_28 (q_ild1 dX7_upper_4 ?_))
  obtain ⟨hi1, hS⟩ := hS
  refine wz_iald dX7_upper_5 ga_30 gc_30 hi1 rfl ?_
  refine wz_if_ne (tgt := 13) dX7_upper_6 rfl (fun c2 => ?_) (fun c2 => ?_)
  · replace hS := hS.1 c2
    refine q_ald0 dX7_upper_13 (q_ald0 dX7_upper_14 (wz_getR dX7_upper_15 cf7 t379 (kf := 11) gr_28_11 gc_28 (q_ild1 dX7_upper_18 (wz_iald dX7_upper_19 ga_30 gc_30 hi1 rfl ?_))))
    refine wz_virtI (M := MX7_upper) (pc := 20) (M' := MX7_contractTo) (n := 1) (As := [.int (h 30 0 (a1.toNatClampNeg))]) (st := []) dX7_upper_20 cf7 rfl go_28 gc_28 rfl cat_i okX7_upper_X7_contractTo cwX7_146 (Nat.le_of_ble_eq_true rfl) ⟨Nat.zero_le _, Nat.zero_le _⟩ rfl (ls0 := [some (rf 28 0), some (.int (h 30 0 (a1.toNatClampNeg))), none, none]) rfl hS (fun r4 h3 hS => ?_)
    exact wi_ret dX7_upper_23 rfl hS
  · replace hS := hS.2 c2
    refine wz_iconst dX7_upper_9 kiconst_m1 (wz_goto (tgt := 23) dX7_upper_10 rfl ?_)
    exact wi_ret dX7_upper_23 rfl hS
def SX7_degree_0 (E : EN) (a1 : Int32) (h : TH) (Q : Int32 → TH → Prop) : Prop := SX7_upper E a1 h (fun r2 h1 => wi E MX7_degree Q 8 [some (rf 28 0), none, some (.int 1), some (.int r2)] [] h1)
set_option maxRecDepth 20000 in
theorem sX7_degree_0 {E : EN} {a1 : Int32} {h : TH} {Q : Int32 → TH → Prop}  (hS : SX7_degree_0 E a1 h Q) : wi E MX7_degree Q 0 [some (rf 28 0), some (.int a1), none, none] [] h := by
  refine wz_iconst dX7_degree_0 kiconst_1 (q_ist2 dX7_degree_1 (ltX7_degree_2) rfl (q_ald0 dX7_degree_2 (q_ild1 dX7_degree_3 ?_)))
  refine wz_virtI (M := MX7_degree) (pc := 4) (M' := MX7_upper) (n := 1) (As := [.int a1]) (st := []) dX7_degree_4 cf7 rfl go_28 gc_28 rfl cat_i okX7_degree_X7_upper cwX7_169 (Nat.le_of_ble_eq_true rfl) ⟨Nat.zero_le _, Nat.zero_le _⟩ rfl (ls0 := [some (rf 28 0), some (.int a1)]) rfl (sX7_upper  hS) (fun r2 h1 hS => ?_)
  refine q_ist3 dX7_degree_7 (ltX7_degree_3) rfl ?_
  exact wz_mask [true, false, true, true] rfl hS
def SX7_degree_8 (E : EN) (x2 : Int32) (x3 : Int32) (h : TH) (Q : Int32 → TH → Prop) : Prop := ((x3 = (-1) → Q x2 h) ∧ (¬ x3 = (-1) → SX7_upper E x3 h (fun r3 h2 => wi E MX7_degree Q 8 [some (rf 28 0), none, some (.int (x2 + 1)), some (.int r3)] [] h2)))
set_option maxRecDepth 20000 in
theorem sX7_degree_8 {E : EN} {x2 : Int32} {x3 : Int32} {h : TH} {Q : Int32 → TH → Prop}  (hS : SX7_degree_8 E x2 x3 h Q) : wi E MX7_degree Q 8 [some (rf 28 0), none, some (.int x2), some (.int x3)] [] h := by
  refine q_ild3 dX7_degree_8 (wz_iconst dX7_degree_9 kiconst_m1 ?_)
  refine wz_icmp_eq (tgt := 25) dX7_degree_10 rfl (fun c1 => ?_) (fun c1 => ?_)
  · replace hS := hS.1 c1
    refine q_ild2 dX7_degree_25 ?_
    exact wi_ret dX7_degree_26 rfl hS
  · replace hS := hS.2 c1
    refine q_inc2 (v := (x2 + 1)) dX7_degree_13 rfl (ltX7_degree_2) rfl (q_ald0 dX7_degree_16 (q_ild3 dX7_degree_17 ?_))
    refine wz_virtI (M := MX7_degree) (pc := 18) (M' := MX7_upper) (n := 1) (As := [.int x3]) (st := []) dX7_degree_18 cf7 rfl go_28 gc_28 rfl cat_i okX7_degree_X7_upper cwX7_169 (Nat.le_of_ble_eq_true rfl) ⟨Nat.zero_le _, Nat.zero_le _⟩ rfl (ls0 := [some (rf 28 0), some (.int x3)]) rfl (sX7_upper  hS) (fun r3 h2 hS => ?_)
    refine q_ist3 dX7_degree_21 (ltX7_degree_3) rfl (wz_goto (tgt := 8) dX7_degree_22 rfl ?_)
    exact hS
def SX7_of (E : EN) (a1 : Int32) (a2 : Int32) (h : TH) (Q : Int32 → TH → Prop) : Prop := SX7_isContract E a1 h (fun r2 h1 => ((¬ r2 = 0 → ((a2 = (0 : Int32) → vp_in a1 10 ∧ Q (h1 30 0 (a1.toNatClampNeg)) h1) ∧ (a2 = (1 : Int32) → vp_in a1 10 ∧ Q (h1 31 0 (a1.toNatClampNeg)) h1) ∧ (a2 = (2 : Int32) → vp_in a1 10 ∧ Q (h1 32 0 (a1.toNatClampNeg)) h1) ∧ (a2 = (3 : Int32) → vp_in a1 10 ∧ Q (h1 33 0 (a1.toNatClampNeg)) h1) ∧ (a2 = (4 : Int32) → SX7_owing E a1 h1 (fun r14 h13 => Q r14 h13)) ∧ (a2 = (5 : Int32) → wi E MX7_waived (fun r17 h16 => Q r17 h16) 0 [some (rf 28 0), some (.int a1), none, none, none] [] h1) ∧ (a2 = (6 : Int32) → SX7_open E a1 h1 (fun r20 h19 => Q r20 h19)) ∧ (a2 = (7 : Int32) → wi E MX7_degree (fun r23 h22 => Q r23 h22) 0 [some (rf 28 0), some (.int a1), none, none] [] h1) ∧ (a2 = (8 : Int32) → SX7_upper E a1 h1 (fun r26 h25 => Q r26 h25)) ∧ (a2 = (9 : Int32) → vp_in a1 10 ∧ Q (h1 34 0 (a1.toNatClampNeg)) h1) ∧ (a2 = (10 : Int32) → vp_in a1 10 ∧ Q (h1 35 0 (a1.toNatClampNeg)) h1) ∧ (a2 = (11 : Int32) → vp_in a1 10 ∧ Q (h1 36 0 (a1.toNatClampNeg)) h1) ∧ (a2 = (12 : Int32) → vp_in a1 10 ∧ Q (h1 37 0 (a1.toNatClampNeg)) h1) ∧ (a2 = (13 : Int32) → vp_in a1 10 ∧ Q (h1 38 0 (a1.toNatClampNeg)) h1) ∧ (¬ a2 = (0 : Int32) → ¬ a2 = (1 : Int32) → ¬ a2 = (2 : Int32) → ¬ a2 = (3 : Int32) → ¬ a2 = (4 : Int32) → ¬ a2 = (5 : Int32) → ¬ a2 = (6 : Int32) → ¬ a2 = (7 : Int32) → ¬ a2 = (8 : Int32) → ¬ a2 = (9 : Int32) → ¬ a2 = (10 : Int32) → ¬ a2 = (11 : Int32) → ¬ a2 = (12 : Int32) → ¬ a2 = (13 : Int32) → SX7_finds E (-1000000001) h1 (fun r38 h37 => Q r38 h37)))) ∧ (r2 = 0 → SX7_finds E (-1000000001) h1 (fun r40 h39 => Q r40 h39))))
set_option maxRecDepth 20000 in
theorem sX7_of {E : EN} {a1 : Int32} {a2 : Int32} {h : TH} {Q : Int32 → TH → Prop}  (hS : SX7_of E a1 a2 h Q) : wi E MX7_of Q 0 [some (rf 28 0), some (.int a1), some (.int a2)] [] h := by
  refine q_ald0 dX7_of_0 (q_ild1 dX7_of_1 ?_)
  refine wz_virtI (M := MX7_of) (pc := 2) (M' := MX7_isContract) (n := 1) (As := [.int a1]) (st := []) dX7_of_2 cf7 rfl go_28 gc_28 rfl cat_i okX7_of_X7_isContract cwX7_150 (Nat.le_of_ble_eq_true rfl) ⟨Nat.zero_le _, Nat.zero_le _⟩ rfl (ls0 := [some (rf 28 0), some (.int a1)]) rfl (sX7_isContract  hS) (fun r2 h1 hS => ?_)
  refine wz_if_ne (tgt := 15) dX7_of_5 rfl (fun c3 => ?_) (fun c3 => ?_)
  · replace hS := hS.1 c3
    refine q_ild2 dX7_of_15 ?_
    by_cases q4 : a2 = (0 : Int32)
    · refine wz_tab1 (tgt := 88) (j := 0) dX7_of_16 (by rw [q4]; decide) (by decide) (by decide) rfl rfl ?_
      replace hS := hS.1 q4
      refine q_ald0 dX7_of_88 (wz_getR dX7_of_89 cf7 t379 (kf := 11) gr_28_11 gc_28 (q_ild1 dX7_of_92 ?_))
      obtain ⟨hi5, hS⟩ := hS
      refine wz_iald dX7_of_93 ga_30 gc_30 hi5 rfl ?_
      exact wi_ret dX7_of_94 rfl hS
    by_cases q6 : a2 = (1 : Int32)
    · refine wz_tab1 (tgt := 95) (j := 1) dX7_of_16 (by rw [q6]; decide) (by decide) (by decide) rfl rfl ?_
      replace hS := hS.2.1 q6
      refine q_ald0 dX7_of_95 (wz_getR dX7_of_96 cf7 t380 (kf := 12) gr_28_12 gc_28 (q_ild1 dX7_of_99 ?_))
      obtain ⟨hi7, hS⟩ := hS
      refine wz_iald dX7_of_100 ga_31 gc_31 hi7 rfl ?_
      exact wi_ret dX7_of_101 rfl hS
    by_cases q8 : a2 = (2 : Int32)
    · refine wz_tab1 (tgt := 102) (j := 2) dX7_of_16 (by rw [q8]; decide) (by decide) (by decide) rfl rfl ?_
      replace hS := hS.2.2.1 q8
      refine q_ald0 dX7_of_102 (wz_getR dX7_of_103 cf7 t383 (kf := 13) gr_28_13 gc_28 (q_ild1 dX7_of_106 ?_))
      obtain ⟨hi9, hS⟩ := hS
      refine wz_iald dX7_of_107 ga_32 gc_32 hi9 rfl ?_
      exact wi_ret dX7_of_108 rfl hS
    by_cases q10 : a2 = (3 : Int32)
    · refine wz_tab1 (tgt := 109) (j := 3) dX7_of_16 (by rw [q10]; decide) (by decide) (by decide) rfl rfl ?_
      replace hS := hS.2.2.2.1 q10
      refine q_ald0 dX7_of_109 (wz_getR dX7_of_110 cf7 t384 (kf := 14) gr_28_14 gc_28 (q_ild1 dX7_of_113 ?_))
      obtain ⟨hi11, hS⟩ := hS
      refine wz_iald dX7_of_114 ga_33 gc_33 hi11 rfl ?_
      exact wi_ret dX7_of_115 rfl hS
    by_cases q12 : a2 = (4 : Int32)
    · refine wz_tab1 (tgt := 116) (j := 4) dX7_of_16 (by rw [q12]; decide) (by decide) (by decide) rfl rfl ?_
      replace hS := hS.2.2.2.2.1 q12
      refine q_ald0 dX7_of_116 (q_ild1 dX7_of_117 ?_)
      refine wz_virtI (M := MX7_of) (pc := 118) (M' := MX7_owing) (n := 1) (As := [.int a1]) (st := []) dX7_of_118 cf7 rfl go_28 gc_28 rfl cat_i okX7_of_X7_owing cwX7_160 (Nat.le_of_ble_eq_true rfl) ⟨Nat.zero_le _, Nat.zero_le _⟩ rfl (ls0 := [some (rf 28 0), some (.int a1)]) rfl (sX7_owing  hS) (fun r14 h13 hS => ?_)
      exact wi_ret dX7_of_121 rfl hS
    by_cases q15 : a2 = (5 : Int32)
    · refine wz_tab1 (tgt := 122) (j := 5) dX7_of_16 (by rw [q15]; decide) (by decide) (by decide) rfl rfl ?_
      replace hS := hS.2.2.2.2.2.1 q15
      refine q_ald0 dX7_of_122 (q_ild1 dX7_of_123 ?_)
      refine wz_virtI (M := MX7_of) (pc := 124) (M' := MX7_waived) (n := 1) (As := [.int a1]) (st := []) dX7_of_124 cf7 rfl go_28 gc_28 rfl cat_i okX7_of_X7_waived cwX7_166 (Nat.le_of_ble_eq_true rfl) ⟨Nat.zero_le _, Nat.zero_le _⟩ rfl (ls0 := [some (rf 28 0), some (.int a1), none, none, none]) rfl hS (fun r17 h16 hS => ?_)
      exact wi_ret dX7_of_127 rfl hS
    by_cases q18 : a2 = (6 : Int32)
    · refine wz_tab1 (tgt := 128) (j := 6) dX7_of_16 (by rw [q18]; decide) (by decide) (by decide) rfl rfl ?_
      replace hS := hS.2.2.2.2.2.2.1 q18
      refine q_ald0 dX7_of_128 (q_ild1 dX7_of_129 ?_)
      refine wz_virtI (M := MX7_of) (pc := 130) (M' := MX7_open) (n := 1) (As := [.int a1]) (st := []) dX7_of_130 cf7 rfl go_28 gc_28 rfl cat_i okX7_of_X7_open cwX7_172 (Nat.le_of_ble_eq_true rfl) ⟨Nat.zero_le _, Nat.zero_le _⟩ rfl (ls0 := [some (rf 28 0), some (.int a1), none, none]) rfl (sX7_open  hS) (fun r20 h19 hS => ?_)
      exact wi_ret dX7_of_133 rfl hS
    by_cases q21 : a2 = (7 : Int32)
    · refine wz_tab1 (tgt := 134) (j := 7) dX7_of_16 (by rw [q21]; decide) (by decide) (by decide) rfl rfl ?_
      replace hS := hS.2.2.2.2.2.2.2.1 q21
      refine q_ald0 dX7_of_134 (q_ild1 dX7_of_135 ?_)
      refine wz_virtI (M := MX7_of) (pc := 136) (M' := MX7_degree) (n := 1) (As := [.int a1]) (st := []) dX7_of_136 cf7 rfl go_28 gc_28 rfl cat_i okX7_of_X7_degree cwX7_175 (Nat.le_of_ble_eq_true rfl) ⟨Nat.zero_le _, Nat.zero_le _⟩ rfl (ls0 := [some (rf 28 0), some (.int a1), none, none]) rfl hS (fun r23 h22 hS => ?_)
      exact wi_ret dX7_of_139 rfl hS
    by_cases q24 : a2 = (8 : Int32)
    · refine wz_tab1 (tgt := 140) (j := 8) dX7_of_16 (by rw [q24]; decide) (by decide) (by decide) rfl rfl ?_
      replace hS := hS.2.2.2.2.2.2.2.2.1 q24
      refine q_ald0 dX7_of_140 (q_ild1 dX7_of_141 ?_)
      refine wz_virtI (M := MX7_of) (pc := 142) (M' := MX7_upper) (n := 1) (As := [.int a1]) (st := []) dX7_of_142 cf7 rfl go_28 gc_28 rfl cat_i okX7_of_X7_upper cwX7_169 (Nat.le_of_ble_eq_true rfl) ⟨Nat.zero_le _, Nat.zero_le _⟩ rfl (ls0 := [some (rf 28 0), some (.int a1)]) rfl (sX7_upper  hS) (fun r26 h25 hS => ?_)
      exact wi_ret dX7_of_145 rfl hS
    by_cases q27 : a2 = (9 : Int32)
    · refine wz_tab1 (tgt := 146) (j := 9) dX7_of_16 (by rw [q27]; decide) (by decide) (by decide) rfl rfl ?_
      replace hS := hS.2.2.2.2.2.2.2.2.2.1 q27
      refine q_ald0 dX7_of_146 (wz_getR dX7_of_147 cf7 t385 (kf := 15) gr_28_15 gc_28 (q_ild1 dX7_of_150 ?_))
      obtain ⟨hi28, hS⟩ := hS
      refine wz_iald dX7_of_151 ga_34 gc_34 hi28 rfl ?_
      exact wi_ret dX7_of_152 rfl hS
    by_cases q29 : a2 = (10 : Int32)
    · refine wz_tab1 (tgt := 153) (j := 10) dX7_of_16 (by rw [q29]; decide) (by decide) (by decide) rfl rfl ?_
      replace hS := hS.2.2.2.2.2.2.2.2.2.2.1 q29
      refine q_ald0 dX7_of_153 (wz_getR dX7_of_154 cf7 t386 (kf := 16) gr_28_16 gc_28 (q_ild1 dX7_of_157 ?_))
      obtain ⟨hi30, hS⟩ := hS
      refine wz_iald dX7_of_158 ga_35 gc_35 hi30 rfl ?_
      exact wi_ret dX7_of_159 rfl hS
    by_cases q31 : a2 = (11 : Int32)
    · refine wz_tab1 (tgt := 160) (j := 11) dX7_of_16 (by rw [q31]; decide) (by decide) (by decide) rfl rfl ?_
      replace hS := hS.2.2.2.2.2.2.2.2.2.2.2.1 q31
      refine q_ald0 dX7_of_160 (wz_getR dX7_of_161 cf7 t387 (kf := 17) gr_28_17 gc_28 (q_ild1 dX7_of_164 ?_))
      obtain ⟨hi32, hS⟩ := hS
      refine wz_iald dX7_of_165 ga_36 gc_36 hi32 rfl ?_
      exact wi_ret dX7_of_166 rfl hS
    by_cases q33 : a2 = (12 : Int32)
    · refine wz_tab1 (tgt := 167) (j := 12) dX7_of_16 (by rw [q33]; decide) (by decide) (by decide) rfl rfl ?_
      replace hS := hS.2.2.2.2.2.2.2.2.2.2.2.2.1 q33
      refine q_ald0 dX7_of_167 (wz_getR dX7_of_168 cf7 t388 (kf := 18) gr_28_18 gc_28 (q_ild1 dX7_of_171 ?_))
      obtain ⟨hi34, hS⟩ := hS
      refine wz_iald dX7_of_172 ga_37 gc_37 hi34 rfl ?_
      exact wi_ret dX7_of_173 rfl hS
    by_cases q35 : a2 = (13 : Int32)
    · refine wz_tab1 (tgt := 174) (j := 13) dX7_of_16 (by rw [q35]; decide) (by decide) (by decide) rfl rfl ?_
      replace hS := hS.2.2.2.2.2.2.2.2.2.2.2.2.2.1 q35
      refine q_ald0 dX7_of_174 (wz_getR dX7_of_175 cf7 t389 (kf := 19) gr_28_19 gc_28 (q_ild1 dX7_of_178 ?_))
      obtain ⟨hi36, hS⟩ := hS
      refine wz_iald dX7_of_179 ga_38 gc_38 hi36 rfl ?_
      exact wi_ret dX7_of_180 rfl hS
    refine wz_tabD (tgt := 181) dX7_of_16 (tab_out (lo := 0) (n := 14) (by decide) (by decide) (fun j hj => match j, hj with | 0, _ => fun z => q4 (Int32.toInt_inj.mp (z.trans (by decide))) | 1, _ => fun z => q6 (Int32.toInt_inj.mp (z.trans (by decide))) | 2, _ => fun z => q8 (Int32.toInt_inj.mp (z.trans (by decide))) | 3, _ => fun z => q10 (Int32.toInt_inj.mp (z.trans (by decide))) | 4, _ => fun z => q12 (Int32.toInt_inj.mp (z.trans (by decide))) | 5, _ => fun z => q15 (Int32.toInt_inj.mp (z.trans (by decide))) | 6, _ => fun z => q18 (Int32.toInt_inj.mp (z.trans (by decide))) | 7, _ => fun z => q21 (Int32.toInt_inj.mp (z.trans (by decide))) | 8, _ => fun z => q24 (Int32.toInt_inj.mp (z.trans (by decide))) | 9, _ => fun z => q27 (Int32.toInt_inj.mp (z.trans (by decide))) | 10, _ => fun z => q29 (Int32.toInt_inj.mp (z.trans (by decide))) | 11, _ => fun z => q31 (Int32.toInt_inj.mp (z.trans (by decide))) | 12, _ => fun z => q33 (Int32.toInt_inj.mp (z.trans (by decide))) | 13, _ => fun z => q35 (Int32.toInt_inj.mp (z.trans (by decide))) | j + 14, hj => absurd hj (by omega))) rfl ?_
    replace hS := hS.2.2.2.2.2.2.2.2.2.2.2.2.2.2 q4 q6 q8 q10 q12 q15 q18 q21 q24 q27 q29 q31 q33 q35
    refine q_ald0 dX7_of_181 (wz_ldc dX7_of_182 t370 ?_)
    refine wz_virtI (M := MX7_of) (pc := 184) (M' := MX7_finds) (n := 1) (As := [.int (-1000000001)]) (st := []) dX7_of_184 cf7 rfl go_28 gc_28 rfl cat_i okX7_of_X7_finds cwX7_132 (Nat.le_of_ble_eq_true rfl) ⟨Nat.zero_le _, Nat.zero_le _⟩ rfl (ls0 := [some (rf 28 0), some (.int (-1000000001))]) rfl (sX7_finds  hS) (fun r38 h37 hS => ?_)
    exact wi_ret dX7_of_187 rfl hS
  · replace hS := hS.2 c3
    refine q_ald0 dX7_of_8 (wz_ldc dX7_of_9 t370 ?_)
    refine wz_virtI (M := MX7_of) (pc := 11) (M' := MX7_finds) (n := 1) (As := [.int (-1000000001)]) (st := []) dX7_of_11 cf7 rfl go_28 gc_28 rfl cat_i okX7_of_X7_finds cwX7_132 (Nat.le_of_ble_eq_true rfl) ⟨Nat.zero_le _, Nat.zero_le _⟩ rfl (ls0 := [some (rf 28 0), some (.int (-1000000001))]) rfl (sX7_finds  hS) (fun r40 h39 hS => ?_)
    exact wi_ret dX7_of_14 rfl hS
def SX7_day (E : EN) (a1 : Int32) (h : TH) (Q : Int32 → TH → Prop) : Prop := SX7_isIn E a1 (h 28 0 8) 5000 h (fun r2 h1 => ((¬ r2 = 0 → Q (a1 - (h1 28 0 8)) (up h1 28 0 8 a1)) ∧ (r2 = 0 → SX7_finds E (-1000000001) h1 (fun r5 h4 => Q r5 h4))))
set_option maxRecDepth 20000 in
theorem sX7_day {E : EN} {a1 : Int32} {h : TH} {Q : Int32 → TH → Prop}  (hS : SX7_day E a1 h Q) : wi E MX7_day Q 0 [some (rf 28 0), some (.int a1), none] [] h := by
  refine q_ild1 dX7_day_0 (q_ald0 dX7_day_1 (wz_getI dX7_day_2 cf7 t399 (kf := 8) gi_28_8 gc_28 rfl (wz_sipush dX7_day_5 ksipush_5000 ?_)))
  refine wz_statI (M := MX7_day) (pc := 8) (M' := MX7_isIn) (n := 3) (As := [.int a1, .int (h 28 0 8), .int 5000]) (st := []) dX7_day_8 rfl cat_iii okX7_day_X7_isIn cwX7_121 (Nat.le_of_ble_eq_true rfl) ⟨Nat.zero_le _, Nat.zero_le _⟩ rfl (ls0 := [some (.int a1), some (.int (h 28 0 8)), some (.int 5000)]) rfl (sX7_isIn  hS) (fun r2 h1 hS => ?_)
  refine wz_if_ne (tgt := 21) dX7_day_11 rfl (fun c3 => ?_) (fun c3 => ?_)
  · replace hS := hS.1 c3
    refine q_ild1 dX7_day_21 (q_ald0 dX7_day_22 (wz_getI dX7_day_23 cf7 t399 (kf := 8) gi_28_8 gc_28 rfl (wz_isub dX7_day_26 (q_ist2 dX7_day_27 (ltX7_day_2) rfl (q_ald0 dX7_day_28 (q_ild1 dX7_day_29 (wz_putI dX7_day_30 cf7 t399 (kf := 8) gp_28_8 gc_28 rfl ?_)))))))
    refine wz_pc (pc2 := 33) rfl ?_
    refine q_ild2 dX7_day_33 ?_
    exact wi_ret dX7_day_34 rfl hS
  · replace hS := hS.2 c3
    refine q_ald0 dX7_day_14 (wz_ldc dX7_day_15 t370 ?_)
    refine wz_virtI (M := MX7_day) (pc := 17) (M' := MX7_finds) (n := 1) (As := [.int (-1000000001)]) (st := []) dX7_day_17 cf7 rfl go_28 gc_28 rfl cat_i okX7_day_X7_finds cwX7_132 (Nat.le_of_ble_eq_true rfl) ⟨Nat.zero_le _, Nat.zero_le _⟩ rfl (ls0 := [some (rf 28 0), some (.int (-1000000001))]) rfl (sX7_finds  hS) (fun r5 h4 hS => ?_)
    exact wi_ret dX7_day_20 rfl hS
def SX7_mostOf (E : EN) (a0 : Int32) (h : TH) (Q : Int32 → TH → Prop) : Prop := ((a0 = (2 : Int32) → Q 1000 h) ∧ (a0 = (3 : Int32) → Q 9 h) ∧ (a0 = (4 : Int32) → Q 2 h) ∧ (a0 = (5 : Int32) → Q 1 h) ∧ (¬ a0 = (2 : Int32) → ¬ a0 = (3 : Int32) → ¬ a0 = (4 : Int32) → ¬ a0 = (5 : Int32) → Q 365 h))
set_option maxRecDepth 20000 in
theorem sX7_mostOf {E : EN} {a0 : Int32} {h : TH} {Q : Int32 → TH → Prop}  (hS : SX7_mostOf E a0 h Q) : wi E MX7_mostOf Q 0 [some (.int a0)] [] h := by
  refine q_ild0 dX7_mostOf_0 ?_
  by_cases q1 : a0 = (2 : Int32)
  · refine wz_tab1 (tgt := 32) (j := 0) dX7_mostOf_1 (by rw [q1]; decide) (by decide) (by decide) rfl rfl ?_
    replace hS := hS.1 q1
    refine wz_sipush dX7_mostOf_32 ksipush_1000 ?_
    exact wi_ret dX7_mostOf_35 rfl hS
  by_cases q2 : a0 = (3 : Int32)
  · refine wz_tab1 (tgt := 36) (j := 1) dX7_mostOf_1 (by rw [q2]; decide) (by decide) (by decide) rfl rfl ?_
    replace hS := hS.2.1 q2
    refine wz_bipush dX7_mostOf_36 kbipush_9 ?_
    exact wi_ret dX7_mostOf_38 rfl hS
  by_cases q3 : a0 = (4 : Int32)
  · refine wz_tab1 (tgt := 39) (j := 2) dX7_mostOf_1 (by rw [q3]; decide) (by decide) (by decide) rfl rfl ?_
    replace hS := hS.2.2.1 q3
    refine wz_iconst dX7_mostOf_39 kiconst_2 ?_
    exact wi_ret dX7_mostOf_40 rfl hS
  by_cases q4 : a0 = (5 : Int32)
  · refine wz_tab1 (tgt := 41) (j := 3) dX7_mostOf_1 (by rw [q4]; decide) (by decide) (by decide) rfl rfl ?_
    replace hS := hS.2.2.2.1 q4
    refine wz_iconst dX7_mostOf_41 kiconst_1 ?_
    exact wi_ret dX7_mostOf_42 rfl hS
  refine wz_tabD (tgt := 43) dX7_mostOf_1 (tab_out (lo := 2) (n := 4) (by decide) (by decide) (fun j hj => match j, hj with | 0, _ => fun z => q1 (Int32.toInt_inj.mp (z.trans (by decide))) | 1, _ => fun z => q2 (Int32.toInt_inj.mp (z.trans (by decide))) | 2, _ => fun z => q3 (Int32.toInt_inj.mp (z.trans (by decide))) | 3, _ => fun z => q4 (Int32.toInt_inj.mp (z.trans (by decide))) | j + 4, hj => absurd hj (by omega))) rfl ?_
  replace hS := hS.2.2.2.2 q1 q2 q3 q4
  refine wz_sipush dX7_mostOf_43 ksipush_365 ?_
  exact wi_ret dX7_mostOf_46 rfl hS
def SX7_law (E : EN) (a1 : Int32) (a2 : Int32) (h : TH) (Q : Int32 → TH → Prop) : Prop := SX7_isIn E a1 0 5 h (fun r2 h1 => ((r2 = 0 → SX7_finds E (-1000000001) h1 (fun r5 h4 => Q r5 h4)) ∧ (¬ r2 = 0 → ((¬ a1 = 3 → SX7_mostOf E a1 h1 (fun r8 h7 => SX7_isIn E a2 0 r8 h7 (fun r10 h9 => ((¬ r10 = 0 → vp_in a1 6 ∧ Q (h9 42 0 (a1.toNatClampNeg)) (up h9 42 0 (a1.toNatClampNeg) a2)) ∧ (r10 = 0 → SX7_finds E (-1000000001) h9 (fun r14 h13 => Q r14 h13)))))) ∧ (a1 = 3 → SX7_mostOf E a1 h1 (fun r16 h15 => SX7_isIn E a2 1 r16 h15 (fun r18 h17 => ((¬ r18 = 0 → vp_in a1 6 ∧ Q (h17 42 0 (a1.toNatClampNeg)) (up h17 42 0 (a1.toNatClampNeg) a2)) ∧ (r18 = 0 → SX7_finds E (-1000000001) h17 (fun r22 h21 => Q r22 h21))))))))))
set_option maxRecDepth 20000 in
theorem sX7_law {E : EN} {a1 : Int32} {a2 : Int32} {h : TH} {Q : Int32 → TH → Prop}  (hS : SX7_law E a1 a2 h Q) : wi E MX7_law Q 0 [some (rf 28 0), some (.int a1), some (.int a2), none] [] h := by
  refine q_ild1 dX7_law_0 (wz_iconst dX7_law_1 kiconst_0 (wz_iconst dX7_law_2 kiconst_5 ?_))
  refine wz_statI (M := MX7_law) (pc := 3) (M' := MX7_isIn) (n := 3) (As := [.int a1, .int 0, .int 5]) (st := []) dX7_law_3 rfl cat_iii okX7_law_X7_isIn cwX7_121 (Nat.le_of_ble_eq_true rfl) ⟨Nat.zero_le _, Nat.zero_le _⟩ rfl (ls0 := [some (.int a1), some (.int 0), some (.int 5)]) rfl (sX7_isIn  hS) (fun r2 h1 hS => ?_)
  refine wz_if_eq (tgt := 30) dX7_law_6 rfl (fun c3 => ?_) (fun c3 => ?_)
  · replace hS := hS.1 c3
    refine q_ald0 dX7_law_30 (wz_ldc dX7_law_31 t370 ?_)
    refine wz_virtI (M := MX7_law) (pc := 33) (M' := MX7_finds) (n := 1) (As := [.int (-1000000001)]) (st := []) dX7_law_33 cf7 rfl go_28 gc_28 rfl cat_i okX7_law_X7_finds cwX7_132 (Nat.le_of_ble_eq_true rfl) ⟨Nat.zero_le _, Nat.zero_le _⟩ rfl (ls0 := [some (rf 28 0), some (.int (-1000000001))]) rfl (sX7_finds  hS) (fun r5 h4 hS => ?_)
    exact wi_ret dX7_law_36 rfl hS
  · replace hS := hS.2 c3
    refine q_ild2 dX7_law_9 (q_ild1 dX7_law_10 (wz_iconst dX7_law_11 kiconst_3 ?_))
    refine wz_icmp_ne (tgt := 19) dX7_law_12 rfl (fun c6 => ?_) (fun c6 => ?_)
    · replace hS := hS.1 c6
      refine wz_iconst dX7_law_19 kiconst_0 (q_ild1 dX7_law_20 ?_)
      refine wz_statI (M := MX7_law) (pc := 21) (M' := MX7_mostOf) (n := 1) (As := [.int a1]) (st := [.int 0, .int a2]) dX7_law_21 rfl cat_i okX7_law_X7_mostOf cwX7_178 (Nat.le_of_ble_eq_true rfl) ⟨Nat.zero_le _, Nat.zero_le _⟩ rfl (ls0 := [some (.int a1)]) rfl (sX7_mostOf  hS) (fun r8 h7 hS => ?_)
      refine wz_statI (M := MX7_law) (pc := 24) (M' := MX7_isIn) (n := 3) (As := [.int a2, .int 0, .int r8]) (st := []) dX7_law_24 rfl cat_iii okX7_law_X7_isIn cwX7_121 (Nat.le_of_ble_eq_true rfl) ⟨Nat.zero_le _, Nat.zero_le _⟩ rfl (ls0 := [some (.int a2), some (.int 0), some (.int r8)]) rfl (sX7_isIn  hS) (fun r10 h9 hS => ?_)
      refine wz_if_ne (tgt := 37) dX7_law_27 rfl (fun c11 => ?_) (fun c11 => ?_)
      · replace hS := hS.1 c11
        refine q_ald0 dX7_law_37 (wz_getR dX7_law_38 cf7 t428 (kf := 23) gr_28_23 gc_28 (q_ild1 dX7_law_41 ?_))
        obtain ⟨hi12, hS⟩ := hS
        refine wz_iald dX7_law_42 ga_42 gc_42 hi12 rfl (q_ist3 dX7_law_43 (ltX7_law_3) rfl (q_ald0 dX7_law_44 (wz_getR dX7_law_45 cf7 t428 (kf := 23) gr_28_23 gc_28 (q_ild1 dX7_law_48 (q_ild2 dX7_law_49 (wz_iast dX7_law_50 ga_42 gc_42 hi12 rfl (q_ild3 dX7_law_51 ?_)))))))
        refine wz_pc (pc2 := 52) rfl ?_
        exact wi_ret dX7_law_52 rfl hS
      · replace hS := hS.2 c11
        refine q_ald0 dX7_law_30 (wz_ldc dX7_law_31 t370 ?_)
        refine wz_virtI (M := MX7_law) (pc := 33) (M' := MX7_finds) (n := 1) (As := [.int (-1000000001)]) (st := []) dX7_law_33 cf7 rfl go_28 gc_28 rfl cat_i okX7_law_X7_finds cwX7_132 (Nat.le_of_ble_eq_true rfl) ⟨Nat.zero_le _, Nat.zero_le _⟩ rfl (ls0 := [some (rf 28 0), some (.int (-1000000001))]) rfl (sX7_finds  hS) (fun r14 h13 hS => ?_)
        exact wi_ret dX7_law_36 rfl hS
    · replace hS := hS.2 c6
      refine wz_iconst dX7_law_15 kiconst_1 (wz_goto (tgt := 20) dX7_law_16 rfl (q_ild1 dX7_law_20 ?_))
      refine wz_statI (M := MX7_law) (pc := 21) (M' := MX7_mostOf) (n := 1) (As := [.int a1]) (st := [.int 1, .int a2]) dX7_law_21 rfl cat_i okX7_law_X7_mostOf cwX7_178 (Nat.le_of_ble_eq_true rfl) ⟨Nat.zero_le _, Nat.zero_le _⟩ rfl (ls0 := [some (.int a1)]) rfl (sX7_mostOf  hS) (fun r16 h15 hS => ?_)
      refine wz_statI (M := MX7_law) (pc := 24) (M' := MX7_isIn) (n := 3) (As := [.int a2, .int 1, .int r16]) (st := []) dX7_law_24 rfl cat_iii okX7_law_X7_isIn cwX7_121 (Nat.le_of_ble_eq_true rfl) ⟨Nat.zero_le _, Nat.zero_le _⟩ rfl (ls0 := [some (.int a2), some (.int 1), some (.int r16)]) rfl (sX7_isIn  hS) (fun r18 h17 hS => ?_)
      refine wz_if_ne (tgt := 37) dX7_law_27 rfl (fun c19 => ?_) (fun c19 => ?_)
      · replace hS := hS.1 c19
        refine q_ald0 dX7_law_37 (wz_getR dX7_law_38 cf7 t428 (kf := 23) gr_28_23 gc_28 (q_ild1 dX7_law_41 ?_))
        obtain ⟨hi20, hS⟩ := hS
        refine wz_iald dX7_law_42 ga_42 gc_42 hi20 rfl (q_ist3 dX7_law_43 (ltX7_law_3) rfl (q_ald0 dX7_law_44 (wz_getR dX7_law_45 cf7 t428 (kf := 23) gr_28_23 gc_28 (q_ild1 dX7_law_48 (q_ild2 dX7_law_49 (wz_iast dX7_law_50 ga_42 gc_42 hi20 rfl (q_ild3 dX7_law_51 ?_)))))))
        refine wz_pc (pc2 := 52) rfl ?_
        exact wi_ret dX7_law_52 rfl hS
      · replace hS := hS.2 c19
        refine q_ald0 dX7_law_30 (wz_ldc dX7_law_31 t370 ?_)
        refine wz_virtI (M := MX7_law) (pc := 33) (M' := MX7_finds) (n := 1) (As := [.int (-1000000001)]) (st := []) dX7_law_33 cf7 rfl go_28 gc_28 rfl cat_i okX7_law_X7_finds cwX7_132 (Nat.le_of_ble_eq_true rfl) ⟨Nat.zero_le _, Nat.zero_le _⟩ rfl (ls0 := [some (rf 28 0), some (.int (-1000000001))]) rfl (sX7_finds  hS) (fun r22 h21 hS => ?_)
        exact wi_ret dX7_law_36 rfl hS
def SX7_file (E : EN) (a1 : Int32) (a2 : Int32) (h : TH) (Q : Int32 → TH → Prop) : Prop := SX7_isContract E a1 h (fun r2 h1 => ((r2 = 0 → SX7_finds E (-1000000001) h1 (fun r5 h4 => Q r5 h4)) ∧ (¬ r2 = 0 → SX7_isIn E a2 1 1000000 h1 (fun r7 h6 => ((¬ r7 = 0 → vp_in a1 10 ∧ ((¬ (h6 35 0 (a1.toNatClampNeg)) = (-1) → ((¬ (h6 28 0 2) = 16 → vp_in (h6 28 0 2) 16 ∧ Q (((h6 28 0 2) + 1) - 1) (up (up (up (up (up (up h6 43 0 ((h6 28 0 2).toNatClampNeg) a1) 44 0 ((h6 28 0 2).toNatClampNeg) a2) 45 0 ((h6 28 0 2).toNatClampNeg) (h6 28 0 8)) 46 0 ((h6 28 0 2).toNatClampNeg) (-1)) 47 0 ((h6 28 0 2).toNatClampNeg) 0) 28 0 2 ((h6 28 0 2) + 1))) ∧ ((h6 28 0 2) = 16 → SX7_finds E (-1000000004) h6 (fun r14 h13 => Q r14 h13)))) ∧ ((h6 35 0 (a1.toNatClampNeg)) = (-1) → SX7_finds E (-1000000003) h6 (fun r16 h15 => Q r16 h15)))) ∧ (r7 = 0 → SX7_finds E (-1000000001) h6 (fun r18 h17 => Q r18 h17)))))))
set_option maxRecDepth 20000 in
theorem sX7_file {E : EN} {a1 : Int32} {a2 : Int32} {h : TH} {Q : Int32 → TH → Prop}  (hS : SX7_file E a1 a2 h Q) : wi E MX7_file Q 0 [some (rf 28 0), some (.int a1), some (.int a2)] [] h := by
  refine q_ald0 dX7_file_0 (q_ild1 dX7_file_1 ?_)
  refine wz_virtI (M := MX7_file) (pc := 2) (M' := MX7_isContract) (n := 1) (As := [.int a1]) (st := []) dX7_file_2 cf7 rfl go_28 gc_28 rfl cat_i okX7_file_X7_isContract cwX7_150 (Nat.le_of_ble_eq_true rfl) ⟨Nat.zero_le _, Nat.zero_le _⟩ rfl (ls0 := [some (rf 28 0), some (.int a1)]) rfl (sX7_isContract  hS) (fun r2 h1 hS => ?_)
  refine wz_if_eq (tgt := 18) dX7_file_5 rfl (fun c3 => ?_) (fun c3 => ?_)
  · replace hS := hS.1 c3
    refine q_ald0 dX7_file_18 (wz_ldc dX7_file_19 t370 ?_)
    refine wz_virtI (M := MX7_file) (pc := 21) (M' := MX7_finds) (n := 1) (As := [.int (-1000000001)]) (st := []) dX7_file_21 cf7 rfl go_28 gc_28 rfl cat_i okX7_file_X7_finds cwX7_132 (Nat.le_of_ble_eq_true rfl) ⟨Nat.zero_le _, Nat.zero_le _⟩ rfl (ls0 := [some (rf 28 0), some (.int (-1000000001))]) rfl (sX7_finds  hS) (fun r5 h4 hS => ?_)
    exact wi_ret dX7_file_24 rfl hS
  · replace hS := hS.2 c3
    refine q_ild2 dX7_file_8 (wz_iconst dX7_file_9 kiconst_1 (wz_ldc dX7_file_10 t394 ?_))
    refine wz_statI (M := MX7_file) (pc := 12) (M' := MX7_isIn) (n := 3) (As := [.int a2, .int 1, .int 1000000]) (st := []) dX7_file_12 rfl cat_iii okX7_file_X7_isIn cwX7_121 (Nat.le_of_ble_eq_true rfl) ⟨Nat.zero_le _, Nat.zero_le _⟩ rfl (ls0 := [some (.int a2), some (.int 1), some (.int 1000000)]) rfl (sX7_isIn  hS) (fun r7 h6 hS => ?_)
    refine wz_if_ne (tgt := 25) dX7_file_15 rfl (fun c8 => ?_) (fun c8 => ?_)
    · replace hS := hS.1 c8
      refine q_ald0 dX7_file_25 (wz_getR dX7_file_26 cf7 t386 (kf := 16) gr_28_16 gc_28 (q_ild1 dX7_file_29 ?_))
      obtain ⟨hi9, hS⟩ := hS
      refine wz_iald dX7_file_30 ga_35 gc_35 hi9 rfl (wz_iconst dX7_file_31 kiconst_m1 ?_)
      refine wz_icmp_ne (tgt := 42) dX7_file_32 rfl (fun c10 => ?_) (fun c10 => ?_)
      · replace hS := hS.1 c10
        refine q_ald0 dX7_file_42 (wz_getI dX7_file_43 cf7 t363 (kf := 2) gi_28_2 gc_28 rfl (wz_bipush dX7_file_46 kbipush_16 ?_))
        refine wz_icmp_ne (tgt := 58) dX7_file_48 rfl (fun c11 => ?_) (fun c11 => ?_)
        · replace hS := hS.1 c11
          refine q_ald0 dX7_file_58 (wz_getR dX7_file_59 cf7 t432 (kf := 24) gr_28_24 gc_28 (q_ald0 dX7_file_62 (wz_getI dX7_file_63 cf7 t363 (kf := 2) gi_28_2 gc_28 rfl (q_ild1 dX7_file_66 ?_))))
          obtain ⟨hi12, hS⟩ := hS
          refine wz_iast dX7_file_67 ga_43 gc_43 hi12 rfl (q_ald0 dX7_file_68 (wz_getR dX7_file_69 cf7 t433 (kf := 25) gr_28_25 gc_28 (q_ald0 dX7_file_72 (wz_getI (v := (h6 28 0 2)) dX7_file_73 cf7 t363 (kf := 2) gi_28_2 gc_28 (by first | rfl | simp [up]) (q_ild2 dX7_file_76 (wz_iast dX7_file_77 ga_44 gc_44 hi12 rfl (q_ald0 dX7_file_78 ?_)))))))
          refine wz_pc (pc2 := 79) rfl ?_
          refine wz_getR dX7_file_79 cf7 t434 (kf := 26) gr_28_26 gc_28 (q_ald0 dX7_file_82 (wz_getI (v := (h6 28 0 2)) dX7_file_83 cf7 t363 (kf := 2) gi_28_2 gc_28 (by first | rfl | simp [up]) (q_ald0 dX7_file_86 (wz_getI (v := (h6 28 0 8)) dX7_file_87 cf7 t399 (kf := 8) gi_28_8 gc_28 (by first | rfl | simp [up]) (wz_iast dX7_file_90 ga_45 gc_45 hi12 rfl (q_ald0 dX7_file_91 (wz_getR dX7_file_92 cf7 t435 (kf := 27) gr_28_27 gc_28 ?_)))))))
          refine wz_pc (pc2 := 95) rfl ?_
          refine q_ald0 dX7_file_95 (wz_getI (v := (h6 28 0 2)) dX7_file_96 cf7 t363 (kf := 2) gi_28_2 gc_28 (by first | rfl | simp [up]) (wz_iconst dX7_file_99 kiconst_m1 (wz_iast dX7_file_100 ga_46 gc_46 hi12 rfl (q_ald0 dX7_file_101 (wz_getR dX7_file_102 cf7 t436 (kf := 28) gr_28_28 gc_28 (q_ald0 dX7_file_105 (wz_getI (v := (h6 28 0 2)) dX7_file_106 cf7 t363 (kf := 2) gi_28_2 gc_28 (by first | rfl | simp [up]) ?_)))))))
          refine wz_pc (pc2 := 109) rfl ?_
          refine wz_iconst dX7_file_109 kiconst_0 (wz_zast dX7_file_110 ga_47 gc_47 hi12 (isB_nar isB_0) rfl (q_ald0 dX7_file_111 (wz_dup dX7_file_112 rfl (wz_getI (v := (h6 28 0 2)) dX7_file_113 cf7 t363 (kf := 2) gi_28_2 gc_28 (by first | rfl | simp [up]) (wz_iconst dX7_file_116 kiconst_1 (wz_iadd dX7_file_117 (wz_putI dX7_file_118 cf7 t363 (kf := 2) gp_28_2 gc_28 rfl ?_)))))))
          refine wz_pc (pc2 := 121) rfl ?_
          refine q_ald0 dX7_file_121 (wz_getI (v := ((h6 28 0 2) + 1)) dX7_file_122 cf7 t363 (kf := 2) gi_28_2 gc_28 (by first | rfl | simp [up]) (wz_iconst dX7_file_125 kiconst_1 (wz_isub dX7_file_126 ?_)))
          exact wi_ret dX7_file_127 rfl hS
        · replace hS := hS.2 c11
          refine q_ald0 dX7_file_51 (wz_ldc dX7_file_52 t365 ?_)
          refine wz_virtI (M := MX7_file) (pc := 54) (M' := MX7_finds) (n := 1) (As := [.int (-1000000004)]) (st := []) dX7_file_54 cf7 rfl go_28 gc_28 rfl cat_i okX7_file_X7_finds cwX7_132 (Nat.le_of_ble_eq_true rfl) ⟨Nat.zero_le _, Nat.zero_le _⟩ rfl (ls0 := [some (rf 28 0), some (.int (-1000000004))]) rfl (sX7_finds  hS) (fun r14 h13 hS => ?_)
          exact wi_ret dX7_file_57 rfl hS
      · replace hS := hS.2 c10
        refine q_ald0 dX7_file_35 (wz_ldc dX7_file_36 t382 ?_)
        refine wz_virtI (M := MX7_file) (pc := 38) (M' := MX7_finds) (n := 1) (As := [.int (-1000000003)]) (st := []) dX7_file_38 cf7 rfl go_28 gc_28 rfl cat_i okX7_file_X7_finds cwX7_132 (Nat.le_of_ble_eq_true rfl) ⟨Nat.zero_le _, Nat.zero_le _⟩ rfl (ls0 := [some (rf 28 0), some (.int (-1000000003))]) rfl (sX7_finds  hS) (fun r16 h15 hS => ?_)
        exact wi_ret dX7_file_41 rfl hS
    · replace hS := hS.2 c8
      refine q_ald0 dX7_file_18 (wz_ldc dX7_file_19 t370 ?_)
      refine wz_virtI (M := MX7_file) (pc := 21) (M' := MX7_finds) (n := 1) (As := [.int (-1000000001)]) (st := []) dX7_file_21 cf7 rfl go_28 gc_28 rfl cat_i okX7_file_X7_finds cwX7_132 (Nat.le_of_ble_eq_true rfl) ⟨Nat.zero_le _, Nat.zero_le _⟩ rfl (ls0 := [some (rf 28 0), some (.int (-1000000001))]) rfl (sX7_finds  hS) (fun r18 h17 hS => ?_)
      exact wi_ret dX7_file_24 rfl hS
def SX7_sue (E : EN) (a1 : Int32) (h : TH) (Q : Int32 → TH → Prop) : Prop := SX7_isClaim E a1 h (fun r2 h1 => ((¬ r2 = 0 → vp_in a1 16 ∧ (((h1 46 0 (a1.toNatClampNeg)) = (-1) → Q 1 (up h1 46 0 (a1.toNatClampNeg) (h1 28 0 8))) ∧ (¬ (h1 46 0 (a1.toNatClampNeg)) = (-1) → SX7_finds E (-1000000003) h1 (fun r7 h6 => Q r7 h6)))) ∧ (r2 = 0 → SX7_finds E (-1000000001) h1 (fun r9 h8 => Q r9 h8))))
set_option maxRecDepth 20000 in
theorem sX7_sue {E : EN} {a1 : Int32} {h : TH} {Q : Int32 → TH → Prop}  (hS : SX7_sue E a1 h Q) : wi E MX7_sue Q 0 [some (rf 28 0), some (.int a1)] [] h := by
  refine q_ald0 dX7_sue_0 (q_ild1 dX7_sue_1 ?_)
  refine wz_virtI (M := MX7_sue) (pc := 2) (M' := MX7_isClaim) (n := 1) (As := [.int a1]) (st := []) dX7_sue_2 cf7 rfl go_28 gc_28 rfl cat_i okX7_sue_X7_isClaim cwX7_181 (Nat.le_of_ble_eq_true rfl) ⟨Nat.zero_le _, Nat.zero_le _⟩ rfl (ls0 := [some (rf 28 0), some (.int a1)]) rfl (sX7_isClaim  hS) (fun r2 h1 hS => ?_)
  refine wz_if_ne (tgt := 15) dX7_sue_5 rfl (fun c3 => ?_) (fun c3 => ?_)
  · replace hS := hS.1 c3
    refine q_ald0 dX7_sue_15 (wz_getR dX7_sue_16 cf7 t435 (kf := 27) gr_28_27 gc_28 (q_ild1 dX7_sue_19 ?_))
    obtain ⟨hi4, hS⟩ := hS
    refine wz_iald dX7_sue_20 ga_46 gc_46 hi4 rfl (wz_iconst dX7_sue_21 kiconst_m1 ?_)
    refine wz_icmp_eq (tgt := 32) dX7_sue_22 rfl (fun c5 => ?_) (fun c5 => ?_)
    · replace hS := hS.1 c5
      refine q_ald0 dX7_sue_32 (wz_getR dX7_sue_33 cf7 t435 (kf := 27) gr_28_27 gc_28 (q_ild1 dX7_sue_36 (q_ald0 dX7_sue_37 (wz_getI dX7_sue_38 cf7 t399 (kf := 8) gi_28_8 gc_28 rfl (wz_iast dX7_sue_41 ga_46 gc_46 hi4 rfl (wz_iconst dX7_sue_42 kiconst_1 ?_))))))
      exact wi_ret dX7_sue_43 rfl hS
    · replace hS := hS.2 c5
      refine q_ald0 dX7_sue_25 (wz_ldc dX7_sue_26 t382 ?_)
      refine wz_virtI (M := MX7_sue) (pc := 28) (M' := MX7_finds) (n := 1) (As := [.int (-1000000003)]) (st := []) dX7_sue_28 cf7 rfl go_28 gc_28 rfl cat_i okX7_sue_X7_finds cwX7_132 (Nat.le_of_ble_eq_true rfl) ⟨Nat.zero_le _, Nat.zero_le _⟩ rfl (ls0 := [some (rf 28 0), some (.int (-1000000003))]) rfl (sX7_finds  hS) (fun r7 h6 hS => ?_)
      exact wi_ret dX7_sue_31 rfl hS
  · replace hS := hS.2 c3
    refine q_ald0 dX7_sue_8 (wz_ldc dX7_sue_9 t370 ?_)
    refine wz_virtI (M := MX7_sue) (pc := 11) (M' := MX7_finds) (n := 1) (As := [.int (-1000000001)]) (st := []) dX7_sue_11 cf7 rfl go_28 gc_28 rfl cat_i okX7_sue_X7_finds cwX7_132 (Nat.le_of_ble_eq_true rfl) ⟨Nat.zero_le _, Nat.zero_le _⟩ rfl (ls0 := [some (rf 28 0), some (.int (-1000000001))]) rfl (sX7_finds  hS) (fun r9 h8 hS => ?_)
    exact wi_ret dX7_sue_14 rfl hS
def SX7_bond (E : EN) (a1 : Int32) (a2 : Int32) (h : TH) (Q : Int32 → TH → Prop) : Prop := SX7_isClaim E a1 h (fun r2 h1 => ((r2 = 0 → SX7_finds E (-1000000001) h1 (fun r5 h4 => Q r5 h4)) ∧ (¬ r2 = 0 → SX7_isIn E a2 0 1 h1 (fun r7 h6 => ((¬ r7 = 0 → vp_in a1 16 ∧ (((h6 47 0 (a1.toNatClampNeg)) = 0 → ((¬ a2 = 1 → Q 0 (up h6 47 0 (a1.toNatClampNeg) 0)) ∧ (a2 = 1 → Q 0 (up h6 47 0 (a1.toNatClampNeg) 1)))) ∧ (¬ (h6 47 0 (a1.toNatClampNeg)) = 0 → ((¬ a2 = 1 → Q 1 (up h6 47 0 (a1.toNatClampNeg) 0)) ∧ (a2 = 1 → Q 1 (up h6 47 0 (a1.toNatClampNeg) 1)))))) ∧ (r7 = 0 → SX7_finds E (-1000000001) h6 (fun r14 h13 => Q r14 h13)))))))
set_option maxRecDepth 20000 in
theorem sX7_bond {E : EN} {a1 : Int32} {a2 : Int32} {h : TH} {Q : Int32 → TH → Prop}  (hS : SX7_bond E a1 a2 h Q) : wi E MX7_bond Q 0 [some (rf 28 0), some (.int a1), some (.int a2), none] [] h := by
  refine q_ald0 dX7_bond_0 (q_ild1 dX7_bond_1 ?_)
  refine wz_virtI (M := MX7_bond) (pc := 2) (M' := MX7_isClaim) (n := 1) (As := [.int a1]) (st := []) dX7_bond_2 cf7 rfl go_28 gc_28 rfl cat_i okX7_bond_X7_isClaim cwX7_181 (Nat.le_of_ble_eq_true rfl) ⟨Nat.zero_le _, Nat.zero_le _⟩ rfl (ls0 := [some (rf 28 0), some (.int a1)]) rfl (sX7_isClaim  hS) (fun r2 h1 hS => ?_)
  refine wz_if_eq (tgt := 17) dX7_bond_5 rfl (fun c3 => ?_) (fun c3 => ?_)
  · replace hS := hS.1 c3
    refine q_ald0 dX7_bond_17 (wz_ldc dX7_bond_18 t370 ?_)
    refine wz_virtI (M := MX7_bond) (pc := 20) (M' := MX7_finds) (n := 1) (As := [.int (-1000000001)]) (st := []) dX7_bond_20 cf7 rfl go_28 gc_28 rfl cat_i okX7_bond_X7_finds cwX7_132 (Nat.le_of_ble_eq_true rfl) ⟨Nat.zero_le _, Nat.zero_le _⟩ rfl (ls0 := [some (rf 28 0), some (.int (-1000000001))]) rfl (sX7_finds  hS) (fun r5 h4 hS => ?_)
    exact wi_ret dX7_bond_23 rfl hS
  · replace hS := hS.2 c3
    refine q_ild2 dX7_bond_8 (wz_iconst dX7_bond_9 kiconst_0 (wz_iconst dX7_bond_10 kiconst_1 ?_))
    refine wz_statI (M := MX7_bond) (pc := 11) (M' := MX7_isIn) (n := 3) (As := [.int a2, .int 0, .int 1]) (st := []) dX7_bond_11 rfl cat_iii okX7_bond_X7_isIn cwX7_121 (Nat.le_of_ble_eq_true rfl) ⟨Nat.zero_le _, Nat.zero_le _⟩ rfl (ls0 := [some (.int a2), some (.int 0), some (.int 1)]) rfl (sX7_isIn  hS) (fun r7 h6 hS => ?_)
    refine wz_if_ne (tgt := 24) dX7_bond_14 rfl (fun c8 => ?_) (fun c8 => ?_)
    · replace hS := hS.1 c8
      refine q_ald0 dX7_bond_24 (wz_getR dX7_bond_25 cf7 t436 (kf := 28) gr_28_28 gc_28 (q_ild1 dX7_bond_28 ?_))
      obtain ⟨hi9, hS⟩ := hS
      refine wz_zald dX7_bond_29 ga_47 gc_47 hi9 rfl ?_
      refine wz_if_eq (tgt := 37) dX7_bond_30 rfl (fun c10 => ?_) (fun c10 => ?_)
      · replace hS := hS.1 c10
        refine wz_iconst dX7_bond_37 kiconst_0 (q_ist3 dX7_bond_38 (ltX7_bond_3) rfl (q_ald0 dX7_bond_39 (wz_getR dX7_bond_40 cf7 t436 (kf := 28) gr_28_28 gc_28 (q_ild1 dX7_bond_43 (q_ild2 dX7_bond_44 (wz_iconst dX7_bond_45 kiconst_1 ?_))))))
        refine wz_icmp_ne (tgt := 53) dX7_bond_46 rfl (fun c11 => ?_) (fun c11 => ?_)
        · replace hS := hS.1 c11
          refine wz_iconst dX7_bond_53 kiconst_0 (wz_zast dX7_bond_54 ga_47 gc_47 hi9 (isB_nar isB_0) rfl (q_ild3 dX7_bond_55 ?_))
          exact wi_ret dX7_bond_56 rfl hS
        · replace hS := hS.2 c11
          refine wz_iconst dX7_bond_49 kiconst_1 (wz_goto (tgt := 54) dX7_bond_50 rfl (wz_zast dX7_bond_54 ga_47 gc_47 hi9 (isB_nar isB_1) rfl (q_ild3 dX7_bond_55 ?_)))
          exact wi_ret dX7_bond_56 rfl hS
      · replace hS := hS.2 c10
        refine wz_iconst dX7_bond_33 kiconst_1 (wz_goto (tgt := 38) dX7_bond_34 rfl (q_ist3 dX7_bond_38 (ltX7_bond_3) rfl (q_ald0 dX7_bond_39 (wz_getR dX7_bond_40 cf7 t436 (kf := 28) gr_28_28 gc_28 (q_ild1 dX7_bond_43 (q_ild2 dX7_bond_44 (wz_iconst dX7_bond_45 kiconst_1 ?_)))))))
        refine wz_pc (pc2 := 46) rfl ?_
        refine wz_icmp_ne (tgt := 53) dX7_bond_46 rfl (fun c12 => ?_) (fun c12 => ?_)
        · replace hS := hS.1 c12
          refine wz_iconst dX7_bond_53 kiconst_0 (wz_zast dX7_bond_54 ga_47 gc_47 hi9 (isB_nar isB_0) rfl (q_ild3 dX7_bond_55 ?_))
          exact wi_ret dX7_bond_56 rfl hS
        · replace hS := hS.2 c12
          refine wz_iconst dX7_bond_49 kiconst_1 (wz_goto (tgt := 54) dX7_bond_50 rfl (wz_zast dX7_bond_54 ga_47 gc_47 hi9 (isB_nar isB_1) rfl (q_ild3 dX7_bond_55 ?_)))
          exact wi_ret dX7_bond_56 rfl hS
    · replace hS := hS.2 c8
      refine q_ald0 dX7_bond_17 (wz_ldc dX7_bond_18 t370 ?_)
      refine wz_virtI (M := MX7_bond) (pc := 20) (M' := MX7_finds) (n := 1) (As := [.int (-1000000001)]) (st := []) dX7_bond_20 cf7 rfl go_28 gc_28 rfl cat_i okX7_bond_X7_finds cwX7_132 (Nat.le_of_ble_eq_true rfl) ⟨Nat.zero_le _, Nat.zero_le _⟩ rfl (ls0 := [some (rf 28 0), some (.int (-1000000001))]) rfl (sX7_finds  hS) (fun r14 h13 hS => ?_)
      exact wi_ret dX7_bond_23 rfl hS
def SX7_late (E : EN) (a0 : Int32) (a1 : Int32) (a2 : Int32) (a3 : Int32) (h : TH) (Q : Int32 → TH → Prop) : Prop := ((a0 ≤ (a2 + a3) → ((a0 ≤ (a1 + a3) → Q 0 h) ∧ (¬ a0 ≤ (a1 + a3) → Q 1 h))) ∧ (¬ a0 ≤ (a2 + a3) → Q 2 h))
set_option maxRecDepth 20000 in
theorem sX7_late {E : EN} {a0 : Int32} {a1 : Int32} {a2 : Int32} {a3 : Int32} {h : TH} {Q : Int32 → TH → Prop}  (hS : SX7_late E a0 a1 a2 a3 h Q) : wi E MX7_late Q 0 [some (.int a0), some (.int a1), some (.int a2), some (.int a3)] [] h := by
  refine q_ild0 dX7_late_0 (q_ild2 dX7_late_1 (q_ild3 dX7_late_2 (wz_iadd dX7_late_3 ?_)))
  refine wz_icmp_le (tgt := 11) dX7_late_4 rfl (fun c1 => ?_) (fun c1 => ?_)
  · replace hS := hS.1 c1
    refine q_ild0 dX7_late_11 (q_ild1 dX7_late_12 (q_ild3 dX7_late_13 (wz_iadd dX7_late_14 ?_)))
    refine wz_icmp_le (tgt := 22) dX7_late_15 rfl (fun c2 => ?_) (fun c2 => ?_)
    · replace hS := hS.1 c2
      refine wz_iconst dX7_late_22 kiconst_0 ?_
      exact wi_ret dX7_late_23 rfl hS
    · replace hS := hS.2 c2
      refine wz_iconst dX7_late_18 kiconst_1 (wz_goto (tgt := 23) dX7_late_19 rfl ?_)
      exact wi_ret dX7_late_23 rfl hS
  · replace hS := hS.2 c1
    refine wz_iconst dX7_late_7 kiconst_2 (wz_goto (tgt := 23) dX7_late_8 rfl ?_)
    exact wi_ret dX7_late_23 rfl hS
def SX7_barred (E : EN) (a1 : Int32) (a2 : Int32) (a3 : Int32) (h : TH) (Q : Int32 → TH → Prop) : Prop := vp_in a1 16 ∧ ((a2 = (1 : Int32) → wi E MX7_degree (fun r4 h3 => ((r4 ≤ (h3 42 0 3) → Q 0 h3) ∧ (¬ r4 ≤ (h3 42 0 3) → Q 2 h3))) 0 [some (rf 28 0), some (.int (h 43 0 (a1.toNatClampNeg))), none, none] [] h) ∧ (a2 = (2 : Int32) → wi E MX7_degree (fun r8 h7 => ((2 ≤ r8 → vp_in (h 43 0 (a1.toNatClampNeg)) 10 ∧ ((¬ (h7 34 0 ((h 43 0 (a1.toNatClampNeg)).toNatClampNeg)) = (-1) → SX7_late E (h7 34 0 ((h 43 0 (a1.toNatClampNeg)).toNatClampNeg)) (h7 35 0 ((h 43 0 (a1.toNatClampNeg)).toNatClampNeg)) (h7 36 0 ((h 43 0 (a1.toNatClampNeg)).toNatClampNeg)) (h7 42 0 0) h7 (fun r13 h12 => Q r13 h12)) ∧ ((h7 34 0 ((h 43 0 (a1.toNatClampNeg)).toNatClampNeg)) = (-1) → Q 2 h7))) ∧ (¬ 2 ≤ r8 → Q 0 h7))) 0 [some (rf 28 0), some (.int (h 43 0 (a1.toNatClampNeg))), none, none] [] h) ∧ (a2 = (3 : Int32) → vp_in (h 43 0 (a1.toNatClampNeg)) 10 ∧ ((¬ (h 37 0 ((h 43 0 (a1.toNatClampNeg)).toNatClampNeg)) = (-1) → SX7_late E (h 45 0 (a1.toNatClampNeg)) (h 37 0 ((h 43 0 (a1.toNatClampNeg)).toNatClampNeg)) (h 38 0 ((h 43 0 (a1.toNatClampNeg)).toNatClampNeg)) (h 42 0 1) h (fun r18 h17 => Q r18 h17)) ∧ ((h 37 0 ((h 43 0 (a1.toNatClampNeg)).toNatClampNeg)) = (-1) → Q 0 h))) ∧ (a2 = (4 : Int32) → ((a3 ≤ ((h 45 0 (a1.toNatClampNeg)) + (h 42 0 2)) → Q 0 h) ∧ (¬ a3 ≤ ((h 45 0 (a1.toNatClampNeg)) + (h 42 0 2)) → (((h 46 0 (a1.toNatClampNeg)) = (-1) → Q 2 h) ∧ (¬ (h 46 0 (a1.toNatClampNeg)) = (-1) → (((h 46 0 (a1.toNatClampNeg)) ≤ ((h 45 0 (a1.toNatClampNeg)) + (h 42 0 2)) → Q 0 h) ∧ (¬ (h 46 0 (a1.toNatClampNeg)) ≤ ((h 45 0 (a1.toNatClampNeg)) + (h 42 0 2)) → Q 2 h))))))) ∧ (¬ a2 = (1 : Int32) → ¬ a2 = (2 : Int32) → ¬ a2 = (3 : Int32) → ¬ a2 = (4 : Int32) → SX7_open E (h 43 0 (a1.toNatClampNeg)) h (fun r24 h23 => ((¬ r24 = 0 → Q 0 h23) ∧ (r24 = 0 → Q 2 h23)))))
set_option maxRecDepth 20000 in
theorem sX7_barred {E : EN} {a1 : Int32} {a2 : Int32} {a3 : Int32} {h : TH} {Q : Int32 → TH → Prop}  (hS : SX7_barred E a1 a2 a3 h Q) : wi E MX7_barred Q 0 [some (rf 28 0), some (.int a1), some (.int a2), some (.int a3), none] [] h := by
  refine q_ald0 dX7_barred_0 (wz_getR dX7_barred_1 cf7 t432 (kf := 24) gr_28_24 gc_28 (q_ild1 dX7_barred_4 ?_))
  obtain ⟨hi1, hS⟩ := hS
  refine wz_iald dX7_barred_5 ga_43 gc_43 hi1 rfl (q_ist4 dX7_barred_6 (ltX7_barred_4) rfl (q_ild2 dX7_barred_8 ?_))
  by_cases q2 : a2 = (1 : Int32)
  · refine wz_tab1 (tgt := 40) (j := 0) dX7_barred_9 (by rw [q2]; decide) (by decide) (by decide) rfl rfl ?_
    replace hS := hS.1 q2
    refine q_ald0 dX7_barred_40 (q_ild4 dX7_barred_41 ?_)
    refine wz_virtI (M := MX7_barred) (pc := 43) (M' := MX7_degree) (n := 1) (As := [.int (h 43 0 (a1.toNatClampNeg))]) (st := []) dX7_barred_43 cf7 rfl go_28 gc_28 rfl cat_i okX7_barred_X7_degree cwX7_175 (Nat.le_of_ble_eq_true rfl) ⟨Nat.zero_le _, Nat.zero_le _⟩ rfl (ls0 := [some (rf 28 0), some (.int (h 43 0 (a1.toNatClampNeg))), none, none]) rfl hS (fun r4 h3 hS => ?_)
    refine q_ald0 dX7_barred_46 (wz_getR dX7_barred_47 cf7 t428 (kf := 23) gr_28_23 gc_28 (wz_iconst dX7_barred_50 kiconst_3 (wz_iald (v := (h3 42 0 3)) dX7_barred_51 ga_42 gc_42 vi_3_6 (congrArg (h3 42 0) cl_3) ?_)))
    refine wz_icmp_le (tgt := 59) dX7_barred_52 rfl (fun c5 => ?_) (fun c5 => ?_)
    · replace hS := hS.1 c5
      refine wz_iconst dX7_barred_59 kiconst_0 ?_
      exact wi_ret dX7_barred_60 rfl hS
    · replace hS := hS.2 c5
      refine wz_iconst dX7_barred_55 kiconst_2 (wz_goto (tgt := 60) dX7_barred_56 rfl ?_)
      exact wi_ret dX7_barred_60 rfl hS
  by_cases q6 : a2 = (2 : Int32)
  · refine wz_tab1 (tgt := 61) (j := 1) dX7_barred_9 (by rw [q6]; decide) (by decide) (by decide) rfl rfl ?_
    replace hS := hS.2.1 q6
    refine q_ald0 dX7_barred_61 (q_ild4 dX7_barred_62 ?_)
    refine wz_virtI (M := MX7_barred) (pc := 64) (M' := MX7_degree) (n := 1) (As := [.int (h 43 0 (a1.toNatClampNeg))]) (st := []) dX7_barred_64 cf7 rfl go_28 gc_28 rfl cat_i okX7_barred_X7_degree cwX7_175 (Nat.le_of_ble_eq_true rfl) ⟨Nat.zero_le _, Nat.zero_le _⟩ rfl (ls0 := [some (rf 28 0), some (.int (h 43 0 (a1.toNatClampNeg))), none, none]) rfl hS (fun r8 h7 hS => ?_)
    refine wz_iconst dX7_barred_67 kiconst_2 ?_
    refine wz_icmp_ge (tgt := 75) dX7_barred_68 rfl (fun c9 => ?_) (fun c9 => ?_)
    · replace hS := hS.1 c9
      refine q_ald0 dX7_barred_75 (wz_getR dX7_barred_76 cf7 t385 (kf := 15) gr_28_15 gc_28 (q_ild4 dX7_barred_79 ?_))
      obtain ⟨hi10, hS⟩ := hS
      refine wz_iald dX7_barred_81 ga_34 gc_34 hi10 rfl (wz_iconst dX7_barred_82 kiconst_m1 ?_)
      refine wz_icmp_ne (tgt := 90) dX7_barred_83 rfl (fun c11 => ?_) (fun c11 => ?_)
      · replace hS := hS.1 c11
        refine q_ald0 dX7_barred_90 (wz_getR dX7_barred_91 cf7 t385 (kf := 15) gr_28_15 gc_28 (q_ild4 dX7_barred_94 (wz_iald dX7_barred_96 ga_34 gc_34 hi10 rfl (q_ald0 dX7_barred_97 (wz_getR dX7_barred_98 cf7 t386 (kf := 16) gr_28_16 gc_28 (q_ild4 dX7_barred_101 (wz_iald dX7_barred_103 ga_35 gc_35 hi10 rfl ?_)))))))
        refine wz_pc (pc2 := 104) rfl ?_
        refine q_ald0 dX7_barred_104 (wz_getR dX7_barred_105 cf7 t387 (kf := 17) gr_28_17 gc_28 (q_ild4 dX7_barred_108 (wz_iald dX7_barred_110 ga_36 gc_36 hi10 rfl (q_ald0 dX7_barred_111 (wz_getR dX7_barred_112 cf7 t428 (kf := 23) gr_28_23 gc_28 (wz_iconst dX7_barred_115 kiconst_0 (wz_iald (v := (h7 42 0 0)) dX7_barred_116 ga_42 gc_42 vi_0_6 (congrArg (h7 42 0) cl_0) ?_)))))))
        refine wz_pc (pc2 := 117) rfl ?_
        refine wz_statI (M := MX7_barred) (pc := 117) (M' := MX7_late) (n := 4) (As := [.int (h7 34 0 ((h 43 0 (a1.toNatClampNeg)).toNatClampNeg)), .int (h7 35 0 ((h 43 0 (a1.toNatClampNeg)).toNatClampNeg)), .int (h7 36 0 ((h 43 0 (a1.toNatClampNeg)).toNatClampNeg)), .int (h7 42 0 0)]) (st := []) dX7_barred_117 rfl cat_iiii okX7_barred_X7_late cwX7_184 (Nat.le_of_ble_eq_true rfl) ⟨Nat.zero_le _, Nat.zero_le _⟩ rfl (ls0 := [some (.int (h7 34 0 ((h 43 0 (a1.toNatClampNeg)).toNatClampNeg))), some (.int (h7 35 0 ((h 43 0 (a1.toNatClampNeg)).toNatClampNeg))), some (.int (h7 36 0 ((h 43 0 (a1.toNatClampNeg)).toNatClampNeg))), some (.int (h7 42 0 0))]) rfl (sX7_late  hS) (fun r13 h12 hS => ?_)
        exact wi_ret dX7_barred_120 rfl hS
      · replace hS := hS.2 c11
        refine wz_iconst dX7_barred_86 kiconst_2 (wz_goto (tgt := 120) dX7_barred_87 rfl ?_)
        exact wi_ret dX7_barred_120 rfl hS
    · replace hS := hS.2 c9
      refine wz_iconst dX7_barred_71 kiconst_0 (wz_goto (tgt := 120) dX7_barred_72 rfl ?_)
      exact wi_ret dX7_barred_120 rfl hS
  by_cases q14 : a2 = (3 : Int32)
  · refine wz_tab1 (tgt := 121) (j := 2) dX7_barred_9 (by rw [q14]; decide) (by decide) (by decide) rfl rfl ?_
    replace hS := hS.2.2.1 q14
    refine q_ald0 dX7_barred_121 (wz_getR dX7_barred_122 cf7 t388 (kf := 18) gr_28_18 gc_28 (q_ild4 dX7_barred_125 ?_))
    obtain ⟨hi15, hS⟩ := hS
    refine wz_iald dX7_barred_127 ga_37 gc_37 hi15 rfl (wz_iconst dX7_barred_128 kiconst_m1 ?_)
    refine wz_icmp_ne (tgt := 136) dX7_barred_129 rfl (fun c16 => ?_) (fun c16 => ?_)
    · replace hS := hS.1 c16
      refine q_ald0 dX7_barred_136 (wz_getR dX7_barred_137 cf7 t434 (kf := 26) gr_28_26 gc_28 (q_ild1 dX7_barred_140 (wz_iald dX7_barred_141 ga_45 gc_45 hi1 rfl (q_ald0 dX7_barred_142 (wz_getR dX7_barred_143 cf7 t388 (kf := 18) gr_28_18 gc_28 (q_ild4 dX7_barred_146 (wz_iald dX7_barred_148 ga_37 gc_37 hi15 rfl ?_)))))))
      refine wz_pc (pc2 := 149) rfl ?_
      refine q_ald0 dX7_barred_149 (wz_getR dX7_barred_150 cf7 t389 (kf := 19) gr_28_19 gc_28 (q_ild4 dX7_barred_153 (wz_iald dX7_barred_155 ga_38 gc_38 hi15 rfl (q_ald0 dX7_barred_156 (wz_getR dX7_barred_157 cf7 t428 (kf := 23) gr_28_23 gc_28 (wz_iconst dX7_barred_160 kiconst_1 (wz_iald (v := (h 42 0 1)) dX7_barred_161 ga_42 gc_42 vi_1_6 (congrArg (h 42 0) cl_1) ?_)))))))
      refine wz_pc (pc2 := 162) rfl ?_
      refine wz_statI (M := MX7_barred) (pc := 162) (M' := MX7_late) (n := 4) (As := [.int (h 45 0 (a1.toNatClampNeg)), .int (h 37 0 ((h 43 0 (a1.toNatClampNeg)).toNatClampNeg)), .int (h 38 0 ((h 43 0 (a1.toNatClampNeg)).toNatClampNeg)), .int (h 42 0 1)]) (st := []) dX7_barred_162 rfl cat_iiii okX7_barred_X7_late cwX7_184 (Nat.le_of_ble_eq_true rfl) ⟨Nat.zero_le _, Nat.zero_le _⟩ rfl (ls0 := [some (.int (h 45 0 (a1.toNatClampNeg))), some (.int (h 37 0 ((h 43 0 (a1.toNatClampNeg)).toNatClampNeg))), some (.int (h 38 0 ((h 43 0 (a1.toNatClampNeg)).toNatClampNeg))), some (.int (h 42 0 1))]) rfl (sX7_late  hS) (fun r18 h17 hS => ?_)
      exact wi_ret dX7_barred_165 rfl hS
    · replace hS := hS.2 c16
      refine wz_iconst dX7_barred_132 kiconst_0 (wz_goto (tgt := 165) dX7_barred_133 rfl ?_)
      exact wi_ret dX7_barred_165 rfl hS
  by_cases q19 : a2 = (4 : Int32)
  · refine wz_tab1 (tgt := 166) (j := 3) dX7_barred_9 (by rw [q19]; decide) (by decide) (by decide) rfl rfl ?_
    replace hS := hS.2.2.2.1 q19
    refine q_ild3 dX7_barred_166 (q_ald0 dX7_barred_167 (wz_getR dX7_barred_168 cf7 t434 (kf := 26) gr_28_26 gc_28 (q_ild1 dX7_barred_171 (wz_iald dX7_barred_172 ga_45 gc_45 hi1 rfl (q_ald0 dX7_barred_173 (wz_getR dX7_barred_174 cf7 t428 (kf := 23) gr_28_23 gc_28 (wz_iconst dX7_barred_177 kiconst_2 ?_)))))))
    refine wz_pc (pc2 := 178) rfl ?_
    refine wz_iald (v := (h 42 0 2)) dX7_barred_178 ga_42 gc_42 vi_2_6 (congrArg (h 42 0) cl_2) (wz_iadd dX7_barred_179 ?_)
    refine wz_icmp_le (tgt := 219) dX7_barred_180 rfl (fun c20 => ?_) (fun c20 => ?_)
    · replace hS := hS.1 c20
      refine wz_iconst dX7_barred_219 kiconst_0 ?_
      exact wi_ret dX7_barred_220 rfl hS
    · replace hS := hS.2 c20
      refine q_ald0 dX7_barred_183 (wz_getR dX7_barred_184 cf7 t435 (kf := 27) gr_28_27 gc_28 (q_ild1 dX7_barred_187 (wz_iald dX7_barred_188 ga_46 gc_46 hi1 rfl (wz_iconst dX7_barred_189 kiconst_m1 ?_))))
      refine wz_icmp_eq (tgt := 215) dX7_barred_190 rfl (fun c21 => ?_) (fun c21 => ?_)
      · replace hS := hS.1 c21
        refine wz_iconst dX7_barred_215 kiconst_2 (wz_goto (tgt := 220) dX7_barred_216 rfl ?_)
        exact wi_ret dX7_barred_220 rfl hS
      · replace hS := hS.2 c21
        refine q_ald0 dX7_barred_193 (wz_getR dX7_barred_194 cf7 t435 (kf := 27) gr_28_27 gc_28 (q_ild1 dX7_barred_197 (wz_iald dX7_barred_198 ga_46 gc_46 hi1 rfl (q_ald0 dX7_barred_199 (wz_getR dX7_barred_200 cf7 t434 (kf := 26) gr_28_26 gc_28 (q_ild1 dX7_barred_203 (wz_iald dX7_barred_204 ga_45 gc_45 hi1 rfl ?_)))))))
        refine wz_pc (pc2 := 205) rfl ?_
        refine q_ald0 dX7_barred_205 (wz_getR dX7_barred_206 cf7 t428 (kf := 23) gr_28_23 gc_28 (wz_iconst dX7_barred_209 kiconst_2 (wz_iald (v := (h 42 0 2)) dX7_barred_210 ga_42 gc_42 vi_2_6 (congrArg (h 42 0) cl_2) (wz_iadd dX7_barred_211 ?_))))
        refine wz_icmp_le (tgt := 219) dX7_barred_212 rfl (fun c22 => ?_) (fun c22 => ?_)
        · replace hS := hS.1 c22
          refine wz_iconst dX7_barred_219 kiconst_0 ?_
          exact wi_ret dX7_barred_220 rfl hS
        · replace hS := hS.2 c22
          refine wz_iconst dX7_barred_215 kiconst_2 (wz_goto (tgt := 220) dX7_barred_216 rfl ?_)
          exact wi_ret dX7_barred_220 rfl hS
  refine wz_tabD (tgt := 221) dX7_barred_9 (tab_out (lo := 1) (n := 4) (by decide) (by decide) (fun j hj => match j, hj with | 0, _ => fun z => q2 (Int32.toInt_inj.mp (z.trans (by decide))) | 1, _ => fun z => q6 (Int32.toInt_inj.mp (z.trans (by decide))) | 2, _ => fun z => q14 (Int32.toInt_inj.mp (z.trans (by decide))) | 3, _ => fun z => q19 (Int32.toInt_inj.mp (z.trans (by decide))) | j + 4, hj => absurd hj (by omega))) rfl ?_
  replace hS := hS.2.2.2.2 q2 q6 q14 q19
  refine q_ald0 dX7_barred_221 (q_ild4 dX7_barred_222 ?_)
  refine wz_virtI (M := MX7_barred) (pc := 224) (M' := MX7_open) (n := 1) (As := [.int (h 43 0 (a1.toNatClampNeg))]) (st := []) dX7_barred_224 cf7 rfl go_28 gc_28 rfl cat_i okX7_barred_X7_open cwX7_172 (Nat.le_of_ble_eq_true rfl) ⟨Nat.zero_le _, Nat.zero_le _⟩ rfl (ls0 := [some (rf 28 0), some (.int (h 43 0 (a1.toNatClampNeg))), none, none]) rfl (sX7_open  hS) (fun r24 h23 hS => ?_)
  refine wz_if_ne (tgt := 234) dX7_barred_227 rfl (fun c25 => ?_) (fun c25 => ?_)
  · replace hS := hS.1 c25
    refine wz_iconst dX7_barred_234 kiconst_0 ?_
    exact wi_ret dX7_barred_235 rfl hS
  · replace hS := hS.2 c25
    refine wz_iconst dX7_barred_230 kiconst_2 (wz_goto (tgt := 235) dX7_barred_231 rfl ?_)
    exact wi_ret dX7_barred_235 rfl hS
