def SX6_isKindNumber (E : EN) (a0 : Int32) (h : TH) (Q : Int32 → TH → Prop) : Prop := SX6_within E a0 0 3 h (fun r2 h1 => (isB r2 ∧ Q r2 h1))
set_option maxRecDepth 20000 in
theorem sX6_isKindNumber {E : EN} {a0 : Int32} {h : TH} {Q : Int32 → TH → Prop}  (hS : SX6_isKindNumber E a0 h Q) : wi E MX6_isKindNumber Q 0 [some (.int a0)] [] h := by
  refine q_ild0 dX6_isKindNumber_0 (wz_iconst dX6_isKindNumber_1 kiconst_0 (wz_iconst dX6_isKindNumber_2 kiconst_3 ?_))
  refine wz_statI (M := MX6_isKindNumber) (pc := 3) (M' := MX6_within) (n := 3) (As := [.int a0, .int 0, .int 3]) (st := []) dX6_isKindNumber_3 rfl cat_iii okX6_isKindNumber_X6_within cwX6_74 (Nat.le_of_ble_eq_true rfl) ⟨Nat.zero_le _, Nat.zero_le _⟩ rfl (ls0 := [some (.int a0), some (.int 0), some (.int 3)]) rfl (sX6_within  hS) (fun r2 h1 hS => ?_)
  exact wi_zret dX6_isKindNumber_6 rfl (isB_nar hS.1) hS.2
def SX6_finding (E : EN) (a1 : Int32) (h : TH) (Q : Int32 → TH → Prop) : Prop := vp_in a1 6 ∧ Q ((-1000000000) - a1) (up h 27 0 (a1.toNatClampNeg) ((h 27 0 (a1.toNatClampNeg)) + 1))
set_option maxRecDepth 20000 in
theorem sX6_finding {E : EN} {a1 : Int32} {h : TH} {Q : Int32 → TH → Prop}  (hS : SX6_finding E a1 h Q) : wi E MX6_finding Q 0 [some (rf 0 0), some (.int a1)] [] h := by
  refine q_ald0 dX6_finding_0 (wz_getR dX6_finding_1 cf6 t191 (kf := 9) gr_0_9 gc_0 (q_ild1 dX6_finding_4 (wz_dup2 dX6_finding_5 rfl rfl ?_)))
  obtain ⟨hi1, hS⟩ := hS
  refine wz_iald dX6_finding_6 ga_27 gc_27 hi1 rfl (wz_iconst dX6_finding_7 kiconst_1 (wz_iadd dX6_finding_8 (wz_iast dX6_finding_9 ga_27 gc_27 hi1 rfl (wz_ldcw dX6_finding_10 t192 (q_ild1 dX6_finding_13 (wz_isub dX6_finding_14 ?_))))))
  exact wi_ret dX6_finding_15 rfl hS
def SX6_party (E : EN) (a1 : Int32) (h : TH) (Q : Int32 → TH → Prop) : Prop := SX6_isKindNumber E a1 h (fun r2 h1 => ((¬ r2 = 0 → (((h1 0 0 1) < 12 → vp_in (h1 0 0 1) 12 ∧ Q (((h1 0 0 1) + 1) - 1) (up (up h1 1 0 ((h1 0 0 1).toNatClampNeg) a1) 0 0 1 ((h1 0 0 1) + 1))) ∧ (¬ (h1 0 0 1) < 12 → SX6_finding E 4 h1 (fun r7 h6 => Q r7 h6)))) ∧ (r2 = 0 → SX6_finding E 1 h1 (fun r9 h8 => Q r9 h8))))
set_option maxRecDepth 20000 in
theorem sX6_party {E : EN} {a1 : Int32} {h : TH} {Q : Int32 → TH → Prop}  (hS : SX6_party E a1 h Q) : wi E MX6_party Q 0 [some (rf 0 0), some (.int a1)] [] h := by
  refine q_ild1 dX6_party_0 ?_
  refine wz_statI (M := MX6_party) (pc := 1) (M' := MX6_isKindNumber) (n := 1) (As := [.int a1]) (st := []) dX6_party_1 rfl cat_i okX6_party_X6_isKindNumber cwX6_55 (Nat.le_of_ble_eq_true rfl) ⟨Nat.zero_le _, Nat.zero_le _⟩ rfl (ls0 := [some (.int a1)]) rfl (sX6_isKindNumber  hS) (fun r2 h1 hS => ?_)
  refine wz_if_ne (tgt := 13) dX6_party_4 rfl (fun c3 => ?_) (fun c3 => ?_)
  · replace hS := hS.1 c3
    refine q_ald0 dX6_party_13 (wz_getI dX6_party_14 cf6 t193 (kf := 1) gi_0_1 gc_0 rfl (wz_bipush dX6_party_17 kbipush_12 ?_))
    refine wz_icmp_lt (tgt := 28) dX6_party_19 rfl (fun c4 => ?_) (fun c4 => ?_)
    · replace hS := hS.1 c4
      refine q_ald0 dX6_party_28 (wz_getR dX6_party_29 cf6 t194 (kf := 0) gr_0_0 gc_0 (q_ald0 dX6_party_32 (wz_getI dX6_party_33 cf6 t193 (kf := 1) gi_0_1 gc_0 rfl (q_ild1 dX6_party_36 ?_))))
      obtain ⟨hi5, hS⟩ := hS
      refine wz_iast dX6_party_37 ga_1 gc_1 hi5 rfl (q_ald0 dX6_party_38 (wz_dup dX6_party_39 rfl (wz_getI (v := (h1 0 0 1)) dX6_party_40 cf6 t193 (kf := 1) gi_0_1 gc_0 (by first | rfl | simp [up]) (wz_iconst dX6_party_43 kiconst_1 (wz_iadd dX6_party_44 (wz_putI dX6_party_45 cf6 t193 (kf := 1) gp_0_1 gc_0 rfl (q_ald0 dX6_party_48 ?_)))))))
      refine wz_pc (pc2 := 49) rfl ?_
      refine wz_getI (v := ((h1 0 0 1) + 1)) dX6_party_49 cf6 t193 (kf := 1) gi_0_1 gc_0 (by first | rfl | simp [up]) (wz_iconst dX6_party_52 kiconst_1 (wz_isub dX6_party_53 ?_))
      exact wi_ret dX6_party_54 rfl hS
    · replace hS := hS.2 c4
      refine q_ald0 dX6_party_22 (wz_iconst dX6_party_23 kiconst_4 ?_)
      refine wz_virtI (M := MX6_party) (pc := 24) (M' := MX6_finding) (n := 1) (As := [.int 4]) (st := []) dX6_party_24 cf6 rfl go_0 gc_0 rfl cat_i okX6_party_X6_finding cwX6_59 (Nat.le_of_ble_eq_true rfl) ⟨Nat.zero_le _, Nat.zero_le _⟩ rfl (ls0 := [some (rf 0 0), some (.int 4)]) rfl (sX6_finding  hS) (fun r7 h6 hS => ?_)
      exact wi_ret dX6_party_27 rfl hS
  · replace hS := hS.2 c3
    refine q_ald0 dX6_party_7 (wz_iconst dX6_party_8 kiconst_1 ?_)
    refine wz_virtI (M := MX6_party) (pc := 9) (M' := MX6_finding) (n := 1) (As := [.int 1]) (st := []) dX6_party_9 cf6 rfl go_0 gc_0 rfl cat_i okX6_party_X6_finding cwX6_59 (Nat.le_of_ble_eq_true rfl) ⟨Nat.zero_le _, Nat.zero_le _⟩ rfl (ls0 := [some (rf 0 0), some (.int 1)]) rfl (sX6_finding  hS) (fun r9 h8 hS => ?_)
    exact wi_ret dX6_party_12 rfl hS
def SX6_isParty (E : EN) (a1 : Int32) (h : TH) (Q : Int32 → TH → Prop) : Prop := SX6_within E a1 0 ((h 0 0 1) - 1) h (fun r2 h1 => (isB r2 ∧ Q r2 h1))
set_option maxRecDepth 20000 in
theorem sX6_isParty {E : EN} {a1 : Int32} {h : TH} {Q : Int32 → TH → Prop}  (hS : SX6_isParty E a1 h Q) : wi E MX6_isParty Q 0 [some (rf 0 0), some (.int a1)] [] h := by
  refine q_ild1 dX6_isParty_0 (wz_iconst dX6_isParty_1 kiconst_0 (q_ald0 dX6_isParty_2 (wz_getI dX6_isParty_3 cf6 t193 (kf := 1) gi_0_1 gc_0 rfl (wz_iconst dX6_isParty_6 kiconst_1 (wz_isub dX6_isParty_7 ?_)))))
  refine wz_statI (M := MX6_isParty) (pc := 8) (M' := MX6_within) (n := 3) (As := [.int a1, .int 0, .int ((h 0 0 1) - 1)]) (st := []) dX6_isParty_8 rfl cat_iii okX6_isParty_X6_within cwX6_74 (Nat.le_of_ble_eq_true rfl) ⟨Nat.zero_le _, Nat.zero_le _⟩ rfl (ls0 := [some (.int a1), some (.int 0), some (.int ((h 0 0 1) - 1))]) rfl (sX6_within  hS) (fun r2 h1 hS => ?_)
  exact wi_zret dX6_isParty_11 rfl (isB_nar hS.1) hS.2
def SX6_isOfKind (E : EN) (a1 : Int32) (a2 : Int32) (h : TH) (Q : Int32 → TH → Prop) : Prop := vp_in a1 12 ∧ ((a2 = 0 → Q 1 h) ∧ (¬ a2 = 0 → (((h 1 0 (a1.toNatClampNeg)) = a2 → Q 1 h) ∧ (¬ (h 1 0 (a1.toNatClampNeg)) = a2 → ((¬ (h 1 0 (a1.toNatClampNeg)) = 3 → Q 0 h) ∧ ((h 1 0 (a1.toNatClampNeg)) = 3 → ((¬ a2 = 2 → Q 0 h) ∧ (a2 = 2 → Q 1 h))))))))
set_option maxRecDepth 20000 in
theorem sX6_isOfKind {E : EN} {a1 : Int32} {a2 : Int32} {h : TH} {Q : Int32 → TH → Prop}  (hS : SX6_isOfKind E a1 a2 h Q) : wi E MX6_isOfKind Q 0 [some (rf 0 0), some (.int a1), some (.int a2), none] [] h := by
  refine q_ald0 dX6_isOfKind_0 (wz_getR dX6_isOfKind_1 cf6 t194 (kf := 0) gr_0_0 gc_0 (q_ild1 dX6_isOfKind_4 ?_))
  obtain ⟨hi1, hS⟩ := hS
  refine wz_iald dX6_isOfKind_5 ga_1 gc_1 hi1 rfl (q_ist3 dX6_isOfKind_6 (ltX6_isOfKind_3) rfl (q_ild2 dX6_isOfKind_7 ?_))
  refine wz_if_eq (tgt := 26) dX6_isOfKind_8 rfl (fun c2 => ?_) (fun c2 => ?_)
  · replace hS := hS.1 c2
    refine wz_iconst dX6_isOfKind_26 kiconst_1 (wz_goto (tgt := 31) dX6_isOfKind_27 rfl ?_)
    exact wi_zret dX6_isOfKind_31 rfl (isB_nar isB_1) hS
  · replace hS := hS.2 c2
    refine q_ild3 dX6_isOfKind_11 (q_ild2 dX6_isOfKind_12 ?_)
    refine wz_icmp_eq (tgt := 26) dX6_isOfKind_13 rfl (fun c3 => ?_) (fun c3 => ?_)
    · replace hS := hS.1 c3
      refine wz_iconst dX6_isOfKind_26 kiconst_1 (wz_goto (tgt := 31) dX6_isOfKind_27 rfl ?_)
      exact wi_zret dX6_isOfKind_31 rfl (isB_nar isB_1) hS
    · replace hS := hS.2 c3
      refine q_ild3 dX6_isOfKind_16 (wz_iconst dX6_isOfKind_17 kiconst_3 ?_)
      refine wz_icmp_ne (tgt := 30) dX6_isOfKind_18 rfl (fun c4 => ?_) (fun c4 => ?_)
      · replace hS := hS.1 c4
        refine wz_iconst dX6_isOfKind_30 kiconst_0 ?_
        exact wi_zret dX6_isOfKind_31 rfl (isB_nar isB_0) hS
      · replace hS := hS.2 c4
        refine q_ild2 dX6_isOfKind_21 (wz_iconst dX6_isOfKind_22 kiconst_2 ?_)
        refine wz_icmp_ne (tgt := 30) dX6_isOfKind_23 rfl (fun c5 => ?_) (fun c5 => ?_)
        · replace hS := hS.1 c5
          refine wz_iconst dX6_isOfKind_30 kiconst_0 ?_
          exact wi_zret dX6_isOfKind_31 rfl (isB_nar isB_0) hS
        · replace hS := hS.2 c5
          refine wz_iconst dX6_isOfKind_26 kiconst_1 (wz_goto (tgt := 31) dX6_isOfKind_27 rfl ?_)
          exact wi_zret dX6_isOfKind_31 rfl (isB_nar isB_1) hS
def SX6_as (E : EN) (a1 : Int32) (a2 : Int32) (h : TH) (Q : Int32 → TH → Prop) : Prop := SX6_isParty E a1 h (fun r2 h1 => ((r2 = 0 → SX6_finding E 1 h1 (fun r5 h4 => Q r5 h4)) ∧ (¬ r2 = 0 → SX6_isKindNumber E a2 h1 (fun r7 h6 => ((¬ r7 = 0 → SX6_isOfKind E a1 a2 h6 (fun r10 h9 => ((¬ r10 = 0 → wi E MX1_howManyPaidBy (fun r13 h12 => Q r13 h12) 0 [some (rf 2 0), some (.int a1), none, none] [] h9) ∧ (r10 = 0 → SX6_finding E 5 h9 (fun r15 h14 => Q r15 h14))))) ∧ (r7 = 0 → SX6_finding E 1 h6 (fun r17 h16 => Q r17 h16)))))))
set_option maxRecDepth 20000 in
theorem sX6_as {E : EN} {a1 : Int32} {a2 : Int32} {h : TH} {Q : Int32 → TH → Prop}  (hS : SX6_as E a1 a2 h Q) : wi E MX6_as Q 0 [some (rf 0 0), some (.int a1), some (.int a2)] [] h := by
  refine q_ald0 dX6_as_0 (q_ild1 dX6_as_1 ?_)
  refine wz_virtI (M := MX6_as) (pc := 2) (M' := MX6_isParty) (n := 1) (As := [.int a1]) (st := []) dX6_as_2 cf6 rfl go_0 gc_0 rfl cat_i okX6_as_X6_isParty cwX6_63 (Nat.le_of_ble_eq_true rfl) ⟨Nat.zero_le _, Nat.zero_le _⟩ rfl (ls0 := [some (rf 0 0), some (.int a1)]) rfl (sX6_isParty  hS) (fun r2 h1 hS => ?_)
  refine wz_if_eq (tgt := 15) dX6_as_5 rfl (fun c3 => ?_) (fun c3 => ?_)
  · replace hS := hS.1 c3
    refine q_ald0 dX6_as_15 (wz_iconst dX6_as_16 kiconst_1 ?_)
    refine wz_virtI (M := MX6_as) (pc := 17) (M' := MX6_finding) (n := 1) (As := [.int 1]) (st := []) dX6_as_17 cf6 rfl go_0 gc_0 rfl cat_i okX6_as_X6_finding cwX6_59 (Nat.le_of_ble_eq_true rfl) ⟨Nat.zero_le _, Nat.zero_le _⟩ rfl (ls0 := [some (rf 0 0), some (.int 1)]) rfl (sX6_finding  hS) (fun r5 h4 hS => ?_)
    exact wi_ret dX6_as_20 rfl hS
  · replace hS := hS.2 c3
    refine q_ild2 dX6_as_8 ?_
    refine wz_statI (M := MX6_as) (pc := 9) (M' := MX6_isKindNumber) (n := 1) (As := [.int a2]) (st := []) dX6_as_9 rfl cat_i okX6_as_X6_isKindNumber cwX6_55 (Nat.le_of_ble_eq_true rfl) ⟨Nat.zero_le _, Nat.zero_le _⟩ rfl (ls0 := [some (.int a2)]) rfl (sX6_isKindNumber  hS) (fun r7 h6 hS => ?_)
    refine wz_if_ne (tgt := 21) dX6_as_12 rfl (fun c8 => ?_) (fun c8 => ?_)
    · replace hS := hS.1 c8
      refine q_ald0 dX6_as_21 (q_ild1 dX6_as_22 (q_ild2 dX6_as_23 ?_))
      refine wz_virtI (M := MX6_as) (pc := 24) (M' := MX6_isOfKind) (n := 2) (As := [.int a1, .int a2]) (st := []) dX6_as_24 cf6 rfl go_0 gc_0 rfl cat_ii okX6_as_X6_isOfKind cwX6_66 (Nat.le_of_ble_eq_true rfl) ⟨Nat.zero_le _, Nat.zero_le _⟩ rfl (ls0 := [some (rf 0 0), some (.int a1), some (.int a2), none]) rfl (sX6_isOfKind  hS) (fun r10 h9 hS => ?_)
      refine wz_if_ne (tgt := 36) dX6_as_27 rfl (fun c11 => ?_) (fun c11 => ?_)
      · replace hS := hS.1 c11
        refine q_ald0 dX6_as_36 (wz_getR dX6_as_37 cf6 t202 (kf := 2) gr_0_2 gc_0 (q_ild1 dX6_as_40 ?_))
        refine wz_virtI (M := MX6_as) (pc := 41) (M' := MX1_howManyPaidBy) (n := 1) (As := [.int a1]) (st := []) dX6_as_41 cf1 rfl go_2 gc_2 rfl cat_i okX6_as_X1_howManyPaidBy cwX6_70 (Nat.le_of_ble_eq_true rfl) ⟨Nat.zero_le _, Nat.zero_le _⟩ rfl (ls0 := [some (rf 2 0), some (.int a1), none, none]) rfl hS (fun r13 h12 hS => ?_)
        exact wi_ret dX6_as_44 rfl hS
      · replace hS := hS.2 c11
        refine q_ald0 dX6_as_30 (wz_iconst dX6_as_31 kiconst_5 ?_)
        refine wz_virtI (M := MX6_as) (pc := 32) (M' := MX6_finding) (n := 1) (As := [.int 5]) (st := []) dX6_as_32 cf6 rfl go_0 gc_0 rfl cat_i okX6_as_X6_finding cwX6_59 (Nat.le_of_ble_eq_true rfl) ⟨Nat.zero_le _, Nat.zero_le _⟩ rfl (ls0 := [some (rf 0 0), some (.int 5)]) rfl (sX6_finding  hS) (fun r15 h14 hS => ?_)
        exact wi_ret dX6_as_35 rfl hS
    · replace hS := hS.2 c8
      refine q_ald0 dX6_as_15 (wz_iconst dX6_as_16 kiconst_1 ?_)
      refine wz_virtI (M := MX6_as) (pc := 17) (M' := MX6_finding) (n := 1) (As := [.int 1]) (st := []) dX6_as_17 cf6 rfl go_0 gc_0 rfl cat_i okX6_as_X6_finding cwX6_59 (Nat.le_of_ble_eq_true rfl) ⟨Nat.zero_le _, Nat.zero_le _⟩ rfl (ls0 := [some (rf 0 0), some (.int 1)]) rfl (sX6_finding  hS) (fun r17 h16 hS => ?_)
      exact wi_ret dX6_as_20 rfl hS
def SX6_contract (E : EN) (a1 : Int32) (a2 : Int32) (a3 : Int32) (h : TH) (Q : Int32 → TH → Prop) : Prop := SX6_isParty E a1 h (fun r2 h1 => ((r2 = 0 → SX6_finding E 1 h1 (fun r5 h4 => Q r5 h4)) ∧ (¬ r2 = 0 → SX6_isParty E a2 h1 (fun r7 h6 => ((r7 = 0 → SX6_finding E 1 h6 (fun r10 h9 => Q r10 h9)) ∧ (¬ r7 = 0 → SX6_within E a3 1 100000 h6 (fun r12 h11 => ((¬ r12 = 0 → SX6_isOfKind E a2 2 h11 (fun r15 h14 => ((r15 = 0 → SX6_finding E 5 h14 (fun r18 h17 => Q r18 h17)) ∧ (¬ r15 = 0 → ((a1 = 0 → ((a1 = 0 → ((a1 = a2 → SX6_finding E 3 h14 (fun r23 h22 => Q r23 h22)) ∧ (¬ a1 = a2 → wi E MX1_whosePayeeIs (fun r25 h24 => ((r25 = (-1) → (((h24 2 0 1) < 10 → SX1_agree E a1 a2 a3 h24 (fun r29 h28 => Q r29 h28)) ∧ (¬ (h24 2 0 1) < 10 → SX6_finding E 4 h24 (fun r31 h30 => Q r31 h30)))) ∧ (¬ r25 = (-1) → SX6_finding E 3 h24 (fun r33 h32 => Q r33 h32)))) 0 [some (rf 2 0), some (.int a2), none] [] h14))) ∧ (¬ a1 = 0 → wi E MX1_whosePayeeIs (fun r35 h34 => ((r35 = (-1) → ((a1 = a2 → SX6_finding E 3 h34 (fun r39 h38 => Q r39 h38)) ∧ (¬ a1 = a2 → SX6_finding E 3 h34 (fun r41 h40 => Q r41 h40)))) ∧ (¬ r35 = (-1) → ((a1 = a2 → SX6_finding E 3 h34 (fun r44 h43 => Q r44 h43)) ∧ (¬ a1 = a2 → wi E MX1_whosePayeeIs (fun r46 h45 => ((r46 = (-1) → (((h45 2 0 1) < 10 → SX1_agree E a1 a2 a3 h45 (fun r50 h49 => Q r50 h49)) ∧ (¬ (h45 2 0 1) < 10 → SX6_finding E 4 h45 (fun r52 h51 => Q r52 h51)))) ∧ (¬ r46 = (-1) → SX6_finding E 3 h45 (fun r54 h53 => Q r54 h53)))) 0 [some (rf 2 0), some (.int a2), none] [] h34))))) 0 [some (rf 2 0), some (.int a1), none] [] h14))) ∧ (¬ a1 = 0 → vp_in a1 12 ∧ (((h14 1 0 (a1.toNatClampNeg)) = 2 → ((a1 = 0 → ((a1 = a2 → SX6_finding E 3 h14 (fun r60 h59 => Q r60 h59)) ∧ (¬ a1 = a2 → wi E MX1_whosePayeeIs (fun r62 h61 => ((r62 = (-1) → (((h61 2 0 1) < 10 → SX1_agree E a1 a2 a3 h61 (fun r66 h65 => Q r66 h65)) ∧ (¬ (h61 2 0 1) < 10 → SX6_finding E 4 h61 (fun r68 h67 => Q r68 h67)))) ∧ (¬ r62 = (-1) → SX6_finding E 3 h61 (fun r70 h69 => Q r70 h69)))) 0 [some (rf 2 0), some (.int a2), none] [] h14))) ∧ (¬ a1 = 0 → wi E MX1_whosePayeeIs (fun r72 h71 => ((r72 = (-1) → ((a1 = a2 → SX6_finding E 3 h71 (fun r76 h75 => Q r76 h75)) ∧ (¬ a1 = a2 → SX6_finding E 3 h71 (fun r78 h77 => Q r78 h77)))) ∧ (¬ r72 = (-1) → ((a1 = a2 → SX6_finding E 3 h71 (fun r81 h80 => Q r81 h80)) ∧ (¬ a1 = a2 → wi E MX1_whosePayeeIs (fun r83 h82 => ((r83 = (-1) → (((h82 2 0 1) < 10 → SX1_agree E a1 a2 a3 h82 (fun r87 h86 => Q r87 h86)) ∧ (¬ (h82 2 0 1) < 10 → SX6_finding E 4 h82 (fun r89 h88 => Q r89 h88)))) ∧ (¬ r83 = (-1) → SX6_finding E 3 h82 (fun r91 h90 => Q r91 h90)))) 0 [some (rf 2 0), some (.int a2), none] [] h71))))) 0 [some (rf 2 0), some (.int a1), none] [] h14))) ∧ (¬ (h14 1 0 (a1.toNatClampNeg)) = 2 → SX6_finding E 5 h14 (fun r93 h92 => Q r93 h92))))))))) ∧ (r12 = 0 → SX6_finding E 1 h11 (fun r95 h94 => Q r95 h94))))))))))
set_option maxRecDepth 20000 in
theorem sX6_contract {E : EN} {a1 : Int32} {a2 : Int32} {a3 : Int32} {h : TH} {Q : Int32 → TH → Prop}  (hS : SX6_contract E a1 a2 a3 h Q) : wi E MX6_contract Q 0 [some (rf 0 0), some (.int a1), some (.int a2), some (.int a3), none] [] h := by
  refine q_ald0 dX6_contract_0 (q_ild1 dX6_contract_1 ?_)
  refine wz_virtI (M := MX6_contract) (pc := 2) (M' := MX6_isParty) (n := 1) (As := [.int a1]) (st := []) dX6_contract_2 cf6 rfl go_0 gc_0 rfl cat_i okX6_contract_X6_isParty cwX6_63 (Nat.le_of_ble_eq_true rfl) ⟨Nat.zero_le _, Nat.zero_le _⟩ rfl (ls0 := [some (rf 0 0), some (.int a1)]) rfl (sX6_isParty  hS) (fun r2 h1 hS => ?_)
  refine wz_if_eq (tgt := 26) dX6_contract_5 rfl (fun c3 => ?_) (fun c3 => ?_)
  · replace hS := hS.1 c3
    refine q_ald0 dX6_contract_26 (wz_iconst dX6_contract_27 kiconst_1 ?_)
    refine wz_virtI (M := MX6_contract) (pc := 28) (M' := MX6_finding) (n := 1) (As := [.int 1]) (st := []) dX6_contract_28 cf6 rfl go_0 gc_0 rfl cat_i okX6_contract_X6_finding cwX6_59 (Nat.le_of_ble_eq_true rfl) ⟨Nat.zero_le _, Nat.zero_le _⟩ rfl (ls0 := [some (rf 0 0), some (.int 1)]) rfl (sX6_finding  hS) (fun r5 h4 hS => ?_)
    exact wi_ret dX6_contract_31 rfl hS
  · replace hS := hS.2 c3
    refine q_ald0 dX6_contract_8 (q_ild2 dX6_contract_9 ?_)
    refine wz_virtI (M := MX6_contract) (pc := 10) (M' := MX6_isParty) (n := 1) (As := [.int a2]) (st := []) dX6_contract_10 cf6 rfl go_0 gc_0 rfl cat_i okX6_contract_X6_isParty cwX6_63 (Nat.le_of_ble_eq_true rfl) ⟨Nat.zero_le _, Nat.zero_le _⟩ rfl (ls0 := [some (rf 0 0), some (.int a2)]) rfl (sX6_isParty  hS) (fun r7 h6 hS => ?_)
    refine wz_if_eq (tgt := 26) dX6_contract_13 rfl (fun c8 => ?_) (fun c8 => ?_)
    · replace hS := hS.1 c8
      refine q_ald0 dX6_contract_26 (wz_iconst dX6_contract_27 kiconst_1 ?_)
      refine wz_virtI (M := MX6_contract) (pc := 28) (M' := MX6_finding) (n := 1) (As := [.int 1]) (st := []) dX6_contract_28 cf6 rfl go_0 gc_0 rfl cat_i okX6_contract_X6_finding cwX6_59 (Nat.le_of_ble_eq_true rfl) ⟨Nat.zero_le _, Nat.zero_le _⟩ rfl (ls0 := [some (rf 0 0), some (.int 1)]) rfl (sX6_finding  hS) (fun r10 h9 hS => ?_)
      exact wi_ret dX6_contract_31 rfl hS
    · replace hS := hS.2 c8
      refine q_ild3 dX6_contract_16 (wz_iconst dX6_contract_17 kiconst_1 (wz_ldc dX6_contract_18 t215 ?_))
      refine wz_statI (M := MX6_contract) (pc := 20) (M' := MX6_within) (n := 3) (As := [.int a3, .int 1, .int 100000]) (st := []) dX6_contract_20 rfl cat_iii okX6_contract_X6_within cwX6_74 (Nat.le_of_ble_eq_true rfl) ⟨Nat.zero_le _, Nat.zero_le _⟩ rfl (ls0 := [some (.int a3), some (.int 1), some (.int 100000)]) rfl (sX6_within  hS) (fun r12 h11 hS => ?_)
      refine wz_if_ne (tgt := 32) dX6_contract_23 rfl (fun c13 => ?_) (fun c13 => ?_)
      · replace hS := hS.1 c13
        refine q_ald0 dX6_contract_32 (q_ild2 dX6_contract_33 (wz_iconst dX6_contract_34 kiconst_2 ?_))
        refine wz_virtI (M := MX6_contract) (pc := 35) (M' := MX6_isOfKind) (n := 2) (As := [.int a2, .int 2]) (st := []) dX6_contract_35 cf6 rfl go_0 gc_0 rfl cat_ii okX6_contract_X6_isOfKind cwX6_66 (Nat.le_of_ble_eq_true rfl) ⟨Nat.zero_le _, Nat.zero_le _⟩ rfl (ls0 := [some (rf 0 0), some (.int a2), some (.int 2), none]) rfl (sX6_isOfKind  hS) (fun r15 h14 hS => ?_)
        refine wz_if_eq (tgt := 55) dX6_contract_38 rfl (fun c16 => ?_) (fun c16 => ?_)
        · replace hS := hS.1 c16
          refine q_ald0 dX6_contract_55 (wz_iconst dX6_contract_56 kiconst_5 ?_)
          refine wz_virtI (M := MX6_contract) (pc := 57) (M' := MX6_finding) (n := 1) (As := [.int 5]) (st := []) dX6_contract_57 cf6 rfl go_0 gc_0 rfl cat_i okX6_contract_X6_finding cwX6_59 (Nat.le_of_ble_eq_true rfl) ⟨Nat.zero_le _, Nat.zero_le _⟩ rfl (ls0 := [some (rf 0 0), some (.int 5)]) rfl (sX6_finding  hS) (fun r18 h17 hS => ?_)
          exact wi_ret dX6_contract_60 rfl hS
        · replace hS := hS.2 c16
          refine q_ild1 dX6_contract_41 ?_
          refine wz_if_eq (tgt := 61) dX6_contract_42 rfl (fun c19 => ?_) (fun c19 => ?_)
          · replace hS := hS.1 c19
            refine q_ild1 dX6_contract_61 ?_
            refine wz_if_eq (tgt := 77) dX6_contract_62 rfl (fun c20 => ?_) (fun c20 => ?_)
            · replace hS := hS.1 c20
              refine wz_iconst dX6_contract_77 kiconst_1 (wz_goto (tgt := 82) dX6_contract_78 rfl (q_ist4 dX6_contract_82 (ltX6_contract_4) rfl (q_ild1 dX6_contract_84 (q_ild2 dX6_contract_85 ?_))))
              refine wz_icmp_eq (tgt := 106) dX6_contract_86 rfl (fun c21 => ?_) (fun c21 => ?_)
              · replace hS := hS.1 c21
                refine q_ald0 dX6_contract_106 (wz_iconst dX6_contract_107 kiconst_3 ?_)
                refine wz_virtI (M := MX6_contract) (pc := 108) (M' := MX6_finding) (n := 1) (As := [.int 3]) (st := []) dX6_contract_108 cf6 rfl go_0 gc_0 rfl cat_i okX6_contract_X6_finding cwX6_59 (Nat.le_of_ble_eq_true rfl) ⟨Nat.zero_le _, Nat.zero_le _⟩ rfl (ls0 := [some (rf 0 0), some (.int 3)]) rfl (sX6_finding  hS) (fun r23 h22 hS => ?_)
                exact wi_ret dX6_contract_111 rfl hS
              · replace hS := hS.2 c21
                refine q_ild4 dX6_contract_89 ?_
                refine wz_if_eq (tgt := 106) dX6_contract_91 rfl (fun z => absurd z (by decide)) (fun _ => ?_)
                refine q_ald0 dX6_contract_94 (wz_getR dX6_contract_95 cf6 t202 (kf := 2) gr_0_2 gc_0 (q_ild2 dX6_contract_98 ?_))
                refine wz_virtI (M := MX6_contract) (pc := 99) (M' := MX1_whosePayeeIs) (n := 1) (As := [.int a2]) (st := []) dX6_contract_99 cf1 rfl go_2 gc_2 rfl cat_i okX6_contract_X1_whosePayeeIs cwX6_78 (Nat.le_of_ble_eq_true rfl) ⟨Nat.zero_le _, Nat.zero_le _⟩ rfl (ls0 := [some (rf 2 0), some (.int a2), none]) rfl hS (fun r25 h24 hS => ?_)
                refine wz_iconst dX6_contract_102 kiconst_m1 ?_
                refine wz_icmp_eq (tgt := 112) dX6_contract_103 rfl (fun c26 => ?_) (fun c26 => ?_)
                · replace hS := hS.1 c26
                  refine q_ald0 dX6_contract_112 (wz_getR dX6_contract_113 cf6 t202 (kf := 2) gr_0_2 gc_0 (wz_getI dX6_contract_116 cf1 t216 (kf := 1) gi_2_1 gc_2 rfl (wz_bipush dX6_contract_119 kbipush_10 ?_)))
                  refine wz_icmp_lt (tgt := 130) dX6_contract_121 rfl (fun c27 => ?_) (fun c27 => ?_)
                  · replace hS := hS.1 c27
                    refine q_ald0 dX6_contract_130 (wz_getR dX6_contract_131 cf6 t202 (kf := 2) gr_0_2 gc_0 (q_ild1 dX6_contract_134 (q_ild2 dX6_contract_135 (q_ild3 dX6_contract_136 ?_))))
                    refine wz_virtI (M := MX6_contract) (pc := 137) (M' := MX1_agree) (n := 3) (As := [.int a1, .int a2, .int a3]) (st := []) dX6_contract_137 cf1 rfl go_2 gc_2 rfl cat_iii okX6_contract_X1_agree cwX6_84 (Nat.le_of_ble_eq_true rfl) ⟨Nat.zero_le _, Nat.zero_le _⟩ rfl (ls0 := [some (rf 2 0), some (.int a1), some (.int a2), some (.int a3), none]) rfl (sX1_agree  hS) (fun r29 h28 hS => ?_)
                    exact wi_ret dX6_contract_140 rfl hS
                  · replace hS := hS.2 c27
                    refine q_ald0 dX6_contract_124 (wz_iconst dX6_contract_125 kiconst_4 ?_)
                    refine wz_virtI (M := MX6_contract) (pc := 126) (M' := MX6_finding) (n := 1) (As := [.int 4]) (st := []) dX6_contract_126 cf6 rfl go_0 gc_0 rfl cat_i okX6_contract_X6_finding cwX6_59 (Nat.le_of_ble_eq_true rfl) ⟨Nat.zero_le _, Nat.zero_le _⟩ rfl (ls0 := [some (rf 0 0), some (.int 4)]) rfl (sX6_finding  hS) (fun r31 h30 hS => ?_)
                    exact wi_ret dX6_contract_129 rfl hS
                · replace hS := hS.2 c26
                  refine q_ald0 dX6_contract_106 (wz_iconst dX6_contract_107 kiconst_3 ?_)
                  refine wz_virtI (M := MX6_contract) (pc := 108) (M' := MX6_finding) (n := 1) (As := [.int 3]) (st := []) dX6_contract_108 cf6 rfl go_0 gc_0 rfl cat_i okX6_contract_X6_finding cwX6_59 (Nat.le_of_ble_eq_true rfl) ⟨Nat.zero_le _, Nat.zero_le _⟩ rfl (ls0 := [some (rf 0 0), some (.int 3)]) rfl (sX6_finding  hS) (fun r33 h32 hS => ?_)
                  exact wi_ret dX6_contract_111 rfl hS
            · replace hS := hS.2 c20
              refine q_ald0 dX6_contract_65 (wz_getR dX6_contract_66 cf6 t202 (kf := 2) gr_0_2 gc_0 (q_ild1 dX6_contract_69 ?_))
              refine wz_virtI (M := MX6_contract) (pc := 70) (M' := MX1_whosePayeeIs) (n := 1) (As := [.int a1]) (st := []) dX6_contract_70 cf1 rfl go_2 gc_2 rfl cat_i okX6_contract_X1_whosePayeeIs cwX6_78 (Nat.le_of_ble_eq_true rfl) ⟨Nat.zero_le _, Nat.zero_le _⟩ rfl (ls0 := [some (rf 2 0), some (.int a1), none]) rfl hS (fun r35 h34 hS => ?_)
              refine wz_iconst dX6_contract_73 kiconst_m1 ?_
              refine wz_icmp_eq (tgt := 81) dX6_contract_74 rfl (fun c36 => ?_) (fun c36 => ?_)
              · replace hS := hS.1 c36
                refine wz_iconst dX6_contract_81 kiconst_0 (q_ist4 dX6_contract_82 (ltX6_contract_4) rfl (q_ild1 dX6_contract_84 (q_ild2 dX6_contract_85 ?_)))
                refine wz_icmp_eq (tgt := 106) dX6_contract_86 rfl (fun c37 => ?_) (fun c37 => ?_)
                · replace hS := hS.1 c37
                  refine q_ald0 dX6_contract_106 (wz_iconst dX6_contract_107 kiconst_3 ?_)
                  refine wz_virtI (M := MX6_contract) (pc := 108) (M' := MX6_finding) (n := 1) (As := [.int 3]) (st := []) dX6_contract_108 cf6 rfl go_0 gc_0 rfl cat_i okX6_contract_X6_finding cwX6_59 (Nat.le_of_ble_eq_true rfl) ⟨Nat.zero_le _, Nat.zero_le _⟩ rfl (ls0 := [some (rf 0 0), some (.int 3)]) rfl (sX6_finding  hS) (fun r39 h38 hS => ?_)
                  exact wi_ret dX6_contract_111 rfl hS
                · replace hS := hS.2 c37
                  refine q_ild4 dX6_contract_89 ?_
                  refine wz_if_eq (tgt := 106) dX6_contract_91 rfl (fun _ => ?_) (fun z => absurd z (by decide))
                  refine q_ald0 dX6_contract_106 (wz_iconst dX6_contract_107 kiconst_3 ?_)
                  refine wz_virtI (M := MX6_contract) (pc := 108) (M' := MX6_finding) (n := 1) (As := [.int 3]) (st := []) dX6_contract_108 cf6 rfl go_0 gc_0 rfl cat_i okX6_contract_X6_finding cwX6_59 (Nat.le_of_ble_eq_true rfl) ⟨Nat.zero_le _, Nat.zero_le _⟩ rfl (ls0 := [some (rf 0 0), some (.int 3)]) rfl (sX6_finding  hS) (fun r41 h40 hS => ?_)
                  exact wi_ret dX6_contract_111 rfl hS
              · replace hS := hS.2 c36
                refine wz_iconst dX6_contract_77 kiconst_1 (wz_goto (tgt := 82) dX6_contract_78 rfl (q_ist4 dX6_contract_82 (ltX6_contract_4) rfl (q_ild1 dX6_contract_84 (q_ild2 dX6_contract_85 ?_))))
                refine wz_icmp_eq (tgt := 106) dX6_contract_86 rfl (fun c42 => ?_) (fun c42 => ?_)
                · replace hS := hS.1 c42
                  refine q_ald0 dX6_contract_106 (wz_iconst dX6_contract_107 kiconst_3 ?_)
                  refine wz_virtI (M := MX6_contract) (pc := 108) (M' := MX6_finding) (n := 1) (As := [.int 3]) (st := []) dX6_contract_108 cf6 rfl go_0 gc_0 rfl cat_i okX6_contract_X6_finding cwX6_59 (Nat.le_of_ble_eq_true rfl) ⟨Nat.zero_le _, Nat.zero_le _⟩ rfl (ls0 := [some (rf 0 0), some (.int 3)]) rfl (sX6_finding  hS) (fun r44 h43 hS => ?_)
                  exact wi_ret dX6_contract_111 rfl hS
                · replace hS := hS.2 c42
                  refine q_ild4 dX6_contract_89 ?_
                  refine wz_if_eq (tgt := 106) dX6_contract_91 rfl (fun z => absurd z (by decide)) (fun _ => ?_)
                  refine q_ald0 dX6_contract_94 (wz_getR dX6_contract_95 cf6 t202 (kf := 2) gr_0_2 gc_0 (q_ild2 dX6_contract_98 ?_))
                  refine wz_virtI (M := MX6_contract) (pc := 99) (M' := MX1_whosePayeeIs) (n := 1) (As := [.int a2]) (st := []) dX6_contract_99 cf1 rfl go_2 gc_2 rfl cat_i okX6_contract_X1_whosePayeeIs cwX6_78 (Nat.le_of_ble_eq_true rfl) ⟨Nat.zero_le _, Nat.zero_le _⟩ rfl (ls0 := [some (rf 2 0), some (.int a2), none]) rfl hS (fun r46 h45 hS => ?_)
                  refine wz_iconst dX6_contract_102 kiconst_m1 ?_
                  refine wz_icmp_eq (tgt := 112) dX6_contract_103 rfl (fun c47 => ?_) (fun c47 => ?_)
                  · replace hS := hS.1 c47
                    refine q_ald0 dX6_contract_112 (wz_getR dX6_contract_113 cf6 t202 (kf := 2) gr_0_2 gc_0 (wz_getI dX6_contract_116 cf1 t216 (kf := 1) gi_2_1 gc_2 rfl (wz_bipush dX6_contract_119 kbipush_10 ?_)))
                    refine wz_icmp_lt (tgt := 130) dX6_contract_121 rfl (fun c48 => ?_) (fun c48 => ?_)
                    · replace hS := hS.1 c48
                      refine q_ald0 dX6_contract_130 (wz_getR dX6_contract_131 cf6 t202 (kf := 2) gr_0_2 gc_0 (q_ild1 dX6_contract_134 (q_ild2 dX6_contract_135 (q_ild3 dX6_contract_136 ?_))))
                      refine wz_virtI (M := MX6_contract) (pc := 137) (M' := MX1_agree) (n := 3) (As := [.int a1, .int a2, .int a3]) (st := []) dX6_contract_137 cf1 rfl go_2 gc_2 rfl cat_iii okX6_contract_X1_agree cwX6_84 (Nat.le_of_ble_eq_true rfl) ⟨Nat.zero_le _, Nat.zero_le _⟩ rfl (ls0 := [some (rf 2 0), some (.int a1), some (.int a2), some (.int a3), none]) rfl (sX1_agree  hS) (fun r50 h49 hS => ?_)
                      exact wi_ret dX6_contract_140 rfl hS
                    · replace hS := hS.2 c48
                      refine q_ald0 dX6_contract_124 (wz_iconst dX6_contract_125 kiconst_4 ?_)
                      refine wz_virtI (M := MX6_contract) (pc := 126) (M' := MX6_finding) (n := 1) (As := [.int 4]) (st := []) dX6_contract_126 cf6 rfl go_0 gc_0 rfl cat_i okX6_contract_X6_finding cwX6_59 (Nat.le_of_ble_eq_true rfl) ⟨Nat.zero_le _, Nat.zero_le _⟩ rfl (ls0 := [some (rf 0 0), some (.int 4)]) rfl (sX6_finding  hS) (fun r52 h51 hS => ?_)
                      exact wi_ret dX6_contract_129 rfl hS
                  · replace hS := hS.2 c47
                    refine q_ald0 dX6_contract_106 (wz_iconst dX6_contract_107 kiconst_3 ?_)
                    refine wz_virtI (M := MX6_contract) (pc := 108) (M' := MX6_finding) (n := 1) (As := [.int 3]) (st := []) dX6_contract_108 cf6 rfl go_0 gc_0 rfl cat_i okX6_contract_X6_finding cwX6_59 (Nat.le_of_ble_eq_true rfl) ⟨Nat.zero_le _, Nat.zero_le _⟩ rfl (ls0 := [some (rf 0 0), some (.int 3)]) rfl (sX6_finding  hS) (fun r54 h53 hS => ?_)
                    exact wi_ret dX6_contract_111 rfl hS
          · replace hS := hS.2 c19
            refine q_ald0 dX6_contract_45 (wz_getR dX6_contract_46 cf6 t194 (kf := 0) gr_0_0 gc_0 (q_ild1 dX6_contract_49 ?_))
            obtain ⟨hi55, hS⟩ := hS
            refine wz_iald dX6_contract_50 ga_1 gc_1 hi55 rfl (wz_iconst dX6_contract_51 kiconst_2 ?_)
            refine wz_icmp_eq (tgt := 61) dX6_contract_52 rfl (fun c56 => ?_) (fun c56 => ?_)
            · replace hS := hS.1 c56
              refine q_ild1 dX6_contract_61 ?_
              refine wz_if_eq (tgt := 77) dX6_contract_62 rfl (fun c57 => ?_) (fun c57 => ?_)
              · replace hS := hS.1 c57
                refine wz_iconst dX6_contract_77 kiconst_1 (wz_goto (tgt := 82) dX6_contract_78 rfl (q_ist4 dX6_contract_82 (ltX6_contract_4) rfl (q_ild1 dX6_contract_84 (q_ild2 dX6_contract_85 ?_))))
                refine wz_icmp_eq (tgt := 106) dX6_contract_86 rfl (fun c58 => ?_) (fun c58 => ?_)
                · replace hS := hS.1 c58
                  refine q_ald0 dX6_contract_106 (wz_iconst dX6_contract_107 kiconst_3 ?_)
                  refine wz_virtI (M := MX6_contract) (pc := 108) (M' := MX6_finding) (n := 1) (As := [.int 3]) (st := []) dX6_contract_108 cf6 rfl go_0 gc_0 rfl cat_i okX6_contract_X6_finding cwX6_59 (Nat.le_of_ble_eq_true rfl) ⟨Nat.zero_le _, Nat.zero_le _⟩ rfl (ls0 := [some (rf 0 0), some (.int 3)]) rfl (sX6_finding  hS) (fun r60 h59 hS => ?_)
                  exact wi_ret dX6_contract_111 rfl hS
                · replace hS := hS.2 c58
                  refine q_ild4 dX6_contract_89 ?_
                  refine wz_if_eq (tgt := 106) dX6_contract_91 rfl (fun z => absurd z (by decide)) (fun _ => ?_)
                  refine q_ald0 dX6_contract_94 (wz_getR dX6_contract_95 cf6 t202 (kf := 2) gr_0_2 gc_0 (q_ild2 dX6_contract_98 ?_))
                  refine wz_virtI (M := MX6_contract) (pc := 99) (M' := MX1_whosePayeeIs) (n := 1) (As := [.int a2]) (st := []) dX6_contract_99 cf1 rfl go_2 gc_2 rfl cat_i okX6_contract_X1_whosePayeeIs cwX6_78 (Nat.le_of_ble_eq_true rfl) ⟨Nat.zero_le _, Nat.zero_le _⟩ rfl (ls0 := [some (rf 2 0), some (.int a2), none]) rfl hS (fun r62 h61 hS => ?_)
                  refine wz_iconst dX6_contract_102 kiconst_m1 ?_
                  refine wz_icmp_eq (tgt := 112) dX6_contract_103 rfl (fun c63 => ?_) (fun c63 => ?_)
                  · replace hS := hS.1 c63
                    refine q_ald0 dX6_contract_112 (wz_getR dX6_contract_113 cf6 t202 (kf := 2) gr_0_2 gc_0 (wz_getI dX6_contract_116 cf1 t216 (kf := 1) gi_2_1 gc_2 rfl (wz_bipush dX6_contract_119 kbipush_10 ?_)))
                    refine wz_icmp_lt (tgt := 130) dX6_contract_121 rfl (fun c64 => ?_) (fun c64 => ?_)
                    · replace hS := hS.1 c64
                      refine q_ald0 dX6_contract_130 (wz_getR dX6_contract_131 cf6 t202 (kf := 2) gr_0_2 gc_0 (q_ild1 dX6_contract_134 (q_ild2 dX6_contract_135 (q_ild3 dX6_contract_136 ?_))))
                      refine wz_virtI (M := MX6_contract) (pc := 137) (M' := MX1_agree) (n := 3) (As := [.int a1, .int a2, .int a3]) (st := []) dX6_contract_137 cf1 rfl go_2 gc_2 rfl cat_iii okX6_contract_X1_agree cwX6_84 (Nat.le_of_ble_eq_true rfl) ⟨Nat.zero_le _, Nat.zero_le _⟩ rfl (ls0 := [some (rf 2 0), some (.int a1), some (.int a2), some (.int a3), none]) rfl (sX1_agree  hS) (fun r66 h65 hS => ?_)
                      exact wi_ret dX6_contract_140 rfl hS
                    · replace hS := hS.2 c64
                      refine q_ald0 dX6_contract_124 (wz_iconst dX6_contract_125 kiconst_4 ?_)
                      refine wz_virtI (M := MX6_contract) (pc := 126) (M' := MX6_finding) (n := 1) (As := [.int 4]) (st := []) dX6_contract_126 cf6 rfl go_0 gc_0 rfl cat_i okX6_contract_X6_finding cwX6_59 (Nat.le_of_ble_eq_true rfl) ⟨Nat.zero_le _, Nat.zero_le _⟩ rfl (ls0 := [some (rf 0 0), some (.int 4)]) rfl (sX6_finding  hS) (fun r68 h67 hS => ?_)
                      exact wi_ret dX6_contract_129 rfl hS
                  · replace hS := hS.2 c63
                    refine q_ald0 dX6_contract_106 (wz_iconst dX6_contract_107 kiconst_3 ?_)
                    refine wz_virtI (M := MX6_contract) (pc := 108) (M' := MX6_finding) (n := 1) (As := [.int 3]) (st := []) dX6_contract_108 cf6 rfl go_0 gc_0 rfl cat_i okX6_contract_X6_finding cwX6_59 (Nat.le_of_ble_eq_true rfl) ⟨Nat.zero_le _, Nat.zero_le _⟩ rfl (ls0 := [some (rf 0 0), some (.int 3)]) rfl (sX6_finding  hS) (fun r70 h69 hS => ?_)
                    exact wi_ret dX6_contract_111 rfl hS
              · replace hS := hS.2 c57
                refine q_ald0 dX6_contract_65 (wz_getR dX6_contract_66 cf6 t202 (kf := 2) gr_0_2 gc_0 (q_ild1 dX6_contract_69 ?_))
                refine wz_virtI (M := MX6_contract) (pc := 70) (M' := MX1_whosePayeeIs) (n := 1) (As := [.int a1]) (st := []) dX6_contract_70 cf1 rfl go_2 gc_2 rfl cat_i okX6_contract_X1_whosePayeeIs cwX6_78 (Nat.le_of_ble_eq_true rfl) ⟨Nat.zero_le _, Nat.zero_le _⟩ rfl (ls0 := [some (rf 2 0), some (.int a1), none]) rfl hS (fun r72 h71 hS => ?_)
                refine wz_iconst dX6_contract_73 kiconst_m1 ?_
                refine wz_icmp_eq (tgt := 81) dX6_contract_74 rfl (fun c73 => ?_) (fun c73 => ?_)
                · replace hS := hS.1 c73
                  refine wz_iconst dX6_contract_81 kiconst_0 (q_ist4 dX6_contract_82 (ltX6_contract_4) rfl (q_ild1 dX6_contract_84 (q_ild2 dX6_contract_85 ?_)))
                  refine wz_icmp_eq (tgt := 106) dX6_contract_86 rfl (fun c74 => ?_) (fun c74 => ?_)
                  · replace hS := hS.1 c74
                    refine q_ald0 dX6_contract_106 (wz_iconst dX6_contract_107 kiconst_3 ?_)
                    refine wz_virtI (M := MX6_contract) (pc := 108) (M' := MX6_finding) (n := 1) (As := [.int 3]) (st := []) dX6_contract_108 cf6 rfl go_0 gc_0 rfl cat_i okX6_contract_X6_finding cwX6_59 (Nat.le_of_ble_eq_true rfl) ⟨Nat.zero_le _, Nat.zero_le _⟩ rfl (ls0 := [some (rf 0 0), some (.int 3)]) rfl (sX6_finding  hS) (fun r76 h75 hS => ?_)
                    exact wi_ret dX6_contract_111 rfl hS
                  · replace hS := hS.2 c74
                    refine q_ild4 dX6_contract_89 ?_
                    refine wz_if_eq (tgt := 106) dX6_contract_91 rfl (fun _ => ?_) (fun z => absurd z (by decide))
                    refine q_ald0 dX6_contract_106 (wz_iconst dX6_contract_107 kiconst_3 ?_)
                    refine wz_virtI (M := MX6_contract) (pc := 108) (M' := MX6_finding) (n := 1) (As := [.int 3]) (st := []) dX6_contract_108 cf6 rfl go_0 gc_0 rfl cat_i okX6_contract_X6_finding cwX6_59 (Nat.le_of_ble_eq_true rfl) ⟨Nat.zero_le _, Nat.zero_le _⟩ rfl (ls0 := [some (rf 0 0), some (.int 3)]) rfl (sX6_finding  hS) (fun r78 h77 hS => ?_)
                    exact wi_ret dX6_contract_111 rfl hS
                · replace hS := hS.2 c73
                  refine wz_iconst dX6_contract_77 kiconst_1 (wz_goto (tgt := 82) dX6_contract_78 rfl (q_ist4 dX6_contract_82 (ltX6_contract_4) rfl (q_ild1 dX6_contract_84 (q_ild2 dX6_contract_85 ?_))))
                  refine wz_icmp_eq (tgt := 106) dX6_contract_86 rfl (fun c79 => ?_) (fun c79 => ?_)
                  · replace hS := hS.1 c79
                    refine q_ald0 dX6_contract_106 (wz_iconst dX6_contract_107 kiconst_3 ?_)
                    refine wz_virtI (M := MX6_contract) (pc := 108) (M' := MX6_finding) (n := 1) (As := [.int 3]) (st := []) dX6_contract_108 cf6 rfl go_0 gc_0 rfl cat_i okX6_contract_X6_finding cwX6_59 (Nat.le_of_ble_eq_true rfl) ⟨Nat.zero_le _, Nat.zero_le _⟩ rfl (ls0 := [some (rf 0 0), some (.int 3)]) rfl (sX6_finding  hS) (fun r81 h80 hS => ?_)
                    exact wi_ret dX6_contract_111 rfl hS
                  · replace hS := hS.2 c79
                    refine q_ild4 dX6_contract_89 ?_
                    refine wz_if_eq (tgt := 106) dX6_contract_91 rfl (fun z => absurd z (by decide)) (fun _ => ?_)
                    refine q_ald0 dX6_contract_94 (wz_getR dX6_contract_95 cf6 t202 (kf := 2) gr_0_2 gc_0 (q_ild2 dX6_contract_98 ?_))
                    refine wz_virtI (M := MX6_contract) (pc := 99) (M' := MX1_whosePayeeIs) (n := 1) (As := [.int a2]) (st := []) dX6_contract_99 cf1 rfl go_2 gc_2 rfl cat_i okX6_contract_X1_whosePayeeIs cwX6_78 (Nat.le_of_ble_eq_true rfl) ⟨Nat.zero_le _, Nat.zero_le _⟩ rfl (ls0 := [some (rf 2 0), some (.int a2), none]) rfl hS (fun r83 h82 hS => ?_)
                    refine wz_iconst dX6_contract_102 kiconst_m1 ?_
                    refine wz_icmp_eq (tgt := 112) dX6_contract_103 rfl (fun c84 => ?_) (fun c84 => ?_)
                    · replace hS := hS.1 c84
                      refine q_ald0 dX6_contract_112 (wz_getR dX6_contract_113 cf6 t202 (kf := 2) gr_0_2 gc_0 (wz_getI dX6_contract_116 cf1 t216 (kf := 1) gi_2_1 gc_2 rfl (wz_bipush dX6_contract_119 kbipush_10 ?_)))
                      refine wz_icmp_lt (tgt := 130) dX6_contract_121 rfl (fun c85 => ?_) (fun c85 => ?_)
                      · replace hS := hS.1 c85
                        refine q_ald0 dX6_contract_130 (wz_getR dX6_contract_131 cf6 t202 (kf := 2) gr_0_2 gc_0 (q_ild1 dX6_contract_134 (q_ild2 dX6_contract_135 (q_ild3 dX6_contract_136 ?_))))
                        refine wz_virtI (M := MX6_contract) (pc := 137) (M' := MX1_agree) (n := 3) (As := [.int a1, .int a2, .int a3]) (st := []) dX6_contract_137 cf1 rfl go_2 gc_2 rfl cat_iii okX6_contract_X1_agree cwX6_84 (Nat.le_of_ble_eq_true rfl) ⟨Nat.zero_le _, Nat.zero_le _⟩ rfl (ls0 := [some (rf 2 0), some (.int a1), some (.int a2), some (.int a3), none]) rfl (sX1_agree  hS) (fun r87 h86 hS => ?_)
                        exact wi_ret dX6_contract_140 rfl hS
                      · replace hS := hS.2 c85
                        refine q_ald0 dX6_contract_124 (wz_iconst dX6_contract_125 kiconst_4 ?_)
                        refine wz_virtI (M := MX6_contract) (pc := 126) (M' := MX6_finding) (n := 1) (As := [.int 4]) (st := []) dX6_contract_126 cf6 rfl go_0 gc_0 rfl cat_i okX6_contract_X6_finding cwX6_59 (Nat.le_of_ble_eq_true rfl) ⟨Nat.zero_le _, Nat.zero_le _⟩ rfl (ls0 := [some (rf 0 0), some (.int 4)]) rfl (sX6_finding  hS) (fun r89 h88 hS => ?_)
                        exact wi_ret dX6_contract_129 rfl hS
                    · replace hS := hS.2 c84
                      refine q_ald0 dX6_contract_106 (wz_iconst dX6_contract_107 kiconst_3 ?_)
                      refine wz_virtI (M := MX6_contract) (pc := 108) (M' := MX6_finding) (n := 1) (As := [.int 3]) (st := []) dX6_contract_108 cf6 rfl go_0 gc_0 rfl cat_i okX6_contract_X6_finding cwX6_59 (Nat.le_of_ble_eq_true rfl) ⟨Nat.zero_le _, Nat.zero_le _⟩ rfl (ls0 := [some (rf 0 0), some (.int 3)]) rfl (sX6_finding  hS) (fun r91 h90 hS => ?_)
                      exact wi_ret dX6_contract_111 rfl hS
            · replace hS := hS.2 c56
              refine q_ald0 dX6_contract_55 (wz_iconst dX6_contract_56 kiconst_5 ?_)
              refine wz_virtI (M := MX6_contract) (pc := 57) (M' := MX6_finding) (n := 1) (As := [.int 5]) (st := []) dX6_contract_57 cf6 rfl go_0 gc_0 rfl cat_i okX6_contract_X6_finding cwX6_59 (Nat.le_of_ble_eq_true rfl) ⟨Nat.zero_le _, Nat.zero_le _⟩ rfl (ls0 := [some (rf 0 0), some (.int 5)]) rfl (sX6_finding  hS) (fun r93 h92 hS => ?_)
              exact wi_ret dX6_contract_60 rfl hS
      · replace hS := hS.2 c13
        refine q_ald0 dX6_contract_26 (wz_iconst dX6_contract_27 kiconst_1 ?_)
        refine wz_virtI (M := MX6_contract) (pc := 28) (M' := MX6_finding) (n := 1) (As := [.int 1]) (st := []) dX6_contract_28 cf6 rfl go_0 gc_0 rfl cat_i okX6_contract_X6_finding cwX6_59 (Nat.le_of_ble_eq_true rfl) ⟨Nat.zero_le _, Nat.zero_le _⟩ rfl (ls0 := [some (rf 0 0), some (.int 1)]) rfl (sX6_finding  hS) (fun r95 h94 hS => ?_)
        exact wi_ret dX6_contract_31 rfl hS
def SX6_extra (E : EN) (a1 : Int32) (a2 : Int32) (h : TH) (Q : Int32 → TH → Prop) : Prop := SX1_has E a1 h (fun r2 h1 => ((r2 = 0 → SX6_finding E 1 h1 (fun r5 h4 => Q r5 h4)) ∧ (¬ r2 = 0 → SX6_within E a2 1 100000 h1 (fun r7 h6 => ((¬ r7 = 0 → vp_in a1 10 ∧ ((((h6 4 (a1.toNatClampNeg) 5) + a2) ≤ 1000000 → Q ((h6 4 (a1.toNatClampNeg) 5) + a2) (up h6 4 (a1.toNatClampNeg) 5 ((h6 4 (a1.toNatClampNeg) 5) + a2))) ∧ (¬ ((h6 4 (a1.toNatClampNeg) 5) + a2) ≤ 1000000 → SX6_finding E 4 h6 (fun r12 h11 => Q r12 h11)))) ∧ (r7 = 0 → SX6_finding E 1 h6 (fun r14 h13 => Q r14 h13)))))))
set_option maxRecDepth 20000 in
theorem sX6_extra {E : EN} {a1 : Int32} {a2 : Int32} {h : TH} {Q : Int32 → TH → Prop}  (hS : SX6_extra E a1 a2 h Q) : wi E MX6_extra Q 0 [some (rf 0 0), some (.int a1), some (.int a2), none] [] h := by
  refine q_ald0 dX6_extra_0 (wz_getR dX6_extra_1 cf6 t202 (kf := 2) gr_0_2 gc_0 (q_ild1 dX6_extra_4 ?_))
  refine wz_virtI (M := MX6_extra) (pc := 5) (M' := MX1_has) (n := 1) (As := [.int a1]) (st := []) dX6_extra_5 cf1 rfl go_2 gc_2 rfl cat_i okX6_extra_X1_has cwX6_88 (Nat.le_of_ble_eq_true rfl) ⟨Nat.zero_le _, Nat.zero_le _⟩ rfl (ls0 := [some (rf 2 0), some (.int a1)]) rfl (sX1_has  hS) (fun r2 h1 hS => ?_)
  refine wz_if_eq (tgt := 21) dX6_extra_8 rfl (fun c3 => ?_) (fun c3 => ?_)
  · replace hS := hS.1 c3
    refine q_ald0 dX6_extra_21 (wz_iconst dX6_extra_22 kiconst_1 ?_)
    refine wz_virtI (M := MX6_extra) (pc := 23) (M' := MX6_finding) (n := 1) (As := [.int 1]) (st := []) dX6_extra_23 cf6 rfl go_0 gc_0 rfl cat_i okX6_extra_X6_finding cwX6_59 (Nat.le_of_ble_eq_true rfl) ⟨Nat.zero_le _, Nat.zero_le _⟩ rfl (ls0 := [some (rf 0 0), some (.int 1)]) rfl (sX6_finding  hS) (fun r5 h4 hS => ?_)
    exact wi_ret dX6_extra_26 rfl hS
  · replace hS := hS.2 c3
    refine q_ild2 dX6_extra_11 (wz_iconst dX6_extra_12 kiconst_1 (wz_ldc dX6_extra_13 t215 ?_))
    refine wz_statI (M := MX6_extra) (pc := 15) (M' := MX6_within) (n := 3) (As := [.int a2, .int 1, .int 100000]) (st := []) dX6_extra_15 rfl cat_iii okX6_extra_X6_within cwX6_74 (Nat.le_of_ble_eq_true rfl) ⟨Nat.zero_le _, Nat.zero_le _⟩ rfl (ls0 := [some (.int a2), some (.int 1), some (.int 100000)]) rfl (sX6_within  hS) (fun r7 h6 hS => ?_)
    refine wz_if_ne (tgt := 27) dX6_extra_18 rfl (fun c8 => ?_) (fun c8 => ?_)
    · replace hS := hS.1 c8
      refine q_ald0 dX6_extra_27 (wz_getR dX6_extra_28 cf6 t202 (kf := 2) gr_0_2 gc_0 (wz_getR dX6_extra_31 cf1 t222 (kf := 0) gr_2_0 gc_2 (q_ild1 dX6_extra_34 ?_)))
      obtain ⟨hi9, hS⟩ := hS
      refine wz_aald (t := 4) dX6_extra_35 gq_3 gc_3 hi9 (q_ast3 dX6_extra_36 (ltX6_extra_3) rfl (q_ald3 dX6_extra_37 (wz_getI dX6_extra_38 cf3 t223 (kf := 5) gi_4_5 (vp_lt hi9) rfl (q_ild2 dX6_extra_41 (wz_iadd dX6_extra_42 (wz_ldc dX6_extra_43 t224 ?_))))))
      refine wz_icmp_le (tgt := 54) dX6_extra_45 rfl (fun c10 => ?_) (fun c10 => ?_)
      · replace hS := hS.1 c10
        refine q_ald3 dX6_extra_54 (wz_dup dX6_extra_55 rfl (wz_getI dX6_extra_56 cf3 t223 (kf := 5) gi_4_5 (vp_lt hi9) rfl (q_ild2 dX6_extra_59 (wz_iadd dX6_extra_60 (wz_putI dX6_extra_61 cf3 t223 (kf := 5) gp_4_5 (vp_lt hi9) rfl (q_ald3 dX6_extra_64 (wz_getI (v := ((h6 4 (a1.toNatClampNeg) 5) + a2)) dX6_extra_65 cf3 t223 (kf := 5) gi_4_5 (vp_lt hi9) (by first | rfl | simp [up]) ?_)))))))
        refine wz_pc (pc2 := 68) rfl ?_
        exact wi_ret dX6_extra_68 rfl hS
      · replace hS := hS.2 c10
        refine q_ald0 dX6_extra_48 (wz_iconst dX6_extra_49 kiconst_4 ?_)
        refine wz_virtI (M := MX6_extra) (pc := 50) (M' := MX6_finding) (n := 1) (As := [.int 4]) (st := []) dX6_extra_50 cf6 rfl go_0 gc_0 rfl cat_i okX6_extra_X6_finding cwX6_59 (Nat.le_of_ble_eq_true rfl) ⟨Nat.zero_le _, Nat.zero_le _⟩ rfl (ls0 := [some (rf 0 0), some (.int 4)]) rfl (sX6_finding  hS) (fun r12 h11 hS => ?_)
        exact wi_ret dX6_extra_53 rfl hS
    · replace hS := hS.2 c8
      refine q_ald0 dX6_extra_21 (wz_iconst dX6_extra_22 kiconst_1 ?_)
      refine wz_virtI (M := MX6_extra) (pc := 23) (M' := MX6_finding) (n := 1) (As := [.int 1]) (st := []) dX6_extra_23 cf6 rfl go_0 gc_0 rfl cat_i okX6_extra_X6_finding cwX6_59 (Nat.le_of_ble_eq_true rfl) ⟨Nat.zero_le _, Nat.zero_le _⟩ rfl (ls0 := [some (rf 0 0), some (.int 1)]) rfl (sX6_finding  hS) (fun r14 h13 hS => ?_)
      exact wi_ret dX6_extra_26 rfl hS
def SX6_isSpanUpToToday (E : EN) (a1 : Int32) (a2 : Int32) (h : TH) (Q : Int32 → TH → Prop) : Prop := SX6_within E a1 0 a2 h (fun r2 h1 => ((r2 = 0 → Q 0 h1) ∧ (¬ r2 = 0 → (((h1 0 0 6) < a2 → Q 0 h1) ∧ (¬ (h1 0 0 6) < a2 → Q 1 h1)))))
set_option maxRecDepth 20000 in
theorem sX6_isSpanUpToToday {E : EN} {a1 : Int32} {a2 : Int32} {h : TH} {Q : Int32 → TH → Prop}  (hS : SX6_isSpanUpToToday E a1 a2 h Q) : wi E MX6_isSpanUpToToday Q 0 [some (rf 0 0), some (.int a1), some (.int a2)] [] h := by
  refine q_ild1 dX6_isSpanUpToToday_0 (wz_iconst dX6_isSpanUpToToday_1 kiconst_0 (q_ild2 dX6_isSpanUpToToday_2 ?_))
  refine wz_statI (M := MX6_isSpanUpToToday) (pc := 3) (M' := MX6_within) (n := 3) (As := [.int a1, .int 0, .int a2]) (st := []) dX6_isSpanUpToToday_3 rfl cat_iii okX6_isSpanUpToToday_X6_within cwX6_74 (Nat.le_of_ble_eq_true rfl) ⟨Nat.zero_le _, Nat.zero_le _⟩ rfl (ls0 := [some (.int a1), some (.int 0), some (.int a2)]) rfl (sX6_within  hS) (fun r2 h1 hS => ?_)
  refine wz_if_eq (tgt := 21) dX6_isSpanUpToToday_6 rfl (fun c3 => ?_) (fun c3 => ?_)
  · replace hS := hS.1 c3
    refine wz_iconst dX6_isSpanUpToToday_21 kiconst_0 ?_
    exact wi_zret dX6_isSpanUpToToday_22 rfl (isB_nar isB_0) hS
  · replace hS := hS.2 c3
    refine q_ild2 dX6_isSpanUpToToday_9 (q_ald0 dX6_isSpanUpToToday_10 (wz_getI dX6_isSpanUpToToday_11 cf6 t229 (kf := 6) gi_0_6 gc_0 rfl ?_))
    refine wz_icmp_gt (tgt := 21) dX6_isSpanUpToToday_14 rfl (fun c4 => ?_) (fun c4 => ?_)
    · replace hS := hS.1 c4
      refine wz_iconst dX6_isSpanUpToToday_21 kiconst_0 ?_
      exact wi_zret dX6_isSpanUpToToday_22 rfl (isB_nar isB_0) hS
    · replace hS := hS.2 c4
      refine wz_iconst dX6_isSpanUpToToday_17 kiconst_1 (wz_goto (tgt := 22) dX6_isSpanUpToToday_18 rfl ?_)
      exact wi_zret dX6_isSpanUpToToday_22 rfl (isB_nar isB_1) hS
def SX6_began (E : EN) (a1 : Int32) (a2 : Int32) (a3 : Int32) (h : TH) (Q : Int32 → TH → Prop) : Prop := SX1_has E a1 h (fun r2 h1 => ((r2 = 0 → SX6_finding E 1 h1 (fun r5 h4 => Q r5 h4)) ∧ (¬ r2 = 0 → SX6_isSpanUpToToday E a2 a3 h1 (fun r7 h6 => ((¬ r7 = 0 → vp_in a1 10 ∧ SX3_hasEnded E (a1.toNatClampNeg) h6 (fun r11 h10 => ((r11 = 0 → Q 1 (up (up h10 4 (a1.toNatClampNeg) 9 a2) 4 (a1.toNatClampNeg) 10 a3)) ∧ (¬ r11 = 0 → SX6_finding E 3 h10 (fun r14 h13 => Q r14 h13))))) ∧ (r7 = 0 → SX6_finding E 1 h6 (fun r16 h15 => Q r16 h15)))))))
set_option maxRecDepth 20000 in
theorem sX6_began {E : EN} {a1 : Int32} {a2 : Int32} {a3 : Int32} {h : TH} {Q : Int32 → TH → Prop}  (hS : SX6_began E a1 a2 a3 h Q) : wi E MX6_began Q 0 [some (rf 0 0), some (.int a1), some (.int a2), some (.int a3), none] [] h := by
  refine q_ald0 dX6_began_0 (wz_getR dX6_began_1 cf6 t202 (kf := 2) gr_0_2 gc_0 (q_ild1 dX6_began_4 ?_))
  refine wz_virtI (M := MX6_began) (pc := 5) (M' := MX1_has) (n := 1) (As := [.int a1]) (st := []) dX6_began_5 cf1 rfl go_2 gc_2 rfl cat_i okX6_began_X1_has cwX6_88 (Nat.le_of_ble_eq_true rfl) ⟨Nat.zero_le _, Nat.zero_le _⟩ rfl (ls0 := [some (rf 2 0), some (.int a1)]) rfl (sX1_has  hS) (fun r2 h1 hS => ?_)
  refine wz_if_eq (tgt := 20) dX6_began_8 rfl (fun c3 => ?_) (fun c3 => ?_)
  · replace hS := hS.1 c3
    refine q_ald0 dX6_began_20 (wz_iconst dX6_began_21 kiconst_1 ?_)
    refine wz_virtI (M := MX6_began) (pc := 22) (M' := MX6_finding) (n := 1) (As := [.int 1]) (st := []) dX6_began_22 cf6 rfl go_0 gc_0 rfl cat_i okX6_began_X6_finding cwX6_59 (Nat.le_of_ble_eq_true rfl) ⟨Nat.zero_le _, Nat.zero_le _⟩ rfl (ls0 := [some (rf 0 0), some (.int 1)]) rfl (sX6_finding  hS) (fun r5 h4 hS => ?_)
    exact wi_ret dX6_began_25 rfl hS
  · replace hS := hS.2 c3
    refine q_ald0 dX6_began_11 (q_ild2 dX6_began_12 (q_ild3 dX6_began_13 ?_))
    refine wz_virtI (M := MX6_began) (pc := 14) (M' := MX6_isSpanUpToToday) (n := 2) (As := [.int a2, .int a3]) (st := []) dX6_began_14 cf6 rfl go_0 gc_0 rfl cat_ii okX6_began_X6_isSpanUpToToday cwX6_101 (Nat.le_of_ble_eq_true rfl) ⟨Nat.zero_le _, Nat.zero_le _⟩ rfl (ls0 := [some (rf 0 0), some (.int a2), some (.int a3)]) rfl (sX6_isSpanUpToToday  hS) (fun r7 h6 hS => ?_)
    refine wz_if_ne (tgt := 26) dX6_began_17 rfl (fun c8 => ?_) (fun c8 => ?_)
    · replace hS := hS.1 c8
      refine q_ald0 dX6_began_26 (wz_getR dX6_began_27 cf6 t202 (kf := 2) gr_0_2 gc_0 (wz_getR dX6_began_30 cf1 t222 (kf := 0) gr_2_0 gc_2 (q_ild1 dX6_began_33 ?_)))
      obtain ⟨hi9, hS⟩ := hS
      refine wz_aald (t := 4) dX6_began_34 gq_3 gc_3 hi9 (q_ast4 dX6_began_35 (ltX6_began_4) rfl (q_ald4 dX6_began_37 ?_))
      refine wz_virtI (M := MX6_began) (pc := 39) (M' := MX3_hasEnded) (n := 0) (As := []) (st := []) dX6_began_39 cf3 rfl go_4 (vp_lt hi9) rfl cat_ okX6_began_X3_hasEnded cwX6_104 (Nat.le_of_ble_eq_true rfl) ⟨Nat.zero_le _, Nat.zero_le _⟩ rfl (ls0 := [some (rf 4 (a1.toNatClampNeg))]) rfl (sX3_hasEnded (vp_lt hi9) hS) (fun r11 h10 hS => ?_)
      refine wz_if_eq (tgt := 51) dX6_began_42 rfl (fun c12 => ?_) (fun c12 => ?_)
      · replace hS := hS.1 c12
        refine q_ald4 dX6_began_51 (q_ild2 dX6_began_53 (wz_putI dX6_began_54 cf3 t230 (kf := 9) gp_4_9 (vp_lt hi9) rfl (q_ald4 dX6_began_57 (q_ild3 dX6_began_59 (wz_putI dX6_began_60 cf3 t231 (kf := 10) gp_4_10 (vp_lt hi9) rfl (wz_iconst dX6_began_63 kiconst_1 ?_))))))
        exact wi_ret dX6_began_64 rfl hS
      · replace hS := hS.2 c12
        refine q_ald0 dX6_began_45 (wz_iconst dX6_began_46 kiconst_3 ?_)
        refine wz_virtI (M := MX6_began) (pc := 47) (M' := MX6_finding) (n := 1) (As := [.int 3]) (st := []) dX6_began_47 cf6 rfl go_0 gc_0 rfl cat_i okX6_began_X6_finding cwX6_59 (Nat.le_of_ble_eq_true rfl) ⟨Nat.zero_le _, Nat.zero_le _⟩ rfl (ls0 := [some (rf 0 0), some (.int 3)]) rfl (sX6_finding  hS) (fun r14 h13 hS => ?_)
        exact wi_ret dX6_began_50 rfl hS
    · replace hS := hS.2 c8
      refine q_ald0 dX6_began_20 (wz_iconst dX6_began_21 kiconst_1 ?_)
      refine wz_virtI (M := MX6_began) (pc := 22) (M' := MX6_finding) (n := 1) (As := [.int 1]) (st := []) dX6_began_22 cf6 rfl go_0 gc_0 rfl cat_i okX6_began_X6_finding cwX6_59 (Nat.le_of_ble_eq_true rfl) ⟨Nat.zero_le _, Nat.zero_le _⟩ rfl (ls0 := [some (rf 0 0), some (.int 1)]) rfl (sX6_finding  hS) (fun r16 h15 hS => ?_)
      exact wi_ret dX6_began_25 rfl hS
def SX6_ended (E : EN) (a1 : Int32) (a2 : Int32) (a3 : Int32) (h : TH) (Q : Int32 → TH → Prop) : Prop := SX1_has E a1 h (fun r2 h1 => ((r2 = 0 → SX6_finding E 1 h1 (fun r5 h4 => Q r5 h4)) ∧ (¬ r2 = 0 → SX6_isSpanUpToToday E a2 a3 h1 (fun r7 h6 => ((¬ r7 = 0 → vp_in a1 10 ∧ (((h6 4 (a1.toNatClampNeg) 9) ≤ a2 → SX3_hasBegun E (a1.toNatClampNeg) h6 (fun r12 h11 => ((¬ r12 = 0 → Q 1 (up (up h11 4 (a1.toNatClampNeg) 11 a2) 4 (a1.toNatClampNeg) 12 a3)) ∧ (r12 = 0 → SX6_finding E 3 h11 (fun r15 h14 => Q r15 h14))))) ∧ (¬ (h6 4 (a1.toNatClampNeg) 9) ≤ a2 → SX6_finding E 1 h6 (fun r17 h16 => Q r17 h16)))) ∧ (r7 = 0 → SX6_finding E 1 h6 (fun r19 h18 => Q r19 h18)))))))
set_option maxRecDepth 20000 in
theorem sX6_ended {E : EN} {a1 : Int32} {a2 : Int32} {a3 : Int32} {h : TH} {Q : Int32 → TH → Prop}  (hS : SX6_ended E a1 a2 a3 h Q) : wi E MX6_ended Q 0 [some (rf 0 0), some (.int a1), some (.int a2), some (.int a3), none] [] h := by
  refine q_ald0 dX6_ended_0 (wz_getR dX6_ended_1 cf6 t202 (kf := 2) gr_0_2 gc_0 (q_ild1 dX6_ended_4 ?_))
  refine wz_virtI (M := MX6_ended) (pc := 5) (M' := MX1_has) (n := 1) (As := [.int a1]) (st := []) dX6_ended_5 cf1 rfl go_2 gc_2 rfl cat_i okX6_ended_X1_has cwX6_88 (Nat.le_of_ble_eq_true rfl) ⟨Nat.zero_le _, Nat.zero_le _⟩ rfl (ls0 := [some (rf 2 0), some (.int a1)]) rfl (sX1_has  hS) (fun r2 h1 hS => ?_)
  refine wz_if_eq (tgt := 20) dX6_ended_8 rfl (fun c3 => ?_) (fun c3 => ?_)
  · replace hS := hS.1 c3
    refine q_ald0 dX6_ended_20 (wz_iconst dX6_ended_21 kiconst_1 ?_)
    refine wz_virtI (M := MX6_ended) (pc := 22) (M' := MX6_finding) (n := 1) (As := [.int 1]) (st := []) dX6_ended_22 cf6 rfl go_0 gc_0 rfl cat_i okX6_ended_X6_finding cwX6_59 (Nat.le_of_ble_eq_true rfl) ⟨Nat.zero_le _, Nat.zero_le _⟩ rfl (ls0 := [some (rf 0 0), some (.int 1)]) rfl (sX6_finding  hS) (fun r5 h4 hS => ?_)
    exact wi_ret dX6_ended_25 rfl hS
  · replace hS := hS.2 c3
    refine q_ald0 dX6_ended_11 (q_ild2 dX6_ended_12 (q_ild3 dX6_ended_13 ?_))
    refine wz_virtI (M := MX6_ended) (pc := 14) (M' := MX6_isSpanUpToToday) (n := 2) (As := [.int a2, .int a3]) (st := []) dX6_ended_14 cf6 rfl go_0 gc_0 rfl cat_ii okX6_ended_X6_isSpanUpToToday cwX6_101 (Nat.le_of_ble_eq_true rfl) ⟨Nat.zero_le _, Nat.zero_le _⟩ rfl (ls0 := [some (rf 0 0), some (.int a2), some (.int a3)]) rfl (sX6_isSpanUpToToday  hS) (fun r7 h6 hS => ?_)
    refine wz_if_ne (tgt := 26) dX6_ended_17 rfl (fun c8 => ?_) (fun c8 => ?_)
    · replace hS := hS.1 c8
      refine q_ald0 dX6_ended_26 (wz_getR dX6_ended_27 cf6 t202 (kf := 2) gr_0_2 gc_0 (wz_getR dX6_ended_30 cf1 t222 (kf := 0) gr_2_0 gc_2 (q_ild1 dX6_ended_33 ?_)))
      obtain ⟨hi9, hS⟩ := hS
      refine wz_aald (t := 4) dX6_ended_34 gq_3 gc_3 hi9 (q_ast4 dX6_ended_35 (ltX6_ended_4) rfl (q_ild2 dX6_ended_37 (q_ald4 dX6_ended_38 (wz_getI dX6_ended_40 cf3 t230 (kf := 9) gi_4_9 (vp_lt hi9) rfl ?_))))
      refine wz_icmp_ge (tgt := 52) dX6_ended_43 rfl (fun c10 => ?_) (fun c10 => ?_)
      · replace hS := hS.1 c10
        refine q_ald4 dX6_ended_52 ?_
        refine wz_virtI (M := MX6_ended) (pc := 54) (M' := MX3_hasBegun) (n := 0) (As := []) (st := []) dX6_ended_54 cf3 rfl go_4 (vp_lt hi9) rfl cat_ okX6_ended_X3_hasBegun cwX6_114 (Nat.le_of_ble_eq_true rfl) ⟨Nat.zero_le _, Nat.zero_le _⟩ rfl (ls0 := [some (rf 4 (a1.toNatClampNeg))]) rfl (sX3_hasBegun (vp_lt hi9) hS) (fun r12 h11 hS => ?_)
        refine wz_if_ne (tgt := 66) dX6_ended_57 rfl (fun c13 => ?_) (fun c13 => ?_)
        · replace hS := hS.1 c13
          refine q_ald4 dX6_ended_66 (q_ild2 dX6_ended_68 (wz_putI dX6_ended_69 cf3 t240 (kf := 11) gp_4_11 (vp_lt hi9) rfl (q_ald4 dX6_ended_72 (q_ild3 dX6_ended_74 (wz_putI dX6_ended_75 cf3 t241 (kf := 12) gp_4_12 (vp_lt hi9) rfl (wz_iconst dX6_ended_78 kiconst_1 ?_))))))
          exact wi_ret dX6_ended_79 rfl hS
        · replace hS := hS.2 c13
          refine q_ald0 dX6_ended_60 (wz_iconst dX6_ended_61 kiconst_3 ?_)
          refine wz_virtI (M := MX6_ended) (pc := 62) (M' := MX6_finding) (n := 1) (As := [.int 3]) (st := []) dX6_ended_62 cf6 rfl go_0 gc_0 rfl cat_i okX6_ended_X6_finding cwX6_59 (Nat.le_of_ble_eq_true rfl) ⟨Nat.zero_le _, Nat.zero_le _⟩ rfl (ls0 := [some (rf 0 0), some (.int 3)]) rfl (sX6_finding  hS) (fun r15 h14 hS => ?_)
          exact wi_ret dX6_ended_65 rfl hS
      · replace hS := hS.2 c10
        refine q_ald0 dX6_ended_46 (wz_iconst dX6_ended_47 kiconst_1 ?_)
        refine wz_virtI (M := MX6_ended) (pc := 48) (M' := MX6_finding) (n := 1) (As := [.int 1]) (st := []) dX6_ended_48 cf6 rfl go_0 gc_0 rfl cat_i okX6_ended_X6_finding cwX6_59 (Nat.le_of_ble_eq_true rfl) ⟨Nat.zero_le _, Nat.zero_le _⟩ rfl (ls0 := [some (rf 0 0), some (.int 1)]) rfl (sX6_finding  hS) (fun r17 h16 hS => ?_)
        exact wi_ret dX6_ended_51 rfl hS
    · replace hS := hS.2 c8
      refine q_ald0 dX6_ended_20 (wz_iconst dX6_ended_21 kiconst_1 ?_)
      refine wz_virtI (M := MX6_ended) (pc := 22) (M' := MX6_finding) (n := 1) (As := [.int 1]) (st := []) dX6_ended_22 cf6 rfl go_0 gc_0 rfl cat_i okX6_ended_X6_finding cwX6_59 (Nat.le_of_ble_eq_true rfl) ⟨Nat.zero_le _, Nat.zero_le _⟩ rfl (ls0 := [some (rf 0 0), some (.int 1)]) rfl (sX6_finding  hS) (fun r19 h18 hS => ?_)
      exact wi_ret dX6_ended_25 rfl hS
def SX6_notice (E : EN) (a1 : Int32) (h : TH) (Q : Int32 → TH → Prop) : Prop := SX1_has E a1 h (fun r2 h1 => ((¬ r2 = 0 → vp_in a1 10 ∧ (((h1 4 (a1.toNatClampNeg) 8) = (-1) → Q 1 (up h1 4 (a1.toNatClampNeg) 8 (h1 0 0 6))) ∧ (¬ (h1 4 (a1.toNatClampNeg) 8) = (-1) → SX6_finding E 3 h1 (fun r7 h6 => Q r7 h6)))) ∧ (r2 = 0 → SX6_finding E 1 h1 (fun r9 h8 => Q r9 h8))))
set_option maxRecDepth 20000 in
theorem sX6_notice {E : EN} {a1 : Int32} {h : TH} {Q : Int32 → TH → Prop}  (hS : SX6_notice E a1 h Q) : wi E MX6_notice Q 0 [some (rf 0 0), some (.int a1), none] [] h := by
  refine q_ald0 dX6_notice_0 (wz_getR dX6_notice_1 cf6 t202 (kf := 2) gr_0_2 gc_0 (q_ild1 dX6_notice_4 ?_))
  refine wz_virtI (M := MX6_notice) (pc := 5) (M' := MX1_has) (n := 1) (As := [.int a1]) (st := []) dX6_notice_5 cf1 rfl go_2 gc_2 rfl cat_i okX6_notice_X1_has cwX6_88 (Nat.le_of_ble_eq_true rfl) ⟨Nat.zero_le _, Nat.zero_le _⟩ rfl (ls0 := [some (rf 2 0), some (.int a1)]) rfl (sX1_has  hS) (fun r2 h1 hS => ?_)
  refine wz_if_ne (tgt := 17) dX6_notice_8 rfl (fun c3 => ?_) (fun c3 => ?_)
  · replace hS := hS.1 c3
    refine q_ald0 dX6_notice_17 (wz_getR dX6_notice_18 cf6 t202 (kf := 2) gr_0_2 gc_0 (wz_getR dX6_notice_21 cf1 t222 (kf := 0) gr_2_0 gc_2 (q_ild1 dX6_notice_24 ?_)))
    obtain ⟨hi4, hS⟩ := hS
    refine wz_aald (t := 4) dX6_notice_25 gq_3 gc_3 hi4 (q_ast2 dX6_notice_26 (ltX6_notice_2) rfl (q_ald2 dX6_notice_27 (wz_getI dX6_notice_28 cf3 t246 (kf := 8) gi_4_8 (vp_lt hi4) rfl (wz_iconst dX6_notice_31 kiconst_m1 ?_))))
    refine wz_icmp_eq (tgt := 41) dX6_notice_32 rfl (fun c5 => ?_) (fun c5 => ?_)
    · replace hS := hS.1 c5
      refine q_ald2 dX6_notice_41 (q_ald0 dX6_notice_42 (wz_getI dX6_notice_43 cf6 t229 (kf := 6) gi_0_6 gc_0 rfl (wz_putI dX6_notice_46 cf3 t246 (kf := 8) gp_4_8 (vp_lt hi4) rfl (wz_iconst dX6_notice_49 kiconst_1 ?_))))
      exact wi_ret dX6_notice_50 rfl hS
    · replace hS := hS.2 c5
      refine q_ald0 dX6_notice_35 (wz_iconst dX6_notice_36 kiconst_3 ?_)
      refine wz_virtI (M := MX6_notice) (pc := 37) (M' := MX6_finding) (n := 1) (As := [.int 3]) (st := []) dX6_notice_37 cf6 rfl go_0 gc_0 rfl cat_i okX6_notice_X6_finding cwX6_59 (Nat.le_of_ble_eq_true rfl) ⟨Nat.zero_le _, Nat.zero_le _⟩ rfl (ls0 := [some (rf 0 0), some (.int 3)]) rfl (sX6_finding  hS) (fun r7 h6 hS => ?_)
      exact wi_ret dX6_notice_40 rfl hS
  · replace hS := hS.2 c3
    refine q_ald0 dX6_notice_11 (wz_iconst dX6_notice_12 kiconst_1 ?_)
    refine wz_virtI (M := MX6_notice) (pc := 13) (M' := MX6_finding) (n := 1) (As := [.int 1]) (st := []) dX6_notice_13 cf6 rfl go_0 gc_0 rfl cat_i okX6_notice_X6_finding cwX6_59 (Nat.le_of_ble_eq_true rfl) ⟨Nat.zero_le _, Nat.zero_le _⟩ rfl (ls0 := [some (rf 0 0), some (.int 1)]) rfl (sX6_finding  hS) (fun r9 h8 hS => ?_)
    exact wi_ret dX6_notice_16 rfl hS
def SX6_pay (E : EN) (a1 : Int32) (a2 : Int32) (h : TH) (Q : Int32 → TH → Prop) : Prop := SX1_has E a1 h (fun r2 h1 => ((r2 = 0 → SX6_finding E 1 h1 (fun r5 h4 => Q r5 h4)) ∧ (¬ r2 = 0 → SX6_within E a2 1 100000 h1 (fun r7 h6 => ((¬ r7 = 0 → vp_in a1 10 ∧ SX3_owing E (a1.toNatClampNeg) h6 (fun r11 h10 => ((a2 ≤ r11 → wv E MX1_settleWaived (fun h13 => SX3_owing E (a1.toNatClampNeg) h13 (fun r16 h15 => Q r16 h15)) 0 [some (rf 2 0), some (.int a1), none, none, none] [] (up h10 4 (a1.toNatClampNeg) 6 ((h10 4 (a1.toNatClampNeg) 6) + a2))) ∧ (¬ a2 ≤ r11 → SX6_finding E 3 h10 (fun r18 h17 => Q r18 h17))))) ∧ (r7 = 0 → SX6_finding E 1 h6 (fun r20 h19 => Q r20 h19)))))))
set_option maxRecDepth 20000 in
theorem sX6_pay {E : EN} {a1 : Int32} {a2 : Int32} {h : TH} {Q : Int32 → TH → Prop}  (hS : SX6_pay E a1 a2 h Q) : wi E MX6_pay Q 0 [some (rf 0 0), some (.int a1), some (.int a2), none] [] h := by
  refine q_ald0 dX6_pay_0 (wz_getR dX6_pay_1 cf6 t202 (kf := 2) gr_0_2 gc_0 (q_ild1 dX6_pay_4 ?_))
  refine wz_virtI (M := MX6_pay) (pc := 5) (M' := MX1_has) (n := 1) (As := [.int a1]) (st := []) dX6_pay_5 cf1 rfl go_2 gc_2 rfl cat_i okX6_pay_X1_has cwX6_88 (Nat.le_of_ble_eq_true rfl) ⟨Nat.zero_le _, Nat.zero_le _⟩ rfl (ls0 := [some (rf 2 0), some (.int a1)]) rfl (sX1_has  hS) (fun r2 h1 hS => ?_)
  refine wz_if_eq (tgt := 21) dX6_pay_8 rfl (fun c3 => ?_) (fun c3 => ?_)
  · replace hS := hS.1 c3
    refine q_ald0 dX6_pay_21 (wz_iconst dX6_pay_22 kiconst_1 ?_)
    refine wz_virtI (M := MX6_pay) (pc := 23) (M' := MX6_finding) (n := 1) (As := [.int 1]) (st := []) dX6_pay_23 cf6 rfl go_0 gc_0 rfl cat_i okX6_pay_X6_finding cwX6_59 (Nat.le_of_ble_eq_true rfl) ⟨Nat.zero_le _, Nat.zero_le _⟩ rfl (ls0 := [some (rf 0 0), some (.int 1)]) rfl (sX6_finding  hS) (fun r5 h4 hS => ?_)
    exact wi_ret dX6_pay_26 rfl hS
  · replace hS := hS.2 c3
    refine q_ild2 dX6_pay_11 (wz_iconst dX6_pay_12 kiconst_1 (wz_ldc dX6_pay_13 t215 ?_))
    refine wz_statI (M := MX6_pay) (pc := 15) (M' := MX6_within) (n := 3) (As := [.int a2, .int 1, .int 100000]) (st := []) dX6_pay_15 rfl cat_iii okX6_pay_X6_within cwX6_74 (Nat.le_of_ble_eq_true rfl) ⟨Nat.zero_le _, Nat.zero_le _⟩ rfl (ls0 := [some (.int a2), some (.int 1), some (.int 100000)]) rfl (sX6_within  hS) (fun r7 h6 hS => ?_)
    refine wz_if_ne (tgt := 27) dX6_pay_18 rfl (fun c8 => ?_) (fun c8 => ?_)
    · replace hS := hS.1 c8
      refine q_ald0 dX6_pay_27 (wz_getR dX6_pay_28 cf6 t202 (kf := 2) gr_0_2 gc_0 (wz_getR dX6_pay_31 cf1 t222 (kf := 0) gr_2_0 gc_2 (q_ild1 dX6_pay_34 ?_)))
      obtain ⟨hi9, hS⟩ := hS
      refine wz_aald (t := 4) dX6_pay_35 gq_3 gc_3 hi9 (q_ast3 dX6_pay_36 (ltX6_pay_3) rfl (q_ild2 dX6_pay_37 (q_ald3 dX6_pay_38 ?_)))
      refine wz_virtI (M := MX6_pay) (pc := 39) (M' := MX3_owing) (n := 0) (As := []) (st := [.int a2]) dX6_pay_39 cf3 rfl go_4 (vp_lt hi9) rfl cat_ okX6_pay_X3_owing cwX6_129 (Nat.le_of_ble_eq_true rfl) ⟨Nat.zero_le _, Nat.zero_le _⟩ rfl (ls0 := [some (rf 4 (a1.toNatClampNeg))]) rfl (sX3_owing (vp_lt hi9) hS) (fun r11 h10 hS => ?_)
      refine wz_icmp_le (tgt := 51) dX6_pay_42 rfl (fun c12 => ?_) (fun c12 => ?_)
      · replace hS := hS.1 c12
        refine q_ald3 dX6_pay_51 (wz_dup dX6_pay_52 rfl (wz_getI dX6_pay_53 cf3 t247 (kf := 6) gi_4_6 (vp_lt hi9) rfl (q_ild2 dX6_pay_56 (wz_iadd dX6_pay_57 (wz_putI dX6_pay_58 cf3 t247 (kf := 6) gp_4_6 (vp_lt hi9) rfl (q_ald0 dX6_pay_61 (wz_getR dX6_pay_62 cf6 t202 (kf := 2) gr_0_2 gc_0 ?_)))))))
        refine wz_pc (pc2 := 65) rfl ?_
        refine q_ild1 dX6_pay_65 ?_
        refine wz_virtV (M := MX6_pay) (pc := 66) (M' := MX1_settleWaived) (n := 1) (As := [.int a1]) (st := []) dX6_pay_66 cf1 rfl go_2 gc_2 rfl cat_i okX6_pay_X1_settleWaived cwX6_136 (Nat.le_of_ble_eq_true rfl) ⟨Nat.zero_le _, Nat.zero_le _⟩ rfl (ls0 := [some (rf 2 0), some (.int a1), none, none, none]) rfl hS (fun h13 hS => ?_)
        refine q_ald3 dX6_pay_69 ?_
        refine wz_virtI (M := MX6_pay) (pc := 70) (M' := MX3_owing) (n := 0) (As := []) (st := []) dX6_pay_70 cf3 rfl go_4 (vp_lt hi9) rfl cat_ okX6_pay_X3_owing cwX6_129 (Nat.le_of_ble_eq_true rfl) ⟨Nat.zero_le _, Nat.zero_le _⟩ rfl (ls0 := [some (rf 4 (a1.toNatClampNeg))]) rfl (sX3_owing (vp_lt hi9) hS) (fun r16 h15 hS => ?_)
        exact wi_ret dX6_pay_73 rfl hS
      · replace hS := hS.2 c12
        refine q_ald0 dX6_pay_45 (wz_iconst dX6_pay_46 kiconst_3 ?_)
        refine wz_virtI (M := MX6_pay) (pc := 47) (M' := MX6_finding) (n := 1) (As := [.int 3]) (st := []) dX6_pay_47 cf6 rfl go_0 gc_0 rfl cat_i okX6_pay_X6_finding cwX6_59 (Nat.le_of_ble_eq_true rfl) ⟨Nat.zero_le _, Nat.zero_le _⟩ rfl (ls0 := [some (rf 0 0), some (.int 3)]) rfl (sX6_finding  hS) (fun r18 h17 hS => ?_)
        exact wi_ret dX6_pay_50 rfl hS
    · replace hS := hS.2 c8
      refine q_ald0 dX6_pay_21 (wz_iconst dX6_pay_22 kiconst_1 ?_)
      refine wz_virtI (M := MX6_pay) (pc := 23) (M' := MX6_finding) (n := 1) (As := [.int 1]) (st := []) dX6_pay_23 cf6 rfl go_0 gc_0 rfl cat_i okX6_pay_X6_finding cwX6_59 (Nat.le_of_ble_eq_true rfl) ⟨Nat.zero_le _, Nat.zero_le _⟩ rfl (ls0 := [some (rf 0 0), some (.int 1)]) rfl (sX6_finding  hS) (fun r20 h19 hS => ?_)
      exact wi_ret dX6_pay_26 rfl hS
def SX6_waive (E : EN) (a1 : Int32) (a2 : Int32) (a3 : Int32) (h : TH) (Q : Int32 → TH → Prop) : Prop := SX1_has E a1 h (fun r2 h1 => ((r2 = 0 → SX6_finding E 1 h1 (fun r5 h4 => Q r5 h4)) ∧ (¬ r2 = 0 → SX6_within E a2 0 1000000 h1 (fun r7 h6 => ((r7 = 0 → SX6_finding E 1 h6 (fun r10 h9 => Q r10 h9)) ∧ (¬ r7 = 0 → SX6_within E a3 0 1 h6 (fun r12 h11 => ((¬ r12 = 0 → (((h11 2 0 5) < 20 → SX1_addWaiver E a1 a2 a3 h11 (fun h15 => vp_in a1 10 ∧ Q (h15 4 (a1.toNatClampNeg) 7) h15)) ∧ (¬ (h11 2 0 5) < 20 → SX6_finding E 4 h11 (fun r19 h18 => Q r19 h18)))) ∧ (r12 = 0 → SX6_finding E 1 h11 (fun r21 h20 => Q r21 h20))))))))))
set_option maxRecDepth 20000 in
theorem sX6_waive {E : EN} {a1 : Int32} {a2 : Int32} {a3 : Int32} {h : TH} {Q : Int32 → TH → Prop}  (hS : SX6_waive E a1 a2 a3 h Q) : wi E MX6_waive Q 0 [some (rf 0 0), some (.int a1), some (.int a2), some (.int a3)] [] h := by
  refine q_ald0 dX6_waive_0 (wz_getR dX6_waive_1 cf6 t202 (kf := 2) gr_0_2 gc_0 (q_ild1 dX6_waive_4 ?_))
  refine wz_virtI (M := MX6_waive) (pc := 5) (M' := MX1_has) (n := 1) (As := [.int a1]) (st := []) dX6_waive_5 cf1 rfl go_2 gc_2 rfl cat_i okX6_waive_X1_has cwX6_88 (Nat.le_of_ble_eq_true rfl) ⟨Nat.zero_le _, Nat.zero_le _⟩ rfl (ls0 := [some (rf 2 0), some (.int a1)]) rfl (sX1_has  hS) (fun r2 h1 hS => ?_)
  refine wz_if_eq (tgt := 30) dX6_waive_8 rfl (fun c3 => ?_) (fun c3 => ?_)
  · replace hS := hS.1 c3
    refine q_ald0 dX6_waive_30 (wz_iconst dX6_waive_31 kiconst_1 ?_)
    refine wz_virtI (M := MX6_waive) (pc := 32) (M' := MX6_finding) (n := 1) (As := [.int 1]) (st := []) dX6_waive_32 cf6 rfl go_0 gc_0 rfl cat_i okX6_waive_X6_finding cwX6_59 (Nat.le_of_ble_eq_true rfl) ⟨Nat.zero_le _, Nat.zero_le _⟩ rfl (ls0 := [some (rf 0 0), some (.int 1)]) rfl (sX6_finding  hS) (fun r5 h4 hS => ?_)
    exact wi_ret dX6_waive_35 rfl hS
  · replace hS := hS.2 c3
    refine q_ild2 dX6_waive_11 (wz_iconst dX6_waive_12 kiconst_0 (wz_ldc dX6_waive_13 t224 ?_))
    refine wz_statI (M := MX6_waive) (pc := 15) (M' := MX6_within) (n := 3) (As := [.int a2, .int 0, .int 1000000]) (st := []) dX6_waive_15 rfl cat_iii okX6_waive_X6_within cwX6_74 (Nat.le_of_ble_eq_true rfl) ⟨Nat.zero_le _, Nat.zero_le _⟩ rfl (ls0 := [some (.int a2), some (.int 0), some (.int 1000000)]) rfl (sX6_within  hS) (fun r7 h6 hS => ?_)
    refine wz_if_eq (tgt := 30) dX6_waive_18 rfl (fun c8 => ?_) (fun c8 => ?_)
    · replace hS := hS.1 c8
      refine q_ald0 dX6_waive_30 (wz_iconst dX6_waive_31 kiconst_1 ?_)
      refine wz_virtI (M := MX6_waive) (pc := 32) (M' := MX6_finding) (n := 1) (As := [.int 1]) (st := []) dX6_waive_32 cf6 rfl go_0 gc_0 rfl cat_i okX6_waive_X6_finding cwX6_59 (Nat.le_of_ble_eq_true rfl) ⟨Nat.zero_le _, Nat.zero_le _⟩ rfl (ls0 := [some (rf 0 0), some (.int 1)]) rfl (sX6_finding  hS) (fun r10 h9 hS => ?_)
      exact wi_ret dX6_waive_35 rfl hS
    · replace hS := hS.2 c8
      refine q_ild3 dX6_waive_21 (wz_iconst dX6_waive_22 kiconst_0 (wz_iconst dX6_waive_23 kiconst_1 ?_))
      refine wz_statI (M := MX6_waive) (pc := 24) (M' := MX6_within) (n := 3) (As := [.int a3, .int 0, .int 1]) (st := []) dX6_waive_24 rfl cat_iii okX6_waive_X6_within cwX6_74 (Nat.le_of_ble_eq_true rfl) ⟨Nat.zero_le _, Nat.zero_le _⟩ rfl (ls0 := [some (.int a3), some (.int 0), some (.int 1)]) rfl (sX6_within  hS) (fun r12 h11 hS => ?_)
      refine wz_if_ne (tgt := 36) dX6_waive_27 rfl (fun c13 => ?_) (fun c13 => ?_)
      · replace hS := hS.1 c13
        refine q_ald0 dX6_waive_36 (wz_getR dX6_waive_37 cf6 t202 (kf := 2) gr_0_2 gc_0 (wz_getI dX6_waive_40 cf1 t250 (kf := 5) gi_2_5 gc_2 rfl (wz_bipush dX6_waive_43 kbipush_20 ?_)))
        refine wz_icmp_lt (tgt := 54) dX6_waive_45 rfl (fun c14 => ?_) (fun c14 => ?_)
        · replace hS := hS.1 c14
          refine q_ald0 dX6_waive_54 (wz_getR dX6_waive_55 cf6 t202 (kf := 2) gr_0_2 gc_0 (q_ild1 dX6_waive_58 (q_ild2 dX6_waive_59 (q_ild3 dX6_waive_60 ?_))))
          refine wz_virtV (M := MX6_waive) (pc := 61) (M' := MX1_addWaiver) (n := 3) (As := [.int a1, .int a2, .int a3]) (st := []) dX6_waive_61 cf1 rfl go_2 gc_2 rfl cat_iii okX6_waive_X1_addWaiver cwX6_143 (Nat.le_of_ble_eq_true rfl) ⟨Nat.zero_le _, Nat.zero_le _⟩ rfl (ls0 := [some (rf 2 0), some (.int a1), some (.int a2), some (.int a3)]) rfl (sX1_addWaiver  hS) (fun h15 hS => ?_)
          refine q_ald0 dX6_waive_64 (wz_getR dX6_waive_65 cf6 t202 (kf := 2) gr_0_2 gc_0 (wz_getR dX6_waive_68 cf1 t222 (kf := 0) gr_2_0 gc_2 (q_ild1 dX6_waive_71 ?_)))
          obtain ⟨hi17, hS⟩ := hS
          refine wz_aald (t := 4) dX6_waive_72 gq_3 gc_3 hi17 (wz_getI dX6_waive_73 cf3 t251 (kf := 7) gi_4_7 (vp_lt hi17) rfl ?_)
          exact wi_ret dX6_waive_76 rfl hS
        · replace hS := hS.2 c14
          refine q_ald0 dX6_waive_48 (wz_iconst dX6_waive_49 kiconst_4 ?_)
          refine wz_virtI (M := MX6_waive) (pc := 50) (M' := MX6_finding) (n := 1) (As := [.int 4]) (st := []) dX6_waive_50 cf6 rfl go_0 gc_0 rfl cat_i okX6_waive_X6_finding cwX6_59 (Nat.le_of_ble_eq_true rfl) ⟨Nat.zero_le _, Nat.zero_le _⟩ rfl (ls0 := [some (rf 0 0), some (.int 4)]) rfl (sX6_finding  hS) (fun r19 h18 hS => ?_)
          exact wi_ret dX6_waive_53 rfl hS
      · replace hS := hS.2 c13
        refine q_ald0 dX6_waive_30 (wz_iconst dX6_waive_31 kiconst_1 ?_)
        refine wz_virtI (M := MX6_waive) (pc := 32) (M' := MX6_finding) (n := 1) (As := [.int 1]) (st := []) dX6_waive_32 cf6 rfl go_0 gc_0 rfl cat_i okX6_waive_X6_finding cwX6_59 (Nat.le_of_ble_eq_true rfl) ⟨Nat.zero_le _, Nat.zero_le _⟩ rfl (ls0 := [some (rf 0 0), some (.int 1)]) rfl (sX6_finding  hS) (fun r21 h20 hS => ?_)
        exact wi_ret dX6_waive_35 rfl hS
def SX6_of (E : EN) (a1 : Int32) (a2 : Int32) (h : TH) (Q : Int32 → TH → Prop) : Prop := SX1_has E a1 h (fun r2 h1 => ((r2 = 0 → SX6_finding E 1 h1 (fun r5 h4 => Q r5 h4)) ∧ (¬ r2 = 0 → SX6_within E a2 0 13 h1 (fun r7 h6 => ((¬ r7 = 0 → vp_in a1 10 ∧ SX3_detail E (a1.toNatClampNeg) a2 h6 (fun r11 h10 => Q r11 h10)) ∧ (r7 = 0 → SX6_finding E 1 h6 (fun r13 h12 => Q r13 h12)))))))
set_option maxRecDepth 20000 in
theorem sX6_of {E : EN} {a1 : Int32} {a2 : Int32} {h : TH} {Q : Int32 → TH → Prop}  (hS : SX6_of E a1 a2 h Q) : wi E MX6_of Q 0 [some (rf 0 0), some (.int a1), some (.int a2)] [] h := by
  refine q_ald0 dX6_of_0 (wz_getR dX6_of_1 cf6 t202 (kf := 2) gr_0_2 gc_0 (q_ild1 dX6_of_4 ?_))
  refine wz_virtI (M := MX6_of) (pc := 5) (M' := MX1_has) (n := 1) (As := [.int a1]) (st := []) dX6_of_5 cf1 rfl go_2 gc_2 rfl cat_i okX6_of_X1_has cwX6_88 (Nat.le_of_ble_eq_true rfl) ⟨Nat.zero_le _, Nat.zero_le _⟩ rfl (ls0 := [some (rf 2 0), some (.int a1)]) rfl (sX1_has  hS) (fun r2 h1 hS => ?_)
  refine wz_if_eq (tgt := 21) dX6_of_8 rfl (fun c3 => ?_) (fun c3 => ?_)
  · replace hS := hS.1 c3
    refine q_ald0 dX6_of_21 (wz_iconst dX6_of_22 kiconst_1 ?_)
    refine wz_virtI (M := MX6_of) (pc := 23) (M' := MX6_finding) (n := 1) (As := [.int 1]) (st := []) dX6_of_23 cf6 rfl go_0 gc_0 rfl cat_i okX6_of_X6_finding cwX6_59 (Nat.le_of_ble_eq_true rfl) ⟨Nat.zero_le _, Nat.zero_le _⟩ rfl (ls0 := [some (rf 0 0), some (.int 1)]) rfl (sX6_finding  hS) (fun r5 h4 hS => ?_)
    exact wi_ret dX6_of_26 rfl hS
  · replace hS := hS.2 c3
    refine q_ild2 dX6_of_11 (wz_iconst dX6_of_12 kiconst_0 (wz_bipush dX6_of_13 kbipush_13 ?_))
    refine wz_statI (M := MX6_of) (pc := 15) (M' := MX6_within) (n := 3) (As := [.int a2, .int 0, .int 13]) (st := []) dX6_of_15 rfl cat_iii okX6_of_X6_within cwX6_74 (Nat.le_of_ble_eq_true rfl) ⟨Nat.zero_le _, Nat.zero_le _⟩ rfl (ls0 := [some (.int a2), some (.int 0), some (.int 13)]) rfl (sX6_within  hS) (fun r7 h6 hS => ?_)
    refine wz_if_ne (tgt := 27) dX6_of_18 rfl (fun c8 => ?_) (fun c8 => ?_)
    · replace hS := hS.1 c8
      refine q_ald0 dX6_of_27 (wz_getR dX6_of_28 cf6 t202 (kf := 2) gr_0_2 gc_0 (wz_getR dX6_of_31 cf1 t222 (kf := 0) gr_2_0 gc_2 (q_ild1 dX6_of_34 ?_)))
      obtain ⟨hi9, hS⟩ := hS
      refine wz_aald (t := 4) dX6_of_35 gq_3 gc_3 hi9 (q_ild2 dX6_of_36 ?_)
      refine wz_virtI (M := MX6_of) (pc := 37) (M' := MX3_detail) (n := 1) (As := [.int a2]) (st := []) dX6_of_37 cf3 rfl go_4 (vp_lt hi9) rfl cat_i okX6_of_X3_detail cwX6_150 (Nat.le_of_ble_eq_true rfl) ⟨Nat.zero_le _, Nat.zero_le _⟩ rfl (ls0 := [some (rf 4 (a1.toNatClampNeg)), some (.int a2)]) rfl (sX3_detail (vp_lt hi9) hS) (fun r11 h10 hS => ?_)
      exact wi_ret dX6_of_40 rfl hS
    · replace hS := hS.2 c8
      refine q_ald0 dX6_of_21 (wz_iconst dX6_of_22 kiconst_1 ?_)
      refine wz_virtI (M := MX6_of) (pc := 23) (M' := MX6_finding) (n := 1) (As := [.int 1]) (st := []) dX6_of_23 cf6 rfl go_0 gc_0 rfl cat_i okX6_of_X6_finding cwX6_59 (Nat.le_of_ble_eq_true rfl) ⟨Nat.zero_le _, Nat.zero_le _⟩ rfl (ls0 := [some (rf 0 0), some (.int 1)]) rfl (sX6_finding  hS) (fun r13 h12 hS => ?_)
      exact wi_ret dX6_of_26 rfl hS
def SX6_day (E : EN) (a1 : Int32) (h : TH) (Q : Int32 → TH → Prop) : Prop := SX6_within E a1 (h 0 0 6) 5000 h (fun r2 h1 => ((¬ r2 = 0 → Q (a1 - (h1 0 0 6)) (up h1 0 0 6 a1)) ∧ (r2 = 0 → SX6_finding E 1 h1 (fun r5 h4 => Q r5 h4))))
set_option maxRecDepth 20000 in
theorem sX6_day {E : EN} {a1 : Int32} {h : TH} {Q : Int32 → TH → Prop}  (hS : SX6_day E a1 h Q) : wi E MX6_day Q 0 [some (rf 0 0), some (.int a1), none] [] h := by
  refine q_ild1 dX6_day_0 (q_ald0 dX6_day_1 (wz_getI dX6_day_2 cf6 t229 (kf := 6) gi_0_6 gc_0 rfl (wz_sipush dX6_day_5 ksipush_5000 ?_)))
  refine wz_statI (M := MX6_day) (pc := 8) (M' := MX6_within) (n := 3) (As := [.int a1, .int (h 0 0 6), .int 5000]) (st := []) dX6_day_8 rfl cat_iii okX6_day_X6_within cwX6_74 (Nat.le_of_ble_eq_true rfl) ⟨Nat.zero_le _, Nat.zero_le _⟩ rfl (ls0 := [some (.int a1), some (.int (h 0 0 6)), some (.int 5000)]) rfl (sX6_within  hS) (fun r2 h1 hS => ?_)
  refine wz_if_ne (tgt := 20) dX6_day_11 rfl (fun c3 => ?_) (fun c3 => ?_)
  · replace hS := hS.1 c3
    refine q_ild1 dX6_day_20 (q_ald0 dX6_day_21 (wz_getI dX6_day_22 cf6 t229 (kf := 6) gi_0_6 gc_0 rfl (wz_isub dX6_day_25 (q_ist2 dX6_day_26 (ltX6_day_2) rfl (q_ald0 dX6_day_27 (q_ild1 dX6_day_28 (wz_putI dX6_day_29 cf6 t229 (kf := 6) gp_0_6 gc_0 rfl ?_)))))))
    refine wz_pc (pc2 := 32) rfl ?_
    refine q_ild2 dX6_day_32 ?_
    exact wi_ret dX6_day_33 rfl hS
  · replace hS := hS.2 c3
    refine q_ald0 dX6_day_14 (wz_iconst dX6_day_15 kiconst_1 ?_)
    refine wz_virtI (M := MX6_day) (pc := 16) (M' := MX6_finding) (n := 1) (As := [.int 1]) (st := []) dX6_day_16 cf6 rfl go_0 gc_0 rfl cat_i okX6_day_X6_finding cwX6_59 (Nat.le_of_ble_eq_true rfl) ⟨Nat.zero_le _, Nat.zero_le _⟩ rfl (ls0 := [some (rf 0 0), some (.int 1)]) rfl (sX6_finding  hS) (fun r5 h4 hS => ?_)
    exact wi_ret dX6_day_19 rfl hS
def SX6_law (E : EN) (a1 : Int32) (a2 : Int32) (h : TH) (Q : Int32 → TH → Prop) : Prop := SX6_within E a1 0 5 h (fun r2 h1 => ((r2 = 0 → SX6_finding E 1 h1 (fun r5 h4 => Q r5 h4)) ∧ (¬ r2 = 0 → vp_in a1 6 ∧ vp_in a1 6 ∧ SX6_within E a2 (oLeast (a1.toNatClampNeg)) (oMost (a1.toNatClampNeg)) h1 (fun r9 h8 => ((¬ r9 = 0 → vp_in a1 6 ∧ Q (h8 9 0 (a1.toNatClampNeg)) (up h8 9 0 (a1.toNatClampNeg) a2)) ∧ (r9 = 0 → SX6_finding E 1 h8 (fun r13 h12 => Q r13 h12)))))))
set_option maxRecDepth 20000 in
theorem sX6_law {E : EN} {a1 : Int32} {a2 : Int32} {h : TH} {Q : Int32 → TH → Prop}  (hS : SX6_law E a1 a2 h Q) : wi E MX6_law Q 0 [some (rf 0 0), some (.int a1), some (.int a2), none] [] h := by
  refine q_ild1 dX6_law_0 (wz_iconst dX6_law_1 kiconst_0 (wz_iconst dX6_law_2 kiconst_5 ?_))
  refine wz_statI (M := MX6_law) (pc := 3) (M' := MX6_within) (n := 3) (As := [.int a1, .int 0, .int 5]) (st := []) dX6_law_3 rfl cat_iii okX6_law_X6_within cwX6_74 (Nat.le_of_ble_eq_true rfl) ⟨Nat.zero_le _, Nat.zero_le _⟩ rfl (ls0 := [some (.int a1), some (.int 0), some (.int 5)]) rfl (sX6_within  hS) (fun r2 h1 hS => ?_)
  refine wz_if_eq (tgt := 26) dX6_law_6 rfl (fun c3 => ?_) (fun c3 => ?_)
  · replace hS := hS.1 c3
    refine q_ald0 dX6_law_26 (wz_iconst dX6_law_27 kiconst_1 ?_)
    refine wz_virtI (M := MX6_law) (pc := 28) (M' := MX6_finding) (n := 1) (As := [.int 1]) (st := []) dX6_law_28 cf6 rfl go_0 gc_0 rfl cat_i okX6_law_X6_finding cwX6_59 (Nat.le_of_ble_eq_true rfl) ⟨Nat.zero_le _, Nat.zero_le _⟩ rfl (ls0 := [some (rf 0 0), some (.int 1)]) rfl (sX6_finding  hS) (fun r5 h4 hS => ?_)
    exact wi_ret dX6_law_31 rfl hS
  · replace hS := hS.2 c3
    refine q_ild2 dX6_law_9 (wz_sLeast dX6_law_10 t260 (q_ild1 dX6_law_13 ?_))
    obtain ⟨hi6, hS⟩ := hS
    refine wz_tI (v := (oLeast (a1.toNatClampNeg))) dX6_law_14 (by decide) hi6 rfl (wz_sMost dX6_law_15 t261 (q_ild1 dX6_law_18 ?_))
    obtain ⟨hi7, hS⟩ := hS
    refine wz_tI (v := (oMost (a1.toNatClampNeg))) dX6_law_19 (by decide) hi7 rfl ?_
    refine wz_statI (M := MX6_law) (pc := 20) (M' := MX6_within) (n := 3) (As := [.int a2, .int (oLeast (a1.toNatClampNeg)), .int (oMost (a1.toNatClampNeg))]) (st := []) dX6_law_20 rfl cat_iii okX6_law_X6_within cwX6_74 (Nat.le_of_ble_eq_true rfl) ⟨Nat.zero_le _, Nat.zero_le _⟩ rfl (ls0 := [some (.int a2), some (.int (oLeast (a1.toNatClampNeg))), some (.int (oMost (a1.toNatClampNeg)))]) rfl (sX6_within  hS) (fun r9 h8 hS => ?_)
    refine wz_if_ne (tgt := 32) dX6_law_23 rfl (fun c10 => ?_) (fun c10 => ?_)
    · replace hS := hS.1 c10
      refine q_ald0 dX6_law_32 (wz_getR dX6_law_33 cf6 t262 (kf := 3) gr_0_3 gc_0 (wz_getR dX6_law_36 cf4 t263 (kf := 1) gr_8_1 gc_8 (q_ild1 dX6_law_39 ?_)))
      obtain ⟨hi11, hS⟩ := hS
      refine wz_iald dX6_law_40 ga_9 gc_9 hi11 rfl (q_ist3 dX6_law_41 (ltX6_law_3) rfl (q_ald0 dX6_law_42 (wz_getR dX6_law_43 cf6 t262 (kf := 3) gr_0_3 gc_0 (wz_getR dX6_law_46 cf4 t263 (kf := 1) gr_8_1 gc_8 (q_ild1 dX6_law_49 (q_ild2 dX6_law_50 (wz_iast dX6_law_51 ga_9 gc_9 hi11 rfl ?_)))))))
      refine wz_pc (pc2 := 52) rfl ?_
      refine q_ild3 dX6_law_52 ?_
      exact wi_ret dX6_law_53 rfl hS
    · replace hS := hS.2 c10
      refine q_ald0 dX6_law_26 (wz_iconst dX6_law_27 kiconst_1 ?_)
      refine wz_virtI (M := MX6_law) (pc := 28) (M' := MX6_finding) (n := 1) (As := [.int 1]) (st := []) dX6_law_28 cf6 rfl go_0 gc_0 rfl cat_i okX6_law_X6_finding cwX6_59 (Nat.le_of_ble_eq_true rfl) ⟨Nat.zero_le _, Nat.zero_le _⟩ rfl (ls0 := [some (rf 0 0), some (.int 1)]) rfl (sX6_finding  hS) (fun r13 h12 hS => ?_)
      exact wi_ret dX6_law_31 rfl hS
def SX6_file (E : EN) (a1 : Int32) (a2 : Int32) (h : TH) (Q : Int32 → TH → Prop) : Prop := SX1_has E a1 h (fun r2 h1 => ((r2 = 0 → SX6_finding E 1 h1 (fun r5 h4 => Q r5 h4)) ∧ (¬ r2 = 0 → SX6_within E a2 1 1000000 h1 (fun r7 h6 => ((¬ r7 = 0 → vp_in a1 10 ∧ SX3_hasBegun E (a1.toNatClampNeg) h6 (fun r11 h10 => ((¬ r11 = 0 → (((h10 8 0 3) < 16 → SX4_enter E a1 a2 (h10 0 0 6) h10 (fun r15 h14 => Q r15 h14)) ∧ (¬ (h10 8 0 3) < 16 → SX6_finding E 4 h10 (fun r17 h16 => Q r17 h16)))) ∧ (r11 = 0 → SX6_finding E 3 h10 (fun r19 h18 => Q r19 h18))))) ∧ (r7 = 0 → SX6_finding E 1 h6 (fun r21 h20 => Q r21 h20)))))))
set_option maxRecDepth 20000 in
theorem sX6_file {E : EN} {a1 : Int32} {a2 : Int32} {h : TH} {Q : Int32 → TH → Prop}  (hS : SX6_file E a1 a2 h Q) : wi E MX6_file Q 0 [some (rf 0 0), some (.int a1), some (.int a2)] [] h := by
  refine q_ald0 dX6_file_0 (wz_getR dX6_file_1 cf6 t202 (kf := 2) gr_0_2 gc_0 (q_ild1 dX6_file_4 ?_))
  refine wz_virtI (M := MX6_file) (pc := 5) (M' := MX1_has) (n := 1) (As := [.int a1]) (st := []) dX6_file_5 cf1 rfl go_2 gc_2 rfl cat_i okX6_file_X1_has cwX6_88 (Nat.le_of_ble_eq_true rfl) ⟨Nat.zero_le _, Nat.zero_le _⟩ rfl (ls0 := [some (rf 2 0), some (.int a1)]) rfl (sX1_has  hS) (fun r2 h1 hS => ?_)
  refine wz_if_eq (tgt := 21) dX6_file_8 rfl (fun c3 => ?_) (fun c3 => ?_)
  · replace hS := hS.1 c3
    refine q_ald0 dX6_file_21 (wz_iconst dX6_file_22 kiconst_1 ?_)
    refine wz_virtI (M := MX6_file) (pc := 23) (M' := MX6_finding) (n := 1) (As := [.int 1]) (st := []) dX6_file_23 cf6 rfl go_0 gc_0 rfl cat_i okX6_file_X6_finding cwX6_59 (Nat.le_of_ble_eq_true rfl) ⟨Nat.zero_le _, Nat.zero_le _⟩ rfl (ls0 := [some (rf 0 0), some (.int 1)]) rfl (sX6_finding  hS) (fun r5 h4 hS => ?_)
    exact wi_ret dX6_file_26 rfl hS
  · replace hS := hS.2 c3
    refine q_ild2 dX6_file_11 (wz_iconst dX6_file_12 kiconst_1 (wz_ldc dX6_file_13 t224 ?_))
    refine wz_statI (M := MX6_file) (pc := 15) (M' := MX6_within) (n := 3) (As := [.int a2, .int 1, .int 1000000]) (st := []) dX6_file_15 rfl cat_iii okX6_file_X6_within cwX6_74 (Nat.le_of_ble_eq_true rfl) ⟨Nat.zero_le _, Nat.zero_le _⟩ rfl (ls0 := [some (.int a2), some (.int 1), some (.int 1000000)]) rfl (sX6_within  hS) (fun r7 h6 hS => ?_)
    refine wz_if_ne (tgt := 27) dX6_file_18 rfl (fun c8 => ?_) (fun c8 => ?_)
    · replace hS := hS.1 c8
      refine q_ald0 dX6_file_27 (wz_getR dX6_file_28 cf6 t202 (kf := 2) gr_0_2 gc_0 (wz_getR dX6_file_31 cf1 t222 (kf := 0) gr_2_0 gc_2 (q_ild1 dX6_file_34 ?_)))
      obtain ⟨hi9, hS⟩ := hS
      refine wz_aald (t := 4) dX6_file_35 gq_3 gc_3 hi9 ?_
      refine wz_virtI (M := MX6_file) (pc := 36) (M' := MX3_hasBegun) (n := 0) (As := []) (st := []) dX6_file_36 cf3 rfl go_4 (vp_lt hi9) rfl cat_ okX6_file_X3_hasBegun cwX6_114 (Nat.le_of_ble_eq_true rfl) ⟨Nat.zero_le _, Nat.zero_le _⟩ rfl (ls0 := [some (rf 4 (a1.toNatClampNeg))]) rfl (sX3_hasBegun (vp_lt hi9) hS) (fun r11 h10 hS => ?_)
      refine wz_if_ne (tgt := 48) dX6_file_39 rfl (fun c12 => ?_) (fun c12 => ?_)
      · replace hS := hS.1 c12
        refine q_ald0 dX6_file_48 (wz_getR dX6_file_49 cf6 t262 (kf := 3) gr_0_3 gc_0 (wz_getI dX6_file_52 cf4 t264 (kf := 3) gi_8_3 gc_8 rfl (wz_bipush dX6_file_55 kbipush_16 ?_)))
        refine wz_icmp_lt (tgt := 66) dX6_file_57 rfl (fun c13 => ?_) (fun c13 => ?_)
        · replace hS := hS.1 c13
          refine q_ald0 dX6_file_66 (wz_getR dX6_file_67 cf6 t262 (kf := 3) gr_0_3 gc_0 (q_ild1 dX6_file_70 (q_ild2 dX6_file_71 (q_ald0 dX6_file_72 (wz_getI dX6_file_73 cf6 t229 (kf := 6) gi_0_6 gc_0 rfl ?_)))))
          refine wz_virtI (M := MX6_file) (pc := 76) (M' := MX4_enter) (n := 3) (As := [.int a1, .int a2, .int (h10 0 0 6)]) (st := []) dX6_file_76 cf4 rfl go_8 gc_8 rfl cat_iii okX6_file_X4_enter cwX6_163 (Nat.le_of_ble_eq_true rfl) ⟨Nat.zero_le _, Nat.zero_le _⟩ rfl (ls0 := [some (rf 8 0), some (.int a1), some (.int a2), some (.int (h10 0 0 6)), none]) rfl (sX4_enter  hS) (fun r15 h14 hS => ?_)
          exact wi_ret dX6_file_79 rfl hS
        · replace hS := hS.2 c13
          refine q_ald0 dX6_file_60 (wz_iconst dX6_file_61 kiconst_4 ?_)
          refine wz_virtI (M := MX6_file) (pc := 62) (M' := MX6_finding) (n := 1) (As := [.int 4]) (st := []) dX6_file_62 cf6 rfl go_0 gc_0 rfl cat_i okX6_file_X6_finding cwX6_59 (Nat.le_of_ble_eq_true rfl) ⟨Nat.zero_le _, Nat.zero_le _⟩ rfl (ls0 := [some (rf 0 0), some (.int 4)]) rfl (sX6_finding  hS) (fun r17 h16 hS => ?_)
          exact wi_ret dX6_file_65 rfl hS
      · replace hS := hS.2 c12
        refine q_ald0 dX6_file_42 (wz_iconst dX6_file_43 kiconst_3 ?_)
        refine wz_virtI (M := MX6_file) (pc := 44) (M' := MX6_finding) (n := 1) (As := [.int 3]) (st := []) dX6_file_44 cf6 rfl go_0 gc_0 rfl cat_i okX6_file_X6_finding cwX6_59 (Nat.le_of_ble_eq_true rfl) ⟨Nat.zero_le _, Nat.zero_le _⟩ rfl (ls0 := [some (rf 0 0), some (.int 3)]) rfl (sX6_finding  hS) (fun r19 h18 hS => ?_)
        exact wi_ret dX6_file_47 rfl hS
    · replace hS := hS.2 c8
      refine q_ald0 dX6_file_21 (wz_iconst dX6_file_22 kiconst_1 ?_)
      refine wz_virtI (M := MX6_file) (pc := 23) (M' := MX6_finding) (n := 1) (As := [.int 1]) (st := []) dX6_file_23 cf6 rfl go_0 gc_0 rfl cat_i okX6_file_X6_finding cwX6_59 (Nat.le_of_ble_eq_true rfl) ⟨Nat.zero_le _, Nat.zero_le _⟩ rfl (ls0 := [some (rf 0 0), some (.int 1)]) rfl (sX6_finding  hS) (fun r21 h20 hS => ?_)
      exact wi_ret dX6_file_26 rfl hS
def SX6_sue (E : EN) (a1 : Int32) (h : TH) (Q : Int32 → TH → Prop) : Prop := SX4_has E a1 h (fun r2 h1 => ((¬ r2 = 0 → vp_in a1 16 ∧ (((h1 11 (a1.toNatClampNeg) 3) = (-1) → Q 1 (up h1 11 (a1.toNatClampNeg) 3 (h1 0 0 6))) ∧ (¬ (h1 11 (a1.toNatClampNeg) 3) = (-1) → SX6_finding E 3 h1 (fun r7 h6 => Q r7 h6)))) ∧ (r2 = 0 → SX6_finding E 1 h1 (fun r9 h8 => Q r9 h8))))
set_option maxRecDepth 20000 in
theorem sX6_sue {E : EN} {a1 : Int32} {h : TH} {Q : Int32 → TH → Prop}  (hS : SX6_sue E a1 h Q) : wi E MX6_sue Q 0 [some (rf 0 0), some (.int a1), none] [] h := by
  refine q_ald0 dX6_sue_0 (wz_getR dX6_sue_1 cf6 t262 (kf := 3) gr_0_3 gc_0 (q_ild1 dX6_sue_4 ?_))
  refine wz_virtI (M := MX6_sue) (pc := 5) (M' := MX4_has) (n := 1) (As := [.int a1]) (st := []) dX6_sue_5 cf4 rfl go_8 gc_8 rfl cat_i okX6_sue_X4_has cwX6_166 (Nat.le_of_ble_eq_true rfl) ⟨Nat.zero_le _, Nat.zero_le _⟩ rfl (ls0 := [some (rf 8 0), some (.int a1)]) rfl (sX4_has  hS) (fun r2 h1 hS => ?_)
  refine wz_if_ne (tgt := 17) dX6_sue_8 rfl (fun c3 => ?_) (fun c3 => ?_)
  · replace hS := hS.1 c3
    refine q_ald0 dX6_sue_17 (wz_getR dX6_sue_18 cf6 t262 (kf := 3) gr_0_3 gc_0 (wz_getR dX6_sue_21 cf4 t269 (kf := 2) gr_8_2 gc_8 (q_ild1 dX6_sue_24 ?_)))
    obtain ⟨hi4, hS⟩ := hS
    refine wz_aald (t := 11) dX6_sue_25 gq_10 gc_10 hi4 (q_ast2 dX6_sue_26 (ltX6_sue_2) rfl (q_ald2 dX6_sue_27 (wz_getI dX6_sue_28 cf2 t270 (kf := 3) gi_11_3 (vp_lt hi4) rfl (wz_iconst dX6_sue_31 kiconst_m1 ?_))))
    refine wz_icmp_eq (tgt := 41) dX6_sue_32 rfl (fun c5 => ?_) (fun c5 => ?_)
    · replace hS := hS.1 c5
      refine q_ald2 dX6_sue_41 (q_ald0 dX6_sue_42 (wz_getI dX6_sue_43 cf6 t229 (kf := 6) gi_0_6 gc_0 rfl (wz_putI dX6_sue_46 cf2 t270 (kf := 3) gp_11_3 (vp_lt hi4) rfl (wz_iconst dX6_sue_49 kiconst_1 ?_))))
      exact wi_ret dX6_sue_50 rfl hS
    · replace hS := hS.2 c5
      refine q_ald0 dX6_sue_35 (wz_iconst dX6_sue_36 kiconst_3 ?_)
      refine wz_virtI (M := MX6_sue) (pc := 37) (M' := MX6_finding) (n := 1) (As := [.int 3]) (st := []) dX6_sue_37 cf6 rfl go_0 gc_0 rfl cat_i okX6_sue_X6_finding cwX6_59 (Nat.le_of_ble_eq_true rfl) ⟨Nat.zero_le _, Nat.zero_le _⟩ rfl (ls0 := [some (rf 0 0), some (.int 3)]) rfl (sX6_finding  hS) (fun r7 h6 hS => ?_)
      exact wi_ret dX6_sue_40 rfl hS
  · replace hS := hS.2 c3
    refine q_ald0 dX6_sue_11 (wz_iconst dX6_sue_12 kiconst_1 ?_)
    refine wz_virtI (M := MX6_sue) (pc := 13) (M' := MX6_finding) (n := 1) (As := [.int 1]) (st := []) dX6_sue_13 cf6 rfl go_0 gc_0 rfl cat_i okX6_sue_X6_finding cwX6_59 (Nat.le_of_ble_eq_true rfl) ⟨Nat.zero_le _, Nat.zero_le _⟩ rfl (ls0 := [some (rf 0 0), some (.int 1)]) rfl (sX6_finding  hS) (fun r9 h8 hS => ?_)
    exact wi_ret dX6_sue_16 rfl hS
def SX6_bond (E : EN) (a1 : Int32) (a2 : Int32) (h : TH) (Q : Int32 → TH → Prop) : Prop := SX4_has E a1 h (fun r2 h1 => ((r2 = 0 → SX6_finding E 1 h1 (fun r5 h4 => Q r5 h4)) ∧ (¬ r2 = 0 → SX6_within E a2 0 1 h1 (fun r7 h6 => ((¬ r7 = 0 → vp_in a1 16 ∧ Q (h6 11 (a1.toNatClampNeg) 4) (up h6 11 (a1.toNatClampNeg) 4 a2)) ∧ (r7 = 0 → SX6_finding E 1 h6 (fun r11 h10 => Q r11 h10)))))))
set_option maxRecDepth 20000 in
theorem sX6_bond {E : EN} {a1 : Int32} {a2 : Int32} {h : TH} {Q : Int32 → TH → Prop}  (hS : SX6_bond E a1 a2 h Q) : wi E MX6_bond Q 0 [some (rf 0 0), some (.int a1), some (.int a2), none, none] [] h := by
  refine q_ald0 dX6_bond_0 (wz_getR dX6_bond_1 cf6 t262 (kf := 3) gr_0_3 gc_0 (q_ild1 dX6_bond_4 ?_))
  refine wz_virtI (M := MX6_bond) (pc := 5) (M' := MX4_has) (n := 1) (As := [.int a1]) (st := []) dX6_bond_5 cf4 rfl go_8 gc_8 rfl cat_i okX6_bond_X4_has cwX6_166 (Nat.le_of_ble_eq_true rfl) ⟨Nat.zero_le _, Nat.zero_le _⟩ rfl (ls0 := [some (rf 8 0), some (.int a1)]) rfl (sX4_has  hS) (fun r2 h1 hS => ?_)
  refine wz_if_eq (tgt := 20) dX6_bond_8 rfl (fun c3 => ?_) (fun c3 => ?_)
  · replace hS := hS.1 c3
    refine q_ald0 dX6_bond_20 (wz_iconst dX6_bond_21 kiconst_1 ?_)
    refine wz_virtI (M := MX6_bond) (pc := 22) (M' := MX6_finding) (n := 1) (As := [.int 1]) (st := []) dX6_bond_22 cf6 rfl go_0 gc_0 rfl cat_i okX6_bond_X6_finding cwX6_59 (Nat.le_of_ble_eq_true rfl) ⟨Nat.zero_le _, Nat.zero_le _⟩ rfl (ls0 := [some (rf 0 0), some (.int 1)]) rfl (sX6_finding  hS) (fun r5 h4 hS => ?_)
    exact wi_ret dX6_bond_25 rfl hS
  · replace hS := hS.2 c3
    refine q_ild2 dX6_bond_11 (wz_iconst dX6_bond_12 kiconst_0 (wz_iconst dX6_bond_13 kiconst_1 ?_))
    refine wz_statI (M := MX6_bond) (pc := 14) (M' := MX6_within) (n := 3) (As := [.int a2, .int 0, .int 1]) (st := []) dX6_bond_14 rfl cat_iii okX6_bond_X6_within cwX6_74 (Nat.le_of_ble_eq_true rfl) ⟨Nat.zero_le _, Nat.zero_le _⟩ rfl (ls0 := [some (.int a2), some (.int 0), some (.int 1)]) rfl (sX6_within  hS) (fun r7 h6 hS => ?_)
    refine wz_if_ne (tgt := 26) dX6_bond_17 rfl (fun c8 => ?_) (fun c8 => ?_)
    · replace hS := hS.1 c8
      refine q_ald0 dX6_bond_26 (wz_getR dX6_bond_27 cf6 t262 (kf := 3) gr_0_3 gc_0 (wz_getR dX6_bond_30 cf4 t269 (kf := 2) gr_8_2 gc_8 (q_ild1 dX6_bond_33 ?_)))
      obtain ⟨hi9, hS⟩ := hS
      refine wz_aald (t := 11) dX6_bond_34 gq_10 gc_10 hi9 (q_ast3 dX6_bond_35 (ltX6_bond_3) rfl (q_ald3 dX6_bond_36 (wz_getI dX6_bond_37 cf2 t272 (kf := 4) gi_11_4 (vp_lt hi9) rfl (q_ist4 dX6_bond_40 (ltX6_bond_4) rfl (q_ald3 dX6_bond_42 (q_ild2 dX6_bond_43 (wz_putI dX6_bond_44 cf2 t272 (kf := 4) gp_11_4 (vp_lt hi9) rfl ?_)))))))
      refine wz_pc (pc2 := 47) rfl ?_
      refine q_ild4 dX6_bond_47 ?_
      exact wi_ret dX6_bond_49 rfl hS
    · replace hS := hS.2 c8
      refine q_ald0 dX6_bond_20 (wz_iconst dX6_bond_21 kiconst_1 ?_)
      refine wz_virtI (M := MX6_bond) (pc := 22) (M' := MX6_finding) (n := 1) (As := [.int 1]) (st := []) dX6_bond_22 cf6 rfl go_0 gc_0 rfl cat_i okX6_bond_X6_finding cwX6_59 (Nat.le_of_ble_eq_true rfl) ⟨Nat.zero_le _, Nat.zero_le _⟩ rfl (ls0 := [some (rf 0 0), some (.int 1)]) rfl (sX6_finding  hS) (fun r11 h10 hS => ?_)
      exact wi_ret dX6_bond_25 rfl hS
def SX6_isJudgeable (E : EN) (a1 : Int32) (a2 : Int32) (h : TH) (Q : Int32 → TH → Prop) : Prop := SX4_has E a1 h (fun r2 h1 => ((r2 = 0 → Q 0 h1) ∧ (¬ r2 = 0 → vp_in a1 16 ∧ SX6_within E a2 (h1 11 (a1.toNatClampNeg) 2) 5000 h1 (fun r6 h5 => ((r6 = 0 → Q 0 h5) ∧ (¬ r6 = 0 → Q 1 h5))))))
set_option maxRecDepth 20000 in
theorem sX6_isJudgeable {E : EN} {a1 : Int32} {a2 : Int32} {h : TH} {Q : Int32 → TH → Prop}  (hS : SX6_isJudgeable E a1 a2 h Q) : wi E MX6_isJudgeable Q 0 [some (rf 0 0), some (.int a1), some (.int a2)] [] h := by
  refine q_ald0 dX6_isJudgeable_0 (wz_getR dX6_isJudgeable_1 cf6 t262 (kf := 3) gr_0_3 gc_0 (q_ild1 dX6_isJudgeable_4 ?_))
  refine wz_virtI (M := MX6_isJudgeable) (pc := 5) (M' := MX4_has) (n := 1) (As := [.int a1]) (st := []) dX6_isJudgeable_5 cf4 rfl go_8 gc_8 rfl cat_i okX6_isJudgeable_X4_has cwX6_166 (Nat.le_of_ble_eq_true rfl) ⟨Nat.zero_le _, Nat.zero_le _⟩ rfl (ls0 := [some (rf 8 0), some (.int a1)]) rfl (sX4_has  hS) (fun r2 h1 hS => ?_)
  refine wz_if_eq (tgt := 37) dX6_isJudgeable_8 rfl (fun c3 => ?_) (fun c3 => ?_)
  · replace hS := hS.1 c3
    refine wz_iconst dX6_isJudgeable_37 kiconst_0 ?_
    exact wi_zret dX6_isJudgeable_38 rfl (isB_nar isB_0) hS
  · replace hS := hS.2 c3
    refine q_ild2 dX6_isJudgeable_11 (q_ald0 dX6_isJudgeable_12 (wz_getR dX6_isJudgeable_13 cf6 t262 (kf := 3) gr_0_3 gc_0 (wz_getR dX6_isJudgeable_16 cf4 t269 (kf := 2) gr_8_2 gc_8 (q_ild1 dX6_isJudgeable_19 ?_))))
    obtain ⟨hi4, hS⟩ := hS
    refine wz_aald (t := 11) dX6_isJudgeable_20 gq_10 gc_10 hi4 (wz_getI dX6_isJudgeable_21 cf2 t273 (kf := 2) gi_11_2 (vp_lt hi4) rfl (wz_sipush dX6_isJudgeable_24 ksipush_5000 ?_))
    refine wz_statI (M := MX6_isJudgeable) (pc := 27) (M' := MX6_within) (n := 3) (As := [.int a2, .int (h1 11 (a1.toNatClampNeg) 2), .int 5000]) (st := []) dX6_isJudgeable_27 rfl cat_iii okX6_isJudgeable_X6_within cwX6_74 (Nat.le_of_ble_eq_true rfl) ⟨Nat.zero_le _, Nat.zero_le _⟩ rfl (ls0 := [some (.int a2), some (.int (h1 11 (a1.toNatClampNeg) 2)), some (.int 5000)]) rfl (sX6_within  hS) (fun r6 h5 hS => ?_)
    refine wz_if_eq (tgt := 37) dX6_isJudgeable_30 rfl (fun c7 => ?_) (fun c7 => ?_)
    · replace hS := hS.1 c7
      refine wz_iconst dX6_isJudgeable_37 kiconst_0 ?_
      exact wi_zret dX6_isJudgeable_38 rfl (isB_nar isB_0) hS
    · replace hS := hS.2 c7
      refine wz_iconst dX6_isJudgeable_33 kiconst_1 (wz_goto (tgt := 38) dX6_isJudgeable_34 rfl ?_)
      exact wi_zret dX6_isJudgeable_38 rfl (isB_nar isB_1) hS
def SX6_judge (E : EN) (a1 : Int32) (a2 : Int32) (h : TH) (Q : Int32 → TH → Prop) : Prop := SX6_isJudgeable E a1 a2 h (fun r2 h1 => ((¬ r2 = 0 → SX4_barOn E a1 a2 h1 (fun r5 h4 => SX4_verdictOfBar E r5 h4 (fun r7 h6 => Q r7 h6))) ∧ (r2 = 0 → SX6_finding E 1 h1 (fun r9 h8 => Q r9 h8))))
set_option maxRecDepth 20000 in
theorem sX6_judge {E : EN} {a1 : Int32} {a2 : Int32} {h : TH} {Q : Int32 → TH → Prop}  (hS : SX6_judge E a1 a2 h Q) : wi E MX6_judge Q 0 [some (rf 0 0), some (.int a1), some (.int a2)] [] h := by
  refine q_ald0 dX6_judge_0 (q_ild1 dX6_judge_1 (q_ild2 dX6_judge_2 ?_))
  refine wz_virtI (M := MX6_judge) (pc := 3) (M' := MX6_isJudgeable) (n := 2) (As := [.int a1, .int a2]) (st := []) dX6_judge_3 cf6 rfl go_0 gc_0 rfl cat_ii okX6_judge_X6_isJudgeable cwX6_179 (Nat.le_of_ble_eq_true rfl) ⟨Nat.zero_le _, Nat.zero_le _⟩ rfl (ls0 := [some (rf 0 0), some (.int a1), some (.int a2)]) rfl (sX6_isJudgeable  hS) (fun r2 h1 hS => ?_)
  refine wz_if_ne (tgt := 15) dX6_judge_6 rfl (fun c3 => ?_) (fun c3 => ?_)
  · replace hS := hS.1 c3
    refine q_ald0 dX6_judge_15 (wz_getR dX6_judge_16 cf6 t262 (kf := 3) gr_0_3 gc_0 (q_ild1 dX6_judge_19 (q_ild2 dX6_judge_20 ?_)))
    refine wz_virtI (M := MX6_judge) (pc := 21) (M' := MX4_barOn) (n := 2) (As := [.int a1, .int a2]) (st := []) dX6_judge_21 cf4 rfl go_8 gc_8 rfl cat_ii okX6_judge_X4_barOn cwX6_182 (Nat.le_of_ble_eq_true rfl) ⟨Nat.zero_le _, Nat.zero_le _⟩ rfl (ls0 := [some (rf 8 0), some (.int a1), some (.int a2), none, none, none, none]) rfl (sX4_barOn  hS) (fun r5 h4 hS => ?_)
    refine wz_statI (M := MX6_judge) (pc := 24) (M' := MX4_verdictOfBar) (n := 1) (As := [.int r5]) (st := []) dX6_judge_24 rfl cat_i okX6_judge_X4_verdictOfBar cwX6_186 (Nat.le_of_ble_eq_true rfl) ⟨Nat.zero_le _, Nat.zero_le _⟩ rfl (ls0 := [some (.int r5)]) rfl (sX4_verdictOfBar  hS) (fun r7 h6 hS => ?_)
    exact wi_ret dX6_judge_27 rfl hS
  · replace hS := hS.2 c3
    refine q_ald0 dX6_judge_9 (wz_iconst dX6_judge_10 kiconst_1 ?_)
    refine wz_virtI (M := MX6_judge) (pc := 11) (M' := MX6_finding) (n := 1) (As := [.int 1]) (st := []) dX6_judge_11 cf6 rfl go_0 gc_0 rfl cat_i okX6_judge_X6_finding cwX6_59 (Nat.le_of_ble_eq_true rfl) ⟨Nat.zero_le _, Nat.zero_le _⟩ rfl (ls0 := [some (rf 0 0), some (.int 1)]) rfl (sX6_finding  hS) (fun r9 h8 hS => ?_)
    exact wi_ret dX6_judge_14 rfl hS
def SX6_bar (E : EN) (a1 : Int32) (a2 : Int32) (h : TH) (Q : Int32 → TH → Prop) : Prop := SX6_isJudgeable E a1 a2 h (fun r2 h1 => ((¬ r2 = 0 → SX4_barOn E a1 a2 h1 (fun r5 h4 => Q r5 h4)) ∧ (r2 = 0 → SX6_finding E 1 h1 (fun r7 h6 => Q r7 h6))))
set_option maxRecDepth 20000 in
theorem sX6_bar {E : EN} {a1 : Int32} {a2 : Int32} {h : TH} {Q : Int32 → TH → Prop}  (hS : SX6_bar E a1 a2 h Q) : wi E MX6_bar Q 0 [some (rf 0 0), some (.int a1), some (.int a2)] [] h := by
  refine q_ald0 dX6_bar_0 (q_ild1 dX6_bar_1 (q_ild2 dX6_bar_2 ?_))
  refine wz_virtI (M := MX6_bar) (pc := 3) (M' := MX6_isJudgeable) (n := 2) (As := [.int a1, .int a2]) (st := []) dX6_bar_3 cf6 rfl go_0 gc_0 rfl cat_ii okX6_bar_X6_isJudgeable cwX6_179 (Nat.le_of_ble_eq_true rfl) ⟨Nat.zero_le _, Nat.zero_le _⟩ rfl (ls0 := [some (rf 0 0), some (.int a1), some (.int a2)]) rfl (sX6_isJudgeable  hS) (fun r2 h1 hS => ?_)
  refine wz_if_ne (tgt := 15) dX6_bar_6 rfl (fun c3 => ?_) (fun c3 => ?_)
  · replace hS := hS.1 c3
    refine q_ald0 dX6_bar_15 (wz_getR dX6_bar_16 cf6 t262 (kf := 3) gr_0_3 gc_0 (q_ild1 dX6_bar_19 (q_ild2 dX6_bar_20 ?_)))
    refine wz_virtI (M := MX6_bar) (pc := 21) (M' := MX4_barOn) (n := 2) (As := [.int a1, .int a2]) (st := []) dX6_bar_21 cf4 rfl go_8 gc_8 rfl cat_ii okX6_bar_X4_barOn cwX6_182 (Nat.le_of_ble_eq_true rfl) ⟨Nat.zero_le _, Nat.zero_le _⟩ rfl (ls0 := [some (rf 8 0), some (.int a1), some (.int a2), none, none, none, none]) rfl (sX4_barOn  hS) (fun r5 h4 hS => ?_)
    exact wi_ret dX6_bar_24 rfl hS
  · replace hS := hS.2 c3
    refine q_ald0 dX6_bar_9 (wz_iconst dX6_bar_10 kiconst_1 ?_)
    refine wz_virtI (M := MX6_bar) (pc := 11) (M' := MX6_finding) (n := 1) (As := [.int 1]) (st := []) dX6_bar_11 cf6 rfl go_0 gc_0 rfl cat_i okX6_bar_X6_finding cwX6_59 (Nat.le_of_ble_eq_true rfl) ⟨Nat.zero_le _, Nat.zero_le _⟩ rfl (ls0 := [some (rf 0 0), some (.int 1)]) rfl (sX6_finding  hS) (fun r7 h6 hS => ?_)
    exact wi_ret dX6_bar_14 rfl hS
def SX6_worth (E : EN) (a1 : Int32) (a2 : Int32) (h : TH) (Q : Int32 → TH → Prop) : Prop := SX4_has E a1 h (fun r2 h1 => ((r2 = 0 → SX6_finding E 1 h1 (fun r5 h4 => Q r5 h4)) ∧ (¬ r2 = 0 → SX6_within E a2 0 5000 h1 (fun r7 h6 => ((¬ r7 = 0 → wv E MX4_weigh (fun h9 => vp_in a1 16 ∧ Q (h9 13 0 (a1.toNatClampNeg)) h9) 0 [some (rf 8 0), some (.int a2), none, none, none] [] h6) ∧ (r7 = 0 → SX6_finding E 1 h6 (fun r13 h12 => Q r13 h12)))))))
set_option maxRecDepth 20000 in
theorem sX6_worth {E : EN} {a1 : Int32} {a2 : Int32} {h : TH} {Q : Int32 → TH → Prop}  (hS : SX6_worth E a1 a2 h Q) : wi E MX6_worth Q 0 [some (rf 0 0), some (.int a1), some (.int a2)] [] h := by
  refine q_ald0 dX6_worth_0 (wz_getR dX6_worth_1 cf6 t262 (kf := 3) gr_0_3 gc_0 (q_ild1 dX6_worth_4 ?_))
  refine wz_virtI (M := MX6_worth) (pc := 5) (M' := MX4_has) (n := 1) (As := [.int a1]) (st := []) dX6_worth_5 cf4 rfl go_8 gc_8 rfl cat_i okX6_worth_X4_has cwX6_166 (Nat.le_of_ble_eq_true rfl) ⟨Nat.zero_le _, Nat.zero_le _⟩ rfl (ls0 := [some (rf 8 0), some (.int a1)]) rfl (sX4_has  hS) (fun r2 h1 hS => ?_)
  refine wz_if_eq (tgt := 22) dX6_worth_8 rfl (fun c3 => ?_) (fun c3 => ?_)
  · replace hS := hS.1 c3
    refine q_ald0 dX6_worth_22 (wz_iconst dX6_worth_23 kiconst_1 ?_)
    refine wz_virtI (M := MX6_worth) (pc := 24) (M' := MX6_finding) (n := 1) (As := [.int 1]) (st := []) dX6_worth_24 cf6 rfl go_0 gc_0 rfl cat_i okX6_worth_X6_finding cwX6_59 (Nat.le_of_ble_eq_true rfl) ⟨Nat.zero_le _, Nat.zero_le _⟩ rfl (ls0 := [some (rf 0 0), some (.int 1)]) rfl (sX6_finding  hS) (fun r5 h4 hS => ?_)
    exact wi_ret dX6_worth_27 rfl hS
  · replace hS := hS.2 c3
    refine q_ild2 dX6_worth_11 (wz_iconst dX6_worth_12 kiconst_0 (wz_sipush dX6_worth_13 ksipush_5000 ?_))
    refine wz_statI (M := MX6_worth) (pc := 16) (M' := MX6_within) (n := 3) (As := [.int a2, .int 0, .int 5000]) (st := []) dX6_worth_16 rfl cat_iii okX6_worth_X6_within cwX6_74 (Nat.le_of_ble_eq_true rfl) ⟨Nat.zero_le _, Nat.zero_le _⟩ rfl (ls0 := [some (.int a2), some (.int 0), some (.int 5000)]) rfl (sX6_within  hS) (fun r7 h6 hS => ?_)
    refine wz_if_ne (tgt := 28) dX6_worth_19 rfl (fun c8 => ?_) (fun c8 => ?_)
    · replace hS := hS.1 c8
      refine q_ald0 dX6_worth_28 (wz_getR dX6_worth_29 cf6 t262 (kf := 3) gr_0_3 gc_0 (q_ild2 dX6_worth_32 ?_))
      refine wz_virtV (M := MX6_worth) (pc := 33) (M' := MX4_weigh) (n := 1) (As := [.int a2]) (st := []) dX6_worth_33 cf4 rfl go_8 gc_8 rfl cat_i okX6_worth_X4_weigh cwX6_189 (Nat.le_of_ble_eq_true rfl) ⟨Nat.zero_le _, Nat.zero_le _⟩ rfl (ls0 := [some (rf 8 0), some (.int a2), none, none, none]) rfl hS (fun h9 hS => ?_)
      refine q_ald0 dX6_worth_36 (wz_getR dX6_worth_37 cf6 t262 (kf := 3) gr_0_3 gc_0 (wz_getR dX6_worth_40 cf4 t280 (kf := 5) gr_8_5 gc_8 (q_ild1 dX6_worth_43 ?_)))
      obtain ⟨hi11, hS⟩ := hS
      refine wz_iald dX6_worth_44 ga_13 gc_13 hi11 rfl ?_
      exact wi_ret dX6_worth_45 rfl hS
    · replace hS := hS.2 c8
      refine q_ald0 dX6_worth_22 (wz_iconst dX6_worth_23 kiconst_1 ?_)
      refine wz_virtI (M := MX6_worth) (pc := 24) (M' := MX6_finding) (n := 1) (As := [.int 1]) (st := []) dX6_worth_24 cf6 rfl go_0 gc_0 rfl cat_i okX6_worth_X6_finding cwX6_59 (Nat.le_of_ble_eq_true rfl) ⟨Nat.zero_le _, Nat.zero_le _⟩ rfl (ls0 := [some (rf 0 0), some (.int 1)]) rfl (sX6_finding  hS) (fun r13 h12 hS => ?_)
      exact wi_ret dX6_worth_27 rfl hS
def SX6_rank (E : EN) (a1 : Int32) (a2 : Int32) (h : TH) (Q : Int32 → TH → Prop) : Prop := SX4_has E a1 h (fun r2 h1 => ((r2 = 0 → SX6_finding E 1 h1 (fun r5 h4 => Q r5 h4)) ∧ (¬ r2 = 0 → SX6_within E a2 0 1 h1 (fun r7 h6 => ((¬ r7 = 0 → SX4_rankDay E a1 a2 h6 (fun r10 h9 => Q r10 h9)) ∧ (r7 = 0 → SX6_finding E 1 h6 (fun r12 h11 => Q r12 h11)))))))
set_option maxRecDepth 20000 in
theorem sX6_rank {E : EN} {a1 : Int32} {a2 : Int32} {h : TH} {Q : Int32 → TH → Prop}  (hS : SX6_rank E a1 a2 h Q) : wi E MX6_rank Q 0 [some (rf 0 0), some (.int a1), some (.int a2)] [] h := by
  refine q_ald0 dX6_rank_0 (wz_getR dX6_rank_1 cf6 t262 (kf := 3) gr_0_3 gc_0 (q_ild1 dX6_rank_4 ?_))
  refine wz_virtI (M := MX6_rank) (pc := 5) (M' := MX4_has) (n := 1) (As := [.int a1]) (st := []) dX6_rank_5 cf4 rfl go_8 gc_8 rfl cat_i okX6_rank_X4_has cwX6_166 (Nat.le_of_ble_eq_true rfl) ⟨Nat.zero_le _, Nat.zero_le _⟩ rfl (ls0 := [some (rf 8 0), some (.int a1)]) rfl (sX4_has  hS) (fun r2 h1 hS => ?_)
  refine wz_if_eq (tgt := 20) dX6_rank_8 rfl (fun c3 => ?_) (fun c3 => ?_)
  · replace hS := hS.1 c3
    refine q_ald0 dX6_rank_20 (wz_iconst dX6_rank_21 kiconst_1 ?_)
    refine wz_virtI (M := MX6_rank) (pc := 22) (M' := MX6_finding) (n := 1) (As := [.int 1]) (st := []) dX6_rank_22 cf6 rfl go_0 gc_0 rfl cat_i okX6_rank_X6_finding cwX6_59 (Nat.le_of_ble_eq_true rfl) ⟨Nat.zero_le _, Nat.zero_le _⟩ rfl (ls0 := [some (rf 0 0), some (.int 1)]) rfl (sX6_finding  hS) (fun r5 h4 hS => ?_)
    exact wi_ret dX6_rank_25 rfl hS
  · replace hS := hS.2 c3
    refine q_ild2 dX6_rank_11 (wz_iconst dX6_rank_12 kiconst_0 (wz_iconst dX6_rank_13 kiconst_1 ?_))
    refine wz_statI (M := MX6_rank) (pc := 14) (M' := MX6_within) (n := 3) (As := [.int a2, .int 0, .int 1]) (st := []) dX6_rank_14 rfl cat_iii okX6_rank_X6_within cwX6_74 (Nat.le_of_ble_eq_true rfl) ⟨Nat.zero_le _, Nat.zero_le _⟩ rfl (ls0 := [some (.int a2), some (.int 0), some (.int 1)]) rfl (sX6_within  hS) (fun r7 h6 hS => ?_)
    refine wz_if_ne (tgt := 26) dX6_rank_17 rfl (fun c8 => ?_) (fun c8 => ?_)
    · replace hS := hS.1 c8
      refine q_ald0 dX6_rank_26 (wz_getR dX6_rank_27 cf6 t262 (kf := 3) gr_0_3 gc_0 (q_ild1 dX6_rank_30 (q_ild2 dX6_rank_31 ?_)))
      refine wz_virtI (M := MX6_rank) (pc := 32) (M' := MX4_rankDay) (n := 2) (As := [.int a1, .int a2]) (st := []) dX6_rank_32 cf4 rfl go_8 gc_8 rfl cat_ii okX6_rank_X4_rankDay cwX6_195 (Nat.le_of_ble_eq_true rfl) ⟨Nat.zero_le _, Nat.zero_le _⟩ rfl (ls0 := [some (rf 8 0), some (.int a1), some (.int a2), none, none]) rfl (sX4_rankDay  hS) (fun r10 h9 hS => ?_)
      exact wi_ret dX6_rank_35 rfl hS
    · replace hS := hS.2 c8
      refine q_ald0 dX6_rank_20 (wz_iconst dX6_rank_21 kiconst_1 ?_)
      refine wz_virtI (M := MX6_rank) (pc := 22) (M' := MX6_finding) (n := 1) (As := [.int 1]) (st := []) dX6_rank_22 cf6 rfl go_0 gc_0 rfl cat_i okX6_rank_X6_finding cwX6_59 (Nat.le_of_ble_eq_true rfl) ⟨Nat.zero_le _, Nat.zero_le _⟩ rfl (ls0 := [some (rf 0 0), some (.int 1)]) rfl (sX6_finding  hS) (fun r12 h11 hS => ?_)
      exact wi_ret dX6_rank_25 rfl hS
def SX6_loan (E : EN) (a1 : Int32) (a2 : Int32) (h : TH) (Q : Int32 → TH → Prop) : Prop := SX6_isParty E a1 h (fun r2 h1 => ((r2 = 0 → SX6_finding E 1 h1 (fun r5 h4 => Q r5 h4)) ∧ (¬ r2 = 0 → SX6_within E a2 1 1000000 h1 (fun r7 h6 => ((¬ r7 = 0 → vp_in a1 12 ∧ (((h6 1 0 (a1.toNatClampNeg)) = 1 → (((h6 15 0 3) < 6 → SX5_record E a2 (h6 0 0 6) h6 (fun r13 h12 => Q r13 h12)) ∧ (¬ (h6 15 0 3) < 6 → SX6_finding E 4 h6 (fun r15 h14 => Q r15 h14)))) ∧ (¬ (h6 1 0 (a1.toNatClampNeg)) = 1 → SX6_finding E 5 h6 (fun r17 h16 => Q r17 h16)))) ∧ (r7 = 0 → SX6_finding E 1 h6 (fun r19 h18 => Q r19 h18)))))))
set_option maxRecDepth 20000 in
theorem sX6_loan {E : EN} {a1 : Int32} {a2 : Int32} {h : TH} {Q : Int32 → TH → Prop}  (hS : SX6_loan E a1 a2 h Q) : wi E MX6_loan Q 0 [some (rf 0 0), some (.int a1), some (.int a2)] [] h := by
  refine q_ald0 dX6_loan_0 (q_ild1 dX6_loan_1 ?_)
  refine wz_virtI (M := MX6_loan) (pc := 2) (M' := MX6_isParty) (n := 1) (As := [.int a1]) (st := []) dX6_loan_2 cf6 rfl go_0 gc_0 rfl cat_i okX6_loan_X6_isParty cwX6_63 (Nat.le_of_ble_eq_true rfl) ⟨Nat.zero_le _, Nat.zero_le _⟩ rfl (ls0 := [some (rf 0 0), some (.int a1)]) rfl (sX6_isParty  hS) (fun r2 h1 hS => ?_)
  refine wz_if_eq (tgt := 18) dX6_loan_5 rfl (fun c3 => ?_) (fun c3 => ?_)
  · replace hS := hS.1 c3
    refine q_ald0 dX6_loan_18 (wz_iconst dX6_loan_19 kiconst_1 ?_)
    refine wz_virtI (M := MX6_loan) (pc := 20) (M' := MX6_finding) (n := 1) (As := [.int 1]) (st := []) dX6_loan_20 cf6 rfl go_0 gc_0 rfl cat_i okX6_loan_X6_finding cwX6_59 (Nat.le_of_ble_eq_true rfl) ⟨Nat.zero_le _, Nat.zero_le _⟩ rfl (ls0 := [some (rf 0 0), some (.int 1)]) rfl (sX6_finding  hS) (fun r5 h4 hS => ?_)
    exact wi_ret dX6_loan_23 rfl hS
  · replace hS := hS.2 c3
    refine q_ild2 dX6_loan_8 (wz_iconst dX6_loan_9 kiconst_1 (wz_ldc dX6_loan_10 t224 ?_))
    refine wz_statI (M := MX6_loan) (pc := 12) (M' := MX6_within) (n := 3) (As := [.int a2, .int 1, .int 1000000]) (st := []) dX6_loan_12 rfl cat_iii okX6_loan_X6_within cwX6_74 (Nat.le_of_ble_eq_true rfl) ⟨Nat.zero_le _, Nat.zero_le _⟩ rfl (ls0 := [some (.int a2), some (.int 1), some (.int 1000000)]) rfl (sX6_within  hS) (fun r7 h6 hS => ?_)
    refine wz_if_ne (tgt := 24) dX6_loan_15 rfl (fun c8 => ?_) (fun c8 => ?_)
    · replace hS := hS.1 c8
      refine q_ald0 dX6_loan_24 (wz_getR dX6_loan_25 cf6 t194 (kf := 0) gr_0_0 gc_0 (q_ild1 dX6_loan_28 ?_))
      obtain ⟨hi9, hS⟩ := hS
      refine wz_iald dX6_loan_29 ga_1 gc_1 hi9 rfl (wz_iconst dX6_loan_30 kiconst_1 ?_)
      refine wz_icmp_eq (tgt := 40) dX6_loan_31 rfl (fun c10 => ?_) (fun c10 => ?_)
      · replace hS := hS.1 c10
        refine q_ald0 dX6_loan_40 (wz_getR dX6_loan_41 cf6 t283 (kf := 4) gr_0_4 gc_0 (wz_getI dX6_loan_44 cf5 t284 (kf := 3) gi_15_3 gc_15 rfl (wz_bipush dX6_loan_47 kbipush_6 ?_)))
        refine wz_icmp_lt (tgt := 58) dX6_loan_49 rfl (fun c11 => ?_) (fun c11 => ?_)
        · replace hS := hS.1 c11
          refine q_ald0 dX6_loan_58 (wz_getR dX6_loan_59 cf6 t283 (kf := 4) gr_0_4 gc_0 (q_ild2 dX6_loan_62 (q_ald0 dX6_loan_63 (wz_getI dX6_loan_64 cf6 t229 (kf := 6) gi_0_6 gc_0 rfl ?_))))
          refine wz_virtI (M := MX6_loan) (pc := 67) (M' := MX5_record) (n := 2) (As := [.int a2, .int (h6 0 0 6)]) (st := []) dX6_loan_67 cf5 rfl go_15 gc_15 rfl cat_ii okX6_loan_X5_record cwX6_201 (Nat.le_of_ble_eq_true rfl) ⟨Nat.zero_le _, Nat.zero_le _⟩ rfl (ls0 := [some (rf 15 0), some (.int a2), some (.int (h6 0 0 6))]) rfl (sX5_record  hS) (fun r13 h12 hS => ?_)
          exact wi_ret dX6_loan_70 rfl hS
        · replace hS := hS.2 c11
          refine q_ald0 dX6_loan_52 (wz_iconst dX6_loan_53 kiconst_4 ?_)
          refine wz_virtI (M := MX6_loan) (pc := 54) (M' := MX6_finding) (n := 1) (As := [.int 4]) (st := []) dX6_loan_54 cf6 rfl go_0 gc_0 rfl cat_i okX6_loan_X6_finding cwX6_59 (Nat.le_of_ble_eq_true rfl) ⟨Nat.zero_le _, Nat.zero_le _⟩ rfl (ls0 := [some (rf 0 0), some (.int 4)]) rfl (sX6_finding  hS) (fun r15 h14 hS => ?_)
          exact wi_ret dX6_loan_57 rfl hS
      · replace hS := hS.2 c10
        refine q_ald0 dX6_loan_34 (wz_iconst dX6_loan_35 kiconst_5 ?_)
        refine wz_virtI (M := MX6_loan) (pc := 36) (M' := MX6_finding) (n := 1) (As := [.int 5]) (st := []) dX6_loan_36 cf6 rfl go_0 gc_0 rfl cat_i okX6_loan_X6_finding cwX6_59 (Nat.le_of_ble_eq_true rfl) ⟨Nat.zero_le _, Nat.zero_le _⟩ rfl (ls0 := [some (rf 0 0), some (.int 5)]) rfl (sX6_finding  hS) (fun r17 h16 hS => ?_)
        exact wi_ret dX6_loan_39 rfl hS
    · replace hS := hS.2 c8
      refine q_ald0 dX6_loan_18 (wz_iconst dX6_loan_19 kiconst_1 ?_)
      refine wz_virtI (M := MX6_loan) (pc := 20) (M' := MX6_finding) (n := 1) (As := [.int 1]) (st := []) dX6_loan_20 cf6 rfl go_0 gc_0 rfl cat_i okX6_loan_X6_finding cwX6_59 (Nat.le_of_ble_eq_true rfl) ⟨Nat.zero_le _, Nat.zero_le _⟩ rfl (ls0 := [some (rf 0 0), some (.int 1)]) rfl (sX6_finding  hS) (fun r19 h18 hS => ?_)
      exact wi_ret dX6_loan_23 rfl hS
def SX6_isSaleCoin (E : EN) (a0 : Int32) (h : TH) (Q : Int32 → TH → Prop) : Prop := SX6_within E a0 0 10000000 h (fun r2 h1 => (isB r2 ∧ Q r2 h1))
set_option maxRecDepth 20000 in
theorem sX6_isSaleCoin {E : EN} {a0 : Int32} {h : TH} {Q : Int32 → TH → Prop}  (hS : SX6_isSaleCoin E a0 h Q) : wi E MX6_isSaleCoin Q 0 [some (.int a0)] [] h := by
  refine q_ild0 dX6_isSaleCoin_0 (wz_iconst dX6_isSaleCoin_1 kiconst_0 (wz_ldcw dX6_isSaleCoin_2 t289 ?_))
  refine wz_statI (M := MX6_isSaleCoin) (pc := 5) (M' := MX6_within) (n := 3) (As := [.int a0, .int 0, .int 10000000]) (st := []) dX6_isSaleCoin_5 rfl cat_iii okX6_isSaleCoin_X6_within cwX6_74 (Nat.le_of_ble_eq_true rfl) ⟨Nat.zero_le _, Nat.zero_le _⟩ rfl (ls0 := [some (.int a0), some (.int 0), some (.int 10000000)]) rfl (sX6_within  hS) (fun r2 h1 hS => ?_)
  exact wi_zret dX6_isSaleCoin_8 rfl (isB_nar hS.1) hS.2
def SX6_isSharer (E : EN) (a1 : Int32) (a2 : Int32) (h : TH) (Q : Int32 → TH → Prop) : Prop := ((a1 = (0 : Int32) → SX6_within E a2 0 ((h 15 0 3) - 1) h (fun r3 h2 => (isB r3 ∧ Q r3 h2))) ∧ (a1 = (1 : Int32) → SX4_has E a2 h (fun r6 h5 => (isB r6 ∧ Q r6 h5))) ∧ (a1 = (2 : Int32) → ((¬ a2 = 0 → Q 0 h) ∧ (a2 = 0 → Q 1 h))) ∧ (¬ a1 = (0 : Int32) → ¬ a1 = (1 : Int32) → ¬ a1 = (2 : Int32) → Q 0 h))
set_option maxRecDepth 20000 in
theorem sX6_isSharer {E : EN} {a1 : Int32} {a2 : Int32} {h : TH} {Q : Int32 → TH → Prop}  (hS : SX6_isSharer E a1 a2 h Q) : wi E MX6_isSharer Q 0 [some (rf 0 0), some (.int a1), some (.int a2)] [] h := by
  refine q_ild1 dX6_isSharer_0 ?_
  by_cases q1 : a1 = (0 : Int32)
  · refine wz_tab1 (tgt := 28) (j := 0) dX6_isSharer_1 (by rw [q1]; decide) (by decide) (by decide) rfl rfl ?_
    replace hS := hS.1 q1
    refine q_ild2 dX6_isSharer_28 (wz_iconst dX6_isSharer_29 kiconst_0 (q_ald0 dX6_isSharer_30 (wz_getR dX6_isSharer_31 cf6 t283 (kf := 4) gr_0_4 gc_0 (wz_getI dX6_isSharer_34 cf5 t284 (kf := 3) gi_15_3 gc_15 rfl (wz_iconst dX6_isSharer_37 kiconst_1 (wz_isub dX6_isSharer_38 ?_))))))
    refine wz_statI (M := MX6_isSharer) (pc := 39) (M' := MX6_within) (n := 3) (As := [.int a2, .int 0, .int ((h 15 0 3) - 1)]) (st := []) dX6_isSharer_39 rfl cat_iii okX6_isSharer_X6_within cwX6_74 (Nat.le_of_ble_eq_true rfl) ⟨Nat.zero_le _, Nat.zero_le _⟩ rfl (ls0 := [some (.int a2), some (.int 0), some (.int ((h 15 0 3) - 1))]) rfl (sX6_within  hS) (fun r3 h2 hS => ?_)
    exact wi_zret dX6_isSharer_42 rfl (isB_nar hS.1) hS.2
  by_cases q4 : a1 = (1 : Int32)
  · refine wz_tab1 (tgt := 43) (j := 1) dX6_isSharer_1 (by rw [q4]; decide) (by decide) (by decide) rfl rfl ?_
    replace hS := hS.2.1 q4
    refine q_ald0 dX6_isSharer_43 (wz_getR dX6_isSharer_44 cf6 t262 (kf := 3) gr_0_3 gc_0 (q_ild2 dX6_isSharer_47 ?_))
    refine wz_virtI (M := MX6_isSharer) (pc := 48) (M' := MX4_has) (n := 1) (As := [.int a2]) (st := []) dX6_isSharer_48 cf4 rfl go_8 gc_8 rfl cat_i okX6_isSharer_X4_has cwX6_166 (Nat.le_of_ble_eq_true rfl) ⟨Nat.zero_le _, Nat.zero_le _⟩ rfl (ls0 := [some (rf 8 0), some (.int a2)]) rfl (sX4_has  hS) (fun r6 h5 hS => ?_)
    exact wi_zret dX6_isSharer_51 rfl (isB_nar hS.1) hS.2
  by_cases q7 : a1 = (2 : Int32)
  · refine wz_tab1 (tgt := 52) (j := 2) dX6_isSharer_1 (by rw [q7]; decide) (by decide) (by decide) rfl rfl ?_
    replace hS := hS.2.2.1 q7
    refine q_ild2 dX6_isSharer_52 ?_
    refine wz_if_ne (tgt := 60) dX6_isSharer_53 rfl (fun c8 => ?_) (fun c8 => ?_)
    · replace hS := hS.1 c8
      refine wz_iconst dX6_isSharer_60 kiconst_0 ?_
      exact wi_zret dX6_isSharer_61 rfl (isB_nar isB_0) hS
    · replace hS := hS.2 c8
      refine wz_iconst dX6_isSharer_56 kiconst_1 (wz_goto (tgt := 61) dX6_isSharer_57 rfl ?_)
      exact wi_zret dX6_isSharer_61 rfl (isB_nar isB_1) hS
  refine wz_tabD (tgt := 62) dX6_isSharer_1 (tab_out (lo := 0) (n := 3) (by decide) (by decide) (fun j hj => match j, hj with | 0, _ => fun z => q1 (Int32.toInt_inj.mp (z.trans (by decide))) | 1, _ => fun z => q4 (Int32.toInt_inj.mp (z.trans (by decide))) | 2, _ => fun z => q7 (Int32.toInt_inj.mp (z.trans (by decide))) | j + 3, hj => absurd hj (by omega))) rfl ?_
  replace hS := hS.2.2.2 q1 q4 q7
  refine wz_iconst dX6_isSharer_62 kiconst_0 ?_
  exact wi_zret dX6_isSharer_63 rfl (isB_nar isB_0) hS
def SX6_sale (E : EN) (a1 : Int32) (a2 : Int32) (a3 : Int32) (a4 : Int32) (h : TH) (Q : Int32 → TH → Prop) : Prop := SX6_isSaleCoin E a1 h (fun r2 h1 => ((r2 = 0 → SX6_finding E 1 h1 (fun r5 h4 => Q r5 h4)) ∧ (¬ r2 = 0 → SX6_within E a2 0 1 h1 (fun r7 h6 => ((r7 = 0 → SX6_finding E 1 h6 (fun r10 h9 => Q r10 h9)) ∧ (¬ r7 = 0 → SX6_isSharer E a3 a4 h6 (fun r12 h11 => ((¬ r12 = 0 → wv E MX5_sell (fun h14 => ((¬ a3 = 0 → ((¬ a3 = 1 → Q (h14 15 0 7) h14) ∧ (a3 = 1 → SX5_claimShare E a4 h14 (fun r19 h18 => Q r19 h18)))) ∧ (a3 = 0 → SX5_loanShare E a4 h14 (fun r21 h20 => Q r21 h20)))) 0 [some (rf 15 0), some (.int a1), some (.int a2), some (.int (h11 0 0 6)), none, none] [] h11) ∧ (r12 = 0 → SX6_finding E 1 h11 (fun r23 h22 => Q r23 h22))))))))))
set_option maxRecDepth 20000 in
theorem sX6_sale {E : EN} {a1 : Int32} {a2 : Int32} {a3 : Int32} {a4 : Int32} {h : TH} {Q : Int32 → TH → Prop}  (hS : SX6_sale E a1 a2 a3 a4 h Q) : wi E MX6_sale Q 0 [some (rf 0 0), some (.int a1), some (.int a2), some (.int a3), some (.int a4)] [] h := by
  refine q_ild1 dX6_sale_0 ?_
  refine wz_statI (M := MX6_sale) (pc := 1) (M' := MX6_isSaleCoin) (n := 1) (As := [.int a1]) (st := []) dX6_sale_1 rfl cat_i okX6_sale_X6_isSaleCoin cwX6_204 (Nat.le_of_ble_eq_true rfl) ⟨Nat.zero_le _, Nat.zero_le _⟩ rfl (ls0 := [some (.int a1)]) rfl (sX6_isSaleCoin  hS) (fun r2 h1 hS => ?_)
  refine wz_if_eq (tgt := 26) dX6_sale_4 rfl (fun c3 => ?_) (fun c3 => ?_)
  · replace hS := hS.1 c3
    refine q_ald0 dX6_sale_26 (wz_iconst dX6_sale_27 kiconst_1 ?_)
    refine wz_virtI (M := MX6_sale) (pc := 28) (M' := MX6_finding) (n := 1) (As := [.int 1]) (st := []) dX6_sale_28 cf6 rfl go_0 gc_0 rfl cat_i okX6_sale_X6_finding cwX6_59 (Nat.le_of_ble_eq_true rfl) ⟨Nat.zero_le _, Nat.zero_le _⟩ rfl (ls0 := [some (rf 0 0), some (.int 1)]) rfl (sX6_finding  hS) (fun r5 h4 hS => ?_)
    exact wi_ret dX6_sale_31 rfl hS
  · replace hS := hS.2 c3
    refine q_ild2 dX6_sale_7 (wz_iconst dX6_sale_8 kiconst_0 (wz_iconst dX6_sale_9 kiconst_1 ?_))
    refine wz_statI (M := MX6_sale) (pc := 10) (M' := MX6_within) (n := 3) (As := [.int a2, .int 0, .int 1]) (st := []) dX6_sale_10 rfl cat_iii okX6_sale_X6_within cwX6_74 (Nat.le_of_ble_eq_true rfl) ⟨Nat.zero_le _, Nat.zero_le _⟩ rfl (ls0 := [some (.int a2), some (.int 0), some (.int 1)]) rfl (sX6_within  hS) (fun r7 h6 hS => ?_)
    refine wz_if_eq (tgt := 26) dX6_sale_13 rfl (fun c8 => ?_) (fun c8 => ?_)
    · replace hS := hS.1 c8
      refine q_ald0 dX6_sale_26 (wz_iconst dX6_sale_27 kiconst_1 ?_)
      refine wz_virtI (M := MX6_sale) (pc := 28) (M' := MX6_finding) (n := 1) (As := [.int 1]) (st := []) dX6_sale_28 cf6 rfl go_0 gc_0 rfl cat_i okX6_sale_X6_finding cwX6_59 (Nat.le_of_ble_eq_true rfl) ⟨Nat.zero_le _, Nat.zero_le _⟩ rfl (ls0 := [some (rf 0 0), some (.int 1)]) rfl (sX6_finding  hS) (fun r10 h9 hS => ?_)
      exact wi_ret dX6_sale_31 rfl hS
    · replace hS := hS.2 c8
      refine q_ald0 dX6_sale_16 (q_ild3 dX6_sale_17 (q_ild4 dX6_sale_18 ?_))
      refine wz_virtI (M := MX6_sale) (pc := 20) (M' := MX6_isSharer) (n := 2) (As := [.int a3, .int a4]) (st := []) dX6_sale_20 cf6 rfl go_0 gc_0 rfl cat_ii okX6_sale_X6_isSharer cwX6_207 (Nat.le_of_ble_eq_true rfl) ⟨Nat.zero_le _, Nat.zero_le _⟩ rfl (ls0 := [some (rf 0 0), some (.int a3), some (.int a4)]) rfl (sX6_isSharer  hS) (fun r12 h11 hS => ?_)
      refine wz_if_ne (tgt := 32) dX6_sale_23 rfl (fun c13 => ?_) (fun c13 => ?_)
      · replace hS := hS.1 c13
        refine q_ald0 dX6_sale_32 (wz_getR dX6_sale_33 cf6 t283 (kf := 4) gr_0_4 gc_0 (q_ild1 dX6_sale_36 (q_ild2 dX6_sale_37 (q_ald0 dX6_sale_38 (wz_getI dX6_sale_39 cf6 t229 (kf := 6) gi_0_6 gc_0 rfl ?_)))))
        refine wz_virtV (M := MX6_sale) (pc := 42) (M' := MX5_sell) (n := 3) (As := [.int a1, .int a2, .int (h11 0 0 6)]) (st := []) dX6_sale_42 cf5 rfl go_15 gc_15 rfl cat_iii okX6_sale_X5_sell cwX6_210 (Nat.le_of_ble_eq_true rfl) ⟨Nat.zero_le _, Nat.zero_le _⟩ rfl (ls0 := [some (rf 15 0), some (.int a1), some (.int a2), some (.int (h11 0 0 6)), none, none]) rfl hS (fun h14 hS => ?_)
        refine q_ild3 dX6_sale_45 ?_
        refine wz_if_ne (tgt := 59) dX6_sale_46 rfl (fun c16 => ?_) (fun c16 => ?_)
        · replace hS := hS.1 c16
          refine q_ild3 dX6_sale_59 (wz_iconst dX6_sale_60 kiconst_1 ?_)
          refine wz_icmp_ne (tgt := 76) dX6_sale_61 rfl (fun c17 => ?_) (fun c17 => ?_)
          · replace hS := hS.1 c17
            refine q_ald0 dX6_sale_76 (wz_getR dX6_sale_77 cf6 t283 (kf := 4) gr_0_4 gc_0 (wz_getI dX6_sale_80 cf5 t290 (kf := 7) gi_15_7 gc_15 rfl ?_))
            exact wi_ret dX6_sale_83 rfl hS
          · replace hS := hS.2 c17
            refine q_ald0 dX6_sale_64 (wz_getR dX6_sale_65 cf6 t283 (kf := 4) gr_0_4 gc_0 (q_ild4 dX6_sale_68 ?_))
            refine wz_virtI (M := MX6_sale) (pc := 70) (M' := MX5_claimShare) (n := 1) (As := [.int a4]) (st := []) dX6_sale_70 cf5 rfl go_15 gc_15 rfl cat_i okX6_sale_X5_claimShare cwX6_216 (Nat.le_of_ble_eq_true rfl) ⟨Nat.zero_le _, Nat.zero_le _⟩ rfl (ls0 := [some (rf 15 0), some (.int a4)]) rfl (sX5_claimShare  hS) (fun r19 h18 hS => ?_)
            refine wz_goto (tgt := 83) dX6_sale_73 rfl ?_
            exact wi_ret dX6_sale_83 rfl hS
        · replace hS := hS.2 c16
          refine q_ald0 dX6_sale_49 (wz_getR dX6_sale_50 cf6 t283 (kf := 4) gr_0_4 gc_0 (q_ild4 dX6_sale_53 ?_))
          refine wz_virtI (M := MX6_sale) (pc := 55) (M' := MX5_loanShare) (n := 1) (As := [.int a4]) (st := []) dX6_sale_55 cf5 rfl go_15 gc_15 rfl cat_i okX6_sale_X5_loanShare cwX6_213 (Nat.le_of_ble_eq_true rfl) ⟨Nat.zero_le _, Nat.zero_le _⟩ rfl (ls0 := [some (rf 15 0), some (.int a4)]) rfl (sX5_loanShare  hS) (fun r21 h20 hS => ?_)
          exact wi_ret dX6_sale_58 rfl hS
      · replace hS := hS.2 c13
        refine q_ald0 dX6_sale_26 (wz_iconst dX6_sale_27 kiconst_1 ?_)
        refine wz_virtI (M := MX6_sale) (pc := 28) (M' := MX6_finding) (n := 1) (As := [.int 1]) (st := []) dX6_sale_28 cf6 rfl go_0 gc_0 rfl cat_i okX6_sale_X6_finding cwX6_59 (Nat.le_of_ble_eq_true rfl) ⟨Nat.zero_le _, Nat.zero_le _⟩ rfl (ls0 := [some (rf 0 0), some (.int 1)]) rfl (sX6_finding  hS) (fun r23 h22 hS => ?_)
        exact wi_ret dX6_sale_31 rfl hS
def SX6_twice (E : EN) (a1 : Int32) (h : TH) (Q : Int32 → TH → Prop) : Prop := SX1_has E a1 h (fun r2 h1 => ((¬ r2 = 0 → vp_in a1 10 ∧ (((h1 4 (a1.toNatClampNeg) 4) = 1 → wi E MX4_worthBelow (fun r7 h6 => SX3_owing E (a1.toNatClampNeg) h6 (fun r9 h8 => Q (if (0 : Int32) < (r7 - r9) then (r7 - r9) else 0) h8)) 0 [some (rf 8 0), some (.int a1), some (.int (h1 0 0 6)), none, none] [] h1) ∧ (¬ (h1 4 (a1.toNatClampNeg) 4) = 1 → SX6_finding E 3 h1 (fun r11 h10 => Q r11 h10)))) ∧ (r2 = 0 → SX6_finding E 1 h1 (fun r13 h12 => Q r13 h12))))
set_option maxRecDepth 20000 in
theorem sX6_twice {E : EN} {a1 : Int32} {h : TH} {Q : Int32 → TH → Prop}  (hS : SX6_twice E a1 h Q) : wi E MX6_twice Q 0 [some (rf 0 0), some (.int a1), none] [] h := by
  refine q_ald0 dX6_twice_0 (wz_getR dX6_twice_1 cf6 t202 (kf := 2) gr_0_2 gc_0 (q_ild1 dX6_twice_4 ?_))
  refine wz_virtI (M := MX6_twice) (pc := 5) (M' := MX1_has) (n := 1) (As := [.int a1]) (st := []) dX6_twice_5 cf1 rfl go_2 gc_2 rfl cat_i okX6_twice_X1_has cwX6_88 (Nat.le_of_ble_eq_true rfl) ⟨Nat.zero_le _, Nat.zero_le _⟩ rfl (ls0 := [some (rf 2 0), some (.int a1)]) rfl (sX1_has  hS) (fun r2 h1 hS => ?_)
  refine wz_if_ne (tgt := 17) dX6_twice_8 rfl (fun c3 => ?_) (fun c3 => ?_)
  · replace hS := hS.1 c3
    refine q_ald0 dX6_twice_17 (wz_getR dX6_twice_18 cf6 t202 (kf := 2) gr_0_2 gc_0 (wz_getR dX6_twice_21 cf1 t222 (kf := 0) gr_2_0 gc_2 (q_ild1 dX6_twice_24 ?_)))
    obtain ⟨hi4, hS⟩ := hS
    refine wz_aald (t := 4) dX6_twice_25 gq_3 gc_3 hi4 (q_ast2 dX6_twice_26 (ltX6_twice_2) rfl (q_ald2 dX6_twice_27 (wz_getI dX6_twice_28 cf3 t310 (kf := 4) gi_4_4 (vp_lt hi4) rfl (wz_iconst dX6_twice_31 kiconst_1 ?_))))
    refine wz_icmp_eq (tgt := 41) dX6_twice_32 rfl (fun c5 => ?_) (fun c5 => ?_)
    · replace hS := hS.1 c5
      refine wz_iconst dX6_twice_41 kiconst_0 (q_ald0 dX6_twice_42 (wz_getR dX6_twice_43 cf6 t262 (kf := 3) gr_0_3 gc_0 (q_ild1 dX6_twice_46 (q_ald0 dX6_twice_47 (wz_getI dX6_twice_48 cf6 t229 (kf := 6) gi_0_6 gc_0 rfl ?_)))))
      refine wz_virtI (M := MX6_twice) (pc := 51) (M' := MX4_worthBelow) (n := 2) (As := [.int a1, .int (h1 0 0 6)]) (st := [.int 0]) dX6_twice_51 cf4 rfl go_8 gc_8 rfl cat_ii okX6_twice_X4_worthBelow cwX6_225 (Nat.le_of_ble_eq_true rfl) ⟨Nat.zero_le _, Nat.zero_le _⟩ rfl (ls0 := [some (rf 8 0), some (.int a1), some (.int (h1 0 0 6)), none, none]) rfl hS (fun r7 h6 hS => ?_)
      refine q_ald2 dX6_twice_54 ?_
      refine wz_virtI (M := MX6_twice) (pc := 55) (M' := MX3_owing) (n := 0) (As := []) (st := [.int r7, .int 0]) dX6_twice_55 cf3 rfl go_4 (vp_lt hi4) rfl cat_ okX6_twice_X3_owing cwX6_129 (Nat.le_of_ble_eq_true rfl) ⟨Nat.zero_le _, Nat.zero_le _⟩ rfl (ls0 := [some (rf 4 (a1.toNatClampNeg))]) rfl (sX3_owing (vp_lt hi4) hS) (fun r9 h8 hS => ?_)
      refine wz_isub dX6_twice_58 (wz_max dX6_twice_59 ⟨t40, t6, t311, t41⟩ ⟨by decide, Nat.le_of_ble_eq_true rfl⟩ ⟨by decide, by decide⟩ ?_)
      exact wi_ret dX6_twice_62 rfl hS
    · replace hS := hS.2 c5
      refine q_ald0 dX6_twice_35 (wz_iconst dX6_twice_36 kiconst_3 ?_)
      refine wz_virtI (M := MX6_twice) (pc := 37) (M' := MX6_finding) (n := 1) (As := [.int 3]) (st := []) dX6_twice_37 cf6 rfl go_0 gc_0 rfl cat_i okX6_twice_X6_finding cwX6_59 (Nat.le_of_ble_eq_true rfl) ⟨Nat.zero_le _, Nat.zero_le _⟩ rfl (ls0 := [some (rf 0 0), some (.int 3)]) rfl (sX6_finding  hS) (fun r11 h10 hS => ?_)
      exact wi_ret dX6_twice_40 rfl hS
  · replace hS := hS.2 c3
    refine q_ald0 dX6_twice_11 (wz_iconst dX6_twice_12 kiconst_1 ?_)
    refine wz_virtI (M := MX6_twice) (pc := 13) (M' := MX6_finding) (n := 1) (As := [.int 1]) (st := []) dX6_twice_13 cf6 rfl go_0 gc_0 rfl cat_i okX6_twice_X6_finding cwX6_59 (Nat.le_of_ble_eq_true rfl) ⟨Nat.zero_le _, Nat.zero_le _⟩ rfl (ls0 := [some (rf 0 0), some (.int 1)]) rfl (sX6_finding  hS) (fun r13 h12 hS => ?_)
    exact wi_ret dX6_twice_16 rfl hS
def SX6_sign (E : EN) (a1 : Int32) (a2 : Int32) (a3 : Int32) (h : TH) (Q : Int32 → TH → Prop) : Prop := SX1_has E a1 h (fun r2 h1 => ((r2 = 0 → SX6_finding E 1 h1 (fun r5 h4 => Q r5 h4)) ∧ (¬ r2 = 0 → SX6_within E a2 0 1000000 h1 (fun r7 h6 => ((r7 = 0 → SX6_finding E 1 h6 (fun r10 h9 => Q r10 h9)) ∧ (¬ r7 = 0 → SX6_within E a3 0 1 h6 (fun r12 h11 => ((¬ r12 = 0 → vp_in a1 10 ∧ (((h11 4 (a1.toNatClampNeg) 4) = 1 → wi E MX1_fewestSigners (fun r17 h16 => ((¬ a3 = 0 → SJ6_bitCount_0f7a4 E r17 h16 (fun r20 h19 => Q r20 h19)) ∧ (a3 = 0 → Q r17 h16))) 0 [some (rf 2 0), some (.int a1), some (.int a2), some (.int (h11 9 0 3)), none, none, none, none, none] [] h11) ∧ (¬ (h11 4 (a1.toNatClampNeg) 4) = 1 → SX6_finding E 3 h11 (fun r22 h21 => Q r22 h21)))) ∧ (r12 = 0 → SX6_finding E 1 h11 (fun r24 h23 => Q r24 h23))))))))))
set_option maxRecDepth 20000 in
theorem sX6_sign {E : EN} {a1 : Int32} {a2 : Int32} {a3 : Int32} {h : TH} {Q : Int32 → TH → Prop}  (hS : SX6_sign E a1 a2 a3 h Q) : wi E MX6_sign Q 0 [some (rf 0 0), some (.int a1), some (.int a2), some (.int a3), none] [] h := by
  refine q_ald0 dX6_sign_0 (wz_getR dX6_sign_1 cf6 t202 (kf := 2) gr_0_2 gc_0 (q_ild1 dX6_sign_4 ?_))
  refine wz_virtI (M := MX6_sign) (pc := 5) (M' := MX1_has) (n := 1) (As := [.int a1]) (st := []) dX6_sign_5 cf1 rfl go_2 gc_2 rfl cat_i okX6_sign_X1_has cwX6_88 (Nat.le_of_ble_eq_true rfl) ⟨Nat.zero_le _, Nat.zero_le _⟩ rfl (ls0 := [some (rf 2 0), some (.int a1)]) rfl (sX1_has  hS) (fun r2 h1 hS => ?_)
  refine wz_if_eq (tgt := 30) dX6_sign_8 rfl (fun c3 => ?_) (fun c3 => ?_)
  · replace hS := hS.1 c3
    refine q_ald0 dX6_sign_30 (wz_iconst dX6_sign_31 kiconst_1 ?_)
    refine wz_virtI (M := MX6_sign) (pc := 32) (M' := MX6_finding) (n := 1) (As := [.int 1]) (st := []) dX6_sign_32 cf6 rfl go_0 gc_0 rfl cat_i okX6_sign_X6_finding cwX6_59 (Nat.le_of_ble_eq_true rfl) ⟨Nat.zero_le _, Nat.zero_le _⟩ rfl (ls0 := [some (rf 0 0), some (.int 1)]) rfl (sX6_finding  hS) (fun r5 h4 hS => ?_)
    exact wi_ret dX6_sign_35 rfl hS
  · replace hS := hS.2 c3
    refine q_ild2 dX6_sign_11 (wz_iconst dX6_sign_12 kiconst_0 (wz_ldc dX6_sign_13 t224 ?_))
    refine wz_statI (M := MX6_sign) (pc := 15) (M' := MX6_within) (n := 3) (As := [.int a2, .int 0, .int 1000000]) (st := []) dX6_sign_15 rfl cat_iii okX6_sign_X6_within cwX6_74 (Nat.le_of_ble_eq_true rfl) ⟨Nat.zero_le _, Nat.zero_le _⟩ rfl (ls0 := [some (.int a2), some (.int 0), some (.int 1000000)]) rfl (sX6_within  hS) (fun r7 h6 hS => ?_)
    refine wz_if_eq (tgt := 30) dX6_sign_18 rfl (fun c8 => ?_) (fun c8 => ?_)
    · replace hS := hS.1 c8
      refine q_ald0 dX6_sign_30 (wz_iconst dX6_sign_31 kiconst_1 ?_)
      refine wz_virtI (M := MX6_sign) (pc := 32) (M' := MX6_finding) (n := 1) (As := [.int 1]) (st := []) dX6_sign_32 cf6 rfl go_0 gc_0 rfl cat_i okX6_sign_X6_finding cwX6_59 (Nat.le_of_ble_eq_true rfl) ⟨Nat.zero_le _, Nat.zero_le _⟩ rfl (ls0 := [some (rf 0 0), some (.int 1)]) rfl (sX6_finding  hS) (fun r10 h9 hS => ?_)
      exact wi_ret dX6_sign_35 rfl hS
    · replace hS := hS.2 c8
      refine q_ild3 dX6_sign_21 (wz_iconst dX6_sign_22 kiconst_0 (wz_iconst dX6_sign_23 kiconst_1 ?_))
      refine wz_statI (M := MX6_sign) (pc := 24) (M' := MX6_within) (n := 3) (As := [.int a3, .int 0, .int 1]) (st := []) dX6_sign_24 rfl cat_iii okX6_sign_X6_within cwX6_74 (Nat.le_of_ble_eq_true rfl) ⟨Nat.zero_le _, Nat.zero_le _⟩ rfl (ls0 := [some (.int a3), some (.int 0), some (.int 1)]) rfl (sX6_within  hS) (fun r12 h11 hS => ?_)
      refine wz_if_ne (tgt := 36) dX6_sign_27 rfl (fun c13 => ?_) (fun c13 => ?_)
      · replace hS := hS.1 c13
        refine q_ald0 dX6_sign_36 (wz_getR dX6_sign_37 cf6 t202 (kf := 2) gr_0_2 gc_0 (wz_getR dX6_sign_40 cf1 t222 (kf := 0) gr_2_0 gc_2 (q_ild1 dX6_sign_43 ?_)))
        obtain ⟨hi14, hS⟩ := hS
        refine wz_aald (t := 4) dX6_sign_44 gq_3 gc_3 hi14 (wz_getI dX6_sign_45 cf3 t310 (kf := 4) gi_4_4 (vp_lt hi14) rfl (wz_iconst dX6_sign_48 kiconst_1 ?_))
        refine wz_icmp_eq (tgt := 58) dX6_sign_49 rfl (fun c15 => ?_) (fun c15 => ?_)
        · replace hS := hS.1 c15
          refine q_ald0 dX6_sign_58 (wz_getR dX6_sign_59 cf6 t202 (kf := 2) gr_0_2 gc_0 (q_ild1 dX6_sign_62 (q_ild2 dX6_sign_63 (q_ald0 dX6_sign_64 (wz_getR dX6_sign_65 cf6 t262 (kf := 3) gr_0_3 gc_0 (wz_getR dX6_sign_68 cf4 t263 (kf := 1) gr_8_1 gc_8 (wz_iconst dX6_sign_71 kiconst_3 ?_)))))))
          refine wz_pc (pc2 := 72) rfl ?_
          refine wz_iald (v := (h11 9 0 3)) dX6_sign_72 ga_9 gc_9 vi_3_6 (congrArg (h11 9 0) cl_3) ?_
          refine wz_virtI (M := MX6_sign) (pc := 73) (M' := MX1_fewestSigners) (n := 3) (As := [.int a1, .int a2, .int (h11 9 0 3)]) (st := []) dX6_sign_73 cf1 rfl go_2 gc_2 rfl cat_iii okX6_sign_X1_fewestSigners cwX6_233 (Nat.le_of_ble_eq_true rfl) ⟨Nat.zero_le _, Nat.zero_le _⟩ rfl (ls0 := [some (rf 2 0), some (.int a1), some (.int a2), some (.int (h11 9 0 3)), none, none, none, none, none]) rfl hS (fun r17 h16 hS => ?_)
          refine q_ist4 dX6_sign_76 (ltX6_sign_4) rfl (q_ild3 dX6_sign_78 ?_)
          refine wz_if_ne (tgt := 87) dX6_sign_79 rfl (fun c18 => ?_) (fun c18 => ?_)
          · replace hS := hS.1 c18
            refine q_ild4 dX6_sign_87 ?_
            refine wz_statI (M := MX6_sign) (pc := 89) (M' := MJ6_bitCount_0f7a4) (n := 1) (As := [.int r17]) (st := []) dX6_sign_89 rfl cat_i okX6_sign_J6_bitCount_0f7a4 cwX6_236 (Nat.le_of_ble_eq_true rfl) ⟨Nat.zero_le _, Nat.zero_le _⟩ rfl (ls0 := [some (.int r17)]) rfl (sJ6_bitCount_0f7a4  hS) (fun r20 h19 hS => ?_)
            exact wi_ret dX6_sign_92 rfl hS
          · replace hS := hS.2 c18
            refine q_ild4 dX6_sign_82 (wz_goto (tgt := 92) dX6_sign_84 rfl ?_)
            exact wi_ret dX6_sign_92 rfl hS
        · replace hS := hS.2 c15
          refine q_ald0 dX6_sign_52 (wz_iconst dX6_sign_53 kiconst_3 ?_)
          refine wz_virtI (M := MX6_sign) (pc := 54) (M' := MX6_finding) (n := 1) (As := [.int 3]) (st := []) dX6_sign_54 cf6 rfl go_0 gc_0 rfl cat_i okX6_sign_X6_finding cwX6_59 (Nat.le_of_ble_eq_true rfl) ⟨Nat.zero_le _, Nat.zero_le _⟩ rfl (ls0 := [some (rf 0 0), some (.int 3)]) rfl (sX6_finding  hS) (fun r22 h21 hS => ?_)
          exact wi_ret dX6_sign_57 rfl hS
      · replace hS := hS.2 c13
        refine q_ald0 dX6_sign_30 (wz_iconst dX6_sign_31 kiconst_1 ?_)
        refine wz_virtI (M := MX6_sign) (pc := 32) (M' := MX6_finding) (n := 1) (As := [.int 1]) (st := []) dX6_sign_32 cf6 rfl go_0 gc_0 rfl cat_i okX6_sign_X6_finding cwX6_59 (Nat.le_of_ble_eq_true rfl) ⟨Nat.zero_le _, Nat.zero_le _⟩ rfl (ls0 := [some (rf 0 0), some (.int 1)]) rfl (sX6_finding  hS) (fun r24 h23 hS => ?_)
        exact wi_ret dX6_sign_35 rfl hS
def SX6_isPurpose (E : EN) (a1 : Int32) (h : TH) (Q : Int32 → TH → Prop) : Prop := ((a1 = (-1) → Q 1 h) ∧ (¬ a1 = (-1) → SX1_has E a1 h (fun r3 h2 => ((r3 = 0 → Q 0 h2) ∧ (¬ r3 = 0 → Q 1 h2)))))
set_option maxRecDepth 20000 in
theorem sX6_isPurpose {E : EN} {a1 : Int32} {h : TH} {Q : Int32 → TH → Prop}  (hS : SX6_isPurpose E a1 h Q) : wi E MX6_isPurpose Q 0 [some (rf 0 0), some (.int a1)] [] h := by
  refine q_ild1 dX6_isPurpose_0 (wz_iconst dX6_isPurpose_1 kiconst_m1 ?_)
  refine wz_icmp_eq (tgt := 16) dX6_isPurpose_2 rfl (fun c1 => ?_) (fun c1 => ?_)
  · replace hS := hS.1 c1
    refine wz_iconst dX6_isPurpose_16 kiconst_1 (wz_goto (tgt := 21) dX6_isPurpose_17 rfl ?_)
    exact wi_zret dX6_isPurpose_21 rfl (isB_nar isB_1) hS
  · replace hS := hS.2 c1
    refine q_ald0 dX6_isPurpose_5 (wz_getR dX6_isPurpose_6 cf6 t202 (kf := 2) gr_0_2 gc_0 (q_ild1 dX6_isPurpose_9 ?_))
    refine wz_virtI (M := MX6_isPurpose) (pc := 10) (M' := MX1_has) (n := 1) (As := [.int a1]) (st := []) dX6_isPurpose_10 cf1 rfl go_2 gc_2 rfl cat_i okX6_isPurpose_X1_has cwX6_88 (Nat.le_of_ble_eq_true rfl) ⟨Nat.zero_le _, Nat.zero_le _⟩ rfl (ls0 := [some (rf 2 0), some (.int a1)]) rfl (sX1_has  hS) (fun r3 h2 hS => ?_)
    refine wz_if_eq (tgt := 20) dX6_isPurpose_13 rfl (fun c4 => ?_) (fun c4 => ?_)
    · replace hS := hS.1 c4
      refine wz_iconst dX6_isPurpose_20 kiconst_0 ?_
      exact wi_zret dX6_isPurpose_21 rfl (isB_nar isB_0) hS
    · replace hS := hS.2 c4
      refine wz_iconst dX6_isPurpose_16 kiconst_1 (wz_goto (tgt := 21) dX6_isPurpose_17 rfl ?_)
      exact wi_zret dX6_isPurpose_21 rfl (isB_nar isB_1) hS
def SX6_in (E : EN) (a1 : Int32) (a2 : Int32) (a3 : Int32) (h : TH) (Q : Int32 → TH → Prop) : Prop := SX6_isParty E a1 h (fun r2 h1 => ((r2 = 0 → SX6_finding E 1 h1 (fun r5 h4 => Q r5 h4)) ∧ (¬ r2 = 0 → SX6_isPurpose E a2 h1 (fun r7 h6 => ((r7 = 0 → SX6_finding E 1 h6 (fun r10 h9 => Q r10 h9)) ∧ (¬ r7 = 0 → SX6_within E a3 1 100000 h6 (fun r12 h11 => ((¬ r12 = 0 → SX6_isOfKind E a1 2 h11 (fun r15 h14 => ((¬ r15 = 0 → ((a2 = (-1) → (((h14 21 0 3) < 40 → wi E MX0_receive (fun r20 h19 => Q r20 h19) 0 [some (rf 21 0), some (.int a1), some (.int a2), some (.int a3), none] [] h14) ∧ (¬ (h14 21 0 3) < 40 → SX6_finding E 4 h14 (fun r22 h21 => Q r22 h21)))) ∧ (¬ a2 = (-1) → vp_in a2 10 ∧ SX3_isSideOf E (a2.toNatClampNeg) a1 h14 (fun r25 h24 => ((¬ r25 = 0 → (((h24 21 0 3) < 40 → wi E MX0_receive (fun r29 h28 => Q r29 h28) 0 [some (rf 21 0), some (.int a1), some (.int a2), some (.int a3), none] [] h24) ∧ (¬ (h24 21 0 3) < 40 → SX6_finding E 4 h24 (fun r31 h30 => Q r31 h30)))) ∧ (r25 = 0 → SX6_finding E 3 h24 (fun r33 h32 => Q r33 h32))))))) ∧ (r15 = 0 → SX6_finding E 5 h14 (fun r35 h34 => Q r35 h34))))) ∧ (r12 = 0 → SX6_finding E 1 h11 (fun r37 h36 => Q r37 h36))))))))))
set_option maxRecDepth 20000 in
theorem sX6_in {E : EN} {a1 : Int32} {a2 : Int32} {a3 : Int32} {h : TH} {Q : Int32 → TH → Prop}  (hS : SX6_in E a1 a2 a3 h Q) : wi E MX6_in Q 0 [some (rf 0 0), some (.int a1), some (.int a2), some (.int a3)] [] h := by
  refine q_ald0 dX6_in_0 (q_ild1 dX6_in_1 ?_)
  refine wz_virtI (M := MX6_in) (pc := 2) (M' := MX6_isParty) (n := 1) (As := [.int a1]) (st := []) dX6_in_2 cf6 rfl go_0 gc_0 rfl cat_i okX6_in_X6_isParty cwX6_63 (Nat.le_of_ble_eq_true rfl) ⟨Nat.zero_le _, Nat.zero_le _⟩ rfl (ls0 := [some (rf 0 0), some (.int a1)]) rfl (sX6_isParty  hS) (fun r2 h1 hS => ?_)
  refine wz_if_eq (tgt := 26) dX6_in_5 rfl (fun c3 => ?_) (fun c3 => ?_)
  · replace hS := hS.1 c3
    refine q_ald0 dX6_in_26 (wz_iconst dX6_in_27 kiconst_1 ?_)
    refine wz_virtI (M := MX6_in) (pc := 28) (M' := MX6_finding) (n := 1) (As := [.int 1]) (st := []) dX6_in_28 cf6 rfl go_0 gc_0 rfl cat_i okX6_in_X6_finding cwX6_59 (Nat.le_of_ble_eq_true rfl) ⟨Nat.zero_le _, Nat.zero_le _⟩ rfl (ls0 := [some (rf 0 0), some (.int 1)]) rfl (sX6_finding  hS) (fun r5 h4 hS => ?_)
    exact wi_ret dX6_in_31 rfl hS
  · replace hS := hS.2 c3
    refine q_ald0 dX6_in_8 (q_ild2 dX6_in_9 ?_)
    refine wz_virtI (M := MX6_in) (pc := 10) (M' := MX6_isPurpose) (n := 1) (As := [.int a2]) (st := []) dX6_in_10 cf6 rfl go_0 gc_0 rfl cat_i okX6_in_X6_isPurpose cwX6_241 (Nat.le_of_ble_eq_true rfl) ⟨Nat.zero_le _, Nat.zero_le _⟩ rfl (ls0 := [some (rf 0 0), some (.int a2)]) rfl (sX6_isPurpose  hS) (fun r7 h6 hS => ?_)
    refine wz_if_eq (tgt := 26) dX6_in_13 rfl (fun c8 => ?_) (fun c8 => ?_)
    · replace hS := hS.1 c8
      refine q_ald0 dX6_in_26 (wz_iconst dX6_in_27 kiconst_1 ?_)
      refine wz_virtI (M := MX6_in) (pc := 28) (M' := MX6_finding) (n := 1) (As := [.int 1]) (st := []) dX6_in_28 cf6 rfl go_0 gc_0 rfl cat_i okX6_in_X6_finding cwX6_59 (Nat.le_of_ble_eq_true rfl) ⟨Nat.zero_le _, Nat.zero_le _⟩ rfl (ls0 := [some (rf 0 0), some (.int 1)]) rfl (sX6_finding  hS) (fun r10 h9 hS => ?_)
      exact wi_ret dX6_in_31 rfl hS
    · replace hS := hS.2 c8
      refine q_ild3 dX6_in_16 (wz_iconst dX6_in_17 kiconst_1 (wz_ldc dX6_in_18 t215 ?_))
      refine wz_statI (M := MX6_in) (pc := 20) (M' := MX6_within) (n := 3) (As := [.int a3, .int 1, .int 100000]) (st := []) dX6_in_20 rfl cat_iii okX6_in_X6_within cwX6_74 (Nat.le_of_ble_eq_true rfl) ⟨Nat.zero_le _, Nat.zero_le _⟩ rfl (ls0 := [some (.int a3), some (.int 1), some (.int 100000)]) rfl (sX6_within  hS) (fun r12 h11 hS => ?_)
      refine wz_if_ne (tgt := 32) dX6_in_23 rfl (fun c13 => ?_) (fun c13 => ?_)
      · replace hS := hS.1 c13
        refine q_ald0 dX6_in_32 (q_ild1 dX6_in_33 (wz_iconst dX6_in_34 kiconst_2 ?_))
        refine wz_virtI (M := MX6_in) (pc := 35) (M' := MX6_isOfKind) (n := 2) (As := [.int a1, .int 2]) (st := []) dX6_in_35 cf6 rfl go_0 gc_0 rfl cat_ii okX6_in_X6_isOfKind cwX6_66 (Nat.le_of_ble_eq_true rfl) ⟨Nat.zero_le _, Nat.zero_le _⟩ rfl (ls0 := [some (rf 0 0), some (.int a1), some (.int 2), none]) rfl (sX6_isOfKind  hS) (fun r15 h14 hS => ?_)
        refine wz_if_ne (tgt := 47) dX6_in_38 rfl (fun c16 => ?_) (fun c16 => ?_)
        · replace hS := hS.1 c16
          refine q_ild2 dX6_in_47 (wz_iconst dX6_in_48 kiconst_m1 ?_)
          refine wz_icmp_eq (tgt := 74) dX6_in_49 rfl (fun c17 => ?_) (fun c17 => ?_)
          · replace hS := hS.1 c17
            refine q_ald0 dX6_in_74 (wz_getR dX6_in_75 cf6 t321 (kf := 5) gr_0_5 gc_0 (wz_getI dX6_in_78 cf0 t322 (kf := 3) gi_21_3 gc_21 rfl (wz_bipush dX6_in_81 kbipush_40 ?_)))
            refine wz_icmp_lt (tgt := 92) dX6_in_83 rfl (fun c18 => ?_) (fun c18 => ?_)
            · replace hS := hS.1 c18
              refine q_ald0 dX6_in_92 (wz_getR dX6_in_93 cf6 t321 (kf := 5) gr_0_5 gc_0 (q_ild1 dX6_in_96 (q_ild2 dX6_in_97 (q_ild3 dX6_in_98 ?_))))
              refine wz_virtI (M := MX6_in) (pc := 99) (M' := MX0_receive) (n := 3) (As := [.int a1, .int a2, .int a3]) (st := []) dX6_in_99 cf0 rfl go_21 gc_21 rfl cat_iii okX6_in_X0_receive cwX6_250 (Nat.le_of_ble_eq_true rfl) ⟨Nat.zero_le _, Nat.zero_le _⟩ rfl (ls0 := [some (rf 21 0), some (.int a1), some (.int a2), some (.int a3), none]) rfl hS (fun r20 h19 hS => ?_)
              exact wi_ret dX6_in_102 rfl hS
            · replace hS := hS.2 c18
              refine q_ald0 dX6_in_86 (wz_iconst dX6_in_87 kiconst_4 ?_)
              refine wz_virtI (M := MX6_in) (pc := 88) (M' := MX6_finding) (n := 1) (As := [.int 4]) (st := []) dX6_in_88 cf6 rfl go_0 gc_0 rfl cat_i okX6_in_X6_finding cwX6_59 (Nat.le_of_ble_eq_true rfl) ⟨Nat.zero_le _, Nat.zero_le _⟩ rfl (ls0 := [some (rf 0 0), some (.int 4)]) rfl (sX6_finding  hS) (fun r22 h21 hS => ?_)
              exact wi_ret dX6_in_91 rfl hS
          · replace hS := hS.2 c17
            refine q_ald0 dX6_in_52 (wz_getR dX6_in_53 cf6 t202 (kf := 2) gr_0_2 gc_0 (wz_getR dX6_in_56 cf1 t222 (kf := 0) gr_2_0 gc_2 (q_ild2 dX6_in_59 ?_)))
            obtain ⟨hi23, hS⟩ := hS
            refine wz_aald (t := 4) dX6_in_60 gq_3 gc_3 hi23 (q_ild1 dX6_in_61 ?_)
            refine wz_virtI (M := MX6_in) (pc := 62) (M' := MX3_isSideOf) (n := 1) (As := [.int a1]) (st := []) dX6_in_62 cf3 rfl go_4 (vp_lt hi23) rfl cat_i okX6_in_X3_isSideOf cwX6_244 (Nat.le_of_ble_eq_true rfl) ⟨Nat.zero_le _, Nat.zero_le _⟩ rfl (ls0 := [some (rf 4 (a2.toNatClampNeg)), some (.int a1)]) rfl (sX3_isSideOf (vp_lt hi23) hS) (fun r25 h24 hS => ?_)
            refine wz_if_ne (tgt := 74) dX6_in_65 rfl (fun c26 => ?_) (fun c26 => ?_)
            · replace hS := hS.1 c26
              refine q_ald0 dX6_in_74 (wz_getR dX6_in_75 cf6 t321 (kf := 5) gr_0_5 gc_0 (wz_getI dX6_in_78 cf0 t322 (kf := 3) gi_21_3 gc_21 rfl (wz_bipush dX6_in_81 kbipush_40 ?_)))
              refine wz_icmp_lt (tgt := 92) dX6_in_83 rfl (fun c27 => ?_) (fun c27 => ?_)
              · replace hS := hS.1 c27
                refine q_ald0 dX6_in_92 (wz_getR dX6_in_93 cf6 t321 (kf := 5) gr_0_5 gc_0 (q_ild1 dX6_in_96 (q_ild2 dX6_in_97 (q_ild3 dX6_in_98 ?_))))
                refine wz_virtI (M := MX6_in) (pc := 99) (M' := MX0_receive) (n := 3) (As := [.int a1, .int a2, .int a3]) (st := []) dX6_in_99 cf0 rfl go_21 gc_21 rfl cat_iii okX6_in_X0_receive cwX6_250 (Nat.le_of_ble_eq_true rfl) ⟨Nat.zero_le _, Nat.zero_le _⟩ rfl (ls0 := [some (rf 21 0), some (.int a1), some (.int a2), some (.int a3), none]) rfl hS (fun r29 h28 hS => ?_)
                exact wi_ret dX6_in_102 rfl hS
              · replace hS := hS.2 c27
                refine q_ald0 dX6_in_86 (wz_iconst dX6_in_87 kiconst_4 ?_)
                refine wz_virtI (M := MX6_in) (pc := 88) (M' := MX6_finding) (n := 1) (As := [.int 4]) (st := []) dX6_in_88 cf6 rfl go_0 gc_0 rfl cat_i okX6_in_X6_finding cwX6_59 (Nat.le_of_ble_eq_true rfl) ⟨Nat.zero_le _, Nat.zero_le _⟩ rfl (ls0 := [some (rf 0 0), some (.int 4)]) rfl (sX6_finding  hS) (fun r31 h30 hS => ?_)
                exact wi_ret dX6_in_91 rfl hS
            · replace hS := hS.2 c26
              refine q_ald0 dX6_in_68 (wz_iconst dX6_in_69 kiconst_3 ?_)
              refine wz_virtI (M := MX6_in) (pc := 70) (M' := MX6_finding) (n := 1) (As := [.int 3]) (st := []) dX6_in_70 cf6 rfl go_0 gc_0 rfl cat_i okX6_in_X6_finding cwX6_59 (Nat.le_of_ble_eq_true rfl) ⟨Nat.zero_le _, Nat.zero_le _⟩ rfl (ls0 := [some (rf 0 0), some (.int 3)]) rfl (sX6_finding  hS) (fun r33 h32 hS => ?_)
              exact wi_ret dX6_in_73 rfl hS
        · replace hS := hS.2 c16
          refine q_ald0 dX6_in_41 (wz_iconst dX6_in_42 kiconst_5 ?_)
          refine wz_virtI (M := MX6_in) (pc := 43) (M' := MX6_finding) (n := 1) (As := [.int 5]) (st := []) dX6_in_43 cf6 rfl go_0 gc_0 rfl cat_i okX6_in_X6_finding cwX6_59 (Nat.le_of_ble_eq_true rfl) ⟨Nat.zero_le _, Nat.zero_le _⟩ rfl (ls0 := [some (rf 0 0), some (.int 5)]) rfl (sX6_finding  hS) (fun r35 h34 hS => ?_)
          exact wi_ret dX6_in_46 rfl hS
      · replace hS := hS.2 c13
        refine q_ald0 dX6_in_26 (wz_iconst dX6_in_27 kiconst_1 ?_)
        refine wz_virtI (M := MX6_in) (pc := 28) (M' := MX6_finding) (n := 1) (As := [.int 1]) (st := []) dX6_in_28 cf6 rfl go_0 gc_0 rfl cat_i okX6_in_X6_finding cwX6_59 (Nat.le_of_ble_eq_true rfl) ⟨Nat.zero_le _, Nat.zero_le _⟩ rfl (ls0 := [some (rf 0 0), some (.int 1)]) rfl (sX6_finding  hS) (fun r37 h36 hS => ?_)
        exact wi_ret dX6_in_31 rfl hS
def SX6_out (E : EN) (a1 : Int32) (a2 : Int32) (h : TH) (Q : Int32 → TH → Prop) : Prop := SX6_isParty E a1 h (fun r2 h1 => ((r2 = 0 → SX6_finding E 1 h1 (fun r5 h4 => Q r5 h4)) ∧ (¬ r2 = 0 → SX6_within E a2 1 1000000 h1 (fun r7 h6 => ((¬ r7 = 0 → SX6_isOfKind E a1 2 h6 (fun r10 h9 => ((¬ r10 = 0 → wi E MX0_balance (fun r13 h12 => ((a2 ≤ r13 → (((h12 21 0 4) < 40 → wv E MX0_spend (fun h16 => Q (r13 - a2) h16) 0 [some (rf 21 0), some (.int a1), some (.int a2), none, none] [] h12) ∧ (¬ (h12 21 0 4) < 40 → SX6_finding E 4 h12 (fun r19 h18 => Q r19 h18)))) ∧ (¬ a2 ≤ r13 → SX6_finding E 3 h12 (fun r21 h20 => Q r21 h20)))) 0 [some (rf 21 0), some (.int a1), none, none] [] h9) ∧ (r10 = 0 → SX6_finding E 5 h9 (fun r23 h22 => Q r23 h22))))) ∧ (r7 = 0 → SX6_finding E 1 h6 (fun r25 h24 => Q r25 h24)))))))
set_option maxRecDepth 20000 in
theorem sX6_out {E : EN} {a1 : Int32} {a2 : Int32} {h : TH} {Q : Int32 → TH → Prop}  (hS : SX6_out E a1 a2 h Q) : wi E MX6_out Q 0 [some (rf 0 0), some (.int a1), some (.int a2), none] [] h := by
  refine q_ald0 dX6_out_0 (q_ild1 dX6_out_1 ?_)
  refine wz_virtI (M := MX6_out) (pc := 2) (M' := MX6_isParty) (n := 1) (As := [.int a1]) (st := []) dX6_out_2 cf6 rfl go_0 gc_0 rfl cat_i okX6_out_X6_isParty cwX6_63 (Nat.le_of_ble_eq_true rfl) ⟨Nat.zero_le _, Nat.zero_le _⟩ rfl (ls0 := [some (rf 0 0), some (.int a1)]) rfl (sX6_isParty  hS) (fun r2 h1 hS => ?_)
  refine wz_if_eq (tgt := 18) dX6_out_5 rfl (fun c3 => ?_) (fun c3 => ?_)
  · replace hS := hS.1 c3
    refine q_ald0 dX6_out_18 (wz_iconst dX6_out_19 kiconst_1 ?_)
    refine wz_virtI (M := MX6_out) (pc := 20) (M' := MX6_finding) (n := 1) (As := [.int 1]) (st := []) dX6_out_20 cf6 rfl go_0 gc_0 rfl cat_i okX6_out_X6_finding cwX6_59 (Nat.le_of_ble_eq_true rfl) ⟨Nat.zero_le _, Nat.zero_le _⟩ rfl (ls0 := [some (rf 0 0), some (.int 1)]) rfl (sX6_finding  hS) (fun r5 h4 hS => ?_)
    exact wi_ret dX6_out_23 rfl hS
  · replace hS := hS.2 c3
    refine q_ild2 dX6_out_8 (wz_iconst dX6_out_9 kiconst_1 (wz_ldc dX6_out_10 t224 ?_))
    refine wz_statI (M := MX6_out) (pc := 12) (M' := MX6_within) (n := 3) (As := [.int a2, .int 1, .int 1000000]) (st := []) dX6_out_12 rfl cat_iii okX6_out_X6_within cwX6_74 (Nat.le_of_ble_eq_true rfl) ⟨Nat.zero_le _, Nat.zero_le _⟩ rfl (ls0 := [some (.int a2), some (.int 1), some (.int 1000000)]) rfl (sX6_within  hS) (fun r7 h6 hS => ?_)
    refine wz_if_ne (tgt := 24) dX6_out_15 rfl (fun c8 => ?_) (fun c8 => ?_)
    · replace hS := hS.1 c8
      refine q_ald0 dX6_out_24 (q_ild1 dX6_out_25 (wz_iconst dX6_out_26 kiconst_2 ?_))
      refine wz_virtI (M := MX6_out) (pc := 27) (M' := MX6_isOfKind) (n := 2) (As := [.int a1, .int 2]) (st := []) dX6_out_27 cf6 rfl go_0 gc_0 rfl cat_ii okX6_out_X6_isOfKind cwX6_66 (Nat.le_of_ble_eq_true rfl) ⟨Nat.zero_le _, Nat.zero_le _⟩ rfl (ls0 := [some (rf 0 0), some (.int a1), some (.int 2), none]) rfl (sX6_isOfKind  hS) (fun r10 h9 hS => ?_)
      refine wz_if_ne (tgt := 39) dX6_out_30 rfl (fun c11 => ?_) (fun c11 => ?_)
      · replace hS := hS.1 c11
        refine q_ald0 dX6_out_39 (wz_getR dX6_out_40 cf6 t321 (kf := 5) gr_0_5 gc_0 (q_ild1 dX6_out_43 ?_))
        refine wz_virtI (M := MX6_out) (pc := 44) (M' := MX0_balance) (n := 1) (As := [.int a1]) (st := []) dX6_out_44 cf0 rfl go_21 gc_21 rfl cat_i okX6_out_X0_balance cwX6_253 (Nat.le_of_ble_eq_true rfl) ⟨Nat.zero_le _, Nat.zero_le _⟩ rfl (ls0 := [some (rf 21 0), some (.int a1), none, none]) rfl hS (fun r13 h12 hS => ?_)
        refine q_ist3 dX6_out_47 (ltX6_out_3) rfl (q_ild3 dX6_out_48 (q_ild2 dX6_out_49 ?_))
        refine wz_icmp_ge (tgt := 59) dX6_out_50 rfl (fun c14 => ?_) (fun c14 => ?_)
        · replace hS := hS.1 c14
          refine q_ald0 dX6_out_59 (wz_getR dX6_out_60 cf6 t321 (kf := 5) gr_0_5 gc_0 (wz_getI dX6_out_63 cf0 t335 (kf := 4) gi_21_4 gc_21 rfl (wz_bipush dX6_out_66 kbipush_40 ?_)))
          refine wz_icmp_lt (tgt := 77) dX6_out_68 rfl (fun c15 => ?_) (fun c15 => ?_)
          · replace hS := hS.1 c15
            refine q_ald0 dX6_out_77 (wz_getR dX6_out_78 cf6 t321 (kf := 5) gr_0_5 gc_0 (q_ild1 dX6_out_81 (q_ild2 dX6_out_82 ?_)))
            refine wz_virtV (M := MX6_out) (pc := 83) (M' := MX0_spend) (n := 2) (As := [.int a1, .int a2]) (st := []) dX6_out_83 cf0 rfl go_21 gc_21 rfl cat_ii okX6_out_X0_spend cwX6_259 (Nat.le_of_ble_eq_true rfl) ⟨Nat.zero_le _, Nat.zero_le _⟩ rfl (ls0 := [some (rf 21 0), some (.int a1), some (.int a2), none, none]) rfl hS (fun h16 hS => ?_)
            refine q_ild3 dX6_out_86 (q_ild2 dX6_out_87 (wz_isub dX6_out_88 ?_))
            exact wi_ret dX6_out_89 rfl hS
          · replace hS := hS.2 c15
            refine q_ald0 dX6_out_71 (wz_iconst dX6_out_72 kiconst_4 ?_)
            refine wz_virtI (M := MX6_out) (pc := 73) (M' := MX6_finding) (n := 1) (As := [.int 4]) (st := []) dX6_out_73 cf6 rfl go_0 gc_0 rfl cat_i okX6_out_X6_finding cwX6_59 (Nat.le_of_ble_eq_true rfl) ⟨Nat.zero_le _, Nat.zero_le _⟩ rfl (ls0 := [some (rf 0 0), some (.int 4)]) rfl (sX6_finding  hS) (fun r19 h18 hS => ?_)
            exact wi_ret dX6_out_76 rfl hS
        · replace hS := hS.2 c14
          refine q_ald0 dX6_out_53 (wz_iconst dX6_out_54 kiconst_3 ?_)
          refine wz_virtI (M := MX6_out) (pc := 55) (M' := MX6_finding) (n := 1) (As := [.int 3]) (st := []) dX6_out_55 cf6 rfl go_0 gc_0 rfl cat_i okX6_out_X6_finding cwX6_59 (Nat.le_of_ble_eq_true rfl) ⟨Nat.zero_le _, Nat.zero_le _⟩ rfl (ls0 := [some (rf 0 0), some (.int 3)]) rfl (sX6_finding  hS) (fun r21 h20 hS => ?_)
          exact wi_ret dX6_out_58 rfl hS
      · replace hS := hS.2 c11
        refine q_ald0 dX6_out_33 (wz_iconst dX6_out_34 kiconst_5 ?_)
        refine wz_virtI (M := MX6_out) (pc := 35) (M' := MX6_finding) (n := 1) (As := [.int 5]) (st := []) dX6_out_35 cf6 rfl go_0 gc_0 rfl cat_i okX6_out_X6_finding cwX6_59 (Nat.le_of_ble_eq_true rfl) ⟨Nat.zero_le _, Nat.zero_le _⟩ rfl (ls0 := [some (rf 0 0), some (.int 5)]) rfl (sX6_finding  hS) (fun r23 h22 hS => ?_)
        exact wi_ret dX6_out_38 rfl hS
    · replace hS := hS.2 c8
      refine q_ald0 dX6_out_18 (wz_iconst dX6_out_19 kiconst_1 ?_)
      refine wz_virtI (M := MX6_out) (pc := 20) (M' := MX6_finding) (n := 1) (As := [.int 1]) (st := []) dX6_out_20 cf6 rfl go_0 gc_0 rfl cat_i okX6_out_X6_finding cwX6_59 (Nat.le_of_ble_eq_true rfl) ⟨Nat.zero_le _, Nat.zero_le _⟩ rfl (ls0 := [some (rf 0 0), some (.int 1)]) rfl (sX6_finding  hS) (fun r25 h24 hS => ?_)
      exact wi_ret dX6_out_23 rfl hS
def SX6_trace (E : EN) (a1 : Int32) (a2 : Int32) (h : TH) (Q : Int32 → TH → Prop) : Prop := SX6_within E a1 0 ((h 21 0 3) - 1) h (fun r2 h1 => ((r2 = 0 → SX6_finding E 1 h1 (fun r5 h4 => Q r5 h4)) ∧ (¬ r2 = 0 → SX6_within E a2 0 2 h1 (fun r7 h6 => ((¬ r7 = 0 → vp_in a2 3 ∧ vp_in a1 40 ∧ Q (h6 25 (a2.toNatClampNeg) (a1.toNatClampNeg)) h6) ∧ (r7 = 0 → SX6_finding E 1 h6 (fun r12 h11 => Q r12 h11)))))))
set_option maxRecDepth 20000 in
theorem sX6_trace {E : EN} {a1 : Int32} {a2 : Int32} {h : TH} {Q : Int32 → TH → Prop}  (hS : SX6_trace E a1 a2 h Q) : wi E MX6_trace Q 0 [some (rf 0 0), some (.int a1), some (.int a2)] [] h := by
  refine q_ild1 dX6_trace_0 (wz_iconst dX6_trace_1 kiconst_0 (q_ald0 dX6_trace_2 (wz_getR dX6_trace_3 cf6 t321 (kf := 5) gr_0_5 gc_0 (wz_getI dX6_trace_6 cf0 t322 (kf := 3) gi_21_3 gc_21 rfl (wz_iconst dX6_trace_9 kiconst_1 (wz_isub dX6_trace_10 ?_))))))
  refine wz_statI (M := MX6_trace) (pc := 11) (M' := MX6_within) (n := 3) (As := [.int a1, .int 0, .int ((h 21 0 3) - 1)]) (st := []) dX6_trace_11 rfl cat_iii okX6_trace_X6_within cwX6_74 (Nat.le_of_ble_eq_true rfl) ⟨Nat.zero_le _, Nat.zero_le _⟩ rfl (ls0 := [some (.int a1), some (.int 0), some (.int ((h 21 0 3) - 1))]) rfl (sX6_within  hS) (fun r2 h1 hS => ?_)
  refine wz_if_eq (tgt := 26) dX6_trace_14 rfl (fun c3 => ?_) (fun c3 => ?_)
  · replace hS := hS.1 c3
    refine q_ald0 dX6_trace_26 (wz_iconst dX6_trace_27 kiconst_1 ?_)
    refine wz_virtI (M := MX6_trace) (pc := 28) (M' := MX6_finding) (n := 1) (As := [.int 1]) (st := []) dX6_trace_28 cf6 rfl go_0 gc_0 rfl cat_i okX6_trace_X6_finding cwX6_59 (Nat.le_of_ble_eq_true rfl) ⟨Nat.zero_le _, Nat.zero_le _⟩ rfl (ls0 := [some (rf 0 0), some (.int 1)]) rfl (sX6_finding  hS) (fun r5 h4 hS => ?_)
    exact wi_ret dX6_trace_31 rfl hS
  · replace hS := hS.2 c3
    refine q_ild2 dX6_trace_17 (wz_iconst dX6_trace_18 kiconst_0 (wz_iconst dX6_trace_19 kiconst_2 ?_))
    refine wz_statI (M := MX6_trace) (pc := 20) (M' := MX6_within) (n := 3) (As := [.int a2, .int 0, .int 2]) (st := []) dX6_trace_20 rfl cat_iii okX6_trace_X6_within cwX6_74 (Nat.le_of_ble_eq_true rfl) ⟨Nat.zero_le _, Nat.zero_le _⟩ rfl (ls0 := [some (.int a2), some (.int 0), some (.int 2)]) rfl (sX6_within  hS) (fun r7 h6 hS => ?_)
    refine wz_if_ne (tgt := 32) dX6_trace_23 rfl (fun c8 => ?_) (fun c8 => ?_)
    · replace hS := hS.1 c8
      refine q_ald0 dX6_trace_32 (wz_getR dX6_trace_33 cf6 t321 (kf := 5) gr_0_5 gc_0 (wz_getR dX6_trace_36 cf0 t344 (kf := 2) gr_21_2 gc_21 (q_ild2 dX6_trace_39 ?_)))
      obtain ⟨hi9, hS⟩ := hS
      refine wz_aald (t := 25) dX6_trace_40 gq_24 gc_24 hi9 (q_ild1 dX6_trace_41 ?_)
      obtain ⟨hi10, hS⟩ := hS
      refine wz_iald dX6_trace_42 ga_25 (vp_lt hi9) hi10 rfl ?_
      exact wi_ret dX6_trace_43 rfl hS
    · replace hS := hS.2 c8
      refine q_ald0 dX6_trace_26 (wz_iconst dX6_trace_27 kiconst_1 ?_)
      refine wz_virtI (M := MX6_trace) (pc := 28) (M' := MX6_finding) (n := 1) (As := [.int 1]) (st := []) dX6_trace_28 cf6 rfl go_0 gc_0 rfl cat_i okX6_trace_X6_finding cwX6_59 (Nat.le_of_ble_eq_true rfl) ⟨Nat.zero_le _, Nat.zero_le _⟩ rfl (ls0 := [some (rf 0 0), some (.int 1)]) rfl (sX6_finding  hS) (fun r12 h11 hS => ?_)
      exact wi_ret dX6_trace_31 rfl hS
def SX6_held (E : EN) (a1 : Int32) (a2 : Int32) (a3 : Int32) (h : TH) (Q : Int32 → TH → Prop) : Prop := SX6_isParty E a1 h (fun r2 h1 => ((r2 = 0 → SX6_finding E 1 h1 (fun r5 h4 => Q r5 h4)) ∧ (¬ r2 = 0 → SX6_isPurpose E a2 h1 (fun r7 h6 => ((r7 = 0 → SX6_finding E 1 h6 (fun r10 h9 => Q r10 h9)) ∧ (¬ r7 = 0 → SX6_within E a3 0 2 h6 (fun r12 h11 => ((¬ r12 = 0 → SX6_isOfKind E a1 2 h11 (fun r15 h14 => ((¬ r15 = 0 → wi E MX0_leftFor (fun r18 h17 => Q r18 h17) 0 [some (rf 21 0), some (.int a1), some (.int a2), some (.int a3), none, none] [] h14) ∧ (r15 = 0 → SX6_finding E 5 h14 (fun r20 h19 => Q r20 h19))))) ∧ (r12 = 0 → SX6_finding E 1 h11 (fun r22 h21 => Q r22 h21))))))))))
set_option maxRecDepth 20000 in
theorem sX6_held {E : EN} {a1 : Int32} {a2 : Int32} {a3 : Int32} {h : TH} {Q : Int32 → TH → Prop}  (hS : SX6_held E a1 a2 a3 h Q) : wi E MX6_held Q 0 [some (rf 0 0), some (.int a1), some (.int a2), some (.int a3)] [] h := by
  refine q_ald0 dX6_held_0 (q_ild1 dX6_held_1 ?_)
  refine wz_virtI (M := MX6_held) (pc := 2) (M' := MX6_isParty) (n := 1) (As := [.int a1]) (st := []) dX6_held_2 cf6 rfl go_0 gc_0 rfl cat_i okX6_held_X6_isParty cwX6_63 (Nat.le_of_ble_eq_true rfl) ⟨Nat.zero_le _, Nat.zero_le _⟩ rfl (ls0 := [some (rf 0 0), some (.int a1)]) rfl (sX6_isParty  hS) (fun r2 h1 hS => ?_)
  refine wz_if_eq (tgt := 25) dX6_held_5 rfl (fun c3 => ?_) (fun c3 => ?_)
  · replace hS := hS.1 c3
    refine q_ald0 dX6_held_25 (wz_iconst dX6_held_26 kiconst_1 ?_)
    refine wz_virtI (M := MX6_held) (pc := 27) (M' := MX6_finding) (n := 1) (As := [.int 1]) (st := []) dX6_held_27 cf6 rfl go_0 gc_0 rfl cat_i okX6_held_X6_finding cwX6_59 (Nat.le_of_ble_eq_true rfl) ⟨Nat.zero_le _, Nat.zero_le _⟩ rfl (ls0 := [some (rf 0 0), some (.int 1)]) rfl (sX6_finding  hS) (fun r5 h4 hS => ?_)
    exact wi_ret dX6_held_30 rfl hS
  · replace hS := hS.2 c3
    refine q_ald0 dX6_held_8 (q_ild2 dX6_held_9 ?_)
    refine wz_virtI (M := MX6_held) (pc := 10) (M' := MX6_isPurpose) (n := 1) (As := [.int a2]) (st := []) dX6_held_10 cf6 rfl go_0 gc_0 rfl cat_i okX6_held_X6_isPurpose cwX6_241 (Nat.le_of_ble_eq_true rfl) ⟨Nat.zero_le _, Nat.zero_le _⟩ rfl (ls0 := [some (rf 0 0), some (.int a2)]) rfl (sX6_isPurpose  hS) (fun r7 h6 hS => ?_)
    refine wz_if_eq (tgt := 25) dX6_held_13 rfl (fun c8 => ?_) (fun c8 => ?_)
    · replace hS := hS.1 c8
      refine q_ald0 dX6_held_25 (wz_iconst dX6_held_26 kiconst_1 ?_)
      refine wz_virtI (M := MX6_held) (pc := 27) (M' := MX6_finding) (n := 1) (As := [.int 1]) (st := []) dX6_held_27 cf6 rfl go_0 gc_0 rfl cat_i okX6_held_X6_finding cwX6_59 (Nat.le_of_ble_eq_true rfl) ⟨Nat.zero_le _, Nat.zero_le _⟩ rfl (ls0 := [some (rf 0 0), some (.int 1)]) rfl (sX6_finding  hS) (fun r10 h9 hS => ?_)
      exact wi_ret dX6_held_30 rfl hS
    · replace hS := hS.2 c8
      refine q_ild3 dX6_held_16 (wz_iconst dX6_held_17 kiconst_0 (wz_iconst dX6_held_18 kiconst_2 ?_))
      refine wz_statI (M := MX6_held) (pc := 19) (M' := MX6_within) (n := 3) (As := [.int a3, .int 0, .int 2]) (st := []) dX6_held_19 rfl cat_iii okX6_held_X6_within cwX6_74 (Nat.le_of_ble_eq_true rfl) ⟨Nat.zero_le _, Nat.zero_le _⟩ rfl (ls0 := [some (.int a3), some (.int 0), some (.int 2)]) rfl (sX6_within  hS) (fun r12 h11 hS => ?_)
      refine wz_if_ne (tgt := 31) dX6_held_22 rfl (fun c13 => ?_) (fun c13 => ?_)
      · replace hS := hS.1 c13
        refine q_ald0 dX6_held_31 (q_ild1 dX6_held_32 (wz_iconst dX6_held_33 kiconst_2 ?_))
        refine wz_virtI (M := MX6_held) (pc := 34) (M' := MX6_isOfKind) (n := 2) (As := [.int a1, .int 2]) (st := []) dX6_held_34 cf6 rfl go_0 gc_0 rfl cat_ii okX6_held_X6_isOfKind cwX6_66 (Nat.le_of_ble_eq_true rfl) ⟨Nat.zero_le _, Nat.zero_le _⟩ rfl (ls0 := [some (rf 0 0), some (.int a1), some (.int 2), none]) rfl (sX6_isOfKind  hS) (fun r15 h14 hS => ?_)
        refine wz_if_ne (tgt := 46) dX6_held_37 rfl (fun c16 => ?_) (fun c16 => ?_)
        · replace hS := hS.1 c16
          refine q_ald0 dX6_held_46 (wz_getR dX6_held_47 cf6 t321 (kf := 5) gr_0_5 gc_0 (q_ild1 dX6_held_50 (q_ild2 dX6_held_51 (q_ild3 dX6_held_52 ?_))))
          refine wz_virtI (M := MX6_held) (pc := 53) (M' := MX0_leftFor) (n := 3) (As := [.int a1, .int a2, .int a3]) (st := []) dX6_held_53 cf0 rfl go_21 gc_21 rfl cat_iii okX6_held_X0_leftFor cwX6_266 (Nat.le_of_ble_eq_true rfl) ⟨Nat.zero_le _, Nat.zero_le _⟩ rfl (ls0 := [some (rf 21 0), some (.int a1), some (.int a2), some (.int a3), none, none]) rfl hS (fun r18 h17 hS => ?_)
          exact wi_ret dX6_held_56 rfl hS
        · replace hS := hS.2 c16
          refine q_ald0 dX6_held_40 (wz_iconst dX6_held_41 kiconst_5 ?_)
          refine wz_virtI (M := MX6_held) (pc := 42) (M' := MX6_finding) (n := 1) (As := [.int 5]) (st := []) dX6_held_42 cf6 rfl go_0 gc_0 rfl cat_i okX6_held_X6_finding cwX6_59 (Nat.le_of_ble_eq_true rfl) ⟨Nat.zero_le _, Nat.zero_le _⟩ rfl (ls0 := [some (rf 0 0), some (.int 5)]) rfl (sX6_finding  hS) (fun r20 h19 hS => ?_)
          exact wi_ret dX6_held_45 rfl hS
      · replace hS := hS.2 c13
        refine q_ald0 dX6_held_25 (wz_iconst dX6_held_26 kiconst_1 ?_)
        refine wz_virtI (M := MX6_held) (pc := 27) (M' := MX6_finding) (n := 1) (As := [.int 1]) (st := []) dX6_held_27 cf6 rfl go_0 gc_0 rfl cat_i okX6_held_X6_finding cwX6_59 (Nat.le_of_ble_eq_true rfl) ⟨Nat.zero_le _, Nat.zero_le _⟩ rfl (ls0 := [some (rf 0 0), some (.int 1)]) rfl (sX6_finding  hS) (fun r22 h21 hS => ?_)
        exact wi_ret dX6_held_30 rfl hS
def SX6_tell (E : EN) (a1 : Int32) (h : TH) (Q : Int32 → TH → Prop) : Prop := (((h 0 0 8) < 16 → vp_in (h 0 0 8) 16 ∧ Q ((h 0 0 8) + 1) (up (up h 26 0 ((h 0 0 8).toNatClampNeg) a1) 0 0 8 ((h 0 0 8) + 1))) ∧ (¬ (h 0 0 8) < 16 → SX6_finding E 4 h (fun r4 h3 => Q r4 h3)))
set_option maxRecDepth 20000 in
theorem sX6_tell {E : EN} {a1 : Int32} {h : TH} {Q : Int32 → TH → Prop}  (hS : SX6_tell E a1 h Q) : wi E MX6_tell Q 0 [some (rf 0 0), some (.int a1)] [] h := by
  refine q_ald0 dX6_tell_0 (wz_getI dX6_tell_1 cf6 t349 (kf := 8) gi_0_8 gc_0 rfl (wz_bipush dX6_tell_4 kbipush_16 ?_))
  refine wz_icmp_lt (tgt := 15) dX6_tell_6 rfl (fun c1 => ?_) (fun c1 => ?_)
  · replace hS := hS.1 c1
    refine q_ald0 dX6_tell_15 (wz_getR dX6_tell_16 cf6 t350 (kf := 7) gr_0_7 gc_0 (q_ald0 dX6_tell_19 (wz_getI dX6_tell_20 cf6 t349 (kf := 8) gi_0_8 gc_0 rfl (q_ild1 dX6_tell_23 ?_))))
    obtain ⟨hi2, hS⟩ := hS
    refine wz_iast dX6_tell_24 ga_26 gc_26 hi2 rfl (q_ald0 dX6_tell_25 (wz_dup dX6_tell_26 rfl (wz_getI (v := (h 0 0 8)) dX6_tell_27 cf6 t349 (kf := 8) gi_0_8 gc_0 (by first | rfl | simp [up]) (wz_iconst dX6_tell_30 kiconst_1 (wz_iadd dX6_tell_31 (wz_putI dX6_tell_32 cf6 t349 (kf := 8) gp_0_8 gc_0 rfl (q_ald0 dX6_tell_35 ?_)))))))
    refine wz_pc (pc2 := 36) rfl ?_
    refine wz_getI (v := ((h 0 0 8) + 1)) dX6_tell_36 cf6 t349 (kf := 8) gi_0_8 gc_0 (by first | rfl | simp [up]) ?_
    exact wi_ret dX6_tell_39 rfl hS
  · replace hS := hS.2 c1
    refine q_ald0 dX6_tell_9 (wz_iconst dX6_tell_10 kiconst_4 ?_)
    refine wz_virtI (M := MX6_tell) (pc := 11) (M' := MX6_finding) (n := 1) (As := [.int 4]) (st := []) dX6_tell_11 cf6 rfl go_0 gc_0 rfl cat_i okX6_tell_X6_finding cwX6_59 (Nat.le_of_ble_eq_true rfl) ⟨Nat.zero_le _, Nat.zero_le _⟩ rfl (ls0 := [some (rf 0 0), some (.int 4)]) rfl (sX6_finding  hS) (fun r4 h3 hS => ?_)
    exact wi_ret dX6_tell_14 rfl hS
def SX6_check_0 (E : EN) (a1 : Int32) (h : TH) (Q : Int32 → TH → Prop) : Prop := SX6_isSaleCoin E a1 (up h 0 0 8 0) (fun r2 h1 => ((¬ r2 = 0 → wv E MX5_sell (fun h4 => wi E MX6_check Q 38 [some (rf 0 0), none, some (.int (h 0 0 8)), some (.int 0)] [] h4) 0 [some (rf 15 0), some (.int a1), some (.int 0), some (.int (h1 0 0 6)), none, none] [] h1) ∧ (r2 = 0 → SX6_finding E 1 h1 (fun r7 h6 => Q r7 h6))))
set_option maxRecDepth 20000 in
theorem sX6_check_0 {E : EN} {a1 : Int32} {h : TH} {Q : Int32 → TH → Prop}  (hS : SX6_check_0 E a1 h Q) : wi E MX6_check Q 0 [some (rf 0 0), some (.int a1), none, none] [] h := by
  refine q_ald0 dX6_check_0 (wz_getI dX6_check_1 cf6 t349 (kf := 8) gi_0_8 gc_0 rfl (q_ist2 dX6_check_4 (ltX6_check_2) rfl (q_ald0 dX6_check_5 (wz_iconst dX6_check_6 kiconst_0 (wz_putI dX6_check_7 cf6 t349 (kf := 8) gp_0_8 gc_0 rfl (q_ild1 dX6_check_10 ?_))))))
  refine wz_statI (M := MX6_check) (pc := 11) (M' := MX6_isSaleCoin) (n := 1) (As := [.int a1]) (st := []) dX6_check_11 rfl cat_i okX6_check_X6_isSaleCoin cwX6_204 (Nat.le_of_ble_eq_true rfl) ⟨Nat.zero_le _, Nat.zero_le _⟩ rfl (ls0 := [some (.int a1)]) rfl (sX6_isSaleCoin  hS) (fun r2 h1 hS => ?_)
  refine wz_if_ne (tgt := 23) dX6_check_14 rfl (fun c3 => ?_) (fun c3 => ?_)
  · replace hS := hS.1 c3
    refine q_ald0 dX6_check_23 (wz_getR dX6_check_24 cf6 t283 (kf := 4) gr_0_4 gc_0 (q_ild1 dX6_check_27 (wz_iconst dX6_check_28 kiconst_0 (q_ald0 dX6_check_29 (wz_getI dX6_check_30 cf6 t229 (kf := 6) gi_0_6 gc_0 rfl ?_)))))
    refine wz_virtV (M := MX6_check) (pc := 33) (M' := MX5_sell) (n := 3) (As := [.int a1, .int 0, .int (h1 0 0 6)]) (st := []) dX6_check_33 cf5 rfl go_15 gc_15 rfl cat_iii okX6_check_X5_sell cwX6_210 (Nat.le_of_ble_eq_true rfl) ⟨Nat.zero_le _, Nat.zero_le _⟩ rfl (ls0 := [some (rf 15 0), some (.int a1), some (.int 0), some (.int (h1 0 0 6)), none, none]) rfl hS (fun h4 hS => ?_)
    refine wz_iconst dX6_check_36 kiconst_0 (q_ist3 dX6_check_37 (ltX6_check_3) rfl ?_)
    exact wz_mask [true, false, true, true] rfl hS
  · replace hS := hS.2 c3
    refine q_ald0 dX6_check_17 (wz_iconst dX6_check_18 kiconst_1 ?_)
    refine wz_virtI (M := MX6_check) (pc := 19) (M' := MX6_finding) (n := 1) (As := [.int 1]) (st := []) dX6_check_19 cf6 rfl go_0 gc_0 rfl cat_i okX6_check_X6_finding cwX6_59 (Nat.le_of_ble_eq_true rfl) ⟨Nat.zero_le _, Nat.zero_le _⟩ rfl (ls0 := [some (rf 0 0), some (.int 1)]) rfl (sX6_finding  hS) (fun r7 h6 hS => ?_)
    exact wi_ret dX6_check_22 rfl hS
def SX6_check_38 (E : EN) (x2 : Int32) (x3 : Int32) (h : TH) (Q : Int32 → TH → Prop) : Prop := ((x2 ≤ x3 → Q 0 h) ∧ (¬ x2 ≤ x3 → SX4_has E x3 h (fun r3 h2 => ((r3 = 0 → Q (1 + x3) h2) ∧ (¬ r3 = 0 → vp_in x3 16 ∧ SX5_claimShare E x3 h2 (fun r7 h6 => (((h2 26 0 (x3.toNatClampNeg)) = r7 → wi E MX6_check Q 38 [some (rf 0 0), none, some (.int x2), some (.int (x3 + 1))] [] h6) ∧ (¬ (h2 26 0 (x3.toNatClampNeg)) = r7 → Q (1 + x3) h6))))))))
set_option maxRecDepth 20000 in
theorem sX6_check_38 {E : EN} {x2 : Int32} {x3 : Int32} {h : TH} {Q : Int32 → TH → Prop}  (hS : SX6_check_38 E x2 x3 h Q) : wi E MX6_check Q 38 [some (rf 0 0), none, some (.int x2), some (.int x3)] [] h := by
  refine q_ild3 dX6_check_38 (q_ild2 dX6_check_39 ?_)
  refine wz_icmp_ge (tgt := 81) dX6_check_40 rfl (fun c1 => ?_) (fun c1 => ?_)
  · replace hS := hS.1 c1
    refine wz_iconst dX6_check_81 kiconst_0 ?_
    exact wi_ret dX6_check_82 rfl hS
  · replace hS := hS.2 c1
    refine q_ald0 dX6_check_43 (wz_getR dX6_check_44 cf6 t262 (kf := 3) gr_0_3 gc_0 (q_ild3 dX6_check_47 ?_))
    refine wz_virtI (M := MX6_check) (pc := 48) (M' := MX4_has) (n := 1) (As := [.int x3]) (st := []) dX6_check_48 cf4 rfl go_8 gc_8 rfl cat_i okX6_check_X4_has cwX6_166 (Nat.le_of_ble_eq_true rfl) ⟨Nat.zero_le _, Nat.zero_le _⟩ rfl (ls0 := [some (rf 8 0), some (.int x3)]) rfl (sX4_has  hS) (fun r3 h2 hS => ?_)
    refine wz_if_eq (tgt := 71) dX6_check_51 rfl (fun c4 => ?_) (fun c4 => ?_)
    · replace hS := hS.1 c4
      refine wz_iconst dX6_check_71 kiconst_1 (q_ild3 dX6_check_72 (wz_iadd dX6_check_73 ?_))
      exact wi_ret dX6_check_74 rfl hS
    · replace hS := hS.2 c4
      refine q_ald0 dX6_check_54 (wz_getR dX6_check_55 cf6 t350 (kf := 7) gr_0_7 gc_0 (q_ild3 dX6_check_58 ?_))
      obtain ⟨hi5, hS⟩ := hS
      refine wz_iald dX6_check_59 ga_26 gc_26 hi5 rfl (q_ald0 dX6_check_60 (wz_getR dX6_check_61 cf6 t283 (kf := 4) gr_0_4 gc_0 (q_ild3 dX6_check_64 ?_)))
      refine wz_virtI (M := MX6_check) (pc := 65) (M' := MX5_claimShare) (n := 1) (As := [.int x3]) (st := [.int (h2 26 0 (x3.toNatClampNeg))]) dX6_check_65 cf5 rfl go_15 gc_15 rfl cat_i okX6_check_X5_claimShare cwX6_216 (Nat.le_of_ble_eq_true rfl) ⟨Nat.zero_le _, Nat.zero_le _⟩ rfl (ls0 := [some (rf 15 0), some (.int x3)]) rfl (sX5_claimShare  hS) (fun r7 h6 hS => ?_)
      refine wz_icmp_eq (tgt := 75) dX6_check_68 rfl (fun c8 => ?_) (fun c8 => ?_)
      · replace hS := hS.1 c8
        refine q_inc3 (v := (x3 + 1)) dX6_check_75 rfl (ltX6_check_3) rfl (wz_goto (tgt := 38) dX6_check_78 rfl ?_)
        exact hS
      · replace hS := hS.2 c8
        refine wz_iconst dX6_check_71 kiconst_1 (q_ild3 dX6_check_72 (wz_iadd dX6_check_73 ?_))
        exact wi_ret dX6_check_74 rfl hS
def SX6_count (E : EN) (a1 : Int32) (h : TH) (Q : Int32 → TH → Prop) : Prop := ((a1 = (0 : Int32) → Q (h 0 0 1) h) ∧ (a1 = (1 : Int32) → Q (h 2 0 1) h) ∧ (a1 = (2 : Int32) → Q (h 8 0 3) h) ∧ (a1 = (3 : Int32) → Q (h 15 0 3) h) ∧ (a1 = (4 : Int32) → Q (h 2 0 5) h) ∧ (a1 = (5 : Int32) → Q (h 21 0 3) h) ∧ (a1 = (6 : Int32) → Q (h 21 0 4) h) ∧ (a1 = (7 : Int32) → Q (h 0 0 6) h) ∧ (a1 = (8 : Int32) → Q (h 0 0 8) h) ∧ (a1 = (9 : Int32) → wi E MX4_howManyGood (fun r12 h11 => Q r12 h11) 0 [some (rf 8 0), some (.int (h 0 0 6)), none, none] [] h) ∧ (¬ a1 = (0 : Int32) → ¬ a1 = (1 : Int32) → ¬ a1 = (2 : Int32) → ¬ a1 = (3 : Int32) → ¬ a1 = (4 : Int32) → ¬ a1 = (5 : Int32) → ¬ a1 = (6 : Int32) → ¬ a1 = (7 : Int32) → ¬ a1 = (8 : Int32) → ¬ a1 = (9 : Int32) → SX6_finding E 1 h (fun r14 h13 => Q r14 h13)))
set_option maxRecDepth 20000 in
theorem sX6_count {E : EN} {a1 : Int32} {h : TH} {Q : Int32 → TH → Prop}  (hS : SX6_count E a1 h Q) : wi E MX6_count Q 0 [some (rf 0 0), some (.int a1)] [] h := by
  refine q_ild1 dX6_count_0 ?_
  by_cases q1 : a1 = (0 : Int32)
  · refine wz_tab1 (tgt := 56) (j := 0) dX6_count_1 (by rw [q1]; decide) (by decide) (by decide) rfl rfl ?_
    replace hS := hS.1 q1
    refine q_ald0 dX6_count_56 (wz_getI dX6_count_57 cf6 t193 (kf := 1) gi_0_1 gc_0 rfl ?_)
    exact wi_ret dX6_count_60 rfl hS
  by_cases q2 : a1 = (1 : Int32)
  · refine wz_tab1 (tgt := 61) (j := 1) dX6_count_1 (by rw [q2]; decide) (by decide) (by decide) rfl rfl ?_
    replace hS := hS.2.1 q2
    refine q_ald0 dX6_count_61 (wz_getR dX6_count_62 cf6 t202 (kf := 2) gr_0_2 gc_0 (wz_getI dX6_count_65 cf1 t216 (kf := 1) gi_2_1 gc_2 rfl ?_))
    exact wi_ret dX6_count_68 rfl hS
  by_cases q3 : a1 = (2 : Int32)
  · refine wz_tab1 (tgt := 69) (j := 2) dX6_count_1 (by rw [q3]; decide) (by decide) (by decide) rfl rfl ?_
    replace hS := hS.2.2.1 q3
    refine q_ald0 dX6_count_69 (wz_getR dX6_count_70 cf6 t262 (kf := 3) gr_0_3 gc_0 (wz_getI dX6_count_73 cf4 t264 (kf := 3) gi_8_3 gc_8 rfl ?_))
    exact wi_ret dX6_count_76 rfl hS
  by_cases q4 : a1 = (3 : Int32)
  · refine wz_tab1 (tgt := 77) (j := 3) dX6_count_1 (by rw [q4]; decide) (by decide) (by decide) rfl rfl ?_
    replace hS := hS.2.2.2.1 q4
    refine q_ald0 dX6_count_77 (wz_getR dX6_count_78 cf6 t283 (kf := 4) gr_0_4 gc_0 (wz_getI dX6_count_81 cf5 t284 (kf := 3) gi_15_3 gc_15 rfl ?_))
    exact wi_ret dX6_count_84 rfl hS
  by_cases q5 : a1 = (4 : Int32)
  · refine wz_tab1 (tgt := 85) (j := 4) dX6_count_1 (by rw [q5]; decide) (by decide) (by decide) rfl rfl ?_
    replace hS := hS.2.2.2.2.1 q5
    refine q_ald0 dX6_count_85 (wz_getR dX6_count_86 cf6 t202 (kf := 2) gr_0_2 gc_0 (wz_getI dX6_count_89 cf1 t250 (kf := 5) gi_2_5 gc_2 rfl ?_))
    exact wi_ret dX6_count_92 rfl hS
  by_cases q6 : a1 = (5 : Int32)
  · refine wz_tab1 (tgt := 93) (j := 5) dX6_count_1 (by rw [q6]; decide) (by decide) (by decide) rfl rfl ?_
    replace hS := hS.2.2.2.2.2.1 q6
    refine q_ald0 dX6_count_93 (wz_getR dX6_count_94 cf6 t321 (kf := 5) gr_0_5 gc_0 (wz_getI dX6_count_97 cf0 t322 (kf := 3) gi_21_3 gc_21 rfl ?_))
    exact wi_ret dX6_count_100 rfl hS
  by_cases q7 : a1 = (6 : Int32)
  · refine wz_tab1 (tgt := 101) (j := 6) dX6_count_1 (by rw [q7]; decide) (by decide) (by decide) rfl rfl ?_
    replace hS := hS.2.2.2.2.2.2.1 q7
    refine q_ald0 dX6_count_101 (wz_getR dX6_count_102 cf6 t321 (kf := 5) gr_0_5 gc_0 (wz_getI dX6_count_105 cf0 t335 (kf := 4) gi_21_4 gc_21 rfl ?_))
    exact wi_ret dX6_count_108 rfl hS
  by_cases q8 : a1 = (7 : Int32)
  · refine wz_tab1 (tgt := 109) (j := 7) dX6_count_1 (by rw [q8]; decide) (by decide) (by decide) rfl rfl ?_
    replace hS := hS.2.2.2.2.2.2.2.1 q8
    refine q_ald0 dX6_count_109 (wz_getI dX6_count_110 cf6 t229 (kf := 6) gi_0_6 gc_0 rfl ?_)
    exact wi_ret dX6_count_113 rfl hS
  by_cases q9 : a1 = (8 : Int32)
  · refine wz_tab1 (tgt := 114) (j := 8) dX6_count_1 (by rw [q9]; decide) (by decide) (by decide) rfl rfl ?_
    replace hS := hS.2.2.2.2.2.2.2.2.1 q9
    refine q_ald0 dX6_count_114 (wz_getI dX6_count_115 cf6 t349 (kf := 8) gi_0_8 gc_0 rfl ?_)
    exact wi_ret dX6_count_118 rfl hS
  by_cases q10 : a1 = (9 : Int32)
  · refine wz_tab1 (tgt := 119) (j := 9) dX6_count_1 (by rw [q10]; decide) (by decide) (by decide) rfl rfl ?_
    replace hS := hS.2.2.2.2.2.2.2.2.2.1 q10
    refine q_ald0 dX6_count_119 (wz_getR dX6_count_120 cf6 t262 (kf := 3) gr_0_3 gc_0 (q_ald0 dX6_count_123 (wz_getI dX6_count_124 cf6 t229 (kf := 6) gi_0_6 gc_0 rfl ?_)))
    refine wz_virtI (M := MX6_count) (pc := 127) (M' := MX4_howManyGood) (n := 1) (As := [.int (h 0 0 6)]) (st := []) dX6_count_127 cf4 rfl go_8 gc_8 rfl cat_i okX6_count_X4_howManyGood cwX6_272 (Nat.le_of_ble_eq_true rfl) ⟨Nat.zero_le _, Nat.zero_le _⟩ rfl (ls0 := [some (rf 8 0), some (.int (h 0 0 6)), none, none]) rfl hS (fun r12 h11 hS => ?_)
    exact wi_ret dX6_count_130 rfl hS
  refine wz_tabD (tgt := 131) dX6_count_1 (tab_out (lo := 0) (n := 10) (by decide) (by decide) (fun j hj => match j, hj with | 0, _ => fun z => q1 (Int32.toInt_inj.mp (z.trans (by decide))) | 1, _ => fun z => q2 (Int32.toInt_inj.mp (z.trans (by decide))) | 2, _ => fun z => q3 (Int32.toInt_inj.mp (z.trans (by decide))) | 3, _ => fun z => q4 (Int32.toInt_inj.mp (z.trans (by decide))) | 4, _ => fun z => q5 (Int32.toInt_inj.mp (z.trans (by decide))) | 5, _ => fun z => q6 (Int32.toInt_inj.mp (z.trans (by decide))) | 6, _ => fun z => q7 (Int32.toInt_inj.mp (z.trans (by decide))) | 7, _ => fun z => q8 (Int32.toInt_inj.mp (z.trans (by decide))) | 8, _ => fun z => q9 (Int32.toInt_inj.mp (z.trans (by decide))) | 9, _ => fun z => q10 (Int32.toInt_inj.mp (z.trans (by decide))) | j + 10, hj => absurd hj (by omega))) rfl ?_
  replace hS := hS.2.2.2.2.2.2.2.2.2.2 q1 q2 q3 q4 q5 q6 q7 q8 q9 q10
  refine q_ald0 dX6_count_131 (wz_iconst dX6_count_132 kiconst_1 ?_)
  refine wz_virtI (M := MX6_count) (pc := 133) (M' := MX6_finding) (n := 1) (As := [.int 1]) (st := []) dX6_count_133 cf6 rfl go_0 gc_0 rfl cat_i okX6_count_X6_finding cwX6_59 (Nat.le_of_ble_eq_true rfl) ⟨Nat.zero_le _, Nat.zero_le _⟩ rfl (ls0 := [some (rf 0 0), some (.int 1)]) rfl (sX6_finding  hS) (fun r14 h13 hS => ?_)
  exact wi_ret dX6_count_136 rfl hS
def SX6_found (E : EN) (a1 : Int32) (h : TH) (Q : Int32 → TH → Prop) : Prop := SX6_within E a1 1 5 h (fun r2 h1 => ((¬ r2 = 0 → vp_in a1 6 ∧ Q (h1 27 0 (a1.toNatClampNeg)) h1) ∧ (r2 = 0 → SX6_finding E 1 h1 (fun r6 h5 => Q r6 h5))))
set_option maxRecDepth 20000 in
theorem sX6_found {E : EN} {a1 : Int32} {h : TH} {Q : Int32 → TH → Prop}  (hS : SX6_found E a1 h Q) : wi E MX6_found Q 0 [some (rf 0 0), some (.int a1)] [] h := by
  refine q_ild1 dX6_found_0 (wz_iconst dX6_found_1 kiconst_1 (wz_iconst dX6_found_2 kiconst_5 ?_))
  refine wz_statI (M := MX6_found) (pc := 3) (M' := MX6_within) (n := 3) (As := [.int a1, .int 1, .int 5]) (st := []) dX6_found_3 rfl cat_iii okX6_found_X6_within cwX6_74 (Nat.le_of_ble_eq_true rfl) ⟨Nat.zero_le _, Nat.zero_le _⟩ rfl (ls0 := [some (.int a1), some (.int 1), some (.int 5)]) rfl (sX6_within  hS) (fun r2 h1 hS => ?_)
  refine wz_if_ne (tgt := 15) dX6_found_6 rfl (fun c3 => ?_) (fun c3 => ?_)
  · replace hS := hS.1 c3
    refine q_ald0 dX6_found_15 (wz_getR dX6_found_16 cf6 t191 (kf := 9) gr_0_9 gc_0 (q_ild1 dX6_found_19 ?_))
    obtain ⟨hi4, hS⟩ := hS
    refine wz_iald dX6_found_20 ga_27 gc_27 hi4 rfl ?_
    exact wi_ret dX6_found_21 rfl hS
  · replace hS := hS.2 c3
    refine q_ald0 dX6_found_9 (wz_iconst dX6_found_10 kiconst_1 ?_)
    refine wz_virtI (M := MX6_found) (pc := 11) (M' := MX6_finding) (n := 1) (As := [.int 1]) (st := []) dX6_found_11 cf6 rfl go_0 gc_0 rfl cat_i okX6_found_X6_finding cwX6_59 (Nat.le_of_ble_eq_true rfl) ⟨Nat.zero_le _, Nat.zero_le _⟩ rfl (ls0 := [some (rf 0 0), some (.int 1)]) rfl (sX6_finding  hS) (fun r6 h5 hS => ?_)
    exact wi_ret dX6_found_14 rfl hS
