def SX0_receive_0 (E : EN) (a1 : Int32) (a2 : Int32) (a3 : Int32) (h : TH) (Q : Int32 → TH → Prop) : Prop := vp_in (h 21 0 3) 40 ∧ wi E MX0_receive Q 23 [some (rf 21 0), none, none, some (.int a3), some (.int 0)] [] (up (up h 22 0 ((h 21 0 3).toNatClampNeg) a1) 23 0 ((h 21 0 3).toNatClampNeg) a2)
set_option maxRecDepth 20000 in
theorem sX0_receive_0 {E : EN} {a1 : Int32} {a2 : Int32} {a3 : Int32} {h : TH} {Q : Int32 → TH → Prop}  (hS : SX0_receive_0 E a1 a2 a3 h Q) : wi E MX0_receive Q 0 [some (rf 21 0), some (.int a1), some (.int a2), some (.int a3), none] [] h := by
  refine q_ald0 dX0_receive_0 (wz_getR dX0_receive_1 cf0 t0 (kf := 0) gr_21_0 gc_21 (q_ald0 dX0_receive_4 (wz_getI dX0_receive_5 cf0 t1 (kf := 3) gi_21_3 gc_21 rfl (q_ild1 dX0_receive_8 ?_))))
  obtain ⟨hi1, hS⟩ := hS
  refine wz_iast dX0_receive_9 ga_22 gc_22 hi1 rfl (q_ald0 dX0_receive_10 (wz_getR dX0_receive_11 cf0 t2 (kf := 1) gr_21_1 gc_21 (q_ald0 dX0_receive_14 (wz_getI (v := (h 21 0 3)) dX0_receive_15 cf0 t1 (kf := 3) gi_21_3 gc_21 (by first | rfl | simp [up]) (q_ild2 dX0_receive_18 (wz_iast dX0_receive_19 ga_23 gc_23 hi1 rfl (wz_iconst dX0_receive_20 kiconst_0 ?_)))))))
  refine wz_pc (pc2 := 21) rfl ?_
  refine q_ist4 dX0_receive_21 (ltX0_receive_4) rfl ?_
  exact wz_mask [true, false, false, true, true] rfl hS
def SX0_receive_23 (E : EN) (x3 : Int32) (x4 : Int32) (h : TH) (Q : Int32 → TH → Prop) : Prop := ((3 ≤ x4 → Q (((h 21 0 3) + 1) - 1) (up h 21 0 3 ((h 21 0 3) + 1))) ∧ (¬ 3 ≤ x4 → vp_in x4 3 ∧ vp_in (h 21 0 3) 40 ∧ wi E MX0_receive Q 23 [some (rf 21 0), none, none, some (.int x3), some (.int (x4 + 1))] [] (up h 25 (x4.toNatClampNeg) ((h 21 0 3).toNatClampNeg) x3)))
set_option maxRecDepth 20000 in
theorem sX0_receive_23 {E : EN} {x3 : Int32} {x4 : Int32} {h : TH} {Q : Int32 → TH → Prop}  (hS : SX0_receive_23 E x3 x4 h Q) : wi E MX0_receive Q 23 [some (rf 21 0), none, none, some (.int x3), some (.int x4)] [] h := by
  refine q_ild4 dX0_receive_23 (wz_iconst dX0_receive_25 kiconst_3 ?_)
  refine wz_icmp_ge (tgt := 48) dX0_receive_26 rfl (fun c1 => ?_) (fun c1 => ?_)
  · replace hS := hS.1 c1
    refine q_ald0 dX0_receive_48 (wz_dup dX0_receive_49 rfl (wz_getI dX0_receive_50 cf0 t1 (kf := 3) gi_21_3 gc_21 rfl (wz_iconst dX0_receive_53 kiconst_1 (wz_iadd dX0_receive_54 (wz_putI dX0_receive_55 cf0 t1 (kf := 3) gp_21_3 gc_21 rfl (q_ald0 dX0_receive_58 (wz_getI (v := ((h 21 0 3) + 1)) dX0_receive_59 cf0 t1 (kf := 3) gi_21_3 gc_21 (by first | rfl | simp [up]) ?_)))))))
    refine wz_pc (pc2 := 62) rfl ?_
    refine wz_iconst dX0_receive_62 kiconst_1 (wz_isub dX0_receive_63 ?_)
    exact wi_ret dX0_receive_64 rfl hS
  · replace hS := hS.2 c1
    refine q_ald0 dX0_receive_29 (wz_getR dX0_receive_30 cf0 t3 (kf := 2) gr_21_2 gc_21 (q_ild4 dX0_receive_33 ?_))
    obtain ⟨hi2, hS⟩ := hS
    refine wz_aald (t := 25) dX0_receive_35 gq_24 gc_24 hi2 (q_ald0 dX0_receive_36 (wz_getI dX0_receive_37 cf0 t1 (kf := 3) gi_21_3 gc_21 rfl (q_ild3 dX0_receive_40 ?_)))
    obtain ⟨hi3, hS⟩ := hS
    refine wz_iast dX0_receive_41 ga_25 (vp_lt hi2) hi3 rfl (q_inc4 (v := (x4 + 1)) dX0_receive_42 rfl (ltX0_receive_4) rfl (wz_goto (tgt := 23) dX0_receive_45 rfl ?_))
    exact hS
def SX0_balance_0 (E : EN) (a1 : Int32) (h : TH) (Q : Int32 → TH → Prop) : Prop := wi E MX0_balance Q 4 [some (rf 21 0), some (.int a1), some (.int 0), some (.int 0)] [] h
set_option maxRecDepth 20000 in
theorem sX0_balance_0 {E : EN} {a1 : Int32} {h : TH} {Q : Int32 → TH → Prop}  (hS : SX0_balance_0 E a1 h Q) : wi E MX0_balance Q 0 [some (rf 21 0), some (.int a1), none, none] [] h := by
  refine wz_iconst dX0_balance_0 kiconst_0 (q_ist2 dX0_balance_1 (ltX0_balance_2) rfl (wz_iconst dX0_balance_2 kiconst_0 (q_ist3 dX0_balance_3 (ltX0_balance_3) rfl ?_)))
  exact hS
def SX0_balance_4 (E : EN) (x1 : Int32) (x2 : Int32) (x3 : Int32) (h : TH) (Q : Int32 → TH → Prop) : Prop := (((h 21 0 3) ≤ x3 → Q x2 h) ∧ (¬ (h 21 0 3) ≤ x3 → vp_in x3 40 ∧ ((¬ (h 22 0 (x3.toNatClampNeg)) = x1 → wi E MX0_balance Q 4 [some (rf 21 0), some (.int x1), some (.int x2), some (.int (x3 + 1))] [] h) ∧ ((h 22 0 (x3.toNatClampNeg)) = x1 → wi E MX0_balance Q 4 [some (rf 21 0), some (.int x1), some (.int (x2 + (h 25 0 (x3.toNatClampNeg)))), some (.int (x3 + 1))] [] h))))
set_option maxRecDepth 20000 in
theorem sX0_balance_4 {E : EN} {x1 : Int32} {x2 : Int32} {x3 : Int32} {h : TH} {Q : Int32 → TH → Prop}  (hS : SX0_balance_4 E x1 x2 x3 h Q) : wi E MX0_balance Q 4 [some (rf 21 0), some (.int x1), some (.int x2), some (.int x3)] [] h := by
  refine q_ild3 dX0_balance_4 (q_ald0 dX0_balance_5 (wz_getI dX0_balance_6 cf0 t1 (kf := 3) gi_21_3 gc_21 rfl ?_))
  refine wz_icmp_ge (tgt := 39) dX0_balance_9 rfl (fun c1 => ?_) (fun c1 => ?_)
  · replace hS := hS.1 c1
    refine q_ild2 dX0_balance_39 ?_
    exact wi_ret dX0_balance_40 rfl hS
  · replace hS := hS.2 c1
    refine q_ald0 dX0_balance_12 (wz_getR dX0_balance_13 cf0 t0 (kf := 0) gr_21_0 gc_21 (q_ild3 dX0_balance_16 ?_))
    obtain ⟨hi2, hS⟩ := hS
    refine wz_iald dX0_balance_17 ga_22 gc_22 hi2 rfl (q_ild1 dX0_balance_18 ?_)
    refine wz_icmp_ne (tgt := 33) dX0_balance_19 rfl (fun c3 => ?_) (fun c3 => ?_)
    · replace hS := hS.1 c3
      refine q_inc3 (v := (x3 + 1)) dX0_balance_33 rfl (ltX0_balance_3) rfl (wz_goto (tgt := 4) dX0_balance_36 rfl ?_)
      exact hS
    · replace hS := hS.2 c3
      refine q_ild2 dX0_balance_22 (q_ald0 dX0_balance_23 (wz_getR dX0_balance_24 cf0 t3 (kf := 2) gr_21_2 gc_21 (wz_iconst dX0_balance_27 kiconst_0 (wz_aald (t := 25) dX0_balance_28 gq_24 gc_24 vi_0_3 ?_))))
      rw [show (0 : Int32).toNatClampNeg = 0 from by decide]
      refine q_ild3 dX0_balance_29 (wz_iald dX0_balance_30 ga_25 (by decide) hi2 rfl (wz_iadd dX0_balance_31 (q_ist2 dX0_balance_32 (ltX0_balance_2) rfl (q_inc3 (v := (x3 + 1)) dX0_balance_33 rfl (ltX0_balance_3) rfl (wz_goto (tgt := 4) dX0_balance_36 rfl ?_)))))
      exact hS
def SX0_leftFor_0 (E : EN) (a1 : Int32) (a2 : Int32) (a3 : Int32) (h : TH) (Q : Int32 → TH → Prop) : Prop := wi E MX0_leftFor Q 6 [some (rf 21 0), some (.int a1), some (.int a2), some (.int a3), some (.int 0), some (.int 0)] [] h
set_option maxRecDepth 20000 in
theorem sX0_leftFor_0 {E : EN} {a1 : Int32} {a2 : Int32} {a3 : Int32} {h : TH} {Q : Int32 → TH → Prop}  (hS : SX0_leftFor_0 E a1 a2 a3 h Q) : wi E MX0_leftFor Q 0 [some (rf 21 0), some (.int a1), some (.int a2), some (.int a3), none, none] [] h := by
  refine wz_iconst dX0_leftFor_0 kiconst_0 (q_ist4 dX0_leftFor_1 (ltX0_leftFor_4) rfl (wz_iconst dX0_leftFor_3 kiconst_0 (q_ist5 dX0_leftFor_4 (ltX0_leftFor_5) rfl ?_)))
  exact hS
def SX0_leftFor_6 (E : EN) (x1 : Int32) (x2 : Int32) (x3 : Int32) (x4 : Int32) (x5 : Int32) (h : TH) (Q : Int32 → TH → Prop) : Prop := (((h 21 0 3) ≤ x5 → Q x4 h) ∧ (¬ (h 21 0 3) ≤ x5 → vp_in x5 40 ∧ ((¬ (h 22 0 (x5.toNatClampNeg)) = x1 → wi E MX0_leftFor Q 6 [some (rf 21 0), some (.int x1), some (.int x2), some (.int x3), some (.int x4), some (.int (x5 + 1))] [] h) ∧ ((h 22 0 (x5.toNatClampNeg)) = x1 → ((¬ (h 23 0 (x5.toNatClampNeg)) = x2 → wi E MX0_leftFor Q 6 [some (rf 21 0), some (.int x1), some (.int x2), some (.int x3), some (.int x4), some (.int (x5 + 1))] [] h) ∧ ((h 23 0 (x5.toNatClampNeg)) = x2 → vp_in x3 3 ∧ wi E MX0_leftFor Q 6 [some (rf 21 0), some (.int x1), some (.int x2), some (.int x3), some (.int (x4 + (h 25 (x3.toNatClampNeg) (x5.toNatClampNeg)))), some (.int (x5 + 1))] [] h))))))
set_option maxRecDepth 20000 in
theorem sX0_leftFor_6 {E : EN} {x1 : Int32} {x2 : Int32} {x3 : Int32} {x4 : Int32} {x5 : Int32} {h : TH} {Q : Int32 → TH → Prop}  (hS : SX0_leftFor_6 E x1 x2 x3 x4 x5 h Q) : wi E MX0_leftFor Q 6 [some (rf 21 0), some (.int x1), some (.int x2), some (.int x3), some (.int x4), some (.int x5)] [] h := by
  refine q_ild5 dX0_leftFor_6 (q_ald0 dX0_leftFor_8 (wz_getI dX0_leftFor_9 cf0 t1 (kf := 3) gi_21_3 gc_21 rfl ?_))
  refine wz_icmp_ge (tgt := 57) dX0_leftFor_12 rfl (fun c1 => ?_) (fun c1 => ?_)
  · replace hS := hS.1 c1
    refine q_ild4 dX0_leftFor_57 ?_
    exact wi_ret dX0_leftFor_59 rfl hS
  · replace hS := hS.2 c1
    refine q_ald0 dX0_leftFor_15 (wz_getR dX0_leftFor_16 cf0 t0 (kf := 0) gr_21_0 gc_21 (q_ild5 dX0_leftFor_19 ?_))
    obtain ⟨hi2, hS⟩ := hS
    refine wz_iald dX0_leftFor_21 ga_22 gc_22 hi2 rfl (q_ild1 dX0_leftFor_22 ?_)
    refine wz_icmp_ne (tgt := 51) dX0_leftFor_23 rfl (fun c3 => ?_) (fun c3 => ?_)
    · replace hS := hS.1 c3
      refine q_inc5 (v := (x5 + 1)) dX0_leftFor_51 rfl (ltX0_leftFor_5) rfl (wz_goto (tgt := 6) dX0_leftFor_54 rfl ?_)
      exact hS
    · replace hS := hS.2 c3
      refine q_ald0 dX0_leftFor_26 (wz_getR dX0_leftFor_27 cf0 t2 (kf := 1) gr_21_1 gc_21 (q_ild5 dX0_leftFor_30 (wz_iald dX0_leftFor_32 ga_23 gc_23 hi2 rfl (q_ild2 dX0_leftFor_33 ?_))))
      refine wz_icmp_ne (tgt := 51) dX0_leftFor_34 rfl (fun c4 => ?_) (fun c4 => ?_)
      · replace hS := hS.1 c4
        refine q_inc5 (v := (x5 + 1)) dX0_leftFor_51 rfl (ltX0_leftFor_5) rfl (wz_goto (tgt := 6) dX0_leftFor_54 rfl ?_)
        exact hS
      · replace hS := hS.2 c4
        refine q_ild4 dX0_leftFor_37 (q_ald0 dX0_leftFor_39 (wz_getR dX0_leftFor_40 cf0 t3 (kf := 2) gr_21_2 gc_21 (q_ild3 dX0_leftFor_43 ?_)))
        obtain ⟨hi5, hS⟩ := hS
        refine wz_aald (t := 25) dX0_leftFor_44 gq_24 gc_24 hi5 (q_ild5 dX0_leftFor_45 (wz_iald dX0_leftFor_47 ga_25 (vp_lt hi5) hi2 rfl (wz_iadd dX0_leftFor_48 (q_ist4 dX0_leftFor_49 (ltX0_leftFor_4) rfl (q_inc5 (v := (x5 + 1)) dX0_leftFor_51 rfl (ltX0_leftFor_5) rfl (wz_goto (tgt := 6) dX0_leftFor_54 rfl ?_))))))
        exact hS
def SX0_take (E : EN) (a1 : Int32) (a2 : Int32) (a3 : Int32) (a4 : Int32) (h : TH) (Q : Int32 → TH → Prop) : Prop := vp_in a2 40 ∧ (((h 22 0 (a2.toNatClampNeg)) = a3 → vp_in a1 3 ∧ Q (if a4 < (h 25 (a1.toNatClampNeg) (a2.toNatClampNeg)) then a4 else (h 25 (a1.toNatClampNeg) (a2.toNatClampNeg))) (up h 25 (a1.toNatClampNeg) (a2.toNatClampNeg) ((h 25 (a1.toNatClampNeg) (a2.toNatClampNeg)) - (if a4 < (h 25 (a1.toNatClampNeg) (a2.toNatClampNeg)) then a4 else (h 25 (a1.toNatClampNeg) (a2.toNatClampNeg)))))) ∧ (¬ (h 22 0 (a2.toNatClampNeg)) = a3 → Q 0 h))
set_option maxRecDepth 20000 in
theorem sX0_take {E : EN} {a1 : Int32} {a2 : Int32} {a3 : Int32} {a4 : Int32} {h : TH} {Q : Int32 → TH → Prop}  (hS : SX0_take E a1 a2 a3 a4 h Q) : wi E MX0_take Q 0 [some (rf 21 0), some (.int a1), some (.int a2), some (.int a3), some (.int a4), none] [] h := by
  refine q_ald0 dX0_take_0 (wz_getR dX0_take_1 cf0 t0 (kf := 0) gr_21_0 gc_21 (q_ild2 dX0_take_4 ?_))
  obtain ⟨hi1, hS⟩ := hS
  refine wz_iald dX0_take_5 ga_22 gc_22 hi1 rfl (q_ild3 dX0_take_6 ?_)
  refine wz_icmp_eq (tgt := 12) dX0_take_7 rfl (fun c2 => ?_) (fun c2 => ?_)
  · replace hS := hS.1 c2
    refine q_ald0 dX0_take_12 (wz_getR dX0_take_13 cf0 t3 (kf := 2) gr_21_2 gc_21 (q_ild1 dX0_take_16 ?_))
    obtain ⟨hi3, hS⟩ := hS
    refine wz_aald (t := 25) dX0_take_17 gq_24 gc_24 hi3 (q_ild2 dX0_take_18 (wz_iald dX0_take_19 ga_25 (vp_lt hi3) hi1 rfl (q_ild4 dX0_take_20 (wz_min dX0_take_22 ⟨t5, t6, t4, t7⟩ ⟨by decide, Nat.le_of_ble_eq_true rfl⟩ ⟨by decide, by decide⟩ (q_ist5 dX0_take_25 (ltX0_take_5) rfl (q_ald0 dX0_take_27 (wz_getR dX0_take_28 cf0 t3 (kf := 2) gr_21_2 gc_21 ?_)))))))
    refine wz_pc (pc2 := 31) rfl ?_
    refine q_ild1 dX0_take_31 (wz_aald (t := 25) dX0_take_32 gq_24 gc_24 hi3 (q_ild2 dX0_take_33 (wz_dup2 dX0_take_34 rfl rfl (wz_iald dX0_take_35 ga_25 (vp_lt hi3) hi1 rfl (q_ild5 dX0_take_36 (wz_isub dX0_take_38 (wz_iast dX0_take_39 ga_25 (vp_lt hi3) hi1 rfl ?_)))))))
    refine wz_pc (pc2 := 40) rfl ?_
    refine q_ild5 dX0_take_40 ?_
    exact wi_ret dX0_take_42 rfl hS
  · replace hS := hS.2 c2
    refine wz_iconst dX0_take_10 kiconst_0 ?_
    exact wi_ret dX0_take_11 rfl hS
def SX0_spendForward_0 (E : EN) (a1 : Int32) (a2 : Int32) (a3 : Int32) (h : TH) (Q : TH → Prop) : Prop := wv E MX0_spendForward Q 6 [some (rf 21 0), some (.int a1), some (.int a2), none, some (.int a3), some (.int 0)] [] h
set_option maxRecDepth 20000 in
theorem sX0_spendForward_0 {E : EN} {a1 : Int32} {a2 : Int32} {a3 : Int32} {h : TH} {Q : TH → Prop}  (hS : SX0_spendForward_0 E a1 a2 a3 h Q) : wv E MX0_spendForward Q 0 [some (rf 21 0), some (.int a1), some (.int a2), some (.int a3), none, none] [] h := by
  refine q_ild3 dX0_spendForward_0 (q_ist4 dX0_spendForward_1 (ltX0_spendForward_4) rfl (wz_iconst dX0_spendForward_3 kiconst_0 (q_ist5 dX0_spendForward_4 (ltX0_spendForward_5) rfl ?_)))
  exact wz_mask [true, true, true, false, true, true] rfl hS
def SX0_spendForward_6 (E : EN) (x1 : Int32) (x2 : Int32) (x4 : Int32) (x5 : Int32) (h : TH) (Q : TH → Prop) : Prop := (((h 21 0 3) ≤ x5 → Q h) ∧ (¬ (h 21 0 3) ≤ x5 → SX0_take E x1 x5 x2 x4 h (fun r3 h2 => wv E MX0_spendForward Q 6 [some (rf 21 0), some (.int x1), some (.int x2), none, some (.int (x4 - r3)), some (.int (x5 + 1))] [] h2)))
set_option maxRecDepth 20000 in
theorem sX0_spendForward_6 {E : EN} {x1 : Int32} {x2 : Int32} {x4 : Int32} {x5 : Int32} {h : TH} {Q : TH → Prop}  (hS : SX0_spendForward_6 E x1 x2 x4 x5 h Q) : wv E MX0_spendForward Q 6 [some (rf 21 0), some (.int x1), some (.int x2), none, some (.int x4), some (.int x5)] [] h := by
  refine q_ild5 dX0_spendForward_6 (q_ald0 dX0_spendForward_8 (wz_getI dX0_spendForward_9 cf0 t1 (kf := 3) gi_21_3 gc_21 rfl ?_))
  refine wz_icmp_ge (tgt := 36) dX0_spendForward_12 rfl (fun c1 => ?_) (fun c1 => ?_)
  · replace hS := hS.1 c1
    exact wv_ret dX0_spendForward_36 rfl hS
  · replace hS := hS.2 c1
    refine q_ild4 dX0_spendForward_15 (q_ald0 dX0_spendForward_17 (q_ild1 dX0_spendForward_18 (q_ild5 dX0_spendForward_19 (q_ild2 dX0_spendForward_21 (q_ild4 dX0_spendForward_22 ?_)))))
    refine wz_virtI (M := MX0_spendForward) (pc := 24) (M' := MX0_take) (n := 4) (As := [.int x1, .int x5, .int x2, .int x4]) (st := [.int x4]) dX0_spendForward_24 cf0 rfl go_21 gc_21 rfl cat_iiii okX0_spendForward_X0_take cwX0_34 (Nat.le_of_ble_eq_true rfl) ⟨Nat.zero_le _, Nat.zero_le _⟩ rfl (ls0 := [some (rf 21 0), some (.int x1), some (.int x5), some (.int x2), some (.int x4), none]) rfl (sX0_take  hS) (fun r3 h2 hS => ?_)
    refine wz_isub dX0_spendForward_27 (q_ist4 dX0_spendForward_28 (ltX0_spendForward_4) rfl (q_inc5 (v := (x5 + 1)) dX0_spendForward_30 rfl (ltX0_spendForward_5) rfl (wz_goto (tgt := 6) dX0_spendForward_33 rfl ?_)))
    exact hS
def SX0_spend_0 (E : EN) (a1 : Int32) (a2 : Int32) (h : TH) (Q : TH → Prop) : Prop := wv E MX0_spendForward (fun h1 => wv E MX0_spend Q 27 [some (rf 21 0), some (.int a1), some (.int a2), some (.int a2), some (.int ((h1 21 0 3) - 1))] [] h1) 0 [some (rf 21 0), some (.int 0), some (.int a1), some (.int a2), none, none] [] (up h 21 0 4 ((h 21 0 4) + 1))
set_option maxRecDepth 20000 in
theorem sX0_spend_0 {E : EN} {a1 : Int32} {a2 : Int32} {h : TH} {Q : TH → Prop}  (hS : SX0_spend_0 E a1 a2 h Q) : wv E MX0_spend Q 0 [some (rf 21 0), some (.int a1), some (.int a2), none, none] [] h := by
  refine q_ald0 dX0_spend_0 (wz_dup dX0_spend_1 rfl (wz_getI dX0_spend_2 cf0 t13 (kf := 4) gi_21_4 gc_21 rfl (wz_iconst dX0_spend_5 kiconst_1 (wz_iadd dX0_spend_6 (wz_putI dX0_spend_7 cf0 t13 (kf := 4) gp_21_4 gc_21 rfl (q_ald0 dX0_spend_10 (wz_iconst dX0_spend_11 kiconst_0 ?_)))))))
  refine wz_pc (pc2 := 12) rfl ?_
  refine q_ild1 dX0_spend_12 (q_ild2 dX0_spend_13 ?_)
  refine wz_virtV (M := MX0_spend) (pc := 14) (M' := MX0_spendForward) (n := 3) (As := [.int 0, .int a1, .int a2]) (st := []) dX0_spend_14 cf0 rfl go_21 gc_21 rfl cat_iii okX0_spend_X0_spendForward cwX0_30 (Nat.le_of_ble_eq_true rfl) ⟨Nat.zero_le _, Nat.zero_le _⟩ rfl (ls0 := [some (rf 21 0), some (.int 0), some (.int a1), some (.int a2), none, none]) rfl hS (fun h1 hS => ?_)
  refine q_ild2 dX0_spend_17 (q_ist3 dX0_spend_18 (ltX0_spend_3) rfl (q_ald0 dX0_spend_19 (wz_getI dX0_spend_20 cf0 t1 (kf := 3) gi_21_3 gc_21 rfl (wz_iconst dX0_spend_23 kiconst_1 (wz_isub dX0_spend_24 (q_ist4 dX0_spend_25 (ltX0_spend_4) rfl ?_))))))
  exact hS
def SX0_spend_27 (E : EN) (x1 : Int32) (x2 : Int32) (x3 : Int32) (x4 : Int32) (h : TH) (Q : TH → Prop) : Prop := ((x4 < 0 → wv E MX0_spend Q 55 [some (rf 21 0), some (.int x1), none, some (.int x2), some (.int 0)] [] h) ∧ (¬ x4 < 0 → SX0_take E 1 x4 x1 x3 h (fun r3 h2 => wv E MX0_spend Q 27 [some (rf 21 0), some (.int x1), some (.int x2), some (.int (x3 - r3)), some (.int (x4 + (-1)))] [] h2)))
set_option maxRecDepth 20000 in
theorem sX0_spend_27 {E : EN} {x1 : Int32} {x2 : Int32} {x3 : Int32} {x4 : Int32} {h : TH} {Q : TH → Prop}  (hS : SX0_spend_27 E x1 x2 x3 x4 h Q) : wv E MX0_spend Q 27 [some (rf 21 0), some (.int x1), some (.int x2), some (.int x3), some (.int x4)] [] h := by
  refine q_ild4 dX0_spend_27 ?_
  refine wz_if_lt (tgt := 50) dX0_spend_29 rfl (fun c1 => ?_) (fun c1 => ?_)
  · replace hS := hS.1 c1
    refine q_ild2 dX0_spend_50 (q_ist3 dX0_spend_51 (ltX0_spend_3) rfl (wz_iconst dX0_spend_52 kiconst_0 (q_ist4 dX0_spend_53 (ltX0_spend_4) rfl ?_)))
    exact wz_mask [true, true, false, true, true] rfl hS
  · replace hS := hS.2 c1
    refine q_ild3 dX0_spend_32 (q_ald0 dX0_spend_33 (wz_iconst dX0_spend_34 kiconst_1 (q_ild4 dX0_spend_35 (q_ild1 dX0_spend_37 (q_ild3 dX0_spend_38 ?_)))))
    refine wz_virtI (M := MX0_spend) (pc := 39) (M' := MX0_take) (n := 4) (As := [.int 1, .int x4, .int x1, .int x3]) (st := [.int x3]) dX0_spend_39 cf0 rfl go_21 gc_21 rfl cat_iiii okX0_spend_X0_take cwX0_34 (Nat.le_of_ble_eq_true rfl) ⟨Nat.zero_le _, Nat.zero_le _⟩ rfl (ls0 := [some (rf 21 0), some (.int 1), some (.int x4), some (.int x1), some (.int x3), none]) rfl (sX0_take  hS) (fun r3 h2 hS => ?_)
    refine wz_isub dX0_spend_42 (q_ist3 dX0_spend_43 (ltX0_spend_3) rfl (q_inc4 (v := (x4 + (-1))) dX0_spend_44 rfl (ltX0_spend_4) rfl (wz_goto (tgt := 27) dX0_spend_47 rfl ?_)))
    exact hS
def SX0_spend_55 (E : EN) (x1 : Int32) (x3 : Int32) (x4 : Int32) (h : TH) (Q : TH → Prop) : Prop := (((h 21 0 3) ≤ x4 → wv E MX0_spendForward (fun h2 => Q h2) 0 [some (rf 21 0), some (.int 2), some (.int x1), some (.int x3), none, none] [] h) ∧ (¬ (h 21 0 3) ≤ x4 → vp_in x4 40 ∧ ((¬ (h 23 0 (x4.toNatClampNeg)) = (-1) → wv E MX0_spend Q 55 [some (rf 21 0), some (.int x1), none, some (.int x3), some (.int (x4 + 1))] [] h) ∧ ((h 23 0 (x4.toNatClampNeg)) = (-1) → SX0_take E 2 x4 x1 x3 h (fun r7 h6 => wv E MX0_spend Q 55 [some (rf 21 0), some (.int x1), none, some (.int (x3 - r7)), some (.int (x4 + 1))] [] h6)))))
set_option maxRecDepth 20000 in
theorem sX0_spend_55 {E : EN} {x1 : Int32} {x3 : Int32} {x4 : Int32} {h : TH} {Q : TH → Prop}  (hS : SX0_spend_55 E x1 x3 x4 h Q) : wv E MX0_spend Q 55 [some (rf 21 0), some (.int x1), none, some (.int x3), some (.int x4)] [] h := by
  refine q_ild4 dX0_spend_55 (q_ald0 dX0_spend_57 (wz_getI dX0_spend_58 cf0 t1 (kf := 3) gi_21_3 gc_21 rfl ?_))
  refine wz_icmp_ge (tgt := 93) dX0_spend_61 rfl (fun c1 => ?_) (fun c1 => ?_)
  · replace hS := hS.1 c1
    refine q_ald0 dX0_spend_93 (wz_iconst dX0_spend_94 kiconst_2 (q_ild1 dX0_spend_95 (q_ild3 dX0_spend_96 ?_)))
    refine wz_virtV (M := MX0_spend) (pc := 97) (M' := MX0_spendForward) (n := 3) (As := [.int 2, .int x1, .int x3]) (st := []) dX0_spend_97 cf0 rfl go_21 gc_21 rfl cat_iii okX0_spend_X0_spendForward cwX0_30 (Nat.le_of_ble_eq_true rfl) ⟨Nat.zero_le _, Nat.zero_le _⟩ rfl (ls0 := [some (rf 21 0), some (.int 2), some (.int x1), some (.int x3), none, none]) rfl hS (fun h2 hS => ?_)
    exact wv_ret dX0_spend_100 rfl hS
  · replace hS := hS.2 c1
    refine q_ald0 dX0_spend_64 (wz_getR dX0_spend_65 cf0 t2 (kf := 1) gr_21_1 gc_21 (q_ild4 dX0_spend_68 ?_))
    obtain ⟨hi4, hS⟩ := hS
    refine wz_iald dX0_spend_70 ga_23 gc_23 hi4 rfl (wz_iconst dX0_spend_71 kiconst_m1 ?_)
    refine wz_icmp_ne (tgt := 87) dX0_spend_72 rfl (fun c5 => ?_) (fun c5 => ?_)
    · replace hS := hS.1 c5
      refine q_inc4 (v := (x4 + 1)) dX0_spend_87 rfl (ltX0_spend_4) rfl (wz_goto (tgt := 55) dX0_spend_90 rfl ?_)
      exact hS
    · replace hS := hS.2 c5
      refine q_ild3 dX0_spend_75 (q_ald0 dX0_spend_76 (wz_iconst dX0_spend_77 kiconst_2 (q_ild4 dX0_spend_78 (q_ild1 dX0_spend_80 (q_ild3 dX0_spend_81 ?_)))))
      refine wz_virtI (M := MX0_spend) (pc := 82) (M' := MX0_take) (n := 4) (As := [.int 2, .int x4, .int x1, .int x3]) (st := [.int x3]) dX0_spend_82 cf0 rfl go_21 gc_21 rfl cat_iiii okX0_spend_X0_take cwX0_34 (Nat.le_of_ble_eq_true rfl) ⟨Nat.zero_le _, Nat.zero_le _⟩ rfl (ls0 := [some (rf 21 0), some (.int 2), some (.int x4), some (.int x1), some (.int x3), none]) rfl (sX0_take  hS) (fun r7 h6 hS => ?_)
      refine wz_isub dX0_spend_85 (q_ist3 dX0_spend_86 (ltX0_spend_3) rfl (q_inc4 (v := (x4 + 1)) dX0_spend_87 rfl (ltX0_spend_4) rfl (wz_goto (tgt := 55) dX0_spend_90 rfl ?_)))
      exact hS
def SX6_within (E : EN) (a0 : Int32) (a1 : Int32) (a2 : Int32) (h : TH) (Q : Int32 → TH → Prop) : Prop := ((a0 < a1 → Q 0 h) ∧ (¬ a0 < a1 → ((a2 < a0 → Q 0 h) ∧ (¬ a2 < a0 → Q 1 h))))
set_option maxRecDepth 20000 in
theorem sX6_within {E : EN} {a0 : Int32} {a1 : Int32} {a2 : Int32} {h : TH} {Q : Int32 → TH → Prop}  (hS : SX6_within E a0 a1 a2 h Q) : wi E MX6_within Q 0 [some (.int a0), some (.int a1), some (.int a2)] [] h := by
  refine q_ild0 dX6_within_0 (q_ild1 dX6_within_1 ?_)
  refine wz_icmp_lt (tgt := 14) dX6_within_2 rfl (fun c1 => ?_) (fun c1 => ?_)
  · replace hS := hS.1 c1
    refine wz_iconst dX6_within_14 kiconst_0 ?_
    exact wi_zret dX6_within_15 rfl (isB_nar isB_0) hS
  · replace hS := hS.2 c1
    refine q_ild0 dX6_within_5 (q_ild2 dX6_within_6 ?_)
    refine wz_icmp_gt (tgt := 14) dX6_within_7 rfl (fun c2 => ?_) (fun c2 => ?_)
    · replace hS := hS.1 c2
      refine wz_iconst dX6_within_14 kiconst_0 ?_
      exact wi_zret dX6_within_15 rfl (isB_nar isB_0) hS
    · replace hS := hS.2 c2
      refine wz_iconst dX6_within_10 kiconst_1 (wz_goto (tgt := 15) dX6_within_11 rfl ?_)
      exact wi_zret dX6_within_15 rfl (isB_nar isB_1) hS
def SX1_has (E : EN) (a1 : Int32) (h : TH) (Q : Int32 → TH → Prop) : Prop := SX6_within E a1 0 ((h 2 0 1) - 1) h (fun r2 h1 => (isB r2 ∧ Q r2 h1))
set_option maxRecDepth 20000 in
theorem sX1_has {E : EN} {a1 : Int32} {h : TH} {Q : Int32 → TH → Prop}  (hS : SX1_has E a1 h Q) : wi E MX1_has Q 0 [some (rf 2 0), some (.int a1)] [] h := by
  refine q_ild1 dX1_has_0 (wz_iconst dX1_has_1 kiconst_0 (q_ald0 dX1_has_2 (wz_getI dX1_has_3 cf1 t18 (kf := 1) gi_2_1 gc_2 rfl (wz_iconst dX1_has_6 kiconst_1 (wz_isub dX1_has_7 ?_)))))
  refine wz_nestI (M := MX1_has) (pc := 8) (M' := MX6_within) (n := 3) (As := [.int a1, .int 0, .int ((h 2 0 1) - 1)]) (st := []) dX1_has_8 rfl cat_iii okX1_has_X6_within cwX1_32 (Nat.le_of_ble_eq_true rfl) ⟨Nat.zero_le _, Nat.zero_le _⟩ rfl (ls0 := [some (.int a1), some (.int 0), some (.int ((h 2 0 1) - 1))]) rfl (sX6_within  hS) (fun r2 h1 hS => ?_)
  exact wi_zret dX1_has_11 rfl (isB_nar hS.1) hS.2
def SX1_whosePayeeIs_0 (E : EN) (a1 : Int32) (h : TH) (Q : Int32 → TH → Prop) : Prop := wi E MX1_whosePayeeIs Q 2 [some (rf 2 0), some (.int a1), some (.int 0)] [] h
set_option maxRecDepth 20000 in
theorem sX1_whosePayeeIs_0 {E : EN} {a1 : Int32} {h : TH} {Q : Int32 → TH → Prop}  (hS : SX1_whosePayeeIs_0 E a1 h Q) : wi E MX1_whosePayeeIs Q 0 [some (rf 2 0), some (.int a1), none] [] h := by
  refine wz_iconst dX1_whosePayeeIs_0 kiconst_0 (q_ist2 dX1_whosePayeeIs_1 (ltX1_whosePayeeIs_2) rfl ?_)
  exact hS
def SX1_whosePayeeIs_2 (E : EN) (x1 : Int32) (x2 : Int32) (h : TH) (Q : Int32 → TH → Prop) : Prop := (((h 2 0 1) ≤ x2 → Q (-1) h) ∧ (¬ (h 2 0 1) ≤ x2 → vp_in x2 10 ∧ ((¬ (h 4 (x2.toNatClampNeg) 1) = x1 → wi E MX1_whosePayeeIs Q 2 [some (rf 2 0), some (.int x1), some (.int (x2 + 1))] [] h) ∧ ((h 4 (x2.toNatClampNeg) 1) = x1 → Q x2 h))))
set_option maxRecDepth 20000 in
theorem sX1_whosePayeeIs_2 {E : EN} {x1 : Int32} {x2 : Int32} {h : TH} {Q : Int32 → TH → Prop}  (hS : SX1_whosePayeeIs_2 E x1 x2 h Q) : wi E MX1_whosePayeeIs Q 2 [some (rf 2 0), some (.int x1), some (.int x2)] [] h := by
  refine q_ild2 dX1_whosePayeeIs_2 (q_ald0 dX1_whosePayeeIs_3 (wz_getI dX1_whosePayeeIs_4 cf1 t18 (kf := 1) gi_2_1 gc_2 rfl ?_))
  refine wz_icmp_ge (tgt := 31) dX1_whosePayeeIs_7 rfl (fun c1 => ?_) (fun c1 => ?_)
  · replace hS := hS.1 c1
    refine wz_iconst dX1_whosePayeeIs_31 kiconst_m1 ?_
    exact wi_ret dX1_whosePayeeIs_32 rfl hS
  · replace hS := hS.2 c1
    refine q_ald0 dX1_whosePayeeIs_10 (wz_getR dX1_whosePayeeIs_11 cf1 t22 (kf := 0) gr_2_0 gc_2 (q_ild2 dX1_whosePayeeIs_14 ?_))
    obtain ⟨hi2, hS⟩ := hS
    refine wz_aald (t := 4) dX1_whosePayeeIs_15 gq_3 gc_3 hi2 (wz_getI dX1_whosePayeeIs_16 cf3 t23 (kf := 1) gi_4_1 (vp_lt hi2) rfl (q_ild1 dX1_whosePayeeIs_19 ?_))
    refine wz_icmp_ne (tgt := 25) dX1_whosePayeeIs_20 rfl (fun c3 => ?_) (fun c3 => ?_)
    · replace hS := hS.1 c3
      refine q_inc2 (v := (x2 + 1)) dX1_whosePayeeIs_25 rfl (ltX1_whosePayeeIs_2) rfl (wz_goto (tgt := 2) dX1_whosePayeeIs_28 rfl ?_)
      exact hS
    · replace hS := hS.2 c3
      refine q_ild2 dX1_whosePayeeIs_23 ?_
      exact wi_ret dX1_whosePayeeIs_24 rfl hS
def SX1_howManyPaidBy_0 (E : EN) (a1 : Int32) (h : TH) (Q : Int32 → TH → Prop) : Prop := wi E MX1_howManyPaidBy Q 4 [some (rf 2 0), some (.int a1), some (.int 0), some (.int 0)] [] h
set_option maxRecDepth 20000 in
theorem sX1_howManyPaidBy_0 {E : EN} {a1 : Int32} {h : TH} {Q : Int32 → TH → Prop}  (hS : SX1_howManyPaidBy_0 E a1 h Q) : wi E MX1_howManyPaidBy Q 0 [some (rf 2 0), some (.int a1), none, none] [] h := by
  refine wz_iconst dX1_howManyPaidBy_0 kiconst_0 (q_ist2 dX1_howManyPaidBy_1 (ltX1_howManyPaidBy_2) rfl (wz_iconst dX1_howManyPaidBy_2 kiconst_0 (q_ist3 dX1_howManyPaidBy_3 (ltX1_howManyPaidBy_3) rfl ?_)))
  exact hS
def SX1_howManyPaidBy_4 (E : EN) (x1 : Int32) (x2 : Int32) (x3 : Int32) (h : TH) (Q : Int32 → TH → Prop) : Prop := (((h 2 0 1) ≤ x3 → Q x2 h) ∧ (¬ (h 2 0 1) ≤ x3 → vp_in x3 10 ∧ ((¬ (h 4 (x3.toNatClampNeg) 0) = x1 → wi E MX1_howManyPaidBy Q 4 [some (rf 2 0), some (.int x1), some (.int x2), some (.int (x3 + 1))] [] h) ∧ ((h 4 (x3.toNatClampNeg) 0) = x1 → wi E MX1_howManyPaidBy Q 4 [some (rf 2 0), some (.int x1), some (.int (x2 + 1)), some (.int (x3 + 1))] [] h))))
set_option maxRecDepth 20000 in
theorem sX1_howManyPaidBy_4 {E : EN} {x1 : Int32} {x2 : Int32} {x3 : Int32} {h : TH} {Q : Int32 → TH → Prop}  (hS : SX1_howManyPaidBy_4 E x1 x2 x3 h Q) : wi E MX1_howManyPaidBy Q 4 [some (rf 2 0), some (.int x1), some (.int x2), some (.int x3)] [] h := by
  refine q_ild3 dX1_howManyPaidBy_4 (q_ald0 dX1_howManyPaidBy_5 (wz_getI dX1_howManyPaidBy_6 cf1 t18 (kf := 1) gi_2_1 gc_2 rfl ?_))
  refine wz_icmp_ge (tgt := 34) dX1_howManyPaidBy_9 rfl (fun c1 => ?_) (fun c1 => ?_)
  · replace hS := hS.1 c1
    refine q_ild2 dX1_howManyPaidBy_34 ?_
    exact wi_ret dX1_howManyPaidBy_35 rfl hS
  · replace hS := hS.2 c1
    refine q_ald0 dX1_howManyPaidBy_12 (wz_getR dX1_howManyPaidBy_13 cf1 t22 (kf := 0) gr_2_0 gc_2 (q_ild3 dX1_howManyPaidBy_16 ?_))
    obtain ⟨hi2, hS⟩ := hS
    refine wz_aald (t := 4) dX1_howManyPaidBy_17 gq_3 gc_3 hi2 (wz_getI dX1_howManyPaidBy_18 cf3 t24 (kf := 0) gi_4_0 (vp_lt hi2) rfl (q_ild1 dX1_howManyPaidBy_21 ?_))
    refine wz_icmp_ne (tgt := 28) dX1_howManyPaidBy_22 rfl (fun c3 => ?_) (fun c3 => ?_)
    · replace hS := hS.1 c3
      refine q_inc3 (v := (x3 + 1)) dX1_howManyPaidBy_28 rfl (ltX1_howManyPaidBy_3) rfl (wz_goto (tgt := 4) dX1_howManyPaidBy_31 rfl ?_)
      exact hS
    · replace hS := hS.2 c3
      refine q_inc2 (v := (x2 + 1)) dX1_howManyPaidBy_25 rfl (ltX1_howManyPaidBy_2) rfl (q_inc3 (v := (x3 + 1)) dX1_howManyPaidBy_28 rfl (ltX1_howManyPaidBy_3) rfl (wz_goto (tgt := 4) dX1_howManyPaidBy_31 rfl ?_))
      exact hS
def SX1_agree (E : EN) (a1 : Int32) (a2 : Int32) (a3 : Int32) (h : TH) (Q : Int32 → TH → Prop) : Prop := vp_in (h 2 0 1) 10 ∧ wi E MX1_whosePayeeIs (fun r3 h2 => ((r3 = (-1) → Q (((h2 2 0 1) + 1) - 1) (up (up h2 4 ((h 2 0 1).toNatClampNeg) 2 r3) 2 0 1 ((h2 2 0 1) + 1))) ∧ (¬ r3 = (-1) → vp_in r3 10 ∧ Q (((h2 2 0 1) + 1) - 1) (up (up (up (up h2 4 ((h 2 0 1).toNatClampNeg) 2 r3) 4 ((h 2 0 1).toNatClampNeg) 3 ((h2 4 (r3.toNatClampNeg) 3) ||| (1 <<< (r3 &&& 31)))) 4 ((h 2 0 1).toNatClampNeg) 4 ((h2 4 (r3.toNatClampNeg) 4) + 1)) 2 0 1 ((h2 2 0 1) + 1))))) 0 [some (rf 2 0), some (.int a1), none] [] (up (up (up h 4 ((h 2 0 1).toNatClampNeg) 0 a1) 4 ((h 2 0 1).toNatClampNeg) 1 a2) 4 ((h 2 0 1).toNatClampNeg) 5 a3)
set_option maxRecDepth 20000 in
theorem sX1_agree {E : EN} {a1 : Int32} {a2 : Int32} {a3 : Int32} {h : TH} {Q : Int32 → TH → Prop}  (hS : SX1_agree E a1 a2 a3 h Q) : wi E MX1_agree Q 0 [some (rf 2 0), some (.int a1), some (.int a2), some (.int a3), none] [] h := by
  refine q_ald0 dX1_agree_0 (wz_getR dX1_agree_1 cf1 t22 (kf := 0) gr_2_0 gc_2 (q_ald0 dX1_agree_4 (wz_getI dX1_agree_5 cf1 t18 (kf := 1) gi_2_1 gc_2 rfl ?_)))
  obtain ⟨hi1, hS⟩ := hS
  refine wz_aald (t := 4) dX1_agree_8 gq_3 gc_3 hi1 (q_ast4 dX1_agree_9 (ltX1_agree_4) rfl (q_ald4 dX1_agree_11 (q_ild1 dX1_agree_13 (wz_putI dX1_agree_14 cf3 t24 (kf := 0) gp_4_0 (vp_lt hi1) rfl (q_ald4 dX1_agree_17 (q_ild2 dX1_agree_19 (wz_putI dX1_agree_20 cf3 t23 (kf := 1) gp_4_1 (vp_lt hi1) rfl ?_)))))))
  refine wz_pc (pc2 := 23) rfl ?_
  refine q_ald4 dX1_agree_23 (q_ild3 dX1_agree_25 (wz_putI dX1_agree_26 cf3 t25 (kf := 5) gp_4_5 (vp_lt hi1) rfl (q_ald4 dX1_agree_29 (q_ald0 dX1_agree_31 (q_ild1 dX1_agree_32 ?_)))))
  refine wz_virtI (M := MX1_agree) (pc := 33) (M' := MX1_whosePayeeIs) (n := 1) (As := [.int a1]) (st := [rf 4 ((h 2 0 1).toNatClampNeg)]) dX1_agree_33 cf1 rfl go_2 gc_2 rfl cat_i okX1_agree_X1_whosePayeeIs cwX1_45 (Nat.le_of_ble_eq_true rfl) ⟨Nat.zero_le _, Nat.zero_le _⟩ rfl (ls0 := [some (rf 2 0), some (.int a1), none]) rfl hS (fun r3 h2 hS => ?_)
  refine wz_putI dX1_agree_36 cf3 t26 (kf := 2) gp_4_2 (vp_lt hi1) rfl (q_ald4 dX1_agree_39 (wz_getI (v := r3) dX1_agree_41 cf3 t26 (kf := 2) gi_4_2 (vp_lt hi1) (by first | rfl | simp [up]) (wz_iconst dX1_agree_44 kiconst_m1 ?_)))
  refine wz_icmp_eq (tgt := 94) dX1_agree_45 rfl (fun c4 => ?_) (fun c4 => ?_)
  · replace hS := hS.1 c4
    refine q_ald0 dX1_agree_94 (wz_dup dX1_agree_95 rfl (wz_getI (v := (h2 2 0 1)) dX1_agree_96 cf1 t18 (kf := 1) gi_2_1 gc_2 (by first | rfl | simp [up]) (wz_iconst dX1_agree_99 kiconst_1 (wz_iadd dX1_agree_100 (wz_putI dX1_agree_101 cf1 t18 (kf := 1) gp_2_1 gc_2 rfl (q_ald0 dX1_agree_104 (wz_getI (v := ((h2 2 0 1) + 1)) dX1_agree_105 cf1 t18 (kf := 1) gi_2_1 gc_2 (by first | rfl | simp [up]) ?_)))))))
    refine wz_pc (pc2 := 108) rfl ?_
    refine wz_iconst dX1_agree_108 kiconst_1 (wz_isub dX1_agree_109 ?_)
    exact wi_ret dX1_agree_110 rfl hS
  · replace hS := hS.2 c4
    refine q_ald4 dX1_agree_48 (q_ald0 dX1_agree_50 (wz_getR dX1_agree_51 cf1 t22 (kf := 0) gr_2_0 gc_2 (q_ald4 dX1_agree_54 (wz_getI (v := r3) dX1_agree_56 cf3 t26 (kf := 2) gi_4_2 (vp_lt hi1) (by first | rfl | simp [up]) ?_))))
    obtain ⟨hi5, hS⟩ := hS
    refine wz_aald (t := 4) dX1_agree_59 gq_3 gc_3 hi5 (wz_getI (v := (h2 4 (r3.toNatClampNeg) 3)) dX1_agree_60 cf3 t27 (kf := 3) gi_4_3 (vp_lt hi5) (by first | rfl | simp [up]) (wz_iconst dX1_agree_63 kiconst_1 (q_ald4 dX1_agree_64 (wz_getI (v := r3) dX1_agree_66 cf3 t26 (kf := 2) gi_4_2 (vp_lt hi1) (by first | rfl | simp [up]) (wz_ishl dX1_agree_69 (wz_ior dX1_agree_70 (wz_putI dX1_agree_71 cf3 t27 (kf := 3) gp_4_3 (vp_lt hi1) rfl ?_)))))))
    refine wz_pc (pc2 := 74) rfl ?_
    refine q_ald4 dX1_agree_74 (q_ald0 dX1_agree_76 (wz_getR dX1_agree_77 cf1 t22 (kf := 0) gr_2_0 gc_2 (q_ald4 dX1_agree_80 (wz_getI (v := r3) dX1_agree_82 cf3 t26 (kf := 2) gi_4_2 (vp_lt hi1) (by first | rfl | simp [up]) (wz_aald (t := 4) dX1_agree_85 gq_3 gc_3 hi5 (wz_getI (v := (h2 4 (r3.toNatClampNeg) 4)) dX1_agree_86 cf3 t28 (kf := 4) gi_4_4 (vp_lt hi5) (by first | rfl | simp [up]) (wz_iconst dX1_agree_89 kiconst_1 ?_)))))))
    refine wz_pc (pc2 := 90) rfl ?_
    refine wz_iadd dX1_agree_90 (wz_putI dX1_agree_91 cf3 t28 (kf := 4) gp_4_4 (vp_lt hi1) rfl (q_ald0 dX1_agree_94 (wz_dup dX1_agree_95 rfl (wz_getI (v := (h2 2 0 1)) dX1_agree_96 cf1 t18 (kf := 1) gi_2_1 gc_2 (by first | rfl | simp [up]) (wz_iconst dX1_agree_99 kiconst_1 (wz_iadd dX1_agree_100 (wz_putI dX1_agree_101 cf1 t18 (kf := 1) gp_2_1 gc_2 rfl ?_)))))))
    refine wz_pc (pc2 := 104) rfl ?_
    refine q_ald0 dX1_agree_104 (wz_getI (v := ((h2 2 0 1) + 1)) dX1_agree_105 cf1 t18 (kf := 1) gi_2_1 gc_2 (by first | rfl | simp [up]) (wz_iconst dX1_agree_108 kiconst_1 (wz_isub dX1_agree_109 ?_)))
    exact wi_ret dX1_agree_110 rfl hS
def SX1_settleWaived_0 (E : EN) (a1 : Int32) (h : TH) (Q : TH → Prop) : Prop := vp_in a1 10 ∧ wv E MX1_settleWaived Q 9 [some (rf 2 0), some (.int a1), some (rf 4 (a1.toNatClampNeg)), some (.int 0), none] [] h
set_option maxRecDepth 20000 in
theorem sX1_settleWaived_0 {E : EN} {a1 : Int32} {h : TH} {Q : TH → Prop}  (hS : SX1_settleWaived_0 E a1 h Q) : wv E MX1_settleWaived Q 0 [some (rf 2 0), some (.int a1), none, none, none] [] h := by
  refine q_ald0 dX1_settleWaived_0 (wz_getR dX1_settleWaived_1 cf1 t22 (kf := 0) gr_2_0 gc_2 (q_ild1 dX1_settleWaived_4 ?_))
  obtain ⟨hi1, hS⟩ := hS
  refine wz_aald (t := 4) dX1_settleWaived_5 gq_3 gc_3 hi1 (q_ast2 dX1_settleWaived_6 (ltX1_settleWaived_2) rfl (wz_iconst dX1_settleWaived_7 kiconst_0 (q_ist3 dX1_settleWaived_8 (ltX1_settleWaived_3) rfl ?_)))
  exact hS
def SX1_settleWaived_9 (E : EN) (x1 : Int32) (o2 : Nat) (x3 : Int32) (h : TH) (Q : TH → Prop) : Prop := (((h 2 0 5) ≤ x3 → Q h) ∧ (¬ (h 2 0 5) ≤ x3 → vp_in x3 20 ∧ (((h 7 0 (x3.toNatClampNeg)) = 0 → ((¬ (h 5 0 (x3.toNatClampNeg)) = x1 → wv E MX1_settleWaived Q 9 [some (rf 2 0), some (.int x1), some (rf 4 o2), some (.int (x3 + 1)), none] [] h) ∧ ((h 5 0 (x3.toNatClampNeg)) = x1 → wv E MX1_settleWaived Q 9 [some (rf 2 0), some (.int x1), some (rf 4 o2), some (.int (x3 + 1)), none] [] (up h 4 o2 7 (if (h 4 o2 7) < (h 6 0 (x3.toNatClampNeg)) then (h 6 0 (x3.toNatClampNeg)) else (h 4 o2 7)))))) ∧ (¬ (h 7 0 (x3.toNatClampNeg)) = 0 → (((h 4 o2 6) < (h 6 0 (x3.toNatClampNeg)) → ((¬ (h 5 0 (x3.toNatClampNeg)) = x1 → wv E MX1_settleWaived Q 9 [some (rf 2 0), some (.int x1), some (rf 4 o2), some (.int (x3 + 1)), none] [] h) ∧ ((h 5 0 (x3.toNatClampNeg)) = x1 → wv E MX1_settleWaived Q 9 [some (rf 2 0), some (.int x1), some (rf 4 o2), some (.int (x3 + 1)), none] [] h))) ∧ (¬ (h 4 o2 6) < (h 6 0 (x3.toNatClampNeg)) → ((¬ (h 5 0 (x3.toNatClampNeg)) = x1 → wv E MX1_settleWaived Q 9 [some (rf 2 0), some (.int x1), some (rf 4 o2), some (.int (x3 + 1)), none] [] h) ∧ ((h 5 0 (x3.toNatClampNeg)) = x1 → wv E MX1_settleWaived Q 9 [some (rf 2 0), some (.int x1), some (rf 4 o2), some (.int (x3 + 1)), none] [] (up h 4 o2 7 (if (h 4 o2 7) < (h 6 0 (x3.toNatClampNeg)) then (h 6 0 (x3.toNatClampNeg)) else (h 4 o2 7)))))))))))
set_option maxRecDepth 20000 in
theorem sX1_settleWaived_9 {E : EN} {x1 : Int32} {o2 : Nat} {x3 : Int32} {h : TH} {Q : TH → Prop} (ho2 : o2 < 10) (hS : SX1_settleWaived_9 E x1 o2 x3 h Q) : wv E MX1_settleWaived Q 9 [some (rf 2 0), some (.int x1), some (rf 4 o2), some (.int x3), none] [] h := by
  refine q_ild3 dX1_settleWaived_9 (q_ald0 dX1_settleWaived_10 (wz_getI dX1_settleWaived_11 cf1 t34 (kf := 5) gi_2_5 gc_2 rfl ?_))
  refine wz_icmp_ge (tgt := 84) dX1_settleWaived_14 rfl (fun c1 => ?_) (fun c1 => ?_)
  · replace hS := hS.1 c1
    exact wv_ret dX1_settleWaived_84 rfl hS
  · replace hS := hS.2 c1
    refine q_ald0 dX1_settleWaived_17 (wz_getR dX1_settleWaived_18 cf1 t35 (kf := 4) gr_2_4 gc_2 (q_ild3 dX1_settleWaived_21 ?_))
    obtain ⟨hi2, hS⟩ := hS
    refine wz_iald dX1_settleWaived_22 ga_7 gc_7 hi2 rfl ?_
    refine wz_if_eq (tgt := 39) dX1_settleWaived_23 rfl (fun c3 => ?_) (fun c3 => ?_)
    · replace hS := hS.1 c3
      refine wz_iconst dX1_settleWaived_39 kiconst_1 (wz_goto (tgt := 44) dX1_settleWaived_40 rfl (q_ist4 dX1_settleWaived_44 (ltX1_settleWaived_4) rfl (q_ald0 dX1_settleWaived_46 (wz_getR dX1_settleWaived_47 cf1 t36 (kf := 2) gr_2_2 gc_2 (q_ild3 dX1_settleWaived_50 (wz_iald dX1_settleWaived_51 ga_5 gc_5 hi2 rfl (q_ild1 dX1_settleWaived_52 ?_)))))))
      refine wz_pc (pc2 := 53) rfl ?_
      refine wz_icmp_ne (tgt := 78) dX1_settleWaived_53 rfl (fun c4 => ?_) (fun c4 => ?_)
      · replace hS := hS.1 c4
        refine q_inc3 (v := (x3 + 1)) dX1_settleWaived_78 rfl (ltX1_settleWaived_3) rfl (wz_goto (tgt := 9) dX1_settleWaived_81 rfl ?_)
        exact wz_mask [true, true, true, true, false] rfl hS
      · replace hS := hS.2 c4
        refine q_ild4 dX1_settleWaived_56 ?_
        refine wz_if_eq (tgt := 78) dX1_settleWaived_58 rfl (fun z => absurd z (by decide)) (fun _ => ?_)
        refine q_ald2 dX1_settleWaived_61 (q_ald2 dX1_settleWaived_62 (wz_getI dX1_settleWaived_63 cf3 t37 (kf := 7) gi_4_7 ho2 rfl (q_ald0 dX1_settleWaived_66 (wz_getR dX1_settleWaived_67 cf1 t38 (kf := 3) gr_2_3 gc_2 (q_ild3 dX1_settleWaived_70 (wz_iald dX1_settleWaived_71 ga_6 gc_6 hi2 rfl (wz_max dX1_settleWaived_72 ⟨t40, t6, t39, t41⟩ ⟨by decide, Nat.le_of_ble_eq_true rfl⟩ ⟨by decide, by decide⟩ ?_)))))))
        refine wz_pc (pc2 := 75) rfl ?_
        refine wz_putI dX1_settleWaived_75 cf3 t37 (kf := 7) gp_4_7 ho2 rfl (q_inc3 (v := (x3 + 1)) dX1_settleWaived_78 rfl (ltX1_settleWaived_3) rfl (wz_goto (tgt := 9) dX1_settleWaived_81 rfl ?_))
        exact wz_mask [true, true, true, true, false] rfl hS
    · replace hS := hS.2 c3
      refine q_ald2 dX1_settleWaived_26 (wz_getI dX1_settleWaived_27 cf3 t42 (kf := 6) gi_4_6 ho2 rfl (q_ald0 dX1_settleWaived_30 (wz_getR dX1_settleWaived_31 cf1 t38 (kf := 3) gr_2_3 gc_2 (q_ild3 dX1_settleWaived_34 (wz_iald dX1_settleWaived_35 ga_6 gc_6 hi2 rfl ?_)))))
      refine wz_icmp_lt (tgt := 43) dX1_settleWaived_36 rfl (fun c5 => ?_) (fun c5 => ?_)
      · replace hS := hS.1 c5
        refine wz_iconst dX1_settleWaived_43 kiconst_0 (q_ist4 dX1_settleWaived_44 (ltX1_settleWaived_4) rfl (q_ald0 dX1_settleWaived_46 (wz_getR dX1_settleWaived_47 cf1 t36 (kf := 2) gr_2_2 gc_2 (q_ild3 dX1_settleWaived_50 (wz_iald dX1_settleWaived_51 ga_5 gc_5 hi2 rfl (q_ild1 dX1_settleWaived_52 ?_))))))
        refine wz_icmp_ne (tgt := 78) dX1_settleWaived_53 rfl (fun c6 => ?_) (fun c6 => ?_)
        · replace hS := hS.1 c6
          refine q_inc3 (v := (x3 + 1)) dX1_settleWaived_78 rfl (ltX1_settleWaived_3) rfl (wz_goto (tgt := 9) dX1_settleWaived_81 rfl ?_)
          exact wz_mask [true, true, true, true, false] rfl hS
        · replace hS := hS.2 c6
          refine q_ild4 dX1_settleWaived_56 ?_
          refine wz_if_eq (tgt := 78) dX1_settleWaived_58 rfl (fun _ => ?_) (fun z => absurd z (by decide))
          refine q_inc3 (v := (x3 + 1)) dX1_settleWaived_78 rfl (ltX1_settleWaived_3) rfl (wz_goto (tgt := 9) dX1_settleWaived_81 rfl ?_)
          exact wz_mask [true, true, true, true, false] rfl hS
      · replace hS := hS.2 c5
        refine wz_iconst dX1_settleWaived_39 kiconst_1 (wz_goto (tgt := 44) dX1_settleWaived_40 rfl (q_ist4 dX1_settleWaived_44 (ltX1_settleWaived_4) rfl (q_ald0 dX1_settleWaived_46 (wz_getR dX1_settleWaived_47 cf1 t36 (kf := 2) gr_2_2 gc_2 (q_ild3 dX1_settleWaived_50 (wz_iald dX1_settleWaived_51 ga_5 gc_5 hi2 rfl (q_ild1 dX1_settleWaived_52 ?_)))))))
        refine wz_pc (pc2 := 53) rfl ?_
        refine wz_icmp_ne (tgt := 78) dX1_settleWaived_53 rfl (fun c7 => ?_) (fun c7 => ?_)
        · replace hS := hS.1 c7
          refine q_inc3 (v := (x3 + 1)) dX1_settleWaived_78 rfl (ltX1_settleWaived_3) rfl (wz_goto (tgt := 9) dX1_settleWaived_81 rfl ?_)
          exact wz_mask [true, true, true, true, false] rfl hS
        · replace hS := hS.2 c7
          refine q_ild4 dX1_settleWaived_56 ?_
          refine wz_if_eq (tgt := 78) dX1_settleWaived_58 rfl (fun z => absurd z (by decide)) (fun _ => ?_)
          refine q_ald2 dX1_settleWaived_61 (q_ald2 dX1_settleWaived_62 (wz_getI dX1_settleWaived_63 cf3 t37 (kf := 7) gi_4_7 ho2 rfl (q_ald0 dX1_settleWaived_66 (wz_getR dX1_settleWaived_67 cf1 t38 (kf := 3) gr_2_3 gc_2 (q_ild3 dX1_settleWaived_70 (wz_iald dX1_settleWaived_71 ga_6 gc_6 hi2 rfl (wz_max dX1_settleWaived_72 ⟨t40, t6, t39, t41⟩ ⟨by decide, Nat.le_of_ble_eq_true rfl⟩ ⟨by decide, by decide⟩ ?_)))))))
          refine wz_pc (pc2 := 75) rfl ?_
          refine wz_putI dX1_settleWaived_75 cf3 t37 (kf := 7) gp_4_7 ho2 rfl (q_inc3 (v := (x3 + 1)) dX1_settleWaived_78 rfl (ltX1_settleWaived_3) rfl (wz_goto (tgt := 9) dX1_settleWaived_81 rfl ?_))
          exact wz_mask [true, true, true, true, false] rfl hS
def SX1_addWaiver (E : EN) (a1 : Int32) (a2 : Int32) (a3 : Int32) (h : TH) (Q : TH → Prop) : Prop := vp_in (h 2 0 5) 20 ∧ wv E MX1_settleWaived (fun h2 => Q h2) 0 [some (rf 2 0), some (.int a1), none, none, none] [] (up (up (up (up h 5 0 ((h 2 0 5).toNatClampNeg) a1) 6 0 ((h 2 0 5).toNatClampNeg) a2) 7 0 ((h 2 0 5).toNatClampNeg) a3) 2 0 5 ((h 2 0 5) + 1))
set_option maxRecDepth 20000 in
theorem sX1_addWaiver {E : EN} {a1 : Int32} {a2 : Int32} {a3 : Int32} {h : TH} {Q : TH → Prop}  (hS : SX1_addWaiver E a1 a2 a3 h Q) : wv E MX1_addWaiver Q 0 [some (rf 2 0), some (.int a1), some (.int a2), some (.int a3)] [] h := by
  refine q_ald0 dX1_addWaiver_0 (wz_getR dX1_addWaiver_1 cf1 t36 (kf := 2) gr_2_2 gc_2 (q_ald0 dX1_addWaiver_4 (wz_getI dX1_addWaiver_5 cf1 t34 (kf := 5) gi_2_5 gc_2 rfl (q_ild1 dX1_addWaiver_8 ?_))))
  obtain ⟨hi1, hS⟩ := hS
  refine wz_iast dX1_addWaiver_9 ga_5 gc_5 hi1 rfl (q_ald0 dX1_addWaiver_10 (wz_getR dX1_addWaiver_11 cf1 t38 (kf := 3) gr_2_3 gc_2 (q_ald0 dX1_addWaiver_14 (wz_getI (v := (h 2 0 5)) dX1_addWaiver_15 cf1 t34 (kf := 5) gi_2_5 gc_2 (by first | rfl | simp [up]) (q_ild2 dX1_addWaiver_18 (wz_iast dX1_addWaiver_19 ga_6 gc_6 hi1 rfl (q_ald0 dX1_addWaiver_20 ?_)))))))
  refine wz_pc (pc2 := 21) rfl ?_
  refine wz_getR dX1_addWaiver_21 cf1 t35 (kf := 4) gr_2_4 gc_2 (q_ald0 dX1_addWaiver_24 (wz_getI (v := (h 2 0 5)) dX1_addWaiver_25 cf1 t34 (kf := 5) gi_2_5 gc_2 (by first | rfl | simp [up]) (q_ild3 dX1_addWaiver_28 (wz_iast dX1_addWaiver_29 ga_7 gc_7 hi1 rfl (q_ald0 dX1_addWaiver_30 (wz_dup dX1_addWaiver_31 rfl (wz_getI (v := (h 2 0 5)) dX1_addWaiver_32 cf1 t34 (kf := 5) gi_2_5 gc_2 (by first | rfl | simp [up]) ?_)))))))
  refine wz_pc (pc2 := 35) rfl ?_
  refine wz_iconst dX1_addWaiver_35 kiconst_1 (wz_iadd dX1_addWaiver_36 (wz_putI dX1_addWaiver_37 cf1 t34 (kf := 5) gp_2_5 gc_2 rfl (q_ald0 dX1_addWaiver_40 (q_ild1 dX1_addWaiver_41 ?_))))
  refine wz_virtV (M := MX1_addWaiver) (pc := 42) (M' := MX1_settleWaived) (n := 1) (As := [.int a1]) (st := []) dX1_addWaiver_42 cf1 rfl go_2 gc_2 rfl cat_i okX1_addWaiver_X1_settleWaived cwX1_61 (Nat.le_of_ble_eq_true rfl) ⟨Nat.zero_le _, Nat.zero_le _⟩ rfl (ls0 := [some (rf 2 0), some (.int a1), none, none, none]) rfl hS (fun h2 hS => ?_)
  exact wv_ret dX1_addWaiver_45 rfl hS
def SX1_firstSpade_0 (E : EN) (a1 : Int32) (h : TH) (Q : Int32 → TH → Prop) : Prop := wi E MX1_firstSpade Q 4 [some (rf 2 0), some (.int a1), some (.int (-1)), some (.int 0), none] [] h
set_option maxRecDepth 20000 in
theorem sX1_firstSpade_0 {E : EN} {a1 : Int32} {h : TH} {Q : Int32 → TH → Prop}  (hS : SX1_firstSpade_0 E a1 h Q) : wi E MX1_firstSpade Q 0 [some (rf 2 0), some (.int a1), none, none, none] [] h := by
  refine wz_iconst dX1_firstSpade_0 kiconst_m1 (q_ist2 dX1_firstSpade_1 (ltX1_firstSpade_2) rfl (wz_iconst dX1_firstSpade_2 kiconst_0 (q_ist3 dX1_firstSpade_3 (ltX1_firstSpade_3) rfl ?_)))
  exact hS
def SX1_firstSpade_4 (E : EN) (x1 : Int32) (x2 : Int32) (x3 : Int32) (h : TH) (Q : Int32 → TH → Prop) : Prop := (((h 2 0 1) ≤ x3 → Q x2 h) ∧ (¬ (h 2 0 1) ≤ x3 → ((¬ x1 = 0 → vp_in x3 10 ∧ (((h 4 (x3.toNatClampNeg) 10) = (-1) → wi E MX1_firstSpade Q 4 [some (rf 2 0), some (.int x1), some (.int x2), some (.int (x3 + 1)), none] [] h) ∧ (¬ (h 4 (x3.toNatClampNeg) 10) = (-1) → ((x2 = (-1) → wi E MX1_firstSpade Q 4 [some (rf 2 0), some (.int x1), some (.int (h 4 (x3.toNatClampNeg) 10)), some (.int (x3 + 1)), none] [] h) ∧ (¬ x2 = (-1) → ((x2 ≤ (h 4 (x3.toNatClampNeg) 10) → wi E MX1_firstSpade Q 4 [some (rf 2 0), some (.int x1), some (.int x2), some (.int (x3 + 1)), none] [] h) ∧ (¬ x2 ≤ (h 4 (x3.toNatClampNeg) 10) → wi E MX1_firstSpade Q 4 [some (rf 2 0), some (.int x1), some (.int (h 4 (x3.toNatClampNeg) 10)), some (.int (x3 + 1)), none] [] h))))))) ∧ (x1 = 0 → vp_in x3 10 ∧ (((h 4 (x3.toNatClampNeg) 9) = (-1) → wi E MX1_firstSpade Q 4 [some (rf 2 0), some (.int x1), some (.int x2), some (.int (x3 + 1)), none] [] h) ∧ (¬ (h 4 (x3.toNatClampNeg) 9) = (-1) → ((x2 = (-1) → wi E MX1_firstSpade Q 4 [some (rf 2 0), some (.int x1), some (.int (h 4 (x3.toNatClampNeg) 9)), some (.int (x3 + 1)), none] [] h) ∧ (¬ x2 = (-1) → ((x2 ≤ (h 4 (x3.toNatClampNeg) 9) → wi E MX1_firstSpade Q 4 [some (rf 2 0), some (.int x1), some (.int x2), some (.int (x3 + 1)), none] [] h) ∧ (¬ x2 ≤ (h 4 (x3.toNatClampNeg) 9) → wi E MX1_firstSpade Q 4 [some (rf 2 0), some (.int x1), some (.int (h 4 (x3.toNatClampNeg) 9)), some (.int (x3 + 1)), none] [] h))))))))))
set_option maxRecDepth 20000 in
theorem sX1_firstSpade_4 {E : EN} {x1 : Int32} {x2 : Int32} {x3 : Int32} {h : TH} {Q : Int32 → TH → Prop}  (hS : SX1_firstSpade_4 E x1 x2 x3 h Q) : wi E MX1_firstSpade Q 4 [some (rf 2 0), some (.int x1), some (.int x2), some (.int x3), none] [] h := by
  refine q_ild3 dX1_firstSpade_4 (q_ald0 dX1_firstSpade_5 (wz_getI dX1_firstSpade_6 cf1 t18 (kf := 1) gi_2_1 gc_2 rfl ?_))
  refine wz_icmp_ge (tgt := 65) dX1_firstSpade_9 rfl (fun c1 => ?_) (fun c1 => ?_)
  · replace hS := hS.1 c1
    refine q_ild2 dX1_firstSpade_65 ?_
    exact wi_ret dX1_firstSpade_66 rfl hS
  · replace hS := hS.2 c1
    refine q_ild1 dX1_firstSpade_12 ?_
    refine wz_if_ne (tgt := 28) dX1_firstSpade_13 rfl (fun c2 => ?_) (fun c2 => ?_)
    · replace hS := hS.1 c2
      refine q_ald0 dX1_firstSpade_28 (wz_getR dX1_firstSpade_29 cf1 t22 (kf := 0) gr_2_0 gc_2 (q_ild3 dX1_firstSpade_32 ?_))
      obtain ⟨hi3, hS⟩ := hS
      refine wz_aald (t := 4) dX1_firstSpade_33 gq_3 gc_3 hi3 (wz_getI dX1_firstSpade_34 cf3 t47 (kf := 10) gi_4_10 (vp_lt hi3) rfl (q_ist4 dX1_firstSpade_37 (ltX1_firstSpade_4) rfl (q_ild4 dX1_firstSpade_39 (wz_iconst dX1_firstSpade_41 kiconst_m1 ?_))))
      refine wz_icmp_eq (tgt := 59) dX1_firstSpade_42 rfl (fun c4 => ?_) (fun c4 => ?_)
      · replace hS := hS.1 c4
        refine q_inc3 (v := (x3 + 1)) dX1_firstSpade_59 rfl (ltX1_firstSpade_3) rfl (wz_goto (tgt := 4) dX1_firstSpade_62 rfl ?_)
        exact wz_mask [true, true, true, true, false] rfl hS
      · replace hS := hS.2 c4
        refine q_ild2 dX1_firstSpade_45 (wz_iconst dX1_firstSpade_46 kiconst_m1 ?_)
        refine wz_icmp_eq (tgt := 56) dX1_firstSpade_47 rfl (fun c5 => ?_) (fun c5 => ?_)
        · replace hS := hS.1 c5
          refine q_ild4 dX1_firstSpade_56 (q_ist2 dX1_firstSpade_58 (ltX1_firstSpade_2) rfl (q_inc3 (v := (x3 + 1)) dX1_firstSpade_59 rfl (ltX1_firstSpade_3) rfl (wz_goto (tgt := 4) dX1_firstSpade_62 rfl ?_)))
          exact wz_mask [true, true, true, true, false] rfl hS
        · replace hS := hS.2 c5
          refine q_ild4 dX1_firstSpade_50 (q_ild2 dX1_firstSpade_52 ?_)
          refine wz_icmp_ge (tgt := 59) dX1_firstSpade_53 rfl (fun c6 => ?_) (fun c6 => ?_)
          · replace hS := hS.1 c6
            refine q_inc3 (v := (x3 + 1)) dX1_firstSpade_59 rfl (ltX1_firstSpade_3) rfl (wz_goto (tgt := 4) dX1_firstSpade_62 rfl ?_)
            exact wz_mask [true, true, true, true, false] rfl hS
          · replace hS := hS.2 c6
            refine q_ild4 dX1_firstSpade_56 (q_ist2 dX1_firstSpade_58 (ltX1_firstSpade_2) rfl (q_inc3 (v := (x3 + 1)) dX1_firstSpade_59 rfl (ltX1_firstSpade_3) rfl (wz_goto (tgt := 4) dX1_firstSpade_62 rfl ?_)))
            exact wz_mask [true, true, true, true, false] rfl hS
    · replace hS := hS.2 c2
      refine q_ald0 dX1_firstSpade_16 (wz_getR dX1_firstSpade_17 cf1 t22 (kf := 0) gr_2_0 gc_2 (q_ild3 dX1_firstSpade_20 ?_))
      obtain ⟨hi7, hS⟩ := hS
      refine wz_aald (t := 4) dX1_firstSpade_21 gq_3 gc_3 hi7 (wz_getI dX1_firstSpade_22 cf3 t48 (kf := 9) gi_4_9 (vp_lt hi7) rfl (wz_goto (tgt := 37) dX1_firstSpade_25 rfl (q_ist4 dX1_firstSpade_37 (ltX1_firstSpade_4) rfl (q_ild4 dX1_firstSpade_39 (wz_iconst dX1_firstSpade_41 kiconst_m1 ?_)))))
      refine wz_icmp_eq (tgt := 59) dX1_firstSpade_42 rfl (fun c8 => ?_) (fun c8 => ?_)
      · replace hS := hS.1 c8
        refine q_inc3 (v := (x3 + 1)) dX1_firstSpade_59 rfl (ltX1_firstSpade_3) rfl (wz_goto (tgt := 4) dX1_firstSpade_62 rfl ?_)
        exact wz_mask [true, true, true, true, false] rfl hS
      · replace hS := hS.2 c8
        refine q_ild2 dX1_firstSpade_45 (wz_iconst dX1_firstSpade_46 kiconst_m1 ?_)
        refine wz_icmp_eq (tgt := 56) dX1_firstSpade_47 rfl (fun c9 => ?_) (fun c9 => ?_)
        · replace hS := hS.1 c9
          refine q_ild4 dX1_firstSpade_56 (q_ist2 dX1_firstSpade_58 (ltX1_firstSpade_2) rfl (q_inc3 (v := (x3 + 1)) dX1_firstSpade_59 rfl (ltX1_firstSpade_3) rfl (wz_goto (tgt := 4) dX1_firstSpade_62 rfl ?_)))
          exact wz_mask [true, true, true, true, false] rfl hS
        · replace hS := hS.2 c9
          refine q_ild4 dX1_firstSpade_50 (q_ild2 dX1_firstSpade_52 ?_)
          refine wz_icmp_ge (tgt := 59) dX1_firstSpade_53 rfl (fun c10 => ?_) (fun c10 => ?_)
          · replace hS := hS.1 c10
            refine q_inc3 (v := (x3 + 1)) dX1_firstSpade_59 rfl (ltX1_firstSpade_3) rfl (wz_goto (tgt := 4) dX1_firstSpade_62 rfl ?_)
            exact wz_mask [true, true, true, true, false] rfl hS
          · replace hS := hS.2 c10
            refine q_ild4 dX1_firstSpade_56 (q_ist2 dX1_firstSpade_58 (ltX1_firstSpade_2) rfl (q_inc3 (v := (x3 + 1)) dX1_firstSpade_59 rfl (ltX1_firstSpade_3) rfl (wz_goto (tgt := 4) dX1_firstSpade_62 rfl ?_)))
            exact wz_mask [true, true, true, true, false] rfl hS
def SX3_open (E : EN) (o0 : Nat) (h : TH) (Q : Int32 → TH → Prop) : Prop := Q (if (0 : Int32) < ((h 4 o0 5) - (if (h 4 o0 6) < (h 4 o0 7) then (h 4 o0 7) else (h 4 o0 6))) then ((h 4 o0 5) - (if (h 4 o0 6) < (h 4 o0 7) then (h 4 o0 7) else (h 4 o0 6))) else 0) h
set_option maxRecDepth 20000 in
theorem sX3_open {E : EN} {o0 : Nat} {h : TH} {Q : Int32 → TH → Prop} (ho0 : o0 < 10) (hS : SX3_open E o0 h Q) : wi E MX3_open Q 0 [some (rf 4 o0)] [] h := by
  refine wz_iconst dX3_open_0 kiconst_0 (q_ald0 dX3_open_1 (wz_getI dX3_open_2 cf3 t49 (kf := 5) gi_4_5 ho0 rfl (q_ald0 dX3_open_5 (wz_getI dX3_open_6 cf3 t50 (kf := 6) gi_4_6 ho0 rfl (q_ald0 dX3_open_9 (wz_getI dX3_open_10 cf3 t51 (kf := 7) gi_4_7 ho0 rfl (wz_max dX3_open_13 ⟨t40, t6, t52, t41⟩ ⟨by decide, Nat.le_of_ble_eq_true rfl⟩ ⟨by decide, by decide⟩ ?_)))))))
  refine wz_pc (pc2 := 16) rfl ?_
  refine wz_isub dX3_open_16 (wz_max dX3_open_17 ⟨t40, t6, t52, t41⟩ ⟨by decide, Nat.le_of_ble_eq_true rfl⟩ ⟨by decide, by decide⟩ ?_)
  exact wi_ret dX3_open_20 rfl hS
def SX3_isBelow (E : EN) (o0 : Nat) (a1 : Int32) (h : TH) (Q : Int32 → TH → Prop) : Prop := ((¬ (((h 4 o0 3) >>> (a1 &&& 31)) &&& 1) = 1 → Q 0 h) ∧ ((((h 4 o0 3) >>> (a1 &&& 31)) &&& 1) = 1 → Q 1 h))
set_option maxRecDepth 20000 in
theorem sX3_isBelow {E : EN} {o0 : Nat} {a1 : Int32} {h : TH} {Q : Int32 → TH → Prop} (ho0 : o0 < 10) (hS : SX3_isBelow E o0 a1 h Q) : wi E MX3_isBelow Q 0 [some (rf 4 o0), some (.int a1)] [] h := by
  refine q_ald0 dX3_isBelow_0 (wz_getI dX3_isBelow_1 cf3 t53 (kf := 3) gi_4_3 ho0 rfl (q_ild1 dX3_isBelow_4 (wz_ishr dX3_isBelow_5 (wz_iconst dX3_isBelow_6 kiconst_1 (wz_iand dX3_isBelow_7 (wz_iconst dX3_isBelow_8 kiconst_1 ?_))))))
  refine wz_icmp_ne (tgt := 16) dX3_isBelow_9 rfl (fun c1 => ?_) (fun c1 => ?_)
  · replace hS := hS.1 c1
    refine wz_iconst dX3_isBelow_16 kiconst_0 ?_
    exact wi_zret dX3_isBelow_17 rfl (isB_nar isB_0) hS
  · replace hS := hS.2 c1
    refine wz_iconst dX3_isBelow_12 kiconst_1 (wz_goto (tgt := 17) dX3_isBelow_13 rfl ?_)
    exact wi_zret dX3_isBelow_17 rfl (isB_nar isB_1) hS
def SX3_owing (E : EN) (o0 : Nat) (h : TH) (Q : Int32 → TH → Prop) : Prop := Q ((h 4 o0 5) - (h 4 o0 6)) h
set_option maxRecDepth 20000 in
theorem sX3_owing {E : EN} {o0 : Nat} {h : TH} {Q : Int32 → TH → Prop} (ho0 : o0 < 10) (hS : SX3_owing E o0 h Q) : wi E MX3_owing Q 0 [some (rf 4 o0)] [] h := by
  refine q_ald0 dX3_owing_0 (wz_getI dX3_owing_1 cf3 t49 (kf := 5) gi_4_5 ho0 rfl (q_ald0 dX3_owing_4 (wz_getI dX3_owing_5 cf3 t50 (kf := 6) gi_4_6 ho0 rfl (wz_isub dX3_owing_8 ?_))))
  exact wi_ret dX3_owing_9 rfl hS
def SX1_boundOf_0 (E : EN) (o1 : Nat) (a2 : Int32) (h : TH) (Q : Int32 → TH → Prop) : Prop := SX3_open E o1 h (fun r2 h1 => ((a2 = 0 → Q r2 h1) ∧ (¬ a2 = 0 → wi E MX1_boundOf Q 12 [some (rf 2 0), some (rf 4 o1), none, some (.int r2), some (.int 0)] [] h1)))
set_option maxRecDepth 20000 in
theorem sX1_boundOf_0 {E : EN} {o1 : Nat} {a2 : Int32} {h : TH} {Q : Int32 → TH → Prop} (ho1 : o1 < 10) (hS : SX1_boundOf_0 E o1 a2 h Q) : wi E MX1_boundOf Q 0 [some (rf 2 0), some (rf 4 o1), some (.int a2), none, none] [] h := by
  refine q_ald1 dX1_boundOf_0 ?_
  refine wz_virtI (M := MX1_boundOf) (pc := 1) (M' := MX3_open) (n := 0) (As := []) (st := []) dX1_boundOf_1 cf3 rfl go_4 ho1 rfl cat_ okX1_boundOf_X3_open cwX1_83 (Nat.le_of_ble_eq_true rfl) ⟨Nat.zero_le _, Nat.zero_le _⟩ rfl (ls0 := [some (rf 4 o1)]) rfl (sX3_open ho1 hS) (fun r2 h1 hS => ?_)
  refine q_ist3 dX1_boundOf_4 (ltX1_boundOf_3) rfl (q_ild2 dX1_boundOf_5 ?_)
  refine wz_if_eq (tgt := 51) dX1_boundOf_6 rfl (fun c3 => ?_) (fun c3 => ?_)
  · replace hS := hS.1 c3
    refine q_ild3 dX1_boundOf_51 ?_
    exact wi_ret dX1_boundOf_52 rfl hS
  · replace hS := hS.2 c3
    refine wz_iconst dX1_boundOf_9 kiconst_0 (q_ist4 dX1_boundOf_10 (ltX1_boundOf_4) rfl ?_)
    exact wz_mask [true, true, false, true, true] rfl hS
def SX1_boundOf_12 (E : EN) (o1 : Nat) (x3 : Int32) (x4 : Int32) (h : TH) (Q : Int32 → TH → Prop) : Prop := (((h 2 0 1) ≤ x4 → Q x3 h) ∧ (¬ (h 2 0 1) ≤ x4 → SX3_isBelow E o1 x4 h (fun r3 h2 => ((r3 = 0 → wi E MX1_boundOf Q 12 [some (rf 2 0), some (rf 4 o1), none, some (.int x3), some (.int (x4 + 1))] [] h2) ∧ (¬ r3 = 0 → vp_in x4 10 ∧ SX3_owing E (x4.toNatClampNeg) h2 (fun r7 h6 => wi E MX1_boundOf Q 12 [some (rf 2 0), some (rf 4 o1), none, some (.int (if r7 < x3 then r7 else x3)), some (.int (x4 + 1))] [] h6))))))
set_option maxRecDepth 20000 in
theorem sX1_boundOf_12 {E : EN} {o1 : Nat} {x3 : Int32} {x4 : Int32} {h : TH} {Q : Int32 → TH → Prop} (ho1 : o1 < 10) (hS : SX1_boundOf_12 E o1 x3 x4 h Q) : wi E MX1_boundOf Q 12 [some (rf 2 0), some (rf 4 o1), none, some (.int x3), some (.int x4)] [] h := by
  refine q_ild4 dX1_boundOf_12 (q_ald0 dX1_boundOf_14 (wz_getI dX1_boundOf_15 cf1 t18 (kf := 1) gi_2_1 gc_2 rfl ?_))
  refine wz_icmp_ge (tgt := 51) dX1_boundOf_18 rfl (fun c1 => ?_) (fun c1 => ?_)
  · replace hS := hS.1 c1
    refine q_ild3 dX1_boundOf_51 ?_
    exact wi_ret dX1_boundOf_52 rfl hS
  · replace hS := hS.2 c1
    refine q_ald1 dX1_boundOf_21 (q_ild4 dX1_boundOf_22 ?_)
    refine wz_virtI (M := MX1_boundOf) (pc := 24) (M' := MX3_isBelow) (n := 1) (As := [.int x4]) (st := []) dX1_boundOf_24 cf3 rfl go_4 ho1 rfl cat_i okX1_boundOf_X3_isBelow cwX1_87 (Nat.le_of_ble_eq_true rfl) ⟨Nat.zero_le _, Nat.zero_le _⟩ rfl (ls0 := [some (rf 4 o1), some (.int x4)]) rfl (sX3_isBelow ho1 hS) (fun r3 h2 hS => ?_)
    refine wz_if_eq (tgt := 45) dX1_boundOf_27 rfl (fun c4 => ?_) (fun c4 => ?_)
    · replace hS := hS.1 c4
      refine q_inc4 (v := (x4 + 1)) dX1_boundOf_45 rfl (ltX1_boundOf_4) rfl (wz_goto (tgt := 12) dX1_boundOf_48 rfl ?_)
      exact hS
    · replace hS := hS.2 c4
      refine q_ild3 dX1_boundOf_30 (q_ald0 dX1_boundOf_31 (wz_getR dX1_boundOf_32 cf1 t22 (kf := 0) gr_2_0 gc_2 (q_ild4 dX1_boundOf_35 ?_)))
      obtain ⟨hi5, hS⟩ := hS
      refine wz_aald (t := 4) dX1_boundOf_37 gq_3 gc_3 hi5 ?_
      refine wz_virtI (M := MX1_boundOf) (pc := 38) (M' := MX3_owing) (n := 0) (As := []) (st := [.int x3]) dX1_boundOf_38 cf3 rfl go_4 (vp_lt hi5) rfl cat_ okX1_boundOf_X3_owing cwX1_91 (Nat.le_of_ble_eq_true rfl) ⟨Nat.zero_le _, Nat.zero_le _⟩ rfl (ls0 := [some (rf 4 (x4.toNatClampNeg))]) rfl (sX3_owing (vp_lt hi5) hS) (fun r7 h6 hS => ?_)
      refine wz_min dX1_boundOf_41 ⟨t5, t6, t59, t7⟩ ⟨by decide, Nat.le_of_ble_eq_true rfl⟩ ⟨by decide, by decide⟩ (q_ist3 dX1_boundOf_44 (ltX1_boundOf_3) rfl (q_inc4 (v := (x4 + 1)) dX1_boundOf_45 rfl (ltX1_boundOf_4) rfl (wz_goto (tgt := 12) dX1_boundOf_48 rfl ?_)))
      exact hS
def SJ6_bitCount_0f7a4 (E : EN) (a0 : Int32) (h : TH) (Q : Int32 → TH → Prop) : Prop := Q ((((((((a0 - ((((a0 : Int32).toUInt32 >>> ((1 : Int32).toUInt32 &&& Int32.toUInt32 31)).toInt32) &&& 1431655765)) &&& 858993459) + ((((a0 - ((((a0 : Int32).toUInt32 >>> ((1 : Int32).toUInt32 &&& Int32.toUInt32 31)).toInt32) &&& 1431655765) : Int32).toUInt32 >>> ((2 : Int32).toUInt32 &&& Int32.toUInt32 31)).toInt32) &&& 858993459)) + (((((a0 - ((((a0 : Int32).toUInt32 >>> ((1 : Int32).toUInt32 &&& Int32.toUInt32 31)).toInt32) &&& 1431655765)) &&& 858993459) + ((((a0 - ((((a0 : Int32).toUInt32 >>> ((1 : Int32).toUInt32 &&& Int32.toUInt32 31)).toInt32) &&& 1431655765) : Int32).toUInt32 >>> ((2 : Int32).toUInt32 &&& Int32.toUInt32 31)).toInt32) &&& 858993459) : Int32).toUInt32 >>> ((4 : Int32).toUInt32 &&& Int32.toUInt32 31)).toInt32)) &&& 252645135) + (((((((a0 - ((((a0 : Int32).toUInt32 >>> ((1 : Int32).toUInt32 &&& Int32.toUInt32 31)).toInt32) &&& 1431655765)) &&& 858993459) + ((((a0 - ((((a0 : Int32).toUInt32 >>> ((1 : Int32).toUInt32 &&& Int32.toUInt32 31)).toInt32) &&& 1431655765) : Int32).toUInt32 >>> ((2 : Int32).toUInt32 &&& Int32.toUInt32 31)).toInt32) &&& 858993459)) + (((((a0 - ((((a0 : Int32).toUInt32 >>> ((1 : Int32).toUInt32 &&& Int32.toUInt32 31)).toInt32) &&& 1431655765)) &&& 858993459) + ((((a0 - ((((a0 : Int32).toUInt32 >>> ((1 : Int32).toUInt32 &&& Int32.toUInt32 31)).toInt32) &&& 1431655765) : Int32).toUInt32 >>> ((2 : Int32).toUInt32 &&& Int32.toUInt32 31)).toInt32) &&& 858993459) : Int32).toUInt32 >>> ((4 : Int32).toUInt32 &&& Int32.toUInt32 31)).toInt32)) &&& 252645135 : Int32).toUInt32 >>> ((8 : Int32).toUInt32 &&& Int32.toUInt32 31)).toInt32)) + ((((((((a0 - ((((a0 : Int32).toUInt32 >>> ((1 : Int32).toUInt32 &&& Int32.toUInt32 31)).toInt32) &&& 1431655765)) &&& 858993459) + ((((a0 - ((((a0 : Int32).toUInt32 >>> ((1 : Int32).toUInt32 &&& Int32.toUInt32 31)).toInt32) &&& 1431655765) : Int32).toUInt32 >>> ((2 : Int32).toUInt32 &&& Int32.toUInt32 31)).toInt32) &&& 858993459)) + (((((a0 - ((((a0 : Int32).toUInt32 >>> ((1 : Int32).toUInt32 &&& Int32.toUInt32 31)).toInt32) &&& 1431655765)) &&& 858993459) + ((((a0 - ((((a0 : Int32).toUInt32 >>> ((1 : Int32).toUInt32 &&& Int32.toUInt32 31)).toInt32) &&& 1431655765) : Int32).toUInt32 >>> ((2 : Int32).toUInt32 &&& Int32.toUInt32 31)).toInt32) &&& 858993459) : Int32).toUInt32 >>> ((4 : Int32).toUInt32 &&& Int32.toUInt32 31)).toInt32)) &&& 252645135) + (((((((a0 - ((((a0 : Int32).toUInt32 >>> ((1 : Int32).toUInt32 &&& Int32.toUInt32 31)).toInt32) &&& 1431655765)) &&& 858993459) + ((((a0 - ((((a0 : Int32).toUInt32 >>> ((1 : Int32).toUInt32 &&& Int32.toUInt32 31)).toInt32) &&& 1431655765) : Int32).toUInt32 >>> ((2 : Int32).toUInt32 &&& Int32.toUInt32 31)).toInt32) &&& 858993459)) + (((((a0 - ((((a0 : Int32).toUInt32 >>> ((1 : Int32).toUInt32 &&& Int32.toUInt32 31)).toInt32) &&& 1431655765)) &&& 858993459) + ((((a0 - ((((a0 : Int32).toUInt32 >>> ((1 : Int32).toUInt32 &&& Int32.toUInt32 31)).toInt32) &&& 1431655765) : Int32).toUInt32 >>> ((2 : Int32).toUInt32 &&& Int32.toUInt32 31)).toInt32) &&& 858993459) : Int32).toUInt32 >>> ((4 : Int32).toUInt32 &&& Int32.toUInt32 31)).toInt32)) &&& 252645135 : Int32).toUInt32 >>> ((8 : Int32).toUInt32 &&& Int32.toUInt32 31)).toInt32) : Int32).toUInt32 >>> ((16 : Int32).toUInt32 &&& Int32.toUInt32 31)).toInt32)) &&& 63) h
set_option maxRecDepth 20000 in
theorem sJ6_bitCount_0f7a4 {E : EN} {a0 : Int32} {h : TH} {Q : Int32 → TH → Prop}  (hS : SJ6_bitCount_0f7a4 E a0 h Q) : wi E MJ6_bitCount_0f7a4 Q 0 [some (.int a0)] [] h := by
  refine q_ild0 dJ6_bitCount_0f7a4_0 (q_ild0 dJ6_bitCount_0f7a4_1 (wz_iconst dJ6_bitCount_0f7a4_2 kiconst_1 (wz_iushr dJ6_bitCount_0f7a4_3 (wz_ldcw dJ6_bitCount_0f7a4_4 t68 (wz_iand dJ6_bitCount_0f7a4_7 (wz_isub dJ6_bitCount_0f7a4_8 (q_ist0 dJ6_bitCount_0f7a4_9 (ltJ6_bitCount_0f7a4_0) ?_)))))))
  refine wz_pc (pc2 := 10) rfl ?_
  refine q_ild0 dJ6_bitCount_0f7a4_10 (wz_ldcw dJ6_bitCount_0f7a4_11 t69 (wz_iand dJ6_bitCount_0f7a4_14 (q_ild0 dJ6_bitCount_0f7a4_15 (wz_iconst dJ6_bitCount_0f7a4_16 kiconst_2 (wz_iushr dJ6_bitCount_0f7a4_17 (wz_ldcw dJ6_bitCount_0f7a4_18 t69 (wz_iand dJ6_bitCount_0f7a4_21 ?_)))))))
  refine wz_pc (pc2 := 22) rfl ?_
  refine wz_iadd dJ6_bitCount_0f7a4_22 (q_ist0 dJ6_bitCount_0f7a4_23 (ltJ6_bitCount_0f7a4_0) (q_ild0 dJ6_bitCount_0f7a4_24 (q_ild0 dJ6_bitCount_0f7a4_25 (wz_iconst dJ6_bitCount_0f7a4_26 kiconst_4 (wz_iushr dJ6_bitCount_0f7a4_27 (wz_iadd dJ6_bitCount_0f7a4_28 (wz_ldcw dJ6_bitCount_0f7a4_29 t70 ?_)))))))
  refine wz_pc (pc2 := 32) rfl ?_
  refine wz_iand dJ6_bitCount_0f7a4_32 (q_ist0 dJ6_bitCount_0f7a4_33 (ltJ6_bitCount_0f7a4_0) (q_ild0 dJ6_bitCount_0f7a4_34 (q_ild0 dJ6_bitCount_0f7a4_35 (wz_bipush dJ6_bitCount_0f7a4_36 kbipush_8 (wz_iushr dJ6_bitCount_0f7a4_38 (wz_iadd dJ6_bitCount_0f7a4_39 (q_ist0 dJ6_bitCount_0f7a4_40 (ltJ6_bitCount_0f7a4_0) ?_)))))))
  refine wz_pc (pc2 := 41) rfl ?_
  refine q_ild0 dJ6_bitCount_0f7a4_41 (q_ild0 dJ6_bitCount_0f7a4_42 (wz_bipush dJ6_bitCount_0f7a4_43 kbipush_16 (wz_iushr dJ6_bitCount_0f7a4_45 (wz_iadd dJ6_bitCount_0f7a4_46 (q_ist0 dJ6_bitCount_0f7a4_47 (ltJ6_bitCount_0f7a4_0) (q_ild0 dJ6_bitCount_0f7a4_48 (wz_bipush dJ6_bitCount_0f7a4_49 kbipush_63 ?_)))))))
  refine wz_pc (pc2 := 51) rfl ?_
  refine wz_iand dJ6_bitCount_0f7a4_51 ?_
  exact wi_ret dJ6_bitCount_0f7a4_52 rfl hS
def SX1_openOfSet_0 (E : EN) (a1 : Int32) (h : TH) (Q : Int32 → TH → Prop) : Prop := wi E MX1_openOfSet Q 4 [some (rf 2 0), some (.int a1), some (.int 0), some (.int 0)] [] h
set_option maxRecDepth 20000 in
theorem sX1_openOfSet_0 {E : EN} {a1 : Int32} {h : TH} {Q : Int32 → TH → Prop}  (hS : SX1_openOfSet_0 E a1 h Q) : wi E MX1_openOfSet Q 0 [some (rf 2 0), some (.int a1), none, none] [] h := by
  refine wz_iconst dX1_openOfSet_0 kiconst_0 (q_ist2 dX1_openOfSet_1 (ltX1_openOfSet_2) rfl (wz_iconst dX1_openOfSet_2 kiconst_0 (q_ist3 dX1_openOfSet_3 (ltX1_openOfSet_3) rfl ?_)))
  exact hS
def SX1_openOfSet_4 (E : EN) (x1 : Int32) (x2 : Int32) (x3 : Int32) (h : TH) (Q : Int32 → TH → Prop) : Prop := (((h 2 0 1) ≤ x3 → Q x2 h) ∧ (¬ (h 2 0 1) ≤ x3 → ((¬ ((x1 >>> (x3 &&& 31)) &&& 1) = 1 → wi E MX1_openOfSet Q 4 [some (rf 2 0), some (.int x1), some (.int x2), some (.int (x3 + 1))] [] h) ∧ (((x1 >>> (x3 &&& 31)) &&& 1) = 1 → vp_in x3 10 ∧ SX3_open E (x3.toNatClampNeg) h (fun r5 h4 => wi E MX1_openOfSet Q 4 [some (rf 2 0), some (.int x1), some (.int (x2 + r5)), some (.int (x3 + 1))] [] h4)))))
set_option maxRecDepth 20000 in
theorem sX1_openOfSet_4 {E : EN} {x1 : Int32} {x2 : Int32} {x3 : Int32} {h : TH} {Q : Int32 → TH → Prop}  (hS : SX1_openOfSet_4 E x1 x2 x3 h Q) : wi E MX1_openOfSet Q 4 [some (rf 2 0), some (.int x1), some (.int x2), some (.int x3)] [] h := by
  refine q_ild3 dX1_openOfSet_4 (q_ald0 dX1_openOfSet_5 (wz_getI dX1_openOfSet_6 cf1 t18 (kf := 1) gi_2_1 gc_2 rfl ?_))
  refine wz_icmp_ge (tgt := 39) dX1_openOfSet_9 rfl (fun c1 => ?_) (fun c1 => ?_)
  · replace hS := hS.1 c1
    refine q_ild2 dX1_openOfSet_39 ?_
    exact wi_ret dX1_openOfSet_40 rfl hS
  · replace hS := hS.2 c1
    refine q_ild1 dX1_openOfSet_12 (q_ild3 dX1_openOfSet_13 (wz_ishr dX1_openOfSet_14 (wz_iconst dX1_openOfSet_15 kiconst_1 (wz_iand dX1_openOfSet_16 (wz_iconst dX1_openOfSet_17 kiconst_1 ?_)))))
    refine wz_icmp_ne (tgt := 33) dX1_openOfSet_18 rfl (fun c2 => ?_) (fun c2 => ?_)
    · replace hS := hS.1 c2
      refine q_inc3 (v := (x3 + 1)) dX1_openOfSet_33 rfl (ltX1_openOfSet_3) rfl (wz_goto (tgt := 4) dX1_openOfSet_36 rfl ?_)
      exact hS
    · replace hS := hS.2 c2
      refine q_ild2 dX1_openOfSet_21 (q_ald0 dX1_openOfSet_22 (wz_getR dX1_openOfSet_23 cf1 t22 (kf := 0) gr_2_0 gc_2 (q_ild3 dX1_openOfSet_26 ?_)))
      obtain ⟨hi3, hS⟩ := hS
      refine wz_aald (t := 4) dX1_openOfSet_27 gq_3 gc_3 hi3 ?_
      refine wz_virtI (M := MX1_openOfSet) (pc := 28) (M' := MX3_open) (n := 0) (As := []) (st := [.int x2]) dX1_openOfSet_28 cf3 rfl go_4 (vp_lt hi3) rfl cat_ okX1_openOfSet_X3_open cwX1_83 (Nat.le_of_ble_eq_true rfl) ⟨Nat.zero_le _, Nat.zero_le _⟩ rfl (ls0 := [some (rf 4 (x3.toNatClampNeg))]) rfl (sX3_open (vp_lt hi3) hS) (fun r5 h4 hS => ?_)
      refine wz_iadd dX1_openOfSet_31 (q_ist2 dX1_openOfSet_32 (ltX1_openOfSet_2) rfl (q_inc3 (v := (x3 + 1)) dX1_openOfSet_33 rfl (ltX1_openOfSet_3) rfl (wz_goto (tgt := 4) dX1_openOfSet_36 rfl ?_)))
      exact hS
def SX1_fewestSigners_0 (E : EN) (a1 : Int32) (a2 : Int32) (a3 : Int32) (h : TH) (Q : Int32 → TH → Prop) : Prop := wi E MX1_fewestSigners Q 9 [some (rf 2 0), some (.int a1), some (.int a2), some (.int a3), some (.int 0), some (.int 0), some (.int 0), none, none] [] h
set_option maxRecDepth 20000 in
theorem sX1_fewestSigners_0 {E : EN} {a1 : Int32} {a2 : Int32} {a3 : Int32} {h : TH} {Q : Int32 → TH → Prop}  (hS : SX1_fewestSigners_0 E a1 a2 a3 h Q) : wi E MX1_fewestSigners Q 0 [some (rf 2 0), some (.int a1), some (.int a2), some (.int a3), none, none, none, none, none] [] h := by
  refine wz_iconst dX1_fewestSigners_0 kiconst_0 (q_ist4 dX1_fewestSigners_1 (ltX1_fewestSigners_4) rfl (wz_iconst dX1_fewestSigners_3 kiconst_0 (q_ist5 dX1_fewestSigners_4 (ltX1_fewestSigners_5) rfl (wz_iconst dX1_fewestSigners_6 kiconst_0 (q_ist6 dX1_fewestSigners_7 (ltX1_fewestSigners_6) rfl ?_)))))
  exact hS
def SX1_fewestSigners_9 (E : EN) (x1 : Int32) (x2 : Int32) (x3 : Int32) (x4 : Int32) (x5 : Int32) (x6 : Int32) (h : TH) (Q : Int32 → TH → Prop) : Prop := (((h 2 0 1) ≤ x6 → SJ6_bitCount_0f7a4 E x4 h (fun r3 h2 => wi E MX1_fewestSigners Q 90 [some (rf 2 0), none, some (.int x2), none, some (.int x4), some (.int x5), some (.int x4), some (.int r3), some (.int 0)] [] h2)) ∧ (¬ (h 2 0 1) ≤ x6 → vp_in x6 10 ∧ SX3_isBelow E (x6.toNatClampNeg) x1 h (fun r6 h5 => ((r6 = 0 → wi E MX1_fewestSigners Q 9 [some (rf 2 0), some (.int x1), some (.int x2), some (.int x3), some (.int x4), some (.int x5), some (.int (x6 + 1)), none, none] [] h5) ∧ (¬ r6 = 0 → ((x3 < (h5 4 (x6.toNatClampNeg) 4) → wi E MX1_fewestSigners Q 9 [some (rf 2 0), some (.int x1), some (.int x2), some (.int x3), some (.int x4), some (.int x5), some (.int (x6 + 1)), none, none] [] h5) ∧ (¬ x3 < (h5 4 (x6.toNatClampNeg) 4) → SX3_open E (x6.toNatClampNeg) h5 (fun r10 h9 => wi E MX1_fewestSigners Q 9 [some (rf 2 0), some (.int x1), some (.int x2), some (.int x3), some (.int (x4 ||| (1 <<< (x6 &&& 31)))), some (.int (x5 + r10)), some (.int (x6 + 1)), none, none] [] h9))))))))
set_option maxRecDepth 20000 in
theorem sX1_fewestSigners_9 {E : EN} {x1 : Int32} {x2 : Int32} {x3 : Int32} {x4 : Int32} {x5 : Int32} {x6 : Int32} {h : TH} {Q : Int32 → TH → Prop}  (hS : SX1_fewestSigners_9 E x1 x2 x3 x4 x5 x6 h Q) : wi E MX1_fewestSigners Q 9 [some (rf 2 0), some (.int x1), some (.int x2), some (.int x3), some (.int x4), some (.int x5), some (.int x6), none, none] [] h := by
  refine q_ild6 dX1_fewestSigners_9 (q_ald0 dX1_fewestSigners_11 (wz_getI dX1_fewestSigners_12 cf1 t18 (kf := 1) gi_2_1 gc_2 rfl ?_))
  refine wz_icmp_ge (tgt := 76) dX1_fewestSigners_15 rfl (fun c1 => ?_) (fun c1 => ?_)
  · replace hS := hS.1 c1
    refine q_ild4 dX1_fewestSigners_76 (q_ist6 dX1_fewestSigners_78 (ltX1_fewestSigners_6) rfl (q_ild4 dX1_fewestSigners_80 ?_))
    refine wz_statI (M := MX1_fewestSigners) (pc := 82) (M' := MJ6_bitCount_0f7a4) (n := 1) (As := [.int x4]) (st := []) dX1_fewestSigners_82 rfl cat_i okX1_fewestSigners_J6_bitCount_0f7a4 cwX1_97 (Nat.le_of_ble_eq_true rfl) ⟨Nat.zero_le _, Nat.zero_le _⟩ rfl (ls0 := [some (.int x4)]) rfl (sJ6_bitCount_0f7a4  hS) (fun r3 h2 hS => ?_)
    refine q_ist7 dX1_fewestSigners_85 (ltX1_fewestSigners_7) rfl (wz_iconst dX1_fewestSigners_87 kiconst_0 (q_ist8 dX1_fewestSigners_88 (ltX1_fewestSigners_8) rfl ?_))
    exact wz_mask [true, false, true, false, true, true, true, true, true] rfl hS
  · replace hS := hS.2 c1
    refine q_ald0 dX1_fewestSigners_18 (wz_getR dX1_fewestSigners_19 cf1 t22 (kf := 0) gr_2_0 gc_2 (q_ild6 dX1_fewestSigners_22 ?_))
    obtain ⟨hi4, hS⟩ := hS
    refine wz_aald (t := 4) dX1_fewestSigners_24 gq_3 gc_3 hi4 (q_ild1 dX1_fewestSigners_25 ?_)
    refine wz_virtI (M := MX1_fewestSigners) (pc := 26) (M' := MX3_isBelow) (n := 1) (As := [.int x1]) (st := []) dX1_fewestSigners_26 cf3 rfl go_4 (vp_lt hi4) rfl cat_i okX1_fewestSigners_X3_isBelow cwX1_87 (Nat.le_of_ble_eq_true rfl) ⟨Nat.zero_le _, Nat.zero_le _⟩ rfl (ls0 := [some (rf 4 (x6.toNatClampNeg)), some (.int x1)]) rfl (sX3_isBelow (vp_lt hi4) hS) (fun r6 h5 hS => ?_)
    refine wz_if_eq (tgt := 70) dX1_fewestSigners_29 rfl (fun c7 => ?_) (fun c7 => ?_)
    · replace hS := hS.1 c7
      refine q_inc6 (v := (x6 + 1)) dX1_fewestSigners_70 rfl (ltX1_fewestSigners_6) rfl (wz_goto (tgt := 9) dX1_fewestSigners_73 rfl ?_)
      exact hS
    · replace hS := hS.2 c7
      refine q_ald0 dX1_fewestSigners_32 (wz_getR dX1_fewestSigners_33 cf1 t22 (kf := 0) gr_2_0 gc_2 (q_ild6 dX1_fewestSigners_36 (wz_aald (t := 4) dX1_fewestSigners_38 gq_3 gc_3 hi4 (wz_getI dX1_fewestSigners_39 cf3 t28 (kf := 4) gi_4_4 (vp_lt hi4) rfl (q_ild3 dX1_fewestSigners_42 ?_)))))
      refine wz_icmp_gt (tgt := 70) dX1_fewestSigners_43 rfl (fun c8 => ?_) (fun c8 => ?_)
      · replace hS := hS.1 c8
        refine q_inc6 (v := (x6 + 1)) dX1_fewestSigners_70 rfl (ltX1_fewestSigners_6) rfl (wz_goto (tgt := 9) dX1_fewestSigners_73 rfl ?_)
        exact hS
      · replace hS := hS.2 c8
        refine q_ild4 dX1_fewestSigners_46 (wz_iconst dX1_fewestSigners_48 kiconst_1 (q_ild6 dX1_fewestSigners_49 (wz_ishl dX1_fewestSigners_51 (wz_ior dX1_fewestSigners_52 (q_ist4 dX1_fewestSigners_53 (ltX1_fewestSigners_4) rfl (q_ild5 dX1_fewestSigners_55 (q_ald0 dX1_fewestSigners_57 ?_)))))))
        refine wz_pc (pc2 := 58) rfl ?_
        refine wz_getR dX1_fewestSigners_58 cf1 t22 (kf := 0) gr_2_0 gc_2 (q_ild6 dX1_fewestSigners_61 (wz_aald (t := 4) dX1_fewestSigners_63 gq_3 gc_3 hi4 ?_))
        refine wz_virtI (M := MX1_fewestSigners) (pc := 64) (M' := MX3_open) (n := 0) (As := []) (st := [.int x5]) dX1_fewestSigners_64 cf3 rfl go_4 (vp_lt hi4) rfl cat_ okX1_fewestSigners_X3_open cwX1_83 (Nat.le_of_ble_eq_true rfl) ⟨Nat.zero_le _, Nat.zero_le _⟩ rfl (ls0 := [some (rf 4 (x6.toNatClampNeg))]) rfl (sX3_open (vp_lt hi4) hS) (fun r10 h9 hS => ?_)
        refine wz_iadd dX1_fewestSigners_67 (q_ist5 dX1_fewestSigners_68 (ltX1_fewestSigners_5) rfl (q_inc6 (v := (x6 + 1)) dX1_fewestSigners_70 rfl (ltX1_fewestSigners_6) rfl (wz_goto (tgt := 9) dX1_fewestSigners_73 rfl ?_)))
        exact hS
def SX1_fewestSigners_90 (E : EN) (x2 : Int32) (x4 : Int32) (x5 : Int32) (x6 : Int32) (x7 : Int32) (x8 : Int32) (h : TH) (Q : Int32 → TH → Prop) : Prop := ((x4 ≤ x8 → Q x6 h) ∧ (¬ x4 ≤ x8 → ((¬ (x8 &&& (x4 ^^^ (-1))) = 0 → wi E MX1_fewestSigners Q 90 [some (rf 2 0), none, some (.int x2), none, some (.int x4), some (.int x5), some (.int x6), some (.int x7), some (.int (x8 + 1))] [] h) ∧ ((x8 &&& (x4 ^^^ (-1))) = 0 → SJ6_bitCount_0f7a4 E x8 h (fun r4 h3 => ((x7 ≤ r4 → wi E MX1_fewestSigners Q 90 [some (rf 2 0), none, some (.int x2), none, some (.int x4), some (.int x5), some (.int x6), some (.int x7), some (.int (x8 + 1))] [] h3) ∧ (¬ x7 ≤ r4 → wi E MX1_openOfSet (fun r7 h6 => ((x2 < (x5 - r7) → wi E MX1_fewestSigners Q 90 [some (rf 2 0), none, some (.int x2), none, some (.int x4), some (.int x5), some (.int x6), some (.int x7), some (.int (x8 + 1))] [] h6) ∧ (¬ x2 < (x5 - r7) → SJ6_bitCount_0f7a4 E x8 h6 (fun r10 h9 => wi E MX1_fewestSigners Q 90 [some (rf 2 0), none, some (.int x2), none, some (.int x4), some (.int x5), some (.int x8), some (.int r10), some (.int (x8 + 1))] [] h9)))) 0 [some (rf 2 0), some (.int x8), none, none] [] h3)))))))
set_option maxRecDepth 20000 in
theorem sX1_fewestSigners_90 {E : EN} {x2 : Int32} {x4 : Int32} {x5 : Int32} {x6 : Int32} {x7 : Int32} {x8 : Int32} {h : TH} {Q : Int32 → TH → Prop}  (hS : SX1_fewestSigners_90 E x2 x4 x5 x6 x7 x8 h Q) : wi E MX1_fewestSigners Q 90 [some (rf 2 0), none, some (.int x2), none, some (.int x4), some (.int x5), some (.int x6), some (.int x7), some (.int x8)] [] h := by
  refine q_ild8 dX1_fewestSigners_90 (q_ild4 dX1_fewestSigners_92 ?_)
  refine wz_icmp_ge (tgt := 147) dX1_fewestSigners_94 rfl (fun c1 => ?_) (fun c1 => ?_)
  · replace hS := hS.1 c1
    refine q_ild6 dX1_fewestSigners_147 ?_
    exact wi_ret dX1_fewestSigners_149 rfl hS
  · replace hS := hS.2 c1
    refine q_ild8 dX1_fewestSigners_97 (q_ild4 dX1_fewestSigners_99 (wz_iconst dX1_fewestSigners_101 kiconst_m1 (wz_ixor dX1_fewestSigners_102 (wz_iand dX1_fewestSigners_103 ?_))))
    refine wz_if_ne (tgt := 141) dX1_fewestSigners_104 rfl (fun c2 => ?_) (fun c2 => ?_)
    · replace hS := hS.1 c2
      refine q_inc8 (v := (x8 + 1)) dX1_fewestSigners_141 rfl (ltX1_fewestSigners_8) rfl (wz_goto (tgt := 90) dX1_fewestSigners_144 rfl ?_)
      exact hS
    · replace hS := hS.2 c2
      refine q_ild8 dX1_fewestSigners_107 ?_
      refine wz_statI (M := MX1_fewestSigners) (pc := 109) (M' := MJ6_bitCount_0f7a4) (n := 1) (As := [.int x8]) (st := []) dX1_fewestSigners_109 rfl cat_i okX1_fewestSigners_J6_bitCount_0f7a4 cwX1_97 (Nat.le_of_ble_eq_true rfl) ⟨Nat.zero_le _, Nat.zero_le _⟩ rfl (ls0 := [some (.int x8)]) rfl (sJ6_bitCount_0f7a4  hS) (fun r4 h3 hS => ?_)
      refine q_ild7 dX1_fewestSigners_112 ?_
      refine wz_icmp_ge (tgt := 141) dX1_fewestSigners_114 rfl (fun c5 => ?_) (fun c5 => ?_)
      · replace hS := hS.1 c5
        refine q_inc8 (v := (x8 + 1)) dX1_fewestSigners_141 rfl (ltX1_fewestSigners_8) rfl (wz_goto (tgt := 90) dX1_fewestSigners_144 rfl ?_)
        exact hS
      · replace hS := hS.2 c5
        refine q_ild5 dX1_fewestSigners_117 (q_ald0 dX1_fewestSigners_119 (q_ild8 dX1_fewestSigners_120 ?_))
        refine wz_virtI (M := MX1_fewestSigners) (pc := 122) (M' := MX1_openOfSet) (n := 1) (As := [.int x8]) (st := [.int x5]) dX1_fewestSigners_122 cf1 rfl go_2 gc_2 rfl cat_i okX1_fewestSigners_X1_openOfSet cwX1_102 (Nat.le_of_ble_eq_true rfl) ⟨Nat.zero_le _, Nat.zero_le _⟩ rfl (ls0 := [some (rf 2 0), some (.int x8), none, none]) rfl hS (fun r7 h6 hS => ?_)
        refine wz_isub dX1_fewestSigners_125 (q_ild2 dX1_fewestSigners_126 ?_)
        refine wz_icmp_gt (tgt := 141) dX1_fewestSigners_127 rfl (fun c8 => ?_) (fun c8 => ?_)
        · replace hS := hS.1 c8
          refine q_inc8 (v := (x8 + 1)) dX1_fewestSigners_141 rfl (ltX1_fewestSigners_8) rfl (wz_goto (tgt := 90) dX1_fewestSigners_144 rfl ?_)
          exact hS
        · replace hS := hS.2 c8
          refine q_ild8 dX1_fewestSigners_130 (q_ist6 dX1_fewestSigners_132 (ltX1_fewestSigners_6) rfl (q_ild8 dX1_fewestSigners_134 ?_))
          refine wz_statI (M := MX1_fewestSigners) (pc := 136) (M' := MJ6_bitCount_0f7a4) (n := 1) (As := [.int x8]) (st := []) dX1_fewestSigners_136 rfl cat_i okX1_fewestSigners_J6_bitCount_0f7a4 cwX1_97 (Nat.le_of_ble_eq_true rfl) ⟨Nat.zero_le _, Nat.zero_le _⟩ rfl (ls0 := [some (.int x8)]) rfl (sJ6_bitCount_0f7a4  hS) (fun r10 h9 hS => ?_)
          refine q_ist7 dX1_fewestSigners_139 (ltX1_fewestSigners_7) rfl (q_inc8 (v := (x8 + 1)) dX1_fewestSigners_141 rfl (ltX1_fewestSigners_8) rfl (wz_goto (tgt := 90) dX1_fewestSigners_144 rfl ?_))
          exact hS
def SX3_hasBegun (E : EN) (o0 : Nat) (h : TH) (Q : Int32 → TH → Prop) : Prop := (((h 4 o0 9) = (-1) → Q 0 h) ∧ (¬ (h 4 o0 9) = (-1) → Q 1 h))
set_option maxRecDepth 20000 in
theorem sX3_hasBegun {E : EN} {o0 : Nat} {h : TH} {Q : Int32 → TH → Prop} (ho0 : o0 < 10) (hS : SX3_hasBegun E o0 h Q) : wi E MX3_hasBegun Q 0 [some (rf 4 o0)] [] h := by
  refine q_ald0 dX3_hasBegun_0 (wz_getI dX3_hasBegun_1 cf3 t79 (kf := 9) gi_4_9 ho0 rfl (wz_iconst dX3_hasBegun_4 kiconst_m1 ?_))
  refine wz_icmp_eq (tgt := 12) dX3_hasBegun_5 rfl (fun c1 => ?_) (fun c1 => ?_)
  · replace hS := hS.1 c1
    refine wz_iconst dX3_hasBegun_12 kiconst_0 ?_
    exact wi_zret dX3_hasBegun_13 rfl (isB_nar isB_0) hS
  · replace hS := hS.2 c1
    refine wz_iconst dX3_hasBegun_8 kiconst_1 (wz_goto (tgt := 13) dX3_hasBegun_9 rfl ?_)
    exact wi_zret dX3_hasBegun_13 rfl (isB_nar isB_1) hS
def SX3_hasEnded (E : EN) (o0 : Nat) (h : TH) (Q : Int32 → TH → Prop) : Prop := (((h 4 o0 11) = (-1) → Q 0 h) ∧ (¬ (h 4 o0 11) = (-1) → Q 1 h))
set_option maxRecDepth 20000 in
theorem sX3_hasEnded {E : EN} {o0 : Nat} {h : TH} {Q : Int32 → TH → Prop} (ho0 : o0 < 10) (hS : SX3_hasEnded E o0 h Q) : wi E MX3_hasEnded Q 0 [some (rf 4 o0)] [] h := by
  refine q_ald0 dX3_hasEnded_0 (wz_getI dX3_hasEnded_1 cf3 t80 (kf := 11) gi_4_11 ho0 rfl (wz_iconst dX3_hasEnded_4 kiconst_m1 ?_))
  refine wz_icmp_eq (tgt := 12) dX3_hasEnded_5 rfl (fun c1 => ?_) (fun c1 => ?_)
  · replace hS := hS.1 c1
    refine wz_iconst dX3_hasEnded_12 kiconst_0 ?_
    exact wi_zret dX3_hasEnded_13 rfl (isB_nar isB_0) hS
  · replace hS := hS.2 c1
    refine wz_iconst dX3_hasEnded_8 kiconst_1 (wz_goto (tgt := 13) dX3_hasEnded_9 rfl ?_)
    exact wi_zret dX3_hasEnded_13 rfl (isB_nar isB_1) hS
def SX3_isSideOf (E : EN) (o0 : Nat) (a1 : Int32) (h : TH) (Q : Int32 → TH → Prop) : Prop := (((h 4 o0 0) = a1 → Q 1 h) ∧ (¬ (h 4 o0 0) = a1 → ((¬ (h 4 o0 1) = a1 → Q 0 h) ∧ ((h 4 o0 1) = a1 → Q 1 h))))
set_option maxRecDepth 20000 in
theorem sX3_isSideOf {E : EN} {o0 : Nat} {a1 : Int32} {h : TH} {Q : Int32 → TH → Prop} (ho0 : o0 < 10) (hS : SX3_isSideOf E o0 a1 h Q) : wi E MX3_isSideOf Q 0 [some (rf 4 o0), some (.int a1)] [] h := by
  refine q_ald0 dX3_isSideOf_0 (wz_getI dX3_isSideOf_1 cf3 t81 (kf := 0) gi_4_0 ho0 rfl (q_ild1 dX3_isSideOf_4 ?_))
  refine wz_icmp_eq (tgt := 16) dX3_isSideOf_5 rfl (fun c1 => ?_) (fun c1 => ?_)
  · replace hS := hS.1 c1
    refine wz_iconst dX3_isSideOf_16 kiconst_1 (wz_goto (tgt := 21) dX3_isSideOf_17 rfl ?_)
    exact wi_zret dX3_isSideOf_21 rfl (isB_nar isB_1) hS
  · replace hS := hS.2 c1
    refine q_ald0 dX3_isSideOf_8 (wz_getI dX3_isSideOf_9 cf3 t82 (kf := 1) gi_4_1 ho0 rfl (q_ild1 dX3_isSideOf_12 ?_))
    refine wz_icmp_ne (tgt := 20) dX3_isSideOf_13 rfl (fun c2 => ?_) (fun c2 => ?_)
    · replace hS := hS.1 c2
      refine wz_iconst dX3_isSideOf_20 kiconst_0 ?_
      exact wi_zret dX3_isSideOf_21 rfl (isB_nar isB_0) hS
    · replace hS := hS.2 c2
      refine wz_iconst dX3_isSideOf_16 kiconst_1 (wz_goto (tgt := 21) dX3_isSideOf_17 rfl ?_)
      exact wi_zret dX3_isSideOf_21 rfl (isB_nar isB_1) hS
def SX3_detail (E : EN) (o0 : Nat) (a1 : Int32) (h : TH) (Q : Int32 → TH → Prop) : Prop := ((a1 = (0 : Int32) → Q (h 4 o0 0) h) ∧ (a1 = (1 : Int32) → Q (h 4 o0 1) h) ∧ (a1 = (2 : Int32) → Q (h 4 o0 5) h) ∧ (a1 = (3 : Int32) → Q (h 4 o0 6) h) ∧ (a1 = (4 : Int32) → SX3_owing E o0 h (fun r7 h6 => Q r7 h6)) ∧ (a1 = (5 : Int32) → Q (h 4 o0 7) h) ∧ (a1 = (6 : Int32) → SX3_open E o0 h (fun r11 h10 => Q r11 h10)) ∧ (a1 = (7 : Int32) → Q (h 4 o0 4) h) ∧ (a1 = (8 : Int32) → Q (h 4 o0 2) h) ∧ (a1 = (9 : Int32) → Q (h 4 o0 8) h) ∧ (a1 = (10 : Int32) → Q (h 4 o0 9) h) ∧ (a1 = (11 : Int32) → Q (h 4 o0 10) h) ∧ (a1 = (12 : Int32) → Q (h 4 o0 11) h) ∧ (¬ a1 = (0 : Int32) → ¬ a1 = (1 : Int32) → ¬ a1 = (2 : Int32) → ¬ a1 = (3 : Int32) → ¬ a1 = (4 : Int32) → ¬ a1 = (5 : Int32) → ¬ a1 = (6 : Int32) → ¬ a1 = (7 : Int32) → ¬ a1 = (8 : Int32) → ¬ a1 = (9 : Int32) → ¬ a1 = (10 : Int32) → ¬ a1 = (11 : Int32) → ¬ a1 = (12 : Int32) → Q (h 4 o0 12) h))
set_option maxRecDepth 20000 in
theorem sX3_detail {E : EN} {o0 : Nat} {a1 : Int32} {h : TH} {Q : Int32 → TH → Prop} (ho0 : o0 < 10) (hS : SX3_detail E o0 a1 h Q) : wi E MX3_detail Q 0 [some (rf 4 o0), some (.int a1)] [] h := by
  refine q_ild1 dX3_detail_0 ?_
  by_cases q1 : a1 = (0 : Int32)
  · refine wz_tab1 (tgt := 68) (j := 0) dX3_detail_1 (by rw [q1]; decide) (by decide) (by decide) rfl rfl ?_
    replace hS := hS.1 q1
    refine q_ald0 dX3_detail_68 (wz_getI dX3_detail_69 cf3 t81 (kf := 0) gi_4_0 ho0 rfl ?_)
    exact wi_ret dX3_detail_72 rfl hS
  by_cases q2 : a1 = (1 : Int32)
  · refine wz_tab1 (tgt := 73) (j := 1) dX3_detail_1 (by rw [q2]; decide) (by decide) (by decide) rfl rfl ?_
    replace hS := hS.2.1 q2
    refine q_ald0 dX3_detail_73 (wz_getI dX3_detail_74 cf3 t82 (kf := 1) gi_4_1 ho0 rfl ?_)
    exact wi_ret dX3_detail_77 rfl hS
  by_cases q3 : a1 = (2 : Int32)
  · refine wz_tab1 (tgt := 78) (j := 2) dX3_detail_1 (by rw [q3]; decide) (by decide) (by decide) rfl rfl ?_
    replace hS := hS.2.2.1 q3
    refine q_ald0 dX3_detail_78 (wz_getI dX3_detail_79 cf3 t49 (kf := 5) gi_4_5 ho0 rfl ?_)
    exact wi_ret dX3_detail_82 rfl hS
  by_cases q4 : a1 = (3 : Int32)
  · refine wz_tab1 (tgt := 83) (j := 3) dX3_detail_1 (by rw [q4]; decide) (by decide) (by decide) rfl rfl ?_
    replace hS := hS.2.2.2.1 q4
    refine q_ald0 dX3_detail_83 (wz_getI dX3_detail_84 cf3 t50 (kf := 6) gi_4_6 ho0 rfl ?_)
    exact wi_ret dX3_detail_87 rfl hS
  by_cases q5 : a1 = (4 : Int32)
  · refine wz_tab1 (tgt := 88) (j := 4) dX3_detail_1 (by rw [q5]; decide) (by decide) (by decide) rfl rfl ?_
    replace hS := hS.2.2.2.2.1 q5
    refine q_ald0 dX3_detail_88 ?_
    refine wz_virtI (M := MX3_detail) (pc := 89) (M' := MX3_owing) (n := 0) (As := []) (st := []) dX3_detail_89 cf3 rfl go_4 ho0 rfl cat_ okX3_detail_X3_owing cwX3_57 (Nat.le_of_ble_eq_true rfl) ⟨Nat.zero_le _, Nat.zero_le _⟩ rfl (ls0 := [some (rf 4 o0)]) rfl (sX3_owing ho0 hS) (fun r7 h6 hS => ?_)
    exact wi_ret dX3_detail_92 rfl hS
  by_cases q8 : a1 = (5 : Int32)
  · refine wz_tab1 (tgt := 93) (j := 5) dX3_detail_1 (by rw [q8]; decide) (by decide) (by decide) rfl rfl ?_
    replace hS := hS.2.2.2.2.2.1 q8
    refine q_ald0 dX3_detail_93 (wz_getI dX3_detail_94 cf3 t51 (kf := 7) gi_4_7 ho0 rfl ?_)
    exact wi_ret dX3_detail_97 rfl hS
  by_cases q9 : a1 = (6 : Int32)
  · refine wz_tab1 (tgt := 98) (j := 6) dX3_detail_1 (by rw [q9]; decide) (by decide) (by decide) rfl rfl ?_
    replace hS := hS.2.2.2.2.2.2.1 q9
    refine q_ald0 dX3_detail_98 ?_
    refine wz_virtI (M := MX3_detail) (pc := 99) (M' := MX3_open) (n := 0) (As := []) (st := []) dX3_detail_99 cf3 rfl go_4 ho0 rfl cat_ okX3_detail_X3_open cwX3_61 (Nat.le_of_ble_eq_true rfl) ⟨Nat.zero_le _, Nat.zero_le _⟩ rfl (ls0 := [some (rf 4 o0)]) rfl (sX3_open ho0 hS) (fun r11 h10 hS => ?_)
    exact wi_ret dX3_detail_102 rfl hS
  by_cases q12 : a1 = (7 : Int32)
  · refine wz_tab1 (tgt := 103) (j := 7) dX3_detail_1 (by rw [q12]; decide) (by decide) (by decide) rfl rfl ?_
    replace hS := hS.2.2.2.2.2.2.2.1 q12
    refine q_ald0 dX3_detail_103 (wz_getI dX3_detail_104 cf3 t85 (kf := 4) gi_4_4 ho0 rfl ?_)
    exact wi_ret dX3_detail_107 rfl hS
  by_cases q13 : a1 = (8 : Int32)
  · refine wz_tab1 (tgt := 108) (j := 8) dX3_detail_1 (by rw [q13]; decide) (by decide) (by decide) rfl rfl ?_
    replace hS := hS.2.2.2.2.2.2.2.2.1 q13
    refine q_ald0 dX3_detail_108 (wz_getI dX3_detail_109 cf3 t86 (kf := 2) gi_4_2 ho0 rfl ?_)
    exact wi_ret dX3_detail_112 rfl hS
  by_cases q14 : a1 = (9 : Int32)
  · refine wz_tab1 (tgt := 113) (j := 9) dX3_detail_1 (by rw [q14]; decide) (by decide) (by decide) rfl rfl ?_
    replace hS := hS.2.2.2.2.2.2.2.2.2.1 q14
    refine q_ald0 dX3_detail_113 (wz_getI dX3_detail_114 cf3 t87 (kf := 8) gi_4_8 ho0 rfl ?_)
    exact wi_ret dX3_detail_117 rfl hS
  by_cases q15 : a1 = (10 : Int32)
  · refine wz_tab1 (tgt := 118) (j := 10) dX3_detail_1 (by rw [q15]; decide) (by decide) (by decide) rfl rfl ?_
    replace hS := hS.2.2.2.2.2.2.2.2.2.2.1 q15
    refine q_ald0 dX3_detail_118 (wz_getI dX3_detail_119 cf3 t79 (kf := 9) gi_4_9 ho0 rfl ?_)
    exact wi_ret dX3_detail_122 rfl hS
  by_cases q16 : a1 = (11 : Int32)
  · refine wz_tab1 (tgt := 123) (j := 11) dX3_detail_1 (by rw [q16]; decide) (by decide) (by decide) rfl rfl ?_
    replace hS := hS.2.2.2.2.2.2.2.2.2.2.2.1 q16
    refine q_ald0 dX3_detail_123 (wz_getI dX3_detail_124 cf3 t88 (kf := 10) gi_4_10 ho0 rfl ?_)
    exact wi_ret dX3_detail_127 rfl hS
  by_cases q17 : a1 = (12 : Int32)
  · refine wz_tab1 (tgt := 128) (j := 12) dX3_detail_1 (by rw [q17]; decide) (by decide) (by decide) rfl rfl ?_
    replace hS := hS.2.2.2.2.2.2.2.2.2.2.2.2.1 q17
    refine q_ald0 dX3_detail_128 (wz_getI dX3_detail_129 cf3 t80 (kf := 11) gi_4_11 ho0 rfl ?_)
    exact wi_ret dX3_detail_132 rfl hS
  refine wz_tabD (tgt := 133) dX3_detail_1 (tab_out (lo := 0) (n := 13) (by decide) (by decide) (fun j hj => match j, hj with | 0, _ => fun z => q1 (Int32.toInt_inj.mp (z.trans (by decide))) | 1, _ => fun z => q2 (Int32.toInt_inj.mp (z.trans (by decide))) | 2, _ => fun z => q3 (Int32.toInt_inj.mp (z.trans (by decide))) | 3, _ => fun z => q4 (Int32.toInt_inj.mp (z.trans (by decide))) | 4, _ => fun z => q5 (Int32.toInt_inj.mp (z.trans (by decide))) | 5, _ => fun z => q8 (Int32.toInt_inj.mp (z.trans (by decide))) | 6, _ => fun z => q9 (Int32.toInt_inj.mp (z.trans (by decide))) | 7, _ => fun z => q12 (Int32.toInt_inj.mp (z.trans (by decide))) | 8, _ => fun z => q13 (Int32.toInt_inj.mp (z.trans (by decide))) | 9, _ => fun z => q14 (Int32.toInt_inj.mp (z.trans (by decide))) | 10, _ => fun z => q15 (Int32.toInt_inj.mp (z.trans (by decide))) | 11, _ => fun z => q16 (Int32.toInt_inj.mp (z.trans (by decide))) | 12, _ => fun z => q17 (Int32.toInt_inj.mp (z.trans (by decide))) | j + 13, hj => absurd hj (by omega))) rfl ?_
  replace hS := hS.2.2.2.2.2.2.2.2.2.2.2.2.2 q1 q2 q3 q4 q5 q8 q9 q12 q13 q14 q15 q16 q17
  refine q_ald0 dX3_detail_133 (wz_getI dX3_detail_134 cf3 t89 (kf := 12) gi_4_12 ho0 rfl ?_)
  exact wi_ret dX3_detail_137 rfl hS
def SX4_has (E : EN) (a1 : Int32) (h : TH) (Q : Int32 → TH → Prop) : Prop := SX6_within E a1 0 ((h 8 0 3) - 1) h (fun r2 h1 => (isB r2 ∧ Q r2 h1))
set_option maxRecDepth 20000 in
theorem sX4_has {E : EN} {a1 : Int32} {h : TH} {Q : Int32 → TH → Prop}  (hS : SX4_has E a1 h Q) : wi E MX4_has Q 0 [some (rf 8 0), some (.int a1)] [] h := by
  refine q_ild1 dX4_has_0 (wz_iconst dX4_has_1 kiconst_0 (q_ald0 dX4_has_2 (wz_getI dX4_has_3 cf4 t90 (kf := 3) gi_8_3 gc_8 rfl (wz_iconst dX4_has_6 kiconst_1 (wz_isub dX4_has_7 ?_)))))
  refine wz_nestI (M := MX4_has) (pc := 8) (M' := MX6_within) (n := 3) (As := [.int a1, .int 0, .int ((h 8 0 3) - 1)]) (st := []) dX4_has_8 rfl cat_iii okX4_has_X6_within cwX4_39 (Nat.le_of_ble_eq_true rfl) ⟨Nat.zero_le _, Nat.zero_le _⟩ rfl (ls0 := [some (.int a1), some (.int 0), some (.int ((h 8 0 3) - 1))]) rfl (sX6_within  hS) (fun r2 h1 hS => ?_)
  exact wi_zret dX4_has_11 rfl (isB_nar hS.1) hS.2
def SX4_enter (E : EN) (a1 : Int32) (a2 : Int32) (a3 : Int32) (h : TH) (Q : Int32 → TH → Prop) : Prop := vp_in (h 8 0 3) 16 ∧ Q (((h 8 0 3) + 1) - 1) (up (up (up (up h 11 ((h 8 0 3).toNatClampNeg) 0 a1) 11 ((h 8 0 3).toNatClampNeg) 1 a2) 11 ((h 8 0 3).toNatClampNeg) 2 a3) 8 0 3 ((h 8 0 3) + 1))
set_option maxRecDepth 20000 in
theorem sX4_enter {E : EN} {a1 : Int32} {a2 : Int32} {a3 : Int32} {h : TH} {Q : Int32 → TH → Prop}  (hS : SX4_enter E a1 a2 a3 h Q) : wi E MX4_enter Q 0 [some (rf 8 0), some (.int a1), some (.int a2), some (.int a3), none] [] h := by
  refine q_ald0 dX4_enter_0 (wz_getR dX4_enter_1 cf4 t91 (kf := 2) gr_8_2 gc_8 (q_ald0 dX4_enter_4 (wz_getI dX4_enter_5 cf4 t90 (kf := 3) gi_8_3 gc_8 rfl ?_)))
  obtain ⟨hi1, hS⟩ := hS
  refine wz_aald (t := 11) dX4_enter_8 gq_10 gc_10 hi1 (q_ast4 dX4_enter_9 (ltX4_enter_4) rfl (q_ald4 dX4_enter_11 (q_ild1 dX4_enter_13 (wz_putI dX4_enter_14 cf2 t92 (kf := 0) gp_11_0 (vp_lt hi1) rfl (q_ald4 dX4_enter_17 (q_ild2 dX4_enter_19 (wz_putI dX4_enter_20 cf2 t93 (kf := 1) gp_11_1 (vp_lt hi1) rfl ?_)))))))
  refine wz_pc (pc2 := 23) rfl ?_
  refine q_ald4 dX4_enter_23 (q_ild3 dX4_enter_25 (wz_putI dX4_enter_26 cf2 t94 (kf := 2) gp_11_2 (vp_lt hi1) rfl (q_ald0 dX4_enter_29 (wz_dup dX4_enter_30 rfl (wz_getI (v := (h 8 0 3)) dX4_enter_31 cf4 t90 (kf := 3) gi_8_3 gc_8 (by first | rfl | simp [up]) (wz_iconst dX4_enter_34 kiconst_1 (wz_iadd dX4_enter_35 ?_)))))))
  refine wz_pc (pc2 := 36) rfl ?_
  refine wz_putI dX4_enter_36 cf4 t90 (kf := 3) gp_8_3 gc_8 rfl (q_ald0 dX4_enter_39 (wz_getI (v := ((h 8 0 3) + 1)) dX4_enter_40 cf4 t90 (kf := 3) gi_8_3 gc_8 (by first | rfl | simp [up]) (wz_iconst dX4_enter_43 kiconst_1 (wz_isub dX4_enter_44 ?_))))
  exact wi_ret dX4_enter_45 rfl hS
def SX4_lateness (E : EN) (a1 : Int32) (a2 : Int32) (a3 : Int32) (a4 : Int32) (h : TH) (Q : Int32 → TH → Prop) : Prop := ((a2 = (-1) → Q 0 h) ∧ (¬ a2 = (-1) → vp_in a4 6 ∧ (((a2 + (h 9 0 (a4.toNatClampNeg))) < a1 → ((a1 ≤ (a3 + (h 9 0 (a4.toNatClampNeg))) → Q 1 h) ∧ (¬ a1 ≤ (a3 + (h 9 0 (a4.toNatClampNeg))) → Q 2 h))) ∧ (¬ (a2 + (h 9 0 (a4.toNatClampNeg))) < a1 → Q 0 h))))
set_option maxRecDepth 20000 in
theorem sX4_lateness {E : EN} {a1 : Int32} {a2 : Int32} {a3 : Int32} {a4 : Int32} {h : TH} {Q : Int32 → TH → Prop}  (hS : SX4_lateness E a1 a2 a3 a4 h Q) : wi E MX4_lateness Q 0 [some (rf 8 0), some (.int a1), some (.int a2), some (.int a3), some (.int a4)] [] h := by
  refine q_ild2 dX4_lateness_0 (wz_iconst dX4_lateness_1 kiconst_m1 ?_)
  refine wz_icmp_eq (tgt := 18) dX4_lateness_2 rfl (fun c1 => ?_) (fun c1 => ?_)
  · replace hS := hS.1 c1
    refine wz_iconst dX4_lateness_18 kiconst_0 ?_
    exact wi_ret dX4_lateness_19 rfl hS
  · replace hS := hS.2 c1
    refine q_ild1 dX4_lateness_5 (q_ild2 dX4_lateness_6 (q_ald0 dX4_lateness_7 (wz_getR dX4_lateness_8 cf4 t95 (kf := 1) gr_8_1 gc_8 (q_ild4 dX4_lateness_11 ?_))))
    obtain ⟨hi2, hS⟩ := hS
    refine wz_iald dX4_lateness_13 ga_9 gc_9 hi2 rfl (wz_iadd dX4_lateness_14 ?_)
    refine wz_icmp_gt (tgt := 20) dX4_lateness_15 rfl (fun c3 => ?_) (fun c3 => ?_)
    · replace hS := hS.1 c3
      refine q_ild1 dX4_lateness_20 (q_ild3 dX4_lateness_21 (q_ald0 dX4_lateness_22 (wz_getR dX4_lateness_23 cf4 t95 (kf := 1) gr_8_1 gc_8 (q_ild4 dX4_lateness_26 (wz_iald dX4_lateness_28 ga_9 gc_9 hi2 rfl (wz_iadd dX4_lateness_29 ?_))))))
      refine wz_icmp_le (tgt := 37) dX4_lateness_30 rfl (fun c4 => ?_) (fun c4 => ?_)
      · replace hS := hS.1 c4
        refine wz_iconst dX4_lateness_37 kiconst_1 ?_
        exact wi_ret dX4_lateness_38 rfl hS
      · replace hS := hS.2 c4
        refine wz_iconst dX4_lateness_33 kiconst_2 (wz_goto (tgt := 38) dX4_lateness_34 rfl ?_)
        exact wi_ret dX4_lateness_38 rfl hS
    · replace hS := hS.2 c3
      refine wz_iconst dX4_lateness_18 kiconst_0 ?_
      exact wi_ret dX4_lateness_19 rfl hS
def SX4_noticeBar (E : EN) (o1 : Nat) (h : TH) (Q : Int32 → TH → Prop) : Prop := ((2 ≤ (h 4 o1 4) → ((¬ (h 4 o1 8) = (-1) → SX4_lateness E (h 4 o1 8) (h 4 o1 9) (h 4 o1 10) 0 h (fun r4 h3 => Q r4 h3)) ∧ ((h 4 o1 8) = (-1) → Q 2 h))) ∧ (¬ 2 ≤ (h 4 o1 4) → Q 0 h))
set_option maxRecDepth 20000 in
theorem sX4_noticeBar {E : EN} {o1 : Nat} {h : TH} {Q : Int32 → TH → Prop} (ho1 : o1 < 10) (hS : SX4_noticeBar E o1 h Q) : wi E MX4_noticeBar Q 0 [some (rf 8 0), some (rf 4 o1)] [] h := by
  refine q_ald1 dX4_noticeBar_0 (wz_getI dX4_noticeBar_1 cf3 t96 (kf := 4) gi_4_4 ho1 rfl (wz_iconst dX4_noticeBar_4 kiconst_2 ?_))
  refine wz_icmp_ge (tgt := 10) dX4_noticeBar_5 rfl (fun c1 => ?_) (fun c1 => ?_)
  · replace hS := hS.1 c1
    refine q_ald1 dX4_noticeBar_10 (wz_getI dX4_noticeBar_11 cf3 t97 (kf := 8) gi_4_8 ho1 rfl (wz_iconst dX4_noticeBar_14 kiconst_m1 ?_))
    refine wz_icmp_ne (tgt := 20) dX4_noticeBar_15 rfl (fun c2 => ?_) (fun c2 => ?_)
    · replace hS := hS.1 c2
      refine q_ald0 dX4_noticeBar_20 (q_ald1 dX4_noticeBar_21 (wz_getI dX4_noticeBar_22 cf3 t97 (kf := 8) gi_4_8 ho1 rfl (q_ald1 dX4_noticeBar_25 (wz_getI dX4_noticeBar_26 cf3 t98 (kf := 9) gi_4_9 ho1 rfl (q_ald1 dX4_noticeBar_29 (wz_getI dX4_noticeBar_30 cf3 t99 (kf := 10) gi_4_10 ho1 rfl (wz_iconst dX4_noticeBar_33 kiconst_0 ?_)))))))
      refine wz_pc (pc2 := 34) rfl ?_
      refine wz_virtI (M := MX4_noticeBar) (pc := 34) (M' := MX4_lateness) (n := 4) (As := [.int (h 4 o1 8), .int (h 4 o1 9), .int (h 4 o1 10), .int 0]) (st := []) dX4_noticeBar_34 cf4 rfl go_8 gc_8 rfl cat_iiii okX4_noticeBar_X4_lateness cwX4_70 (Nat.le_of_ble_eq_true rfl) ⟨Nat.zero_le _, Nat.zero_le _⟩ rfl (ls0 := [some (rf 8 0), some (.int (h 4 o1 8)), some (.int (h 4 o1 9)), some (.int (h 4 o1 10)), some (.int 0)]) rfl (sX4_lateness  hS) (fun r4 h3 hS => ?_)
      exact wi_ret dX4_noticeBar_37 rfl hS
    · replace hS := hS.2 c2
      refine wz_iconst dX4_noticeBar_18 kiconst_2 ?_
      exact wi_ret dX4_noticeBar_19 rfl hS
  · replace hS := hS.2 c1
    refine wz_iconst dX4_noticeBar_8 kiconst_0 ?_
    exact wi_ret dX4_noticeBar_9 rfl hS
def SX4_isSuitLost (E : EN) (o1 : Nat) (a2 : Int32) (h : TH) (Q : Int32 → TH → Prop) : Prop := (((h 11 o1 3) = (-1) → ((a2 ≤ ((h 11 o1 2) + (h 9 0 2)) → Q 0 h) ∧ (¬ a2 ≤ ((h 11 o1 2) + (h 9 0 2)) → Q 1 h))) ∧ (¬ (h 11 o1 3) = (-1) → ((((h 11 o1 2) + (h 9 0 2)) < (h 11 o1 3) → ((a2 ≤ ((h 11 o1 2) + (h 9 0 2)) → Q 0 h) ∧ (¬ a2 ≤ ((h 11 o1 2) + (h 9 0 2)) → Q 1 h))) ∧ (¬ ((h 11 o1 2) + (h 9 0 2)) < (h 11 o1 3) → ((a2 ≤ ((h 11 o1 2) + (h 9 0 2)) → Q 0 h) ∧ (¬ a2 ≤ ((h 11 o1 2) + (h 9 0 2)) → Q 0 h))))))
set_option maxRecDepth 20000 in
theorem sX4_isSuitLost {E : EN} {o1 : Nat} {a2 : Int32} {h : TH} {Q : Int32 → TH → Prop} (ho1 : o1 < 16) (hS : SX4_isSuitLost E o1 a2 h Q) : wi E MX4_isSuitLost Q 0 [some (rf 8 0), some (rf 11 o1), some (.int a2), none, none] [] h := by
  refine q_ald1 dX4_isSuitLost_0 (wz_getI dX4_isSuitLost_1 cf2 t94 (kf := 2) gi_11_2 ho1 rfl (q_ald0 dX4_isSuitLost_4 (wz_getR dX4_isSuitLost_5 cf4 t95 (kf := 1) gr_8_1 gc_8 (wz_iconst dX4_isSuitLost_8 kiconst_2 (wz_iald (v := (h 9 0 2)) dX4_isSuitLost_9 ga_9 gc_9 vi_2_6 (congrArg (h 9 0) cl_2) (wz_iadd dX4_isSuitLost_10 (q_ist3 dX4_isSuitLost_11 (ltX4_isSuitLost_3) rfl ?_)))))))
  refine wz_pc (pc2 := 12) rfl ?_
  refine q_ald1 dX4_isSuitLost_12 (wz_getI dX4_isSuitLost_13 cf2 t105 (kf := 3) gi_11_3 ho1 rfl (wz_iconst dX4_isSuitLost_16 kiconst_m1 ?_))
  refine wz_icmp_eq (tgt := 32) dX4_isSuitLost_17 rfl (fun c1 => ?_) (fun c1 => ?_)
  · replace hS := hS.1 c1
    refine wz_iconst dX4_isSuitLost_32 kiconst_0 (q_ist4 dX4_isSuitLost_33 (ltX4_isSuitLost_4) rfl (q_ild2 dX4_isSuitLost_35 (q_ild3 dX4_isSuitLost_36 ?_)))
    refine wz_icmp_le (tgt := 49) dX4_isSuitLost_37 rfl (fun c2 => ?_) (fun c2 => ?_)
    · replace hS := hS.1 c2
      refine wz_iconst dX4_isSuitLost_49 kiconst_0 ?_
      exact wi_zret dX4_isSuitLost_50 rfl (isB_nar isB_0) hS
    · replace hS := hS.2 c2
      refine q_ild4 dX4_isSuitLost_40 ?_
      refine wz_if_ne (tgt := 49) dX4_isSuitLost_42 rfl (fun z => absurd z (by decide)) (fun _ => ?_)
      refine wz_iconst dX4_isSuitLost_45 kiconst_1 (wz_goto (tgt := 50) dX4_isSuitLost_46 rfl ?_)
      exact wi_zret dX4_isSuitLost_50 rfl (isB_nar isB_1) hS
  · replace hS := hS.2 c1
    refine q_ald1 dX4_isSuitLost_20 (wz_getI dX4_isSuitLost_21 cf2 t105 (kf := 3) gi_11_3 ho1 rfl (q_ild3 dX4_isSuitLost_24 ?_))
    refine wz_icmp_gt (tgt := 32) dX4_isSuitLost_25 rfl (fun c3 => ?_) (fun c3 => ?_)
    · replace hS := hS.1 c3
      refine wz_iconst dX4_isSuitLost_32 kiconst_0 (q_ist4 dX4_isSuitLost_33 (ltX4_isSuitLost_4) rfl (q_ild2 dX4_isSuitLost_35 (q_ild3 dX4_isSuitLost_36 ?_)))
      refine wz_icmp_le (tgt := 49) dX4_isSuitLost_37 rfl (fun c4 => ?_) (fun c4 => ?_)
      · replace hS := hS.1 c4
        refine wz_iconst dX4_isSuitLost_49 kiconst_0 ?_
        exact wi_zret dX4_isSuitLost_50 rfl (isB_nar isB_0) hS
      · replace hS := hS.2 c4
        refine q_ild4 dX4_isSuitLost_40 ?_
        refine wz_if_ne (tgt := 49) dX4_isSuitLost_42 rfl (fun z => absurd z (by decide)) (fun _ => ?_)
        refine wz_iconst dX4_isSuitLost_45 kiconst_1 (wz_goto (tgt := 50) dX4_isSuitLost_46 rfl ?_)
        exact wi_zret dX4_isSuitLost_50 rfl (isB_nar isB_1) hS
    · replace hS := hS.2 c3
      refine wz_iconst dX4_isSuitLost_28 kiconst_1 (wz_goto (tgt := 33) dX4_isSuitLost_29 rfl (q_ist4 dX4_isSuitLost_33 (ltX4_isSuitLost_4) rfl (q_ild2 dX4_isSuitLost_35 (q_ild3 dX4_isSuitLost_36 ?_))))
      refine wz_icmp_le (tgt := 49) dX4_isSuitLost_37 rfl (fun c5 => ?_) (fun c5 => ?_)
      · replace hS := hS.1 c5
        refine wz_iconst dX4_isSuitLost_49 kiconst_0 ?_
        exact wi_zret dX4_isSuitLost_50 rfl (isB_nar isB_0) hS
      · replace hS := hS.2 c5
        refine q_ild4 dX4_isSuitLost_40 ?_
        refine wz_if_ne (tgt := 49) dX4_isSuitLost_42 rfl (fun _ => ?_) (fun z => absurd z (by decide))
        refine wz_iconst dX4_isSuitLost_49 kiconst_0 ?_
        exact wi_zret dX4_isSuitLost_50 rfl (isB_nar isB_0) hS
def SX4_barOn (E : EN) (a1 : Int32) (a2 : Int32) (h : TH) (Q : Int32 → TH → Prop) : Prop := vp_in a1 16 ∧ vp_in (h 11 (a1.toNatClampNeg) 0) 10 ∧ SX4_noticeBar E ((h 11 (a1.toNatClampNeg) 0).toNatClampNeg) h (fun r4 h3 => SX4_lateness E (h3 11 (a1.toNatClampNeg) 2) (h3 4 ((h 11 (a1.toNatClampNeg) 0).toNatClampNeg) 11) (h3 4 ((h 11 (a1.toNatClampNeg) 0).toNatClampNeg) 12) 1 h3 (fun r6 h5 => (((h5 4 ((h 11 (a1.toNatClampNeg) 0).toNatClampNeg) 4) ≤ (h5 9 0 3) → ((¬ r4 = 2 → ((¬ r6 = 2 → SX4_isSuitLost E (a1.toNatClampNeg) a2 h5 (fun r11 h10 => ((r11 = 0 → SX3_open E ((h 11 (a1.toNatClampNeg) 0).toNatClampNeg) h10 (fun r14 h13 => ((¬ r14 = 0 → ((¬ r4 = 1 → ((¬ r6 = 1 → Q 0 h13) ∧ (r6 = 1 → Q 13 h13))) ∧ (r4 = 1 → Q 12 h13))) ∧ (r14 = 0 → Q 5 h13)))) ∧ (¬ r11 = 0 → Q 4 h10)))) ∧ (r6 = 2 → Q 3 h5))) ∧ (r4 = 2 → Q 2 h5))) ∧ (¬ (h5 4 ((h 11 (a1.toNatClampNeg) 0).toNatClampNeg) 4) ≤ (h5 9 0 3) → Q 1 h5))))
set_option maxRecDepth 20000 in
theorem sX4_barOn {E : EN} {a1 : Int32} {a2 : Int32} {h : TH} {Q : Int32 → TH → Prop}  (hS : SX4_barOn E a1 a2 h Q) : wi E MX4_barOn Q 0 [some (rf 8 0), some (.int a1), some (.int a2), none, none, none, none] [] h := by
  refine q_ald0 dX4_barOn_0 (wz_getR dX4_barOn_1 cf4 t91 (kf := 2) gr_8_2 gc_8 (q_ild1 dX4_barOn_4 ?_))
  obtain ⟨hi1, hS⟩ := hS
  refine wz_aald (t := 11) dX4_barOn_5 gq_10 gc_10 hi1 (q_ast3 dX4_barOn_6 (ltX4_barOn_3) rfl (q_ald0 dX4_barOn_7 (wz_getR dX4_barOn_8 cf4 t106 (kf := 0) gr_8_0 gc_8 (wz_getR dX4_barOn_11 cf1 t107 (kf := 0) gr_2_0 gc_2 (q_ald3 dX4_barOn_14 (wz_getI dX4_barOn_15 cf2 t92 (kf := 0) gi_11_0 (vp_lt hi1) rfl ?_))))))
  obtain ⟨hi2, hS⟩ := hS
  refine wz_aald (t := 4) dX4_barOn_18 gq_3 gc_3 hi2 (q_ast4 dX4_barOn_19 (ltX4_barOn_4) rfl (q_ald0 dX4_barOn_21 (q_ald4 dX4_barOn_22 ?_)))
  refine wz_virtI (M := MX4_barOn) (pc := 24) (M' := MX4_noticeBar) (n := 1) (As := [rf 4 ((h 11 (a1.toNatClampNeg) 0).toNatClampNeg)]) (st := []) dX4_barOn_24 cf4 rfl go_8 gc_8 rfl cat_r okX4_barOn_X4_noticeBar cwX4_58 (Nat.le_of_ble_eq_true rfl) ⟨Nat.zero_le _, Nat.zero_le _⟩ rfl (ls0 := [some (rf 8 0), some (rf 4 ((h 11 (a1.toNatClampNeg) 0).toNatClampNeg))]) rfl (sX4_noticeBar (vp_lt hi2) hS) (fun r4 h3 hS => ?_)
  refine q_ist5 dX4_barOn_27 (ltX4_barOn_5) rfl (q_ald0 dX4_barOn_29 (q_ald3 dX4_barOn_30 (wz_getI dX4_barOn_31 cf2 t94 (kf := 2) gi_11_2 (vp_lt hi1) rfl (q_ald4 dX4_barOn_34 (wz_getI dX4_barOn_36 cf3 t108 (kf := 11) gi_4_11 (vp_lt hi2) rfl (q_ald4 dX4_barOn_39 (wz_getI dX4_barOn_41 cf3 t109 (kf := 12) gi_4_12 (vp_lt hi2) rfl ?_)))))))
  refine wz_pc (pc2 := 44) rfl ?_
  refine wz_iconst dX4_barOn_44 kiconst_1 ?_
  refine wz_virtI (M := MX4_barOn) (pc := 45) (M' := MX4_lateness) (n := 4) (As := [.int (h3 11 (a1.toNatClampNeg) 2), .int (h3 4 ((h 11 (a1.toNatClampNeg) 0).toNatClampNeg) 11), .int (h3 4 ((h 11 (a1.toNatClampNeg) 0).toNatClampNeg) 12), .int 1]) (st := []) dX4_barOn_45 cf4 rfl go_8 gc_8 rfl cat_iiii okX4_barOn_X4_lateness cwX4_70 (Nat.le_of_ble_eq_true rfl) ⟨Nat.zero_le _, Nat.zero_le _⟩ rfl (ls0 := [some (rf 8 0), some (.int (h3 11 (a1.toNatClampNeg) 2)), some (.int (h3 4 ((h 11 (a1.toNatClampNeg) 0).toNatClampNeg) 11)), some (.int (h3 4 ((h 11 (a1.toNatClampNeg) 0).toNatClampNeg) 12)), some (.int 1)]) rfl (sX4_lateness  hS) (fun r6 h5 hS => ?_)
  refine q_ist6 dX4_barOn_48 (ltX4_barOn_6) rfl (q_ald4 dX4_barOn_50 (wz_getI dX4_barOn_52 cf3 t96 (kf := 4) gi_4_4 (vp_lt hi2) rfl (q_ald0 dX4_barOn_55 (wz_getR dX4_barOn_56 cf4 t95 (kf := 1) gr_8_1 gc_8 (wz_iconst dX4_barOn_59 kiconst_3 (wz_iald (v := (h5 9 0 3)) dX4_barOn_60 ga_9 gc_9 vi_3_6 (congrArg (h5 9 0) cl_3) ?_))))))
  refine wz_icmp_le (tgt := 66) dX4_barOn_61 rfl (fun c7 => ?_) (fun c7 => ?_)
  · replace hS := hS.1 c7
    refine q_ild5 dX4_barOn_66 (wz_iconst dX4_barOn_68 kiconst_2 ?_)
    refine wz_icmp_ne (tgt := 74) dX4_barOn_69 rfl (fun c8 => ?_) (fun c8 => ?_)
    · replace hS := hS.1 c8
      refine q_ild6 dX4_barOn_74 (wz_iconst dX4_barOn_76 kiconst_2 ?_)
      refine wz_icmp_ne (tgt := 82) dX4_barOn_77 rfl (fun c9 => ?_) (fun c9 => ?_)
      · replace hS := hS.1 c9
        refine q_ald0 dX4_barOn_82 (q_ald3 dX4_barOn_83 (q_ild2 dX4_barOn_84 ?_))
        refine wz_virtI (M := MX4_barOn) (pc := 85) (M' := MX4_isSuitLost) (n := 2) (As := [rf 11 (a1.toNatClampNeg), .int a2]) (st := []) dX4_barOn_85 cf4 rfl go_8 gc_8 rfl cat_ri okX4_barOn_X4_isSuitLost cwX4_77 (Nat.le_of_ble_eq_true rfl) ⟨Nat.zero_le _, Nat.zero_le _⟩ rfl (ls0 := [some (rf 8 0), some (rf 11 (a1.toNatClampNeg)), some (.int a2), none, none]) rfl (sX4_isSuitLost (vp_lt hi1) hS) (fun r11 h10 hS => ?_)
        refine wz_if_eq (tgt := 93) dX4_barOn_88 rfl (fun c12 => ?_) (fun c12 => ?_)
        · replace hS := hS.1 c12
          refine q_ald4 dX4_barOn_93 ?_
          refine wz_virtI (M := MX4_barOn) (pc := 95) (M' := MX3_open) (n := 0) (As := []) (st := []) dX4_barOn_95 cf3 rfl go_4 (vp_lt hi2) rfl cat_ okX4_barOn_X3_open cwX4_81 (Nat.le_of_ble_eq_true rfl) ⟨Nat.zero_le _, Nat.zero_le _⟩ rfl (ls0 := [some (rf 4 ((h 11 (a1.toNatClampNeg) 0).toNatClampNeg))]) rfl (sX3_open (vp_lt hi2) hS) (fun r14 h13 hS => ?_)
          refine wz_if_ne (tgt := 103) dX4_barOn_98 rfl (fun c15 => ?_) (fun c15 => ?_)
          · replace hS := hS.1 c15
            refine q_ild5 dX4_barOn_103 (wz_iconst dX4_barOn_105 kiconst_1 ?_)
            refine wz_icmp_ne (tgt := 112) dX4_barOn_106 rfl (fun c16 => ?_) (fun c16 => ?_)
            · replace hS := hS.1 c16
              refine q_ild6 dX4_barOn_112 (wz_iconst dX4_barOn_114 kiconst_1 ?_)
              refine wz_icmp_ne (tgt := 123) dX4_barOn_115 rfl (fun c17 => ?_) (fun c17 => ?_)
              · replace hS := hS.1 c17
                refine wz_iconst dX4_barOn_123 kiconst_0 ?_
                exact wi_ret dX4_barOn_124 rfl hS
              · replace hS := hS.2 c17
                refine wz_bipush dX4_barOn_118 kbipush_13 (wz_goto (tgt := 124) dX4_barOn_120 rfl ?_)
                exact wi_ret dX4_barOn_124 rfl hS
            · replace hS := hS.2 c16
              refine wz_bipush dX4_barOn_109 kbipush_12 ?_
              exact wi_ret dX4_barOn_111 rfl hS
          · replace hS := hS.2 c15
            refine wz_iconst dX4_barOn_101 kiconst_5 ?_
            exact wi_ret dX4_barOn_102 rfl hS
        · replace hS := hS.2 c12
          refine wz_iconst dX4_barOn_91 kiconst_4 ?_
          exact wi_ret dX4_barOn_92 rfl hS
      · replace hS := hS.2 c9
        refine wz_iconst dX4_barOn_80 kiconst_3 ?_
        exact wi_ret dX4_barOn_81 rfl hS
    · replace hS := hS.2 c8
      refine wz_iconst dX4_barOn_72 kiconst_2 ?_
      exact wi_ret dX4_barOn_73 rfl hS
  · replace hS := hS.2 c7
    refine wz_iconst dX4_barOn_64 kiconst_1 ?_
    exact wi_ret dX4_barOn_65 rfl hS
def SX4_verdictOfBar (E : EN) (a0 : Int32) (h : TH) (Q : Int32 → TH → Prop) : Prop := ((¬ a0 = 0 → ((a0 ≤ 10 → Q 0 h) ∧ (¬ a0 ≤ 10 → Q 1 h))) ∧ (a0 = 0 → Q 2 h))
set_option maxRecDepth 20000 in
theorem sX4_verdictOfBar {E : EN} {a0 : Int32} {h : TH} {Q : Int32 → TH → Prop}  (hS : SX4_verdictOfBar E a0 h Q) : wi E MX4_verdictOfBar Q 0 [some (.int a0)] [] h := by
  refine q_ild0 dX4_verdictOfBar_0 ?_
  refine wz_if_ne (tgt := 6) dX4_verdictOfBar_1 rfl (fun c1 => ?_) (fun c1 => ?_)
  · replace hS := hS.1 c1
    refine q_ild0 dX4_verdictOfBar_6 (wz_bipush dX4_verdictOfBar_7 kbipush_10 ?_)
    refine wz_icmp_le (tgt := 16) dX4_verdictOfBar_9 rfl (fun c2 => ?_) (fun c2 => ?_)
    · replace hS := hS.1 c2
      refine wz_iconst dX4_verdictOfBar_16 kiconst_0 ?_
      exact wi_ret dX4_verdictOfBar_17 rfl hS
    · replace hS := hS.2 c2
      refine wz_iconst dX4_verdictOfBar_12 kiconst_1 (wz_goto (tgt := 17) dX4_verdictOfBar_13 rfl ?_)
      exact wi_ret dX4_verdictOfBar_17 rfl hS
  · replace hS := hS.2 c1
    refine wz_iconst dX4_verdictOfBar_4 kiconst_2 ?_
    exact wi_ret dX4_verdictOfBar_5 rfl hS
def SX4_weigh_0 (E : EN) (a1 : Int32) (h : TH) (Q : TH → Prop) : Prop := wv E MX4_weigh Q 2 [some (rf 8 0), some (.int a1), some (.int 0), none, none] [] h
set_option maxRecDepth 20000 in
theorem sX4_weigh_0 {E : EN} {a1 : Int32} {h : TH} {Q : TH → Prop}  (hS : SX4_weigh_0 E a1 h Q) : wv E MX4_weigh Q 0 [some (rf 8 0), some (.int a1), none, none, none] [] h := by
  refine wz_iconst dX4_weigh_0 kiconst_0 (q_ist2 dX4_weigh_1 (ltX4_weigh_2) rfl ?_)
  exact hS
def SX4_weigh_2 (E : EN) (x1 : Int32) (x2 : Int32) (h : TH) (Q : TH → Prop) : Prop := (((h 2 0 1) ≤ x2 → wv E MX4_weigh Q 58 [some (rf 8 0), some (.int x1), some (.int 0), none, none] [] h) ∧ (¬ (h 2 0 1) ≤ x2 → vp_in x2 10 ∧ ((¬ (h 9 0 5) = 1 → wi E MX1_boundOf (fun r5 h4 => wv E MX4_weigh Q 2 [some (rf 8 0), some (.int x1), some (.int (x2 + 1)), none, none] [] (up h4 14 0 (x2.toNatClampNeg) r5)) 0 [some (rf 2 0), some (rf 4 (x2.toNatClampNeg)), some (.int 0), none, none] [] h) ∧ ((h 9 0 5) = 1 → wi E MX1_boundOf (fun r7 h6 => wv E MX4_weigh Q 2 [some (rf 8 0), some (.int x1), some (.int (x2 + 1)), none, none] [] (up h6 14 0 (x2.toNatClampNeg) r7)) 0 [some (rf 2 0), some (rf 4 (x2.toNatClampNeg)), some (.int 1), none, none] [] h))))
set_option maxRecDepth 20000 in
theorem sX4_weigh_2 {E : EN} {x1 : Int32} {x2 : Int32} {h : TH} {Q : TH → Prop}  (hS : SX4_weigh_2 E x1 x2 h Q) : wv E MX4_weigh Q 2 [some (rf 8 0), some (.int x1), some (.int x2), none, none] [] h := by
  refine q_ild2 dX4_weigh_2 (q_ald0 dX4_weigh_3 (wz_getR dX4_weigh_4 cf4 t106 (kf := 0) gr_8_0 gc_8 (wz_getI dX4_weigh_7 cf1 t119 (kf := 1) gi_2_1 gc_2 rfl ?_)))
  refine wz_icmp_ge (tgt := 56) dX4_weigh_10 rfl (fun c1 => ?_) (fun c1 => ?_)
  · replace hS := hS.1 c1
    refine wz_iconst dX4_weigh_56 kiconst_0 (q_ist2 dX4_weigh_57 (ltX4_weigh_2) rfl ?_)
    exact hS
  · replace hS := hS.2 c1
    refine q_ald0 dX4_weigh_13 (wz_getR dX4_weigh_14 cf4 t120 (kf := 6) gr_8_6 gc_8 (q_ild2 dX4_weigh_17 (q_ald0 dX4_weigh_18 (wz_getR dX4_weigh_19 cf4 t106 (kf := 0) gr_8_0 gc_8 (q_ald0 dX4_weigh_22 (wz_getR dX4_weigh_23 cf4 t106 (kf := 0) gr_8_0 gc_8 (wz_getR dX4_weigh_26 cf1 t107 (kf := 0) gr_2_0 gc_2 ?_)))))))
    refine wz_pc (pc2 := 29) rfl ?_
    refine q_ild2 dX4_weigh_29 ?_
    obtain ⟨hi2, hS⟩ := hS
    refine wz_aald (t := 4) dX4_weigh_30 gq_3 gc_3 hi2 (q_ald0 dX4_weigh_31 (wz_getR dX4_weigh_32 cf4 t95 (kf := 1) gr_8_1 gc_8 (wz_iconst dX4_weigh_35 kiconst_5 (wz_iald (v := (h 9 0 5)) dX4_weigh_36 ga_9 gc_9 vi_5_6 (congrArg (h 9 0) cl_5) (wz_iconst dX4_weigh_37 kiconst_1 ?_)))))
    refine wz_icmp_ne (tgt := 45) dX4_weigh_38 rfl (fun c3 => ?_) (fun c3 => ?_)
    · replace hS := hS.1 c3
      refine wz_iconst dX4_weigh_45 kiconst_0 ?_
      refine wz_virtI (M := MX4_weigh) (pc := 46) (M' := MX1_boundOf) (n := 2) (As := [rf 4 (x2.toNatClampNeg), .int 0]) (st := [.int x2, rf 14 0]) dX4_weigh_46 cf1 rfl go_2 gc_2 rfl cat_ri okX4_weigh_X1_boundOf cwX4_98 (Nat.le_of_ble_eq_true rfl) ⟨Nat.zero_le _, Nat.zero_le _⟩ rfl (ls0 := [some (rf 2 0), some (rf 4 (x2.toNatClampNeg)), some (.int 0), none, none]) rfl hS (fun r5 h4 hS => ?_)
      refine wz_iast dX4_weigh_49 ga_14 gc_14 hi2 rfl (q_inc2 (v := (x2 + 1)) dX4_weigh_50 rfl (ltX4_weigh_2) rfl (wz_goto (tgt := 2) dX4_weigh_53 rfl ?_))
      exact hS
    · replace hS := hS.2 c3
      refine wz_iconst dX4_weigh_41 kiconst_1 (wz_goto (tgt := 46) dX4_weigh_42 rfl ?_)
      refine wz_virtI (M := MX4_weigh) (pc := 46) (M' := MX1_boundOf) (n := 2) (As := [rf 4 (x2.toNatClampNeg), .int 1]) (st := [.int x2, rf 14 0]) dX4_weigh_46 cf1 rfl go_2 gc_2 rfl cat_ri okX4_weigh_X1_boundOf cwX4_98 (Nat.le_of_ble_eq_true rfl) ⟨Nat.zero_le _, Nat.zero_le _⟩ rfl (ls0 := [some (rf 2 0), some (rf 4 (x2.toNatClampNeg)), some (.int 1), none, none]) rfl hS (fun r7 h6 hS => ?_)
      refine wz_iast dX4_weigh_49 ga_14 gc_14 hi2 rfl (q_inc2 (v := (x2 + 1)) dX4_weigh_50 rfl (ltX4_weigh_2) rfl (wz_goto (tgt := 2) dX4_weigh_53 rfl ?_))
      exact hS
def SX4_weigh_58 (E : EN) (x1 : Int32) (x2 : Int32) (h : TH) (Q : TH → Prop) : Prop := (((h 8 0 3) ≤ x2 → Q h) ∧ (¬ (h 8 0 3) ≤ x2 → vp_in x2 16 ∧ ((x1 < (h 11 (x2.toNatClampNeg) 2) → wv E MX4_weigh Q 58 [some (rf 8 0), some (.int x1), some (.int (x2 + 1)), none, none] [] (up (up h 12 0 (x2.toNatClampNeg) 0) 13 0 (x2.toNatClampNeg) 0)) ∧ (¬ x1 < (h 11 (x2.toNatClampNeg) 2) → SX4_barOn E x2 x1 h (fun r5 h4 => SX4_verdictOfBar E r5 h4 (fun r7 h6 => ((r7 = 0 → wv E MX4_weigh Q 58 [some (rf 8 0), some (.int x1), some (.int (x2 + 1)), none, none] [] (up (up h6 12 0 (x2.toNatClampNeg) r7) 13 0 (x2.toNatClampNeg) 0)) ∧ (¬ r7 = 0 → vp_in (h6 11 (x2.toNatClampNeg) 0) 10 ∧ wv E MX4_weigh Q 58 [some (rf 8 0), some (.int x1), some (.int (x2 + 1)), none, none] [] (up (up (up (up h6 12 0 (x2.toNatClampNeg) r7) 13 0 (x2.toNatClampNeg) 0) 13 0 (x2.toNatClampNeg) (if (h6 14 0 ((h6 11 (x2.toNatClampNeg) 0).toNatClampNeg)) < (h6 11 (x2.toNatClampNeg) 1) then (h6 14 0 ((h6 11 (x2.toNatClampNeg) 0).toNatClampNeg)) else (h6 11 (x2.toNatClampNeg) 1))) 14 0 ((h6 11 (x2.toNatClampNeg) 0).toNatClampNeg) ((h6 14 0 ((h6 11 (x2.toNatClampNeg) 0).toNatClampNeg)) - (if (h6 14 0 ((h6 11 (x2.toNatClampNeg) 0).toNatClampNeg)) < (h6 11 (x2.toNatClampNeg) 1) then (h6 14 0 ((h6 11 (x2.toNatClampNeg) 0).toNatClampNeg)) else (h6 11 (x2.toNatClampNeg) 1))))))))))))
set_option maxRecDepth 20000 in
theorem sX4_weigh_58 {E : EN} {x1 : Int32} {x2 : Int32} {h : TH} {Q : TH → Prop}  (hS : SX4_weigh_58 E x1 x2 h Q) : wv E MX4_weigh Q 58 [some (rf 8 0), some (.int x1), some (.int x2), none, none] [] h := by
  refine q_ild2 dX4_weigh_58 (q_ald0 dX4_weigh_59 (wz_getI dX4_weigh_60 cf4 t90 (kf := 3) gi_8_3 gc_8 rfl ?_))
  refine wz_icmp_ge (tgt := 174) dX4_weigh_63 rfl (fun c1 => ?_) (fun c1 => ?_)
  · replace hS := hS.1 c1
    exact wv_ret dX4_weigh_174 rfl hS
  · replace hS := hS.2 c1
    refine q_ald0 dX4_weigh_66 (wz_getR dX4_weigh_67 cf4 t91 (kf := 2) gr_8_2 gc_8 (q_ild2 dX4_weigh_70 ?_))
    obtain ⟨hi2, hS⟩ := hS
    refine wz_aald (t := 11) dX4_weigh_71 gq_10 gc_10 hi2 (q_ast3 dX4_weigh_72 (ltX4_weigh_3) rfl (q_ald3 dX4_weigh_73 (wz_getI dX4_weigh_74 cf2 t94 (kf := 2) gi_11_2 (vp_lt hi2) rfl (q_ild1 dX4_weigh_77 ?_))))
    refine wz_icmp_gt (tgt := 85) dX4_weigh_78 rfl (fun c3 => ?_) (fun c3 => ?_)
    · replace hS := hS.1 c3
      refine wz_iconst dX4_weigh_85 kiconst_0 (q_ist4 dX4_weigh_86 (ltX4_weigh_4) rfl (q_ald0 dX4_weigh_88 (wz_getR dX4_weigh_89 cf4 t125 (kf := 4) gr_8_4 gc_8 (q_ild2 dX4_weigh_92 (q_ild4 dX4_weigh_93 ?_)))))
      refine wz_if_eq (tgt := 110) dX4_weigh_95 rfl (fun _ => ?_) (fun z => absurd z (by decide))
      refine wz_iconst dX4_weigh_110 kiconst_0 (wz_iast dX4_weigh_111 ga_12 gc_12 hi2 rfl (q_ald0 dX4_weigh_112 (wz_getR dX4_weigh_113 cf4 t126 (kf := 5) gr_8_5 gc_8 (q_ild2 dX4_weigh_116 (wz_iconst dX4_weigh_117 kiconst_0 (wz_iast dX4_weigh_118 ga_13 gc_13 hi2 rfl (q_ald0 dX4_weigh_119 ?_)))))))
      refine wz_pc (pc2 := 120) rfl ?_
      refine wz_getR dX4_weigh_120 cf4 t125 (kf := 4) gr_8_4 gc_8 (q_ild2 dX4_weigh_123 (wz_iald (v := 0) dX4_weigh_124 ga_12 gc_12 hi2 (by first | rfl | simp [up]) ?_))
      refine wz_if_eq (tgt := 168) dX4_weigh_125 rfl (fun _ => ?_) (fun z => absurd z (by decide))
      refine q_inc2 (v := (x2 + 1)) dX4_weigh_168 rfl (ltX4_weigh_2) rfl (wz_goto (tgt := 58) dX4_weigh_171 rfl ?_)
      exact wz_mask [true, true, true, false, false] rfl hS
    · replace hS := hS.2 c3
      refine wz_iconst dX4_weigh_81 kiconst_1 (wz_goto (tgt := 86) dX4_weigh_82 rfl (q_ist4 dX4_weigh_86 (ltX4_weigh_4) rfl (q_ald0 dX4_weigh_88 (wz_getR dX4_weigh_89 cf4 t125 (kf := 4) gr_8_4 gc_8 (q_ild2 dX4_weigh_92 (q_ild4 dX4_weigh_93 ?_))))))
      refine wz_if_eq (tgt := 110) dX4_weigh_95 rfl (fun z => absurd z (by decide)) (fun _ => ?_)
      refine q_ald0 dX4_weigh_98 (q_ild2 dX4_weigh_99 (q_ild1 dX4_weigh_100 ?_))
      refine wz_virtI (M := MX4_weigh) (pc := 101) (M' := MX4_barOn) (n := 2) (As := [.int x2, .int x1]) (st := [.int x2, rf 12 0]) dX4_weigh_101 cf4 rfl go_8 gc_8 rfl cat_ii okX4_weigh_X4_barOn cwX4_102 (Nat.le_of_ble_eq_true rfl) ⟨Nat.zero_le _, Nat.zero_le _⟩ rfl (ls0 := [some (rf 8 0), some (.int x2), some (.int x1), none, none, none, none]) rfl (sX4_barOn  hS) (fun r5 h4 hS => ?_)
      refine wz_statI (M := MX4_weigh) (pc := 104) (M' := MX4_verdictOfBar) (n := 1) (As := [.int r5]) (st := [.int x2, rf 12 0]) dX4_weigh_104 rfl cat_i okX4_weigh_X4_verdictOfBar cwX4_106 (Nat.le_of_ble_eq_true rfl) ⟨Nat.zero_le _, Nat.zero_le _⟩ rfl (ls0 := [some (.int r5)]) rfl (sX4_verdictOfBar  hS) (fun r7 h6 hS => ?_)
      refine wz_goto (tgt := 111) dX4_weigh_107 rfl (wz_iast dX4_weigh_111 ga_12 gc_12 hi2 rfl (q_ald0 dX4_weigh_112 (wz_getR dX4_weigh_113 cf4 t126 (kf := 5) gr_8_5 gc_8 (q_ild2 dX4_weigh_116 (wz_iconst dX4_weigh_117 kiconst_0 (wz_iast dX4_weigh_118 ga_13 gc_13 hi2 rfl (q_ald0 dX4_weigh_119 ?_)))))))
      refine wz_pc (pc2 := 120) rfl ?_
      refine wz_getR dX4_weigh_120 cf4 t125 (kf := 4) gr_8_4 gc_8 (q_ild2 dX4_weigh_123 (wz_iald (v := r7) dX4_weigh_124 ga_12 gc_12 hi2 (by first | rfl | simp [up]) ?_))
      refine wz_if_eq (tgt := 168) dX4_weigh_125 rfl (fun c8 => ?_) (fun c8 => ?_)
      · replace hS := hS.1 c8
        refine q_inc2 (v := (x2 + 1)) dX4_weigh_168 rfl (ltX4_weigh_2) rfl (wz_goto (tgt := 58) dX4_weigh_171 rfl ?_)
        exact wz_mask [true, true, true, false, false] rfl hS
      · replace hS := hS.2 c8
        refine q_ald0 dX4_weigh_128 (wz_getR dX4_weigh_129 cf4 t126 (kf := 5) gr_8_5 gc_8 (q_ild2 dX4_weigh_132 (q_ald3 dX4_weigh_133 (wz_getI (v := (h6 11 (x2.toNatClampNeg) 1)) dX4_weigh_134 cf2 t93 (kf := 1) gi_11_1 (vp_lt hi2) (by first | rfl | simp [up]) (q_ald0 dX4_weigh_137 (wz_getR dX4_weigh_138 cf4 t120 (kf := 6) gr_8_6 gc_8 (q_ald3 dX4_weigh_141 ?_)))))))
        refine wz_pc (pc2 := 142) rfl ?_
        refine wz_getI (v := (h6 11 (x2.toNatClampNeg) 0)) dX4_weigh_142 cf2 t92 (kf := 0) gi_11_0 (vp_lt hi2) (by first | rfl | simp [up]) ?_
        obtain ⟨hi9, hS⟩ := hS
        refine wz_iald (v := (h6 14 0 ((h6 11 (x2.toNatClampNeg) 0).toNatClampNeg))) dX4_weigh_145 ga_14 gc_14 hi9 (by first | rfl | simp [up]) (wz_min dX4_weigh_146 ⟨t5, t6, t127, t7⟩ ⟨by decide, Nat.le_of_ble_eq_true rfl⟩ ⟨by decide, by decide⟩ (wz_iast dX4_weigh_149 ga_13 gc_13 hi2 rfl (q_ald0 dX4_weigh_150 (wz_getR dX4_weigh_151 cf4 t120 (kf := 6) gr_8_6 gc_8 (q_ald3 dX4_weigh_154 (wz_getI (v := (h6 11 (x2.toNatClampNeg) 0)) dX4_weigh_155 cf2 t92 (kf := 0) gi_11_0 (vp_lt hi2) (by first | rfl | simp [up]) (wz_dup2 dX4_weigh_158 rfl rfl ?_)))))))
        refine wz_pc (pc2 := 159) rfl ?_
        refine wz_iald (v := (h6 14 0 ((h6 11 (x2.toNatClampNeg) 0).toNatClampNeg))) dX4_weigh_159 ga_14 gc_14 hi9 (by first | rfl | simp [up]) (q_ald0 dX4_weigh_160 (wz_getR dX4_weigh_161 cf4 t126 (kf := 5) gr_8_5 gc_8 (q_ild2 dX4_weigh_164 (wz_iald (v := (if (h6 14 0 ((h6 11 (x2.toNatClampNeg) 0).toNatClampNeg)) < (h6 11 (x2.toNatClampNeg) 1) then (h6 14 0 ((h6 11 (x2.toNatClampNeg) 0).toNatClampNeg)) else (h6 11 (x2.toNatClampNeg) 1))) dX4_weigh_165 ga_13 gc_13 hi2 (by first | rfl | simp [up]) (wz_isub dX4_weigh_166 (wz_iast dX4_weigh_167 ga_14 gc_14 hi9 rfl (q_inc2 (v := (x2 + 1)) dX4_weigh_168 rfl (ltX4_weigh_2) rfl ?_)))))))
        refine wz_pc (pc2 := 171) rfl ?_
        refine wz_goto (tgt := 58) dX4_weigh_171 rfl ?_
        exact wz_mask [true, true, true, false, false] rfl hS
def SX4_worthBelow_0 (E : EN) (a1 : Int32) (a2 : Int32) (h : TH) (Q : Int32 → TH → Prop) : Prop := wv E MX4_weigh (fun h1 => wi E MX4_worthBelow Q 10 [some (rf 8 0), some (.int a1), none, some (.int 0), some (.int 0)] [] h1) 0 [some (rf 8 0), some (.int a2), none, none, none] [] h
set_option maxRecDepth 20000 in
theorem sX4_worthBelow_0 {E : EN} {a1 : Int32} {a2 : Int32} {h : TH} {Q : Int32 → TH → Prop}  (hS : SX4_worthBelow_0 E a1 a2 h Q) : wi E MX4_worthBelow Q 0 [some (rf 8 0), some (.int a1), some (.int a2), none, none] [] h := by
  refine q_ald0 dX4_worthBelow_0 (q_ild2 dX4_worthBelow_1 ?_)
  refine wz_virtV (M := MX4_worthBelow) (pc := 2) (M' := MX4_weigh) (n := 1) (As := [.int a2]) (st := []) dX4_worthBelow_2 cf4 rfl go_8 gc_8 rfl cat_i okX4_worthBelow_X4_weigh cwX4_115 (Nat.le_of_ble_eq_true rfl) ⟨Nat.zero_le _, Nat.zero_le _⟩ rfl (ls0 := [some (rf 8 0), some (.int a2), none, none, none]) rfl hS (fun h1 hS => ?_)
  refine wz_iconst dX4_worthBelow_5 kiconst_0 (q_ist3 dX4_worthBelow_6 (ltX4_worthBelow_3) rfl (wz_iconst dX4_worthBelow_7 kiconst_0 (q_ist4 dX4_worthBelow_8 (ltX4_worthBelow_4) rfl ?_)))
  exact wz_mask [true, true, false, true, true] rfl hS
def SX4_worthBelow_10 (E : EN) (x1 : Int32) (x3 : Int32) (x4 : Int32) (h : TH) (Q : Int32 → TH → Prop) : Prop := (((h 8 0 3) ≤ x4 → Q x3 h) ∧ (¬ (h 8 0 3) ≤ x4 → vp_in x4 16 ∧ vp_in (h 11 (x4.toNatClampNeg) 0) 10 ∧ SX3_isBelow E ((h 11 (x4.toNatClampNeg) 0).toNatClampNeg) x1 h (fun r5 h4 => ((r5 = 0 → wi E MX4_worthBelow Q 10 [some (rf 8 0), some (.int x1), none, some (.int x3), some (.int (x4 + 1))] [] h4) ∧ (¬ r5 = 0 → wi E MX4_worthBelow Q 10 [some (rf 8 0), some (.int x1), none, some (.int (x3 + (h4 13 0 (x4.toNatClampNeg)))), some (.int (x4 + 1))] [] h4)))))
set_option maxRecDepth 20000 in
theorem sX4_worthBelow_10 {E : EN} {x1 : Int32} {x3 : Int32} {x4 : Int32} {h : TH} {Q : Int32 → TH → Prop}  (hS : SX4_worthBelow_10 E x1 x3 x4 h Q) : wi E MX4_worthBelow Q 10 [some (rf 8 0), some (.int x1), none, some (.int x3), some (.int x4)] [] h := by
  refine q_ild4 dX4_worthBelow_10 (q_ald0 dX4_worthBelow_12 (wz_getI dX4_worthBelow_13 cf4 t90 (kf := 3) gi_8_3 gc_8 rfl ?_))
  refine wz_icmp_ge (tgt := 60) dX4_worthBelow_16 rfl (fun c1 => ?_) (fun c1 => ?_)
  · replace hS := hS.1 c1
    refine q_ild3 dX4_worthBelow_60 ?_
    exact wi_ret dX4_worthBelow_61 rfl hS
  · replace hS := hS.2 c1
    refine q_ald0 dX4_worthBelow_19 (wz_getR dX4_worthBelow_20 cf4 t106 (kf := 0) gr_8_0 gc_8 (wz_getR dX4_worthBelow_23 cf1 t107 (kf := 0) gr_2_0 gc_2 (q_ald0 dX4_worthBelow_26 (wz_getR dX4_worthBelow_27 cf4 t91 (kf := 2) gr_8_2 gc_8 (q_ild4 dX4_worthBelow_30 ?_)))))
    obtain ⟨hi2, hS⟩ := hS
    refine wz_aald (t := 11) dX4_worthBelow_32 gq_10 gc_10 hi2 (wz_getI dX4_worthBelow_33 cf2 t92 (kf := 0) gi_11_0 (vp_lt hi2) rfl ?_)
    obtain ⟨hi3, hS⟩ := hS
    refine wz_aald (t := 4) dX4_worthBelow_36 gq_3 gc_3 hi3 (q_ild1 dX4_worthBelow_37 ?_)
    refine wz_virtI (M := MX4_worthBelow) (pc := 38) (M' := MX3_isBelow) (n := 1) (As := [.int x1]) (st := []) dX4_worthBelow_38 cf3 rfl go_4 (vp_lt hi3) rfl cat_i okX4_worthBelow_X3_isBelow cwX4_119 (Nat.le_of_ble_eq_true rfl) ⟨Nat.zero_le _, Nat.zero_le _⟩ rfl (ls0 := [some (rf 4 ((h 11 (x4.toNatClampNeg) 0).toNatClampNeg)), some (.int x1)]) rfl (sX3_isBelow (vp_lt hi3) hS) (fun r5 h4 hS => ?_)
    refine wz_if_eq (tgt := 54) dX4_worthBelow_41 rfl (fun c6 => ?_) (fun c6 => ?_)
    · replace hS := hS.1 c6
      refine q_inc4 (v := (x4 + 1)) dX4_worthBelow_54 rfl (ltX4_worthBelow_4) rfl (wz_goto (tgt := 10) dX4_worthBelow_57 rfl ?_)
      exact hS
    · replace hS := hS.2 c6
      refine q_ild3 dX4_worthBelow_44 (q_ald0 dX4_worthBelow_45 (wz_getR dX4_worthBelow_46 cf4 t126 (kf := 5) gr_8_5 gc_8 (q_ild4 dX4_worthBelow_49 (wz_iald dX4_worthBelow_51 ga_13 gc_13 hi2 rfl (wz_iadd dX4_worthBelow_52 (q_ist3 dX4_worthBelow_53 (ltX4_worthBelow_3) rfl (q_inc4 (v := (x4 + 1)) dX4_worthBelow_54 rfl (ltX4_worthBelow_4) rfl ?_)))))))
      refine wz_pc (pc2 := 57) rfl ?_
      refine wz_goto (tgt := 10) dX4_worthBelow_57 rfl ?_
      exact hS
def SX4_howManyGood_0 (E : EN) (a1 : Int32) (h : TH) (Q : Int32 → TH → Prop) : Prop := wv E MX4_weigh (fun h1 => wi E MX4_howManyGood Q 9 [some (rf 8 0), none, some (.int 0), some (.int 0)] [] h1) 0 [some (rf 8 0), some (.int a1), none, none, none] [] h
set_option maxRecDepth 20000 in
theorem sX4_howManyGood_0 {E : EN} {a1 : Int32} {h : TH} {Q : Int32 → TH → Prop}  (hS : SX4_howManyGood_0 E a1 h Q) : wi E MX4_howManyGood Q 0 [some (rf 8 0), some (.int a1), none, none] [] h := by
  refine q_ald0 dX4_howManyGood_0 (q_ild1 dX4_howManyGood_1 ?_)
  refine wz_virtV (M := MX4_howManyGood) (pc := 2) (M' := MX4_weigh) (n := 1) (As := [.int a1]) (st := []) dX4_howManyGood_2 cf4 rfl go_8 gc_8 rfl cat_i okX4_howManyGood_X4_weigh cwX4_115 (Nat.le_of_ble_eq_true rfl) ⟨Nat.zero_le _, Nat.zero_le _⟩ rfl (ls0 := [some (rf 8 0), some (.int a1), none, none, none]) rfl hS (fun h1 hS => ?_)
  refine wz_iconst dX4_howManyGood_5 kiconst_0 (q_ist2 dX4_howManyGood_6 (ltX4_howManyGood_2) rfl (wz_iconst dX4_howManyGood_7 kiconst_0 (q_ist3 dX4_howManyGood_8 (ltX4_howManyGood_3) rfl ?_)))
  exact wz_mask [true, false, true, true] rfl hS
def SX4_howManyGood_9 (E : EN) (x2 : Int32) (x3 : Int32) (h : TH) (Q : Int32 → TH → Prop) : Prop := (((h 8 0 3) ≤ x3 → Q x2 h) ∧ (¬ (h 8 0 3) ≤ x3 → vp_in x3 16 ∧ ((¬ (h 12 0 (x3.toNatClampNeg)) = 2 → wi E MX4_howManyGood Q 9 [some (rf 8 0), none, some (.int x2), some (.int (x3 + 1))] [] h) ∧ ((h 12 0 (x3.toNatClampNeg)) = 2 → wi E MX4_howManyGood Q 9 [some (rf 8 0), none, some (.int (x2 + 1)), some (.int (x3 + 1))] [] h))))
set_option maxRecDepth 20000 in
theorem sX4_howManyGood_9 {E : EN} {x2 : Int32} {x3 : Int32} {h : TH} {Q : Int32 → TH → Prop}  (hS : SX4_howManyGood_9 E x2 x3 h Q) : wi E MX4_howManyGood Q 9 [some (rf 8 0), none, some (.int x2), some (.int x3)] [] h := by
  refine q_ild3 dX4_howManyGood_9 (q_ald0 dX4_howManyGood_10 (wz_getI dX4_howManyGood_11 cf4 t90 (kf := 3) gi_8_3 gc_8 rfl ?_))
  refine wz_icmp_ge (tgt := 36) dX4_howManyGood_14 rfl (fun c1 => ?_) (fun c1 => ?_)
  · replace hS := hS.1 c1
    refine q_ild2 dX4_howManyGood_36 ?_
    exact wi_ret dX4_howManyGood_37 rfl hS
  · replace hS := hS.2 c1
    refine q_ald0 dX4_howManyGood_17 (wz_getR dX4_howManyGood_18 cf4 t125 (kf := 4) gr_8_4 gc_8 (q_ild3 dX4_howManyGood_21 ?_))
    obtain ⟨hi2, hS⟩ := hS
    refine wz_iald dX4_howManyGood_22 ga_12 gc_12 hi2 rfl (wz_iconst dX4_howManyGood_23 kiconst_2 ?_)
    refine wz_icmp_ne (tgt := 30) dX4_howManyGood_24 rfl (fun c3 => ?_) (fun c3 => ?_)
    · replace hS := hS.1 c3
      refine q_inc3 (v := (x3 + 1)) dX4_howManyGood_30 rfl (ltX4_howManyGood_3) rfl (wz_goto (tgt := 9) dX4_howManyGood_33 rfl ?_)
      exact hS
    · replace hS := hS.2 c3
      refine q_inc2 (v := (x2 + 1)) dX4_howManyGood_27 rfl (ltX4_howManyGood_2) rfl (q_inc3 (v := (x3 + 1)) dX4_howManyGood_30 rfl (ltX4_howManyGood_3) rfl (wz_goto (tgt := 9) dX4_howManyGood_33 rfl ?_))
      exact hS
def SX4_rankDay (E : EN) (a1 : Int32) (a2 : Int32) (h : TH) (Q : Int32 → TH → Prop) : Prop := vp_in a1 16 ∧ ((¬ (h 9 0 4) = 0 → ((¬ (h 9 0 4) = 1 → Q (h 11 (a1.toNatClampNeg) 2) h) ∧ ((h 9 0 4) = 1 → wi E MX1_firstSpade (fun r5 h4 => Q r5 h4) 0 [some (rf 2 0), some (.int a2), none, none, none] [] h))) ∧ ((h 9 0 4) = 0 → vp_in (h 11 (a1.toNatClampNeg) 0) 10 ∧ ((¬ a2 = 0 → Q (h 4 ((h 11 (a1.toNatClampNeg) 0).toNatClampNeg) 10) h) ∧ (a2 = 0 → Q (h 4 ((h 11 (a1.toNatClampNeg) 0).toNatClampNeg) 9) h))))
set_option maxRecDepth 20000 in
theorem sX4_rankDay {E : EN} {a1 : Int32} {a2 : Int32} {h : TH} {Q : Int32 → TH → Prop}  (hS : SX4_rankDay E a1 a2 h Q) : wi E MX4_rankDay Q 0 [some (rf 8 0), some (.int a1), some (.int a2), none, none] [] h := by
  refine q_ald0 dX4_rankDay_0 (wz_getR dX4_rankDay_1 cf4 t91 (kf := 2) gr_8_2 gc_8 (q_ild1 dX4_rankDay_4 ?_))
  obtain ⟨hi1, hS⟩ := hS
  refine wz_aald (t := 11) dX4_rankDay_5 gq_10 gc_10 hi1 (q_ast3 dX4_rankDay_6 (ltX4_rankDay_3) rfl (q_ald0 dX4_rankDay_7 (wz_getR dX4_rankDay_8 cf4 t95 (kf := 1) gr_8_1 gc_8 (wz_iconst dX4_rankDay_11 kiconst_4 (wz_iald (v := (h 9 0 4)) dX4_rankDay_12 ga_9 gc_9 vi_4_6 (congrArg (h 9 0) cl_4) ?_)))))
  refine wz_if_ne (tgt := 48) dX4_rankDay_13 rfl (fun c2 => ?_) (fun c2 => ?_)
  · replace hS := hS.1 c2
    refine q_ald0 dX4_rankDay_48 (wz_getR dX4_rankDay_49 cf4 t95 (kf := 1) gr_8_1 gc_8 (wz_iconst dX4_rankDay_52 kiconst_4 (wz_iald (v := (h 9 0 4)) dX4_rankDay_53 ga_9 gc_9 vi_4_6 (congrArg (h 9 0) cl_4) (wz_iconst dX4_rankDay_54 kiconst_1 ?_))))
    refine wz_icmp_ne (tgt := 69) dX4_rankDay_55 rfl (fun c3 => ?_) (fun c3 => ?_)
    · replace hS := hS.1 c3
      refine q_ald3 dX4_rankDay_69 (wz_getI dX4_rankDay_70 cf2 t94 (kf := 2) gi_11_2 (vp_lt hi1) rfl ?_)
      exact wi_ret dX4_rankDay_73 rfl hS
    · replace hS := hS.2 c3
      refine q_ald0 dX4_rankDay_58 (wz_getR dX4_rankDay_59 cf4 t106 (kf := 0) gr_8_0 gc_8 (q_ild2 dX4_rankDay_62 ?_))
      refine wz_virtI (M := MX4_rankDay) (pc := 63) (M' := MX1_firstSpade) (n := 1) (As := [.int a2]) (st := []) dX4_rankDay_63 cf1 rfl go_2 gc_2 rfl cat_i okX4_rankDay_X1_firstSpade cwX4_123 (Nat.le_of_ble_eq_true rfl) ⟨Nat.zero_le _, Nat.zero_le _⟩ rfl (ls0 := [some (rf 2 0), some (.int a2), none, none, none]) rfl hS (fun r5 h4 hS => ?_)
      refine wz_goto (tgt := 73) dX4_rankDay_66 rfl ?_
      exact wi_ret dX4_rankDay_73 rfl hS
  · replace hS := hS.2 c2
    refine q_ald0 dX4_rankDay_16 (wz_getR dX4_rankDay_17 cf4 t106 (kf := 0) gr_8_0 gc_8 (wz_getR dX4_rankDay_20 cf1 t107 (kf := 0) gr_2_0 gc_2 (q_ald3 dX4_rankDay_23 (wz_getI dX4_rankDay_24 cf2 t92 (kf := 0) gi_11_0 (vp_lt hi1) rfl ?_))))
    obtain ⟨hi6, hS⟩ := hS
    refine wz_aald (t := 4) dX4_rankDay_27 gq_3 gc_3 hi6 (q_ast4 dX4_rankDay_28 (ltX4_rankDay_4) rfl (q_ild2 dX4_rankDay_30 ?_))
    refine wz_if_ne (tgt := 42) dX4_rankDay_31 rfl (fun c7 => ?_) (fun c7 => ?_)
    · replace hS := hS.1 c7
      refine q_ald4 dX4_rankDay_42 (wz_getI dX4_rankDay_44 cf3 t99 (kf := 10) gi_4_10 (vp_lt hi6) rfl ?_)
      exact wi_ret dX4_rankDay_47 rfl hS
    · replace hS := hS.2 c7
      refine q_ald4 dX4_rankDay_34 (wz_getI dX4_rankDay_36 cf3 t98 (kf := 9) gi_4_9 (vp_lt hi6) rfl (wz_goto (tgt := 47) dX4_rankDay_39 rfl ?_))
      exact wi_ret dX4_rankDay_47 rfl hS
def SX5_record (E : EN) (a1 : Int32) (a2 : Int32) (h : TH) (Q : Int32 → TH → Prop) : Prop := vp_in (h 15 0 3) 6 ∧ Q (((h 15 0 3) + 1) - 1) (up (up (up h 16 0 ((h 15 0 3).toNatClampNeg) a1) 17 0 ((h 15 0 3).toNatClampNeg) a2) 15 0 3 ((h 15 0 3) + 1))
set_option maxRecDepth 20000 in
theorem sX5_record {E : EN} {a1 : Int32} {a2 : Int32} {h : TH} {Q : Int32 → TH → Prop}  (hS : SX5_record E a1 a2 h Q) : wi E MX5_record Q 0 [some (rf 15 0), some (.int a1), some (.int a2)] [] h := by
  refine q_ald0 dX5_record_0 (wz_getR dX5_record_1 cf5 t144 (kf := 1) gr_15_1 gc_15 (q_ald0 dX5_record_4 (wz_getI dX5_record_5 cf5 t145 (kf := 3) gi_15_3 gc_15 rfl (q_ild1 dX5_record_8 ?_))))
  obtain ⟨hi1, hS⟩ := hS
  refine wz_iast dX5_record_9 ga_16 gc_16 hi1 rfl (q_ald0 dX5_record_10 (wz_getR dX5_record_11 cf5 t146 (kf := 2) gr_15_2 gc_15 (q_ald0 dX5_record_14 (wz_getI (v := (h 15 0 3)) dX5_record_15 cf5 t145 (kf := 3) gi_15_3 gc_15 (by first | rfl | simp [up]) (q_ild2 dX5_record_18 (wz_iast dX5_record_19 ga_17 gc_17 hi1 rfl (q_ald0 dX5_record_20 ?_)))))))
  refine wz_pc (pc2 := 21) rfl ?_
  refine wz_dup dX5_record_21 rfl (wz_getI (v := (h 15 0 3)) dX5_record_22 cf5 t145 (kf := 3) gi_15_3 gc_15 (by first | rfl | simp [up]) (wz_iconst dX5_record_25 kiconst_1 (wz_iadd dX5_record_26 (wz_putI dX5_record_27 cf5 t145 (kf := 3) gp_15_3 gc_15 rfl (q_ald0 dX5_record_30 (wz_getI (v := ((h 15 0 3) + 1)) dX5_record_31 cf5 t145 (kf := 3) gi_15_3 gc_15 (by first | rfl | simp [up]) (wz_iconst dX5_record_34 kiconst_1 ?_)))))))
  refine wz_pc (pc2 := 35) rfl ?_
  refine wz_isub dX5_record_35 ?_
  exact wi_ret dX5_record_36 rfl hS
def SX5_loanShare (E : EN) (a1 : Int32) (h : TH) (Q : Int32 → TH → Prop) : Prop := vp_in a1 22 ∧ Q (h 20 0 (a1.toNatClampNeg)) h
set_option maxRecDepth 20000 in
theorem sX5_loanShare {E : EN} {a1 : Int32} {h : TH} {Q : Int32 → TH → Prop}  (hS : SX5_loanShare E a1 h Q) : wi E MX5_loanShare Q 0 [some (rf 15 0), some (.int a1)] [] h := by
  refine q_ald0 dX5_loanShare_0 (wz_getR dX5_loanShare_1 cf5 t147 (kf := 6) gr_15_6 gc_15 (q_ild1 dX5_loanShare_4 ?_))
  obtain ⟨hi1, hS⟩ := hS
  refine wz_iald dX5_loanShare_5 ga_20 gc_20 hi1 rfl ?_
  exact wi_ret dX5_loanShare_6 rfl hS
def SX5_claimShare (E : EN) (a1 : Int32) (h : TH) (Q : Int32 → TH → Prop) : Prop := vp_in (6 + a1) 22 ∧ Q (h 20 0 ((6 + a1).toNatClampNeg)) h
set_option maxRecDepth 20000 in
theorem sX5_claimShare {E : EN} {a1 : Int32} {h : TH} {Q : Int32 → TH → Prop}  (hS : SX5_claimShare E a1 h Q) : wi E MX5_claimShare Q 0 [some (rf 15 0), some (.int a1)] [] h := by
  refine q_ald0 dX5_claimShare_0 (wz_getR dX5_claimShare_1 cf5 t147 (kf := 6) gr_15_6 gc_15 (wz_bipush dX5_claimShare_4 kbipush_6 (q_ild1 dX5_claimShare_6 (wz_iadd dX5_claimShare_7 ?_))))
  obtain ⟨hi1, hS⟩ := hS
  refine wz_iald dX5_claimShare_8 ga_20 gc_20 hi1 rfl ?_
  exact wi_ret dX5_claimShare_9 rfl hS
def SX5_enterLoans_0 (E : EN)  (h : TH) (Q : TH → Prop) : Prop := wv E MX5_enterLoans Q 2 [some (rf 15 0), some (.int 0)] [] h
set_option maxRecDepth 20000 in
theorem sX5_enterLoans_0 {E : EN}  {h : TH} {Q : TH → Prop}  (hS : SX5_enterLoans_0 E  h Q) : wv E MX5_enterLoans Q 0 [some (rf 15 0), none] [] h := by
  refine wz_iconst dX5_enterLoans_0 kiconst_0 (q_ist1 dX5_enterLoans_1 (ltX5_enterLoans_1) rfl ?_)
  exact hS
def SX5_enterLoans_2 (E : EN) (x1 : Int32) (h : TH) (Q : TH → Prop) : Prop := ((6 ≤ x1 → Q h) ∧ (¬ 6 ≤ x1 → (((h 15 0 3) ≤ x1 → vp_in x1 22 ∧ vp_in x1 6 ∧ wv E MX5_enterLoans Q 2 [some (rf 15 0), some (.int (x1 + 1))] [] (up (up (up h 18 0 (x1.toNatClampNeg) (-1)) 19 0 (x1.toNatClampNeg) (h 16 0 (x1.toNatClampNeg))) 20 0 (x1.toNatClampNeg) 0)) ∧ (¬ (h 15 0 3) ≤ x1 → vp_in x1 6 ∧ vp_in x1 22 ∧ wv E MX5_enterLoans Q 2 [some (rf 15 0), some (.int (x1 + 1))] [] (up (up (up h 18 0 (x1.toNatClampNeg) (h 17 0 (x1.toNatClampNeg))) 19 0 (x1.toNatClampNeg) (h 16 0 (x1.toNatClampNeg))) 20 0 (x1.toNatClampNeg) 0)))))
set_option maxRecDepth 20000 in
theorem sX5_enterLoans_2 {E : EN} {x1 : Int32} {h : TH} {Q : TH → Prop}  (hS : SX5_enterLoans_2 E x1 h Q) : wv E MX5_enterLoans Q 2 [some (rf 15 0), some (.int x1)] [] h := by
  refine q_ild1 dX5_enterLoans_2 (wz_bipush dX5_enterLoans_3 kbipush_6 ?_)
  refine wz_icmp_ge (tgt := 57) dX5_enterLoans_5 rfl (fun c1 => ?_) (fun c1 => ?_)
  · replace hS := hS.1 c1
    exact wv_ret dX5_enterLoans_57 rfl hS
  · replace hS := hS.2 c1
    refine q_ald0 dX5_enterLoans_8 (wz_getR dX5_enterLoans_9 cf5 t148 (kf := 4) gr_15_4 gc_15 (q_ild1 dX5_enterLoans_12 (q_ild1 dX5_enterLoans_13 (q_ald0 dX5_enterLoans_14 (wz_getI dX5_enterLoans_15 cf5 t145 (kf := 3) gi_15_3 gc_15 rfl ?_)))))
    refine wz_icmp_ge (tgt := 30) dX5_enterLoans_18 rfl (fun c2 => ?_) (fun c2 => ?_)
    · replace hS := hS.1 c2
      refine wz_iconst dX5_enterLoans_30 kiconst_m1 ?_
      obtain ⟨hi3, hS⟩ := hS
      refine wz_iast dX5_enterLoans_31 ga_18 gc_18 hi3 rfl (q_ald0 dX5_enterLoans_32 (wz_getR dX5_enterLoans_33 cf5 t149 (kf := 5) gr_15_5 gc_15 (q_ild1 dX5_enterLoans_36 (q_ald0 dX5_enterLoans_37 (wz_getR dX5_enterLoans_38 cf5 t144 (kf := 1) gr_15_1 gc_15 (q_ild1 dX5_enterLoans_41 ?_))))))
      obtain ⟨hi4, hS⟩ := hS
      refine wz_iald (v := (h 16 0 (x1.toNatClampNeg))) dX5_enterLoans_42 ga_16 gc_16 hi4 (by first | rfl | simp [up]) (wz_iast dX5_enterLoans_43 ga_19 gc_19 hi3 rfl (q_ald0 dX5_enterLoans_44 (wz_getR dX5_enterLoans_45 cf5 t147 (kf := 6) gr_15_6 gc_15 (q_ild1 dX5_enterLoans_48 (wz_iconst dX5_enterLoans_49 kiconst_0 (wz_iast dX5_enterLoans_50 ga_20 gc_20 hi3 rfl (q_inc1 (v := (x1 + 1)) dX5_enterLoans_51 rfl (ltX5_enterLoans_1) rfl ?_)))))))
      refine wz_pc (pc2 := 54) rfl ?_
      refine wz_goto (tgt := 2) dX5_enterLoans_54 rfl ?_
      exact hS
    · replace hS := hS.2 c2
      refine q_ald0 dX5_enterLoans_21 (wz_getR dX5_enterLoans_22 cf5 t146 (kf := 2) gr_15_2 gc_15 (q_ild1 dX5_enterLoans_25 ?_))
      obtain ⟨hi5, hS⟩ := hS
      refine wz_iald dX5_enterLoans_26 ga_17 gc_17 hi5 rfl (wz_goto (tgt := 31) dX5_enterLoans_27 rfl ?_)
      obtain ⟨hi6, hS⟩ := hS
      refine wz_iast dX5_enterLoans_31 ga_18 gc_18 hi6 rfl (q_ald0 dX5_enterLoans_32 (wz_getR dX5_enterLoans_33 cf5 t149 (kf := 5) gr_15_5 gc_15 (q_ild1 dX5_enterLoans_36 (q_ald0 dX5_enterLoans_37 (wz_getR dX5_enterLoans_38 cf5 t144 (kf := 1) gr_15_1 gc_15 (q_ild1 dX5_enterLoans_41 (wz_iald (v := (h 16 0 (x1.toNatClampNeg))) dX5_enterLoans_42 ga_16 gc_16 hi5 (by first | rfl | simp [up]) ?_)))))))
      refine wz_pc (pc2 := 43) rfl ?_
      refine wz_iast dX5_enterLoans_43 ga_19 gc_19 hi6 rfl (q_ald0 dX5_enterLoans_44 (wz_getR dX5_enterLoans_45 cf5 t147 (kf := 6) gr_15_6 gc_15 (q_ild1 dX5_enterLoans_48 (wz_iconst dX5_enterLoans_49 kiconst_0 (wz_iast dX5_enterLoans_50 ga_20 gc_20 hi6 rfl (q_inc1 (v := (x1 + 1)) dX5_enterLoans_51 rfl (ltX5_enterLoans_1) rfl (wz_goto (tgt := 2) dX5_enterLoans_54 rfl ?_)))))))
      exact hS
def SX5_enterClaims_0 (E : EN) (a1 : Int32) (a2 : Int32) (h : TH) (Q : TH → Prop) : Prop := wv E MX4_weigh (fun h1 => ((¬ a1 = 0 → wv E MX5_enterClaims Q 21 [some (rf 15 0), some (.int a1), none, some (.int 2), some (.int 0), none, none] [] h1) ∧ (a1 = 0 → wv E MX5_enterClaims Q 21 [some (rf 15 0), some (.int a1), none, some (.int 1), some (.int 0), none, none] [] h1))) 0 [some (rf 8 0), some (.int a2), none, none, none] [] h
set_option maxRecDepth 20000 in
theorem sX5_enterClaims_0 {E : EN} {a1 : Int32} {a2 : Int32} {h : TH} {Q : TH → Prop}  (hS : SX5_enterClaims_0 E a1 a2 h Q) : wv E MX5_enterClaims Q 0 [some (rf 15 0), some (.int a1), some (.int a2), none, none, none, none] [] h := by
  refine q_ald0 dX5_enterClaims_0 (wz_getR dX5_enterClaims_1 cf5 t150 (kf := 0) gr_15_0 gc_15 (q_ild2 dX5_enterClaims_4 ?_))
  refine wz_virtV (M := MX5_enterClaims) (pc := 5) (M' := MX4_weigh) (n := 1) (As := [.int a2]) (st := []) dX5_enterClaims_5 cf4 rfl go_8 gc_8 rfl cat_i okX5_enterClaims_X4_weigh cwX5_53 (Nat.le_of_ble_eq_true rfl) ⟨Nat.zero_le _, Nat.zero_le _⟩ rfl (ls0 := [some (rf 8 0), some (.int a2), none, none, none]) rfl hS (fun h1 hS => ?_)
  refine q_ild1 dX5_enterClaims_8 ?_
  refine wz_if_ne (tgt := 16) dX5_enterClaims_9 rfl (fun c3 => ?_) (fun c3 => ?_)
  · replace hS := hS.1 c3
    refine wz_iconst dX5_enterClaims_16 kiconst_2 (q_ist3 dX5_enterClaims_17 (ltX5_enterClaims_3) rfl (wz_iconst dX5_enterClaims_18 kiconst_0 (q_ist4 dX5_enterClaims_19 (ltX5_enterClaims_4) rfl ?_)))
    exact wz_mask [true, true, false, true, true, true, true] rfl hS
  · replace hS := hS.2 c3
    refine wz_iconst dX5_enterClaims_12 kiconst_1 (wz_goto (tgt := 17) dX5_enterClaims_13 rfl (q_ist3 dX5_enterClaims_17 (ltX5_enterClaims_3) rfl (wz_iconst dX5_enterClaims_18 kiconst_0 (q_ist4 dX5_enterClaims_19 (ltX5_enterClaims_4) rfl ?_))))
    exact wz_mask [true, true, false, true, true, true, true] rfl hS
def SX5_enterClaims_21 (E : EN) (x1 : Int32) (x3 : Int32) (x4 : Int32) (h : TH) (Q : TH → Prop) : Prop := ((16 ≤ x4 → Q h) ∧ (¬ 16 ≤ x4 → SX4_has E x4 h (fun r3 h2 => ((r3 = 0 → vp_in (6 + x4) 22 ∧ vp_in x4 16 ∧ wv E MX5_enterClaims Q 21 [some (rf 15 0), some (.int x1), none, some (.int x3), some (.int (x4 + 1)), none, none] [] (up (up (up h2 18 0 ((6 + x4).toNatClampNeg) (-1)) 19 0 ((6 + x4).toNatClampNeg) (h2 13 0 (x4.toNatClampNeg))) 20 0 ((6 + x4).toNatClampNeg) 0)) ∧ (¬ r3 = 0 → vp_in x4 16 ∧ ((¬ (h2 11 (x4.toNatClampNeg) 4) = 0 → vp_in (6 + x4) 22 ∧ wv E MX5_enterClaims Q 21 [some (rf 15 0), some (.int x1), none, some (.int x3), some (.int (x4 + 1)), none, none] [] (up (up (up h2 18 0 ((6 + x4).toNatClampNeg) (-1)) 19 0 ((6 + x4).toNatClampNeg) (h2 13 0 (x4.toNatClampNeg))) 20 0 ((6 + x4).toNatClampNeg) 0)) ∧ ((h2 11 (x4.toNatClampNeg) 4) = 0 → (((h2 12 0 (x4.toNatClampNeg)) < x3 → vp_in (6 + x4) 22 ∧ wv E MX5_enterClaims Q 21 [some (rf 15 0), some (.int x1), none, some (.int x3), some (.int (x4 + 1)), none, none] [] (up (up (up h2 18 0 ((6 + x4).toNatClampNeg) (-1)) 19 0 ((6 + x4).toNatClampNeg) (h2 13 0 (x4.toNatClampNeg))) 20 0 ((6 + x4).toNatClampNeg) 0)) ∧ (¬ (h2 12 0 (x4.toNatClampNeg)) < x3 → SX4_rankDay E x4 x1 h2 (fun r13 h12 => vp_in (6 + x4) 22 ∧ wv E MX5_enterClaims Q 21 [some (rf 15 0), some (.int x1), none, some (.int x3), some (.int (x4 + 1)), none, none] [] (up (up (up h12 18 0 ((6 + x4).toNatClampNeg) r13) 19 0 ((6 + x4).toNatClampNeg) (h12 13 0 (x4.toNatClampNeg))) 20 0 ((6 + x4).toNatClampNeg) 0)))))))))))
set_option maxRecDepth 20000 in
theorem sX5_enterClaims_21 {E : EN} {x1 : Int32} {x3 : Int32} {x4 : Int32} {h : TH} {Q : TH → Prop}  (hS : SX5_enterClaims_21 E x1 x3 x4 h Q) : wv E MX5_enterClaims Q 21 [some (rf 15 0), some (.int x1), none, some (.int x3), some (.int x4), none, none] [] h := by
  refine q_ild4 dX5_enterClaims_21 (wz_bipush dX5_enterClaims_23 kbipush_16 ?_)
  refine wz_icmp_ge (tgt := 141) dX5_enterClaims_25 rfl (fun c1 => ?_) (fun c1 => ?_)
  · replace hS := hS.1 c1
    exact wv_ret dX5_enterClaims_141 rfl hS
  · replace hS := hS.2 c1
    refine wz_bipush dX5_enterClaims_28 kbipush_6 (q_ild4 dX5_enterClaims_30 (wz_iadd dX5_enterClaims_32 (q_ist5 dX5_enterClaims_33 (ltX5_enterClaims_5) rfl (q_ald0 dX5_enterClaims_35 (wz_getR dX5_enterClaims_36 cf5 t150 (kf := 0) gr_15_0 gc_15 (q_ild4 dX5_enterClaims_39 ?_))))))
    refine wz_virtI (M := MX5_enterClaims) (pc := 41) (M' := MX4_has) (n := 1) (As := [.int x4]) (st := []) dX5_enterClaims_41 cf4 rfl go_8 gc_8 rfl cat_i okX5_enterClaims_X4_has cwX5_58 (Nat.le_of_ble_eq_true rfl) ⟨Nat.zero_le _, Nat.zero_le _⟩ rfl (ls0 := [some (rf 8 0), some (.int x4)]) rfl (sX4_has  hS) (fun r3 h2 hS => ?_)
    refine wz_if_eq (tgt := 81) dX5_enterClaims_44 rfl (fun c4 => ?_) (fun c4 => ?_)
    · replace hS := hS.1 c4
      refine wz_iconst dX5_enterClaims_81 kiconst_0 (q_ist6 dX5_enterClaims_82 (ltX5_enterClaims_6) rfl (q_ald0 dX5_enterClaims_84 (wz_getR dX5_enterClaims_85 cf5 t148 (kf := 4) gr_15_4 gc_15 (q_ild5 dX5_enterClaims_88 (q_ild6 dX5_enterClaims_90 ?_)))))
      refine wz_if_eq (tgt := 108) dX5_enterClaims_92 rfl (fun _ => ?_) (fun z => absurd z (by decide))
      refine wz_iconst dX5_enterClaims_108 kiconst_m1 ?_
      obtain ⟨hi5, hS⟩ := hS
      refine wz_iast dX5_enterClaims_109 ga_18 gc_18 hi5 rfl (q_ald0 dX5_enterClaims_110 (wz_getR dX5_enterClaims_111 cf5 t149 (kf := 5) gr_15_5 gc_15 (q_ild5 dX5_enterClaims_114 (q_ald0 dX5_enterClaims_116 (wz_getR dX5_enterClaims_117 cf5 t150 (kf := 0) gr_15_0 gc_15 (wz_getR dX5_enterClaims_120 cf4 t152 (kf := 5) gr_8_5 gc_8 (q_ild4 dX5_enterClaims_123 ?_)))))))
      refine wz_pc (pc2 := 125) rfl ?_
      obtain ⟨hi6, hS⟩ := hS
      refine wz_iald (v := (h2 13 0 (x4.toNatClampNeg))) dX5_enterClaims_125 ga_13 gc_13 hi6 (by first | rfl | simp [up]) (wz_iast dX5_enterClaims_126 ga_19 gc_19 hi5 rfl (q_ald0 dX5_enterClaims_127 (wz_getR dX5_enterClaims_128 cf5 t147 (kf := 6) gr_15_6 gc_15 (q_ild5 dX5_enterClaims_131 (wz_iconst dX5_enterClaims_133 kiconst_0 (wz_iast dX5_enterClaims_134 ga_20 gc_20 hi5 rfl (q_inc4 (v := (x4 + 1)) dX5_enterClaims_135 rfl (ltX5_enterClaims_4) rfl ?_)))))))
      refine wz_pc (pc2 := 138) rfl ?_
      refine wz_goto (tgt := 21) dX5_enterClaims_138 rfl ?_
      exact wz_mask [true, true, true, true, true, false, false] rfl hS
    · replace hS := hS.2 c4
      refine q_ald0 dX5_enterClaims_47 (wz_getR dX5_enterClaims_48 cf5 t150 (kf := 0) gr_15_0 gc_15 (wz_getR dX5_enterClaims_51 cf4 t153 (kf := 2) gr_8_2 gc_8 (q_ild4 dX5_enterClaims_54 ?_)))
      obtain ⟨hi7, hS⟩ := hS
      refine wz_aald (t := 11) dX5_enterClaims_56 gq_10 gc_10 hi7 (wz_getI dX5_enterClaims_57 cf2 t154 (kf := 4) gi_11_4 (vp_lt hi7) rfl ?_)
      refine wz_if_ne (tgt := 81) dX5_enterClaims_60 rfl (fun c8 => ?_) (fun c8 => ?_)
      · replace hS := hS.1 c8
        refine wz_iconst dX5_enterClaims_81 kiconst_0 (q_ist6 dX5_enterClaims_82 (ltX5_enterClaims_6) rfl (q_ald0 dX5_enterClaims_84 (wz_getR dX5_enterClaims_85 cf5 t148 (kf := 4) gr_15_4 gc_15 (q_ild5 dX5_enterClaims_88 (q_ild6 dX5_enterClaims_90 ?_)))))
        refine wz_if_eq (tgt := 108) dX5_enterClaims_92 rfl (fun _ => ?_) (fun z => absurd z (by decide))
        refine wz_iconst dX5_enterClaims_108 kiconst_m1 ?_
        obtain ⟨hi9, hS⟩ := hS
        refine wz_iast dX5_enterClaims_109 ga_18 gc_18 hi9 rfl (q_ald0 dX5_enterClaims_110 (wz_getR dX5_enterClaims_111 cf5 t149 (kf := 5) gr_15_5 gc_15 (q_ild5 dX5_enterClaims_114 (q_ald0 dX5_enterClaims_116 (wz_getR dX5_enterClaims_117 cf5 t150 (kf := 0) gr_15_0 gc_15 (wz_getR dX5_enterClaims_120 cf4 t152 (kf := 5) gr_8_5 gc_8 (q_ild4 dX5_enterClaims_123 ?_)))))))
        refine wz_pc (pc2 := 125) rfl ?_
        refine wz_iald (v := (h2 13 0 (x4.toNatClampNeg))) dX5_enterClaims_125 ga_13 gc_13 hi7 (by first | rfl | simp [up]) (wz_iast dX5_enterClaims_126 ga_19 gc_19 hi9 rfl (q_ald0 dX5_enterClaims_127 (wz_getR dX5_enterClaims_128 cf5 t147 (kf := 6) gr_15_6 gc_15 (q_ild5 dX5_enterClaims_131 (wz_iconst dX5_enterClaims_133 kiconst_0 (wz_iast dX5_enterClaims_134 ga_20 gc_20 hi9 rfl (q_inc4 (v := (x4 + 1)) dX5_enterClaims_135 rfl (ltX5_enterClaims_4) rfl ?_)))))))
        refine wz_pc (pc2 := 138) rfl ?_
        refine wz_goto (tgt := 21) dX5_enterClaims_138 rfl ?_
        exact wz_mask [true, true, true, true, true, false, false] rfl hS
      · replace hS := hS.2 c8
        refine q_ald0 dX5_enterClaims_63 (wz_getR dX5_enterClaims_64 cf5 t150 (kf := 0) gr_15_0 gc_15 (wz_getR dX5_enterClaims_67 cf4 t155 (kf := 4) gr_8_4 gc_8 (q_ild4 dX5_enterClaims_70 (wz_iald dX5_enterClaims_72 ga_12 gc_12 hi7 rfl (q_ild3 dX5_enterClaims_73 ?_)))))
        refine wz_icmp_lt (tgt := 81) dX5_enterClaims_74 rfl (fun c10 => ?_) (fun c10 => ?_)
        · replace hS := hS.1 c10
          refine wz_iconst dX5_enterClaims_81 kiconst_0 (q_ist6 dX5_enterClaims_82 (ltX5_enterClaims_6) rfl (q_ald0 dX5_enterClaims_84 (wz_getR dX5_enterClaims_85 cf5 t148 (kf := 4) gr_15_4 gc_15 (q_ild5 dX5_enterClaims_88 (q_ild6 dX5_enterClaims_90 ?_)))))
          refine wz_if_eq (tgt := 108) dX5_enterClaims_92 rfl (fun _ => ?_) (fun z => absurd z (by decide))
          refine wz_iconst dX5_enterClaims_108 kiconst_m1 ?_
          obtain ⟨hi11, hS⟩ := hS
          refine wz_iast dX5_enterClaims_109 ga_18 gc_18 hi11 rfl (q_ald0 dX5_enterClaims_110 (wz_getR dX5_enterClaims_111 cf5 t149 (kf := 5) gr_15_5 gc_15 (q_ild5 dX5_enterClaims_114 (q_ald0 dX5_enterClaims_116 (wz_getR dX5_enterClaims_117 cf5 t150 (kf := 0) gr_15_0 gc_15 (wz_getR dX5_enterClaims_120 cf4 t152 (kf := 5) gr_8_5 gc_8 (q_ild4 dX5_enterClaims_123 ?_)))))))
          refine wz_pc (pc2 := 125) rfl ?_
          refine wz_iald (v := (h2 13 0 (x4.toNatClampNeg))) dX5_enterClaims_125 ga_13 gc_13 hi7 (by first | rfl | simp [up]) (wz_iast dX5_enterClaims_126 ga_19 gc_19 hi11 rfl (q_ald0 dX5_enterClaims_127 (wz_getR dX5_enterClaims_128 cf5 t147 (kf := 6) gr_15_6 gc_15 (q_ild5 dX5_enterClaims_131 (wz_iconst dX5_enterClaims_133 kiconst_0 (wz_iast dX5_enterClaims_134 ga_20 gc_20 hi11 rfl (q_inc4 (v := (x4 + 1)) dX5_enterClaims_135 rfl (ltX5_enterClaims_4) rfl ?_)))))))
          refine wz_pc (pc2 := 138) rfl ?_
          refine wz_goto (tgt := 21) dX5_enterClaims_138 rfl ?_
          exact wz_mask [true, true, true, true, true, false, false] rfl hS
        · replace hS := hS.2 c10
          refine wz_iconst dX5_enterClaims_77 kiconst_1 (wz_goto (tgt := 82) dX5_enterClaims_78 rfl (q_ist6 dX5_enterClaims_82 (ltX5_enterClaims_6) rfl (q_ald0 dX5_enterClaims_84 (wz_getR dX5_enterClaims_85 cf5 t148 (kf := 4) gr_15_4 gc_15 (q_ild5 dX5_enterClaims_88 (q_ild6 dX5_enterClaims_90 ?_))))))
          refine wz_if_eq (tgt := 108) dX5_enterClaims_92 rfl (fun z => absurd z (by decide)) (fun _ => ?_)
          refine q_ald0 dX5_enterClaims_95 (wz_getR dX5_enterClaims_96 cf5 t150 (kf := 0) gr_15_0 gc_15 (q_ild4 dX5_enterClaims_99 (q_ild1 dX5_enterClaims_101 ?_)))
          refine wz_virtI (M := MX5_enterClaims) (pc := 102) (M' := MX4_rankDay) (n := 2) (As := [.int x4, .int x1]) (st := [.int (6 + x4), rf 18 0]) dX5_enterClaims_102 cf4 rfl go_8 gc_8 rfl cat_ii okX5_enterClaims_X4_rankDay cwX5_74 (Nat.le_of_ble_eq_true rfl) ⟨Nat.zero_le _, Nat.zero_le _⟩ rfl (ls0 := [some (rf 8 0), some (.int x4), some (.int x1), none, none]) rfl (sX4_rankDay  hS) (fun r13 h12 hS => ?_)
          refine wz_goto (tgt := 109) dX5_enterClaims_105 rfl ?_
          obtain ⟨hi14, hS⟩ := hS
          refine wz_iast dX5_enterClaims_109 ga_18 gc_18 hi14 rfl (q_ald0 dX5_enterClaims_110 (wz_getR dX5_enterClaims_111 cf5 t149 (kf := 5) gr_15_5 gc_15 (q_ild5 dX5_enterClaims_114 (q_ald0 dX5_enterClaims_116 (wz_getR dX5_enterClaims_117 cf5 t150 (kf := 0) gr_15_0 gc_15 (wz_getR dX5_enterClaims_120 cf4 t152 (kf := 5) gr_8_5 gc_8 (q_ild4 dX5_enterClaims_123 ?_)))))))
          refine wz_pc (pc2 := 125) rfl ?_
          refine wz_iald (v := (h12 13 0 (x4.toNatClampNeg))) dX5_enterClaims_125 ga_13 gc_13 hi7 (by first | rfl | simp [up]) (wz_iast dX5_enterClaims_126 ga_19 gc_19 hi14 rfl (q_ald0 dX5_enterClaims_127 (wz_getR dX5_enterClaims_128 cf5 t147 (kf := 6) gr_15_6 gc_15 (q_ild5 dX5_enterClaims_131 (wz_iconst dX5_enterClaims_133 kiconst_0 (wz_iast dX5_enterClaims_134 ga_20 gc_20 hi14 rfl (q_inc4 (v := (x4 + 1)) dX5_enterClaims_135 rfl (ltX5_enterClaims_4) rfl ?_)))))))
          refine wz_pc (pc2 := 138) rfl ?_
          refine wz_goto (tgt := 21) dX5_enterClaims_138 rfl ?_
          exact wz_mask [true, true, true, true, true, false, false] rfl hS
def SX5_rankAfter_0 (E : EN) (a1 : Int32) (h : TH) (Q : Int32 → TH → Prop) : Prop := wi E MX5_rankAfter Q 4 [some (rf 15 0), some (.int a1), some (.int (-1)), some (.int 0)] [] h
set_option maxRecDepth 20000 in
theorem sX5_rankAfter_0 {E : EN} {a1 : Int32} {h : TH} {Q : Int32 → TH → Prop}  (hS : SX5_rankAfter_0 E a1 h Q) : wi E MX5_rankAfter Q 0 [some (rf 15 0), some (.int a1), none, none] [] h := by
  refine wz_iconst dX5_rankAfter_0 kiconst_m1 (q_ist2 dX5_rankAfter_1 (ltX5_rankAfter_2) rfl (wz_iconst dX5_rankAfter_2 kiconst_0 (q_ist3 dX5_rankAfter_3 (ltX5_rankAfter_3) rfl ?_)))
  exact hS
def SX5_rankAfter_4 (E : EN) (x1 : Int32) (x2 : Int32) (x3 : Int32) (h : TH) (Q : Int32 → TH → Prop) : Prop := ((22 ≤ x3 → Q x2 h) ∧ (¬ 22 ≤ x3 → vp_in x3 22 ∧ (((h 18 0 (x3.toNatClampNeg)) ≤ x1 → wi E MX5_rankAfter Q 4 [some (rf 15 0), some (.int x1), some (.int x2), some (.int (x3 + 1))] [] h) ∧ (¬ (h 18 0 (x3.toNatClampNeg)) ≤ x1 → ((x2 = (-1) → wi E MX5_rankAfter Q 4 [some (rf 15 0), some (.int x1), some (.int (h 18 0 (x3.toNatClampNeg))), some (.int (x3 + 1))] [] h) ∧ (¬ x2 = (-1) → ((x2 ≤ (h 18 0 (x3.toNatClampNeg)) → wi E MX5_rankAfter Q 4 [some (rf 15 0), some (.int x1), some (.int x2), some (.int (x3 + 1))] [] h) ∧ (¬ x2 ≤ (h 18 0 (x3.toNatClampNeg)) → wi E MX5_rankAfter Q 4 [some (rf 15 0), some (.int x1), some (.int (h 18 0 (x3.toNatClampNeg))), some (.int (x3 + 1))] [] h))))))))
set_option maxRecDepth 20000 in
theorem sX5_rankAfter_4 {E : EN} {x1 : Int32} {x2 : Int32} {x3 : Int32} {h : TH} {Q : Int32 → TH → Prop}  (hS : SX5_rankAfter_4 E x1 x2 x3 h Q) : wi E MX5_rankAfter Q 4 [some (rf 15 0), some (.int x1), some (.int x2), some (.int x3)] [] h := by
  refine q_ild3 dX5_rankAfter_4 (wz_bipush dX5_rankAfter_5 kbipush_22 ?_)
  refine wz_icmp_ge (tgt := 48) dX5_rankAfter_7 rfl (fun c1 => ?_) (fun c1 => ?_)
  · replace hS := hS.1 c1
    refine q_ild2 dX5_rankAfter_48 ?_
    exact wi_ret dX5_rankAfter_49 rfl hS
  · replace hS := hS.2 c1
    refine q_ald0 dX5_rankAfter_10 (wz_getR dX5_rankAfter_11 cf5 t148 (kf := 4) gr_15_4 gc_15 (q_ild3 dX5_rankAfter_14 ?_))
    obtain ⟨hi2, hS⟩ := hS
    refine wz_iald dX5_rankAfter_15 ga_18 gc_18 hi2 rfl (q_ild1 dX5_rankAfter_16 ?_)
    refine wz_icmp_le (tgt := 42) dX5_rankAfter_17 rfl (fun c3 => ?_) (fun c3 => ?_)
    · replace hS := hS.1 c3
      refine q_inc3 (v := (x3 + 1)) dX5_rankAfter_42 rfl (ltX5_rankAfter_3) rfl (wz_goto (tgt := 4) dX5_rankAfter_45 rfl ?_)
      exact hS
    · replace hS := hS.2 c3
      refine q_ild2 dX5_rankAfter_20 (wz_iconst dX5_rankAfter_21 kiconst_m1 ?_)
      refine wz_icmp_eq (tgt := 35) dX5_rankAfter_22 rfl (fun c4 => ?_) (fun c4 => ?_)
      · replace hS := hS.1 c4
        refine q_ald0 dX5_rankAfter_35 (wz_getR dX5_rankAfter_36 cf5 t148 (kf := 4) gr_15_4 gc_15 (q_ild3 dX5_rankAfter_39 (wz_iald dX5_rankAfter_40 ga_18 gc_18 hi2 rfl (q_ist2 dX5_rankAfter_41 (ltX5_rankAfter_2) rfl (q_inc3 (v := (x3 + 1)) dX5_rankAfter_42 rfl (ltX5_rankAfter_3) rfl (wz_goto (tgt := 4) dX5_rankAfter_45 rfl ?_))))))
        exact hS
      · replace hS := hS.2 c4
        refine q_ald0 dX5_rankAfter_25 (wz_getR dX5_rankAfter_26 cf5 t148 (kf := 4) gr_15_4 gc_15 (q_ild3 dX5_rankAfter_29 (wz_iald dX5_rankAfter_30 ga_18 gc_18 hi2 rfl (q_ild2 dX5_rankAfter_31 ?_))))
        refine wz_icmp_ge (tgt := 42) dX5_rankAfter_32 rfl (fun c5 => ?_) (fun c5 => ?_)
        · replace hS := hS.1 c5
          refine q_inc3 (v := (x3 + 1)) dX5_rankAfter_42 rfl (ltX5_rankAfter_3) rfl (wz_goto (tgt := 4) dX5_rankAfter_45 rfl ?_)
          exact hS
        · replace hS := hS.2 c5
          refine q_ald0 dX5_rankAfter_35 (wz_getR dX5_rankAfter_36 cf5 t148 (kf := 4) gr_15_4 gc_15 (q_ild3 dX5_rankAfter_39 (wz_iald dX5_rankAfter_40 ga_18 gc_18 hi2 rfl (q_ist2 dX5_rankAfter_41 (ltX5_rankAfter_2) rfl (q_inc3 (v := (x3 + 1)) dX5_rankAfter_42 rfl (ltX5_rankAfter_3) rfl (wz_goto (tgt := 4) dX5_rankAfter_45 rfl ?_))))))
          exact hS
def SX5_shareLeft_0 (E : EN) (a1 : Int32) (a2 : Int32) (h : TH) (Q : TH → Prop) : Prop := wv E MX5_shareLeft Q 9 [some (rf 15 0), some (.int a1), some (.int a2), some (.long ((h 15 0 7 : Int32).toInt64)), none, some (.int 0)] [] h
set_option maxRecDepth 20000 in
theorem sX5_shareLeft_0 {E : EN} {a1 : Int32} {a2 : Int32} {h : TH} {Q : TH → Prop}  (hS : SX5_shareLeft_0 E a1 a2 h Q) : wv E MX5_shareLeft Q 0 [some (rf 15 0), some (.int a1), some (.int a2), none, none, none] [] h := by
  refine q_ald0 dX5_shareLeft_0 (wz_getI dX5_shareLeft_1 cf5 t164 (kf := 7) gi_15_7 gc_15 rfl (wz_i2l dX5_shareLeft_4 (wz_lstore_n (ls2 := [some (rf 15 0), some (.int a1), some (.int a2), some (.long ((h 15 0 7 : Int32).toInt64)), none, none]) dX5_shareLeft_5 (by decide) rfl rfl (wz_iconst dX5_shareLeft_6 kiconst_0 (q_ist5 dX5_shareLeft_7 (ltX5_shareLeft_5) rfl ?_)))))
  exact hS
def SX5_shareLeft_9 (E : EN) (x1 : Int32) (x2 : Int32) (x3 : Int64) (x5 : Int32) (h : TH) (Q : TH → Prop) : Prop := ((22 ≤ x5 → wv E MX5_shareLeft Q 73 [some (rf 15 0), some (.int x1), none, none, none, some (.int 0)] [] h) ∧ (¬ 22 ≤ x5 → vp_in x5 22 ∧ ((¬ (h 18 0 (x5.toNatClampNeg)) = x1 → wv E MX5_shareLeft Q 9 [some (rf 15 0), some (.int x1), some (.int x2), some (.long x3), none, some (.int (x5 + 1))] [] h) ∧ ((h 18 0 (x5.toNatClampNeg)) = x1 → (¬ ((x2 : Int32).toInt64) = (0 : Int64)) ∧ wv E MX5_shareLeft Q 9 [some (rf 15 0), some (.int x1), some (.int x2), some (.long x3), none, some (.int (x5 + 1))] [] (up (up h 20 0 (x5.toNatClampNeg) (((x3 * ((h 19 0 (x5.toNatClampNeg) : Int32).toInt64)) / ((x2 : Int32).toInt64) : Int64).toInt32)) 15 0 7 ((h 15 0 7) - (((x3 * ((h 19 0 (x5.toNatClampNeg) : Int32).toInt64)) / ((x2 : Int32).toInt64) : Int64).toInt32)))))))
set_option maxRecDepth 20000 in
theorem sX5_shareLeft_9 {E : EN} {x1 : Int32} {x2 : Int32} {x3 : Int64} {x5 : Int32} {h : TH} {Q : TH → Prop}  (hS : SX5_shareLeft_9 E x1 x2 x3 x5 h Q) : wv E MX5_shareLeft Q 9 [some (rf 15 0), some (.int x1), some (.int x2), some (.long x3), none, some (.int x5)] [] h := by
  refine q_ild5 dX5_shareLeft_9 (wz_bipush dX5_shareLeft_11 kbipush_22 ?_)
  refine wz_icmp_ge (tgt := 70) dX5_shareLeft_13 rfl (fun c1 => ?_) (fun c1 => ?_)
  · replace hS := hS.1 c1
    refine wz_iconst dX5_shareLeft_70 kiconst_0 (q_ist5 dX5_shareLeft_71 (ltX5_shareLeft_5) rfl ?_)
    exact wz_mask [true, true, false, false, true, true] rfl hS
  · replace hS := hS.2 c1
    refine q_ald0 dX5_shareLeft_16 (wz_getR dX5_shareLeft_17 cf5 t148 (kf := 4) gr_15_4 gc_15 (q_ild5 dX5_shareLeft_20 ?_))
    obtain ⟨hi2, hS⟩ := hS
    refine wz_iald dX5_shareLeft_22 ga_18 gc_18 hi2 rfl (q_ild1 dX5_shareLeft_23 ?_)
    refine wz_icmp_ne (tgt := 64) dX5_shareLeft_24 rfl (fun c3 => ?_) (fun c3 => ?_)
    · replace hS := hS.1 c3
      refine q_inc5 (v := (x5 + 1)) dX5_shareLeft_64 rfl (ltX5_shareLeft_5) rfl (wz_goto (tgt := 9) dX5_shareLeft_67 rfl ?_)
      exact hS
    · replace hS := hS.2 c3
      refine q_ald0 dX5_shareLeft_27 (wz_getR dX5_shareLeft_28 cf5 t147 (kf := 6) gr_15_6 gc_15 (q_ild5 dX5_shareLeft_31 (q_lld3 dX5_shareLeft_33 (q_ald0 dX5_shareLeft_34 (wz_getR dX5_shareLeft_35 cf5 t149 (kf := 5) gr_15_5 gc_15 (q_ild5 dX5_shareLeft_38 (wz_iald dX5_shareLeft_40 ga_19 gc_19 hi2 rfl ?_)))))))
      refine wz_pc (pc2 := 41) rfl ?_
      refine wz_i2l dX5_shareLeft_41 (wz_lmul dX5_shareLeft_42 (q_ild2 dX5_shareLeft_43 (wz_i2l dX5_shareLeft_44 ?_)))
      obtain ⟨hz4, hS⟩ := hS
      refine wz_ldiv dX5_shareLeft_45 hz4 (wz_l2i dX5_shareLeft_46 (wz_iast dX5_shareLeft_47 ga_20 gc_20 hi2 rfl (q_ald0 dX5_shareLeft_48 (wz_dup dX5_shareLeft_49 rfl (wz_getI (v := (h 15 0 7)) dX5_shareLeft_50 cf5 t164 (kf := 7) gi_15_7 gc_15 (by first | rfl | simp [up]) (q_ald0 dX5_shareLeft_53 (wz_getR dX5_shareLeft_54 cf5 t147 (kf := 6) gr_15_6 gc_15 ?_)))))))
      refine wz_pc (pc2 := 57) rfl ?_
      refine q_ild5 dX5_shareLeft_57 (wz_iald (v := (((x3 * ((h 19 0 (x5.toNatClampNeg) : Int32).toInt64)) / ((x2 : Int32).toInt64) : Int64).toInt32)) dX5_shareLeft_59 ga_20 gc_20 hi2 (by first | rfl | simp [up]) (wz_isub dX5_shareLeft_60 (wz_putI dX5_shareLeft_61 cf5 t164 (kf := 7) gp_15_7 gc_15 rfl (q_inc5 (v := (x5 + 1)) dX5_shareLeft_64 rfl (ltX5_shareLeft_5) rfl (wz_goto (tgt := 9) dX5_shareLeft_67 rfl ?_)))))
      exact hS
def SX5_shareLeft_73 (E : EN) (x1 : Int32) (x5 : Int32) (h : TH) (Q : TH → Prop) : Prop := ((22 ≤ x5 → Q h) ∧ (¬ 22 ≤ x5 → (((h 15 0 7) ≤ 0 → Q h) ∧ (¬ (h 15 0 7) ≤ 0 → vp_in x5 22 ∧ ((¬ (h 18 0 (x5.toNatClampNeg)) = x1 → wv E MX5_shareLeft Q 73 [some (rf 15 0), some (.int x1), none, none, none, some (.int (x5 + 1))] [] h) ∧ ((h 18 0 (x5.toNatClampNeg)) = x1 → wv E MX5_shareLeft Q 73 [some (rf 15 0), some (.int x1), none, none, none, some (.int (x5 + 1))] [] (up (up h 20 0 (x5.toNatClampNeg) ((h 20 0 (x5.toNatClampNeg)) + 1)) 15 0 7 ((h 15 0 7) - 1))))))))
set_option maxRecDepth 20000 in
theorem sX5_shareLeft_73 {E : EN} {x1 : Int32} {x5 : Int32} {h : TH} {Q : TH → Prop}  (hS : SX5_shareLeft_73 E x1 x5 h Q) : wv E MX5_shareLeft Q 73 [some (rf 15 0), some (.int x1), none, none, none, some (.int x5)] [] h := by
  refine q_ild5 dX5_shareLeft_73 (wz_bipush dX5_shareLeft_75 kbipush_22 ?_)
  refine wz_icmp_ge (tgt := 125) dX5_shareLeft_77 rfl (fun c1 => ?_) (fun c1 => ?_)
  · replace hS := hS.1 c1
    exact wv_ret dX5_shareLeft_125 rfl hS
  · replace hS := hS.2 c1
    refine q_ald0 dX5_shareLeft_80 (wz_getI dX5_shareLeft_81 cf5 t164 (kf := 7) gi_15_7 gc_15 rfl ?_)
    refine wz_if_le (tgt := 125) dX5_shareLeft_84 rfl (fun c2 => ?_) (fun c2 => ?_)
    · replace hS := hS.1 c2
      exact wv_ret dX5_shareLeft_125 rfl hS
    · replace hS := hS.2 c2
      refine q_ald0 dX5_shareLeft_87 (wz_getR dX5_shareLeft_88 cf5 t148 (kf := 4) gr_15_4 gc_15 (q_ild5 dX5_shareLeft_91 ?_))
      obtain ⟨hi3, hS⟩ := hS
      refine wz_iald dX5_shareLeft_93 ga_18 gc_18 hi3 rfl (q_ild1 dX5_shareLeft_94 ?_)
      refine wz_icmp_ne (tgt := 119) dX5_shareLeft_95 rfl (fun c4 => ?_) (fun c4 => ?_)
      · replace hS := hS.1 c4
        refine q_inc5 (v := (x5 + 1)) dX5_shareLeft_119 rfl (ltX5_shareLeft_5) rfl (wz_goto (tgt := 73) dX5_shareLeft_122 rfl ?_)
        exact hS
      · replace hS := hS.2 c4
        refine q_ald0 dX5_shareLeft_98 (wz_getR dX5_shareLeft_99 cf5 t147 (kf := 6) gr_15_6 gc_15 (q_ild5 dX5_shareLeft_102 (wz_dup2 dX5_shareLeft_104 rfl rfl (wz_iald dX5_shareLeft_105 ga_20 gc_20 hi3 rfl (wz_iconst dX5_shareLeft_106 kiconst_1 (wz_iadd dX5_shareLeft_107 (wz_iast dX5_shareLeft_108 ga_20 gc_20 hi3 rfl ?_)))))))
        refine wz_pc (pc2 := 109) rfl ?_
        refine q_ald0 dX5_shareLeft_109 (wz_dup dX5_shareLeft_110 rfl (wz_getI (v := (h 15 0 7)) dX5_shareLeft_111 cf5 t164 (kf := 7) gi_15_7 gc_15 (by first | rfl | simp [up]) (wz_iconst dX5_shareLeft_114 kiconst_1 (wz_isub dX5_shareLeft_115 (wz_putI dX5_shareLeft_116 cf5 t164 (kf := 7) gp_15_7 gc_15 rfl (q_inc5 (v := (x5 + 1)) dX5_shareLeft_119 rfl (ltX5_shareLeft_5) rfl (wz_goto (tgt := 73) dX5_shareLeft_122 rfl ?_)))))))
        exact hS
def SX5_payWhole_0 (E : EN) (a1 : Int32) (h : TH) (Q : TH → Prop) : Prop := wv E MX5_payWhole Q 2 [some (rf 15 0), some (.int a1), some (.int 0)] [] h
set_option maxRecDepth 20000 in
theorem sX5_payWhole_0 {E : EN} {a1 : Int32} {h : TH} {Q : TH → Prop}  (hS : SX5_payWhole_0 E a1 h Q) : wv E MX5_payWhole Q 0 [some (rf 15 0), some (.int a1), none] [] h := by
  refine wz_iconst dX5_payWhole_0 kiconst_0 (q_ist2 dX5_payWhole_1 (ltX5_payWhole_2) rfl ?_)
  exact hS
def SX5_payWhole_2 (E : EN) (x1 : Int32) (x2 : Int32) (h : TH) (Q : TH → Prop) : Prop := ((22 ≤ x2 → Q h) ∧ (¬ 22 ≤ x2 → vp_in x2 22 ∧ ((¬ (h 18 0 (x2.toNatClampNeg)) = x1 → wv E MX5_payWhole Q 2 [some (rf 15 0), some (.int x1), some (.int (x2 + 1))] [] h) ∧ ((h 18 0 (x2.toNatClampNeg)) = x1 → wv E MX5_payWhole Q 2 [some (rf 15 0), some (.int x1), some (.int (x2 + 1))] [] (up (up h 20 0 (x2.toNatClampNeg) (h 19 0 (x2.toNatClampNeg))) 15 0 7 ((h 15 0 7) - (h 19 0 (x2.toNatClampNeg))))))))
set_option maxRecDepth 20000 in
theorem sX5_payWhole_2 {E : EN} {x1 : Int32} {x2 : Int32} {h : TH} {Q : TH → Prop}  (hS : SX5_payWhole_2 E x1 x2 h Q) : wv E MX5_payWhole Q 2 [some (rf 15 0), some (.int x1), some (.int x2)] [] h := by
  refine q_ild2 dX5_payWhole_2 (wz_bipush dX5_payWhole_3 kbipush_22 ?_)
  refine wz_icmp_ge (tgt := 51) dX5_payWhole_5 rfl (fun c1 => ?_) (fun c1 => ?_)
  · replace hS := hS.1 c1
    exact wv_ret dX5_payWhole_51 rfl hS
  · replace hS := hS.2 c1
    refine q_ald0 dX5_payWhole_8 (wz_getR dX5_payWhole_9 cf5 t148 (kf := 4) gr_15_4 gc_15 (q_ild2 dX5_payWhole_12 ?_))
    obtain ⟨hi2, hS⟩ := hS
    refine wz_iald dX5_payWhole_13 ga_18 gc_18 hi2 rfl (q_ild1 dX5_payWhole_14 ?_)
    refine wz_icmp_ne (tgt := 45) dX5_payWhole_15 rfl (fun c3 => ?_) (fun c3 => ?_)
    · replace hS := hS.1 c3
      refine q_inc2 (v := (x2 + 1)) dX5_payWhole_45 rfl (ltX5_payWhole_2) rfl (wz_goto (tgt := 2) dX5_payWhole_48 rfl ?_)
      exact hS
    · replace hS := hS.2 c3
      refine q_ald0 dX5_payWhole_18 (wz_getR dX5_payWhole_19 cf5 t147 (kf := 6) gr_15_6 gc_15 (q_ild2 dX5_payWhole_22 (q_ald0 dX5_payWhole_23 (wz_getR dX5_payWhole_24 cf5 t149 (kf := 5) gr_15_5 gc_15 (q_ild2 dX5_payWhole_27 (wz_iald dX5_payWhole_28 ga_19 gc_19 hi2 rfl (wz_iast dX5_payWhole_29 ga_20 gc_20 hi2 rfl ?_)))))))
      refine wz_pc (pc2 := 30) rfl ?_
      refine q_ald0 dX5_payWhole_30 (wz_dup dX5_payWhole_31 rfl (wz_getI (v := (h 15 0 7)) dX5_payWhole_32 cf5 t164 (kf := 7) gi_15_7 gc_15 (by first | rfl | simp [up]) (q_ald0 dX5_payWhole_35 (wz_getR dX5_payWhole_36 cf5 t149 (kf := 5) gr_15_5 gc_15 (q_ild2 dX5_payWhole_39 (wz_iald (v := (h 19 0 (x2.toNatClampNeg))) dX5_payWhole_40 ga_19 gc_19 hi2 (by first | rfl | simp [up]) (wz_isub dX5_payWhole_41 ?_)))))))
      refine wz_pc (pc2 := 42) rfl ?_
      refine wz_putI dX5_payWhole_42 cf5 t164 (kf := 7) gp_15_7 gc_15 rfl (q_inc2 (v := (x2 + 1)) dX5_payWhole_45 rfl (ltX5_payWhole_2) rfl (wz_goto (tgt := 2) dX5_payWhole_48 rfl ?_))
      exact hS
def SX5_payRank_0 (E : EN) (a1 : Int32) (h : TH) (Q : TH → Prop) : Prop := wv E MX5_payRank Q 4 [some (rf 15 0), some (.int a1), some (.int 0), some (.int 0)] [] h
set_option maxRecDepth 20000 in
theorem sX5_payRank_0 {E : EN} {a1 : Int32} {h : TH} {Q : TH → Prop}  (hS : SX5_payRank_0 E a1 h Q) : wv E MX5_payRank Q 0 [some (rf 15 0), some (.int a1), none, none] [] h := by
  refine wz_iconst dX5_payRank_0 kiconst_0 (q_ist2 dX5_payRank_1 (ltX5_payRank_2) rfl (wz_iconst dX5_payRank_2 kiconst_0 (q_ist3 dX5_payRank_3 (ltX5_payRank_3) rfl ?_)))
  exact hS
def SX5_payRank_4 (E : EN) (x1 : Int32) (x2 : Int32) (x3 : Int32) (h : TH) (Q : TH → Prop) : Prop := ((22 ≤ x3 → ((x2 ≤ (h 15 0 7) → wv E MX5_payWhole (fun h3 => Q h3) 0 [some (rf 15 0), some (.int x1), none] [] h) ∧ (¬ x2 ≤ (h 15 0 7) → ((x2 ≤ 0 → wv E MX5_payWhole (fun h6 => Q h6) 0 [some (rf 15 0), some (.int x1), none] [] h) ∧ (¬ x2 ≤ 0 → wv E MX5_shareLeft (fun h8 => Q h8) 0 [some (rf 15 0), some (.int x1), some (.int x2), none, none, none] [] h))))) ∧ (¬ 22 ≤ x3 → vp_in x3 22 ∧ ((¬ (h 18 0 (x3.toNatClampNeg)) = x1 → wv E MX5_payRank Q 4 [some (rf 15 0), some (.int x1), some (.int x2), some (.int (x3 + 1))] [] h) ∧ ((h 18 0 (x3.toNatClampNeg)) = x1 → wv E MX5_payRank Q 4 [some (rf 15 0), some (.int x1), some (.int (x2 + (h 19 0 (x3.toNatClampNeg)))), some (.int (x3 + 1))] [] h))))
set_option maxRecDepth 20000 in
theorem sX5_payRank_4 {E : EN} {x1 : Int32} {x2 : Int32} {x3 : Int32} {h : TH} {Q : TH → Prop}  (hS : SX5_payRank_4 E x1 x2 x3 h Q) : wv E MX5_payRank Q 4 [some (rf 15 0), some (.int x1), some (.int x2), some (.int x3)] [] h := by
  refine q_ild3 dX5_payRank_4 (wz_bipush dX5_payRank_5 kbipush_22 ?_)
  refine wz_icmp_ge (tgt := 35) dX5_payRank_7 rfl (fun c1 => ?_) (fun c1 => ?_)
  · replace hS := hS.1 c1
    refine q_ild2 dX5_payRank_35 (q_ald0 dX5_payRank_36 (wz_getI dX5_payRank_37 cf5 t164 (kf := 7) gi_15_7 gc_15 rfl ?_))
    refine wz_icmp_le (tgt := 56) dX5_payRank_40 rfl (fun c2 => ?_) (fun c2 => ?_)
    · replace hS := hS.1 c2
      refine q_ald0 dX5_payRank_56 (q_ild1 dX5_payRank_57 ?_)
      refine wz_virtV (M := MX5_payRank) (pc := 58) (M' := MX5_payWhole) (n := 1) (As := [.int x1]) (st := []) dX5_payRank_58 cf5 rfl go_15 gc_15 rfl cat_i okX5_payRank_X5_payWhole cwX5_82 (Nat.le_of_ble_eq_true rfl) ⟨Nat.zero_le _, Nat.zero_le _⟩ rfl (ls0 := [some (rf 15 0), some (.int x1), none]) rfl hS (fun h3 hS => ?_)
      exact wv_ret dX5_payRank_61 rfl hS
    · replace hS := hS.2 c2
      refine q_ild2 dX5_payRank_43 ?_
      refine wz_if_le (tgt := 56) dX5_payRank_44 rfl (fun c5 => ?_) (fun c5 => ?_)
      · replace hS := hS.1 c5
        refine q_ald0 dX5_payRank_56 (q_ild1 dX5_payRank_57 ?_)
        refine wz_virtV (M := MX5_payRank) (pc := 58) (M' := MX5_payWhole) (n := 1) (As := [.int x1]) (st := []) dX5_payRank_58 cf5 rfl go_15 gc_15 rfl cat_i okX5_payRank_X5_payWhole cwX5_82 (Nat.le_of_ble_eq_true rfl) ⟨Nat.zero_le _, Nat.zero_le _⟩ rfl (ls0 := [some (rf 15 0), some (.int x1), none]) rfl hS (fun h6 hS => ?_)
        exact wv_ret dX5_payRank_61 rfl hS
      · replace hS := hS.2 c5
        refine q_ald0 dX5_payRank_47 (q_ild1 dX5_payRank_48 (q_ild2 dX5_payRank_49 ?_))
        refine wz_virtV (M := MX5_payRank) (pc := 50) (M' := MX5_shareLeft) (n := 2) (As := [.int x1, .int x2]) (st := []) dX5_payRank_50 cf5 rfl go_15 gc_15 rfl cat_ii okX5_payRank_X5_shareLeft cwX5_79 (Nat.le_of_ble_eq_true rfl) ⟨Nat.zero_le _, Nat.zero_le _⟩ rfl (ls0 := [some (rf 15 0), some (.int x1), some (.int x2), none, none, none]) rfl hS (fun h8 hS => ?_)
        refine wz_goto (tgt := 61) dX5_payRank_53 rfl ?_
        exact wv_ret dX5_payRank_61 rfl hS
  · replace hS := hS.2 c1
    refine q_ald0 dX5_payRank_10 (wz_getR dX5_payRank_11 cf5 t148 (kf := 4) gr_15_4 gc_15 (q_ild3 dX5_payRank_14 ?_))
    obtain ⟨hi10, hS⟩ := hS
    refine wz_iald dX5_payRank_15 ga_18 gc_18 hi10 rfl (q_ild1 dX5_payRank_16 ?_)
    refine wz_icmp_ne (tgt := 29) dX5_payRank_17 rfl (fun c11 => ?_) (fun c11 => ?_)
    · replace hS := hS.1 c11
      refine q_inc3 (v := (x3 + 1)) dX5_payRank_29 rfl (ltX5_payRank_3) rfl (wz_goto (tgt := 4) dX5_payRank_32 rfl ?_)
      exact hS
    · replace hS := hS.2 c11
      refine q_ild2 dX5_payRank_20 (q_ald0 dX5_payRank_21 (wz_getR dX5_payRank_22 cf5 t149 (kf := 5) gr_15_5 gc_15 (q_ild3 dX5_payRank_25 (wz_iald dX5_payRank_26 ga_19 gc_19 hi10 rfl (wz_iadd dX5_payRank_27 (q_ist2 dX5_payRank_28 (ltX5_payRank_2) rfl (q_inc3 (v := (x3 + 1)) dX5_payRank_29 rfl (ltX5_payRank_3) rfl ?_)))))))
      refine wz_pc (pc2 := 32) rfl ?_
      refine wz_goto (tgt := 4) dX5_payRank_32 rfl ?_
      exact hS
def SX5_sell_0 (E : EN) (a1 : Int32) (a2 : Int32) (a3 : Int32) (h : TH) (Q : TH → Prop) : Prop := wv E MX5_enterLoans (fun h1 => wv E MX5_enterClaims (fun h3 => wi E MX5_rankAfter (fun r6 h5 => wv E MX5_sell Q 25 [some (rf 15 0), none, none, none, some (.int r6), some (.int 0)] [] h5) 0 [some (rf 15 0), some (.int (-1)), none, none] [] h3) 0 [some (rf 15 0), some (.int a2), some (.int a3), none, none, none, none] [] h1) 0 [some (rf 15 0), none] [] (up h 15 0 7 a1)
set_option maxRecDepth 20000 in
theorem sX5_sell_0 {E : EN} {a1 : Int32} {a2 : Int32} {a3 : Int32} {h : TH} {Q : TH → Prop}  (hS : SX5_sell_0 E a1 a2 a3 h Q) : wv E MX5_sell Q 0 [some (rf 15 0), some (.int a1), some (.int a2), some (.int a3), none, none] [] h := by
  refine q_ald0 dX5_sell_0 (q_ild1 dX5_sell_1 (wz_putI dX5_sell_2 cf5 t164 (kf := 7) gp_15_7 gc_15 rfl (q_ald0 dX5_sell_5 ?_)))
  refine wz_virtV (M := MX5_sell) (pc := 6) (M' := MX5_enterLoans) (n := 0) (As := []) (st := []) dX5_sell_6 cf5 rfl go_15 gc_15 rfl cat_ okX5_sell_X5_enterLoans cwX5_38 (Nat.le_of_ble_eq_true rfl) ⟨Nat.zero_le _, Nat.zero_le _⟩ rfl (ls0 := [some (rf 15 0), none]) rfl hS (fun h1 hS => ?_)
  refine q_ald0 dX5_sell_9 (q_ild2 dX5_sell_10 (q_ild3 dX5_sell_11 ?_))
  refine wz_virtV (M := MX5_sell) (pc := 12) (M' := MX5_enterClaims) (n := 2) (As := [.int a2, .int a3]) (st := []) dX5_sell_12 cf5 rfl go_15 gc_15 rfl cat_ii okX5_sell_X5_enterClaims cwX5_41 (Nat.le_of_ble_eq_true rfl) ⟨Nat.zero_le _, Nat.zero_le _⟩ rfl (ls0 := [some (rf 15 0), some (.int a2), some (.int a3), none, none, none, none]) rfl hS (fun h3 hS => ?_)
  refine q_ald0 dX5_sell_15 (wz_iconst dX5_sell_16 kiconst_m1 ?_)
  refine wz_virtI (M := MX5_sell) (pc := 17) (M' := MX5_rankAfter) (n := 1) (As := [.int (-1)]) (st := []) dX5_sell_17 cf5 rfl go_15 gc_15 rfl cat_i okX5_sell_X5_rankAfter cwX5_45 (Nat.le_of_ble_eq_true rfl) ⟨Nat.zero_le _, Nat.zero_le _⟩ rfl (ls0 := [some (rf 15 0), some (.int (-1)), none, none]) rfl hS (fun r6 h5 hS => ?_)
  refine q_ist4 dX5_sell_20 (ltX5_sell_4) rfl (wz_iconst dX5_sell_22 kiconst_0 (q_ist5 dX5_sell_23 (ltX5_sell_5) rfl ?_))
  exact wz_mask [true, false, false, false, true, true] rfl hS
def SX5_sell_25 (E : EN) (x4 : Int32) (x5 : Int32) (h : TH) (Q : TH → Prop) : Prop := ((22 ≤ x5 → Q h) ∧ (¬ 22 ≤ x5 → ((x4 = (-1) → Q h) ∧ (¬ x4 = (-1) → wv E MX5_payRank (fun h3 => wi E MX5_rankAfter (fun r6 h5 => wv E MX5_sell Q 25 [some (rf 15 0), none, none, none, some (.int r6), some (.int (x5 + 1))] [] h5) 0 [some (rf 15 0), some (.int x4), none, none] [] h3) 0 [some (rf 15 0), some (.int x4), none, none] [] h))))
set_option maxRecDepth 20000 in
theorem sX5_sell_25 {E : EN} {x4 : Int32} {x5 : Int32} {h : TH} {Q : TH → Prop}  (hS : SX5_sell_25 E x4 x5 h Q) : wv E MX5_sell Q 25 [some (rf 15 0), none, none, none, some (.int x4), some (.int x5)] [] h := by
  refine q_ild5 dX5_sell_25 (wz_bipush dX5_sell_27 kbipush_22 ?_)
  refine wz_icmp_ge (tgt := 58) dX5_sell_29 rfl (fun c1 => ?_) (fun c1 => ?_)
  · replace hS := hS.1 c1
    exact wv_ret dX5_sell_58 rfl hS
  · replace hS := hS.2 c1
    refine q_ild4 dX5_sell_32 (wz_iconst dX5_sell_34 kiconst_m1 ?_)
    refine wz_icmp_eq (tgt := 58) dX5_sell_35 rfl (fun c2 => ?_) (fun c2 => ?_)
    · replace hS := hS.1 c2
      exact wv_ret dX5_sell_58 rfl hS
    · replace hS := hS.2 c2
      refine q_ald0 dX5_sell_38 (q_ild4 dX5_sell_39 ?_)
      refine wz_virtV (M := MX5_sell) (pc := 41) (M' := MX5_payRank) (n := 1) (As := [.int x4]) (st := []) dX5_sell_41 cf5 rfl go_15 gc_15 rfl cat_i okX5_sell_X5_payRank cwX5_49 (Nat.le_of_ble_eq_true rfl) ⟨Nat.zero_le _, Nat.zero_le _⟩ rfl (ls0 := [some (rf 15 0), some (.int x4), none, none]) rfl hS (fun h3 hS => ?_)
      refine q_ald0 dX5_sell_44 (q_ild4 dX5_sell_45 ?_)
      refine wz_virtI (M := MX5_sell) (pc := 47) (M' := MX5_rankAfter) (n := 1) (As := [.int x4]) (st := []) dX5_sell_47 cf5 rfl go_15 gc_15 rfl cat_i okX5_sell_X5_rankAfter cwX5_45 (Nat.le_of_ble_eq_true rfl) ⟨Nat.zero_le _, Nat.zero_le _⟩ rfl (ls0 := [some (rf 15 0), some (.int x4), none, none]) rfl hS (fun r6 h5 hS => ?_)
      refine q_ist4 dX5_sell_50 (ltX5_sell_4) rfl (q_inc5 (v := (x5 + 1)) dX5_sell_52 rfl (ltX5_sell_5) rfl (wz_goto (tgt := 25) dX5_sell_55 rfl ?_))
      exact hS
