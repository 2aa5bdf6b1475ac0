set_option maxRecDepth 20000 in
set_option maxHeartbeats 4000000 in
theorem kX3_init {E : EN} {h : TH} {Q : TH → Prop} {n i : Nat} (hi : i < gCnt 4) (hn : gBase 4 + i < n) (hQ : Q (up (up (up (up (up (up (up h 4 i 2 (-1)) 4 i 4 1) 4 i 8 (-1)) 4 i 9 (-1)) 4 i 10 (-1)) 4 i 11 (-1)) 4 i 12 (-1))) : wg E (PC E n) MX3_init 0 0 (Zc E n 0 0 Q) 0 [some (rf 4 i)] [] h := by
  refine q_ald0 dX3_init_0 ?_
  refine wz_pc (pc2 := 1) rfl ?_
  refine c_obj dX3_init_1 ⟨u0, u1, uobj⟩ ⟨by decide, by decide⟩ ?_
  refine wz_pc (pc2 := 4) rfl ?_
  refine q_ald0 dX3_init_4 ?_
  refine wz_pc (pc2 := 5) rfl ?_
  refine wz_iconst (v := (-1)) dX3_init_5 (by decide) ?_
  refine wz_pc (pc2 := 6) rfl ?_
  refine c_putI dX3_init_6 cf3 v0 (kf := 2) gp_4_2 hi hn rfl ?_
  refine wz_pc (pc2 := 9) rfl ?_
  refine q_ald0 dX3_init_9 ?_
  refine wz_pc (pc2 := 10) rfl ?_
  refine wz_iconst (v := 1) dX3_init_10 (by decide) ?_
  refine wz_pc (pc2 := 11) rfl ?_
  refine c_putI dX3_init_11 cf3 v1 (kf := 4) gp_4_4 hi hn rfl ?_
  refine wz_pc (pc2 := 14) rfl ?_
  refine q_ald0 dX3_init_14 ?_
  refine wz_pc (pc2 := 15) rfl ?_
  refine wz_iconst (v := (-1)) dX3_init_15 (by decide) ?_
  refine wz_pc (pc2 := 16) rfl ?_
  refine c_putI dX3_init_16 cf3 v2 (kf := 8) gp_4_8 hi hn rfl ?_
  refine wz_pc (pc2 := 19) rfl ?_
  refine q_ald0 dX3_init_19 ?_
  refine wz_pc (pc2 := 20) rfl ?_
  refine wz_iconst (v := (-1)) dX3_init_20 (by decide) ?_
  refine wz_pc (pc2 := 21) rfl ?_
  refine c_putI dX3_init_21 cf3 v3 (kf := 9) gp_4_9 hi hn rfl ?_
  refine wz_pc (pc2 := 24) rfl ?_
  refine q_ald0 dX3_init_24 ?_
  refine wz_pc (pc2 := 25) rfl ?_
  refine wz_iconst (v := (-1)) dX3_init_25 (by decide) ?_
  refine wz_pc (pc2 := 26) rfl ?_
  refine c_putI dX3_init_26 cf3 v4 (kf := 10) gp_4_10 hi hn rfl ?_
  refine wz_pc (pc2 := 29) rfl ?_
  refine q_ald0 dX3_init_29 ?_
  refine wz_pc (pc2 := 30) rfl ?_
  refine wz_iconst (v := (-1)) dX3_init_30 (by decide) ?_
  refine wz_pc (pc2 := 31) rfl ?_
  refine c_putI dX3_init_31 cf3 v5 (kf := 11) gp_4_11 hi hn rfl ?_
  refine wz_pc (pc2 := 34) rfl ?_
  refine q_ald0 dX3_init_34 ?_
  refine wz_pc (pc2 := 35) rfl ?_
  refine wz_iconst (v := (-1)) dX3_init_35 (by decide) ?_
  refine wz_pc (pc2 := 36) rfl ?_
  refine c_putI dX3_init_36 cf3 v6 (kf := 12) gp_4_12 hi hn rfl ?_
  refine wz_pc (pc2 := 39) rfl ?_
  exact c_ret dX3_init_39 rfl hQ
set_option maxRecDepth 20000 in
set_option maxHeartbeats 4000000 in
theorem kX2_init {E : EN} {h : TH} {Q : TH → Prop} {n i : Nat} (hi : i < gCnt 11) (hn : gBase 11 + i < n) (hQ : Q (up h 11 i 3 (-1))) : wg E (PC E n) MX2_init 0 0 (Zc E n 0 0 Q) 0 [some (rf 11 i)] [] h := by
  refine q_ald0 dX2_init_0 ?_
  refine wz_pc (pc2 := 1) rfl ?_
  refine c_obj dX2_init_1 ⟨u3, u1, uobj⟩ ⟨by decide, by decide⟩ ?_
  refine wz_pc (pc2 := 4) rfl ?_
  refine q_ald0 dX2_init_4 ?_
  refine wz_pc (pc2 := 5) rfl ?_
  refine wz_iconst (v := (-1)) dX2_init_5 (by decide) ?_
  refine wz_pc (pc2 := 6) rfl ?_
  refine c_putI dX2_init_6 cf2 v7 (kf := 3) gp_11_3 hi hn rfl ?_
  refine wz_pc (pc2 := 9) rfl ?_
  exact c_ret dX2_init_9 rfl hQ
set_option maxRecDepth 20000 in
set_option maxHeartbeats 4000000 in
theorem kX1_init {E : EN} {h : TH} {Q : TH → Prop} (hQ : Q (up (up (up (up (up (up (up (up (up (up (up (up (up (up (up (up (up (up (up (up (up (up (up (up (up (up (up (up (up (up (up (up (up (up (up (up (up (up (up (up (up (up (up (up (up (up (up (up (up (up (up (up (up (up (up (up (up (up (up (up (up (up (up (up (up (up (up (up (up (up (up (up (up (up (up (up (up (up (up (up (up (up (up (up h 2 0 0 1) 4 0 2 (-1)) 4 0 4 1) 4 0 8 (-1)) 4 0 9 (-1)) 4 0 10 (-1)) 4 0 11 (-1)) 4 0 12 (-1)) 3 0 0 1) 4 1 2 (-1)) 4 1 4 1) 4 1 8 (-1)) 4 1 9 (-1)) 4 1 10 (-1)) 4 1 11 (-1)) 4 1 12 (-1)) 3 0 1 1) 4 2 2 (-1)) 4 2 4 1) 4 2 8 (-1)) 4 2 9 (-1)) 4 2 10 (-1)) 4 2 11 (-1)) 4 2 12 (-1)) 3 0 2 1) 4 3 2 (-1)) 4 3 4 1) 4 3 8 (-1)) 4 3 9 (-1)) 4 3 10 (-1)) 4 3 11 (-1)) 4 3 12 (-1)) 3 0 3 1) 4 4 2 (-1)) 4 4 4 1) 4 4 8 (-1)) 4 4 9 (-1)) 4 4 10 (-1)) 4 4 11 (-1)) 4 4 12 (-1)) 3 0 4 1) 4 5 2 (-1)) 4 5 4 1) 4 5 8 (-1)) 4 5 9 (-1)) 4 5 10 (-1)) 4 5 11 (-1)) 4 5 12 (-1)) 3 0 5 1) 4 6 2 (-1)) 4 6 4 1) 4 6 8 (-1)) 4 6 9 (-1)) 4 6 10 (-1)) 4 6 11 (-1)) 4 6 12 (-1)) 3 0 6 1) 4 7 2 (-1)) 4 7 4 1) 4 7 8 (-1)) 4 7 9 (-1)) 4 7 10 (-1)) 4 7 11 (-1)) 4 7 12 (-1)) 3 0 7 1) 4 8 2 (-1)) 4 8 4 1) 4 8 8 (-1)) 4 8 9 (-1)) 4 8 10 (-1)) 4 8 11 (-1)) 4 8 12 (-1)) 3 0 8 1) 4 9 2 (-1)) 4 9 4 1) 4 9 8 (-1)) 4 9 9 (-1)) 4 9 10 (-1)) 4 9 11 (-1)) 4 9 12 (-1)) 3 0 9 1) 2 0 2 1) 2 0 3 1) 2 0 4 1)) : wg E (PC E 3) MX1_init 0 0 (Zc E 17 14 200 Q) 0 [some (rf 2 0), none] [] h := by
  refine q_ald0 dX1_init_0 ?_
  refine wz_pc (pc2 := 1) rfl ?_
  refine c_obj dX1_init_1 ⟨u4, u1, uobj⟩ ⟨by decide, by decide⟩ ?_
  refine wz_pc (pc2 := 4) rfl ?_
  refine q_ald0 dX1_init_4 ?_
  refine wz_pc (pc2 := 5) rfl ?_
  refine wz_bipush (v := 10) dX1_init_5 (by decide) ?_
  refine wz_pc (pc2 := 7) rfl ?_
  refine c_newQ (g := 3) (i := 0) (t0 := 2) dX1_init_7 u5 (fun _ z => z.2.1) rfl (by decide) ⟨rfl, rfl⟩ ⟨rfl, rfl, rfl⟩ (by decide) (by decide) (by decide) (by decide) (by decide) ?_
  refine wz_pc (pc2 := 10) rfl ?_
  refine c_putR dX1_init_10 cf1 v8 (kf := 0) ⟨rfl, rfl, rfl, by decide, rfl, rfl, rfl⟩ ⟨tyX1_ok 0 (by decide), fun _ => rfl, fun _ => rfl⟩ rfl gc_2 (by decide) gc_3 rfl ?_
  refine wz_pc (pc2 := 13) rfl ?_
  refine wz_iconst (v := 0) dX1_init_13 (by decide) ?_
  refine wz_pc (pc2 := 14) rfl ?_
  refine q_ist1 dX1_init_14 (by decide) rfl ?_
  refine wz_pc (pc2 := 15) rfl ?_
  refine q_ild1 dX1_init_15 ?_
  refine wz_pc (pc2 := 16) rfl ?_
  refine wz_bipush (v := 10) dX1_init_16 (by decide) ?_
  refine wz_pc (pc2 := 18) rfl ?_
  refine wz_icmp_ge (tgt := 40) dX1_init_18 rfl (fun z => absurd z (by decide)) (fun _ => ?_)
  refine wz_pc (pc2 := 21) rfl ?_
  refine q_ald0 dX1_init_21 ?_
  refine wz_pc (pc2 := 22) rfl ?_
  refine c_getR dX1_init_22 cf1 v8 (kf := 0) gr_2_0 gc_2 (by decide) (by simp [up]) ?_
  refine wz_pc (pc2 := 25) rfl ?_
  refine q_ild1 dX1_init_25 ?_
  refine wz_pc (pc2 := 26) rfl ?_
  refine c_new (g := 4) (i := 0) dX1_init_26 cf3 ⟨u5, u6, v9⟩ (by decide) ⟨rfl, rfl⟩ ⟨rfl, rfl, rfl⟩ df4 (by decide) (by decide) ?_
  refine wz_pc (pc2 := 29) rfl ?_
  refine wz_dup dX1_init_29 rfl ?_
  refine wz_pc (pc2 := 30) rfl ?_
  refine c_init (M := MX1_init) (pc := 30) (M' := MX3_init) (na := 0) (n2 := 5) (mc := 0) (ms := 0) (g := 4) (i := 0) (As := []) (st := [rf 4 0, .int 0, rf 3 0]) (Q := fun q => q = (up (up (up (up (up (up (up (up h 2 0 0 1) 4 0 2 (-1)) 4 0 4 1) 4 0 8 (-1)) 4 0 9 (-1)) 4 0 10 (-1)) 4 0 11 (-1)) 4 0 12 (-1))) dX1_init_30 gc_4 rfl cat_ ⟨by decide +kernel, ⟨by decide +kernel, by decide +kernel, by decide +kernel⟩, rfl, rfl, by decide, by decide, by decide, rfl, rfl⟩ ⟨v10, v9, v11, v12⟩ (by decide) ⟨by decide, by decide⟩ rfl (ls0 := [some (rf 4 0)]) rfl (kX3_init (by decide) (by decide) rfl) (fun h1 hq => ?_)
  subst hq
  refine wz_pc (pc2 := 33) rfl ?_
  rw [show rf 4 0 = rf 4 ((0 : Int32).toNatClampNeg) from congrArg (rf 4) (by decide)]
  refine c_aast (t0 := 2) (h2 := (up (up (up (up (up (up (up (up (up h 2 0 0 1) 4 0 2 (-1)) 4 0 4 1) 4 0 8 (-1)) 4 0 9 (-1)) 4 0 10 (-1)) 4 0 11 (-1)) 4 0 12 (-1)) 3 0 0 1)) dX1_init_33 ⟨rfl, rfl, rfl⟩ ⟨rfl, rfl⟩ rfl cf3.1 gc_3 (by decide) (by decide) (by decide) (vp_c (by decide) (by decide)) (congrArg (fun z => up (up (up (up (up (up (up (up (up h 2 0 0 1) 4 0 2 (-1)) 4 0 4 1) 4 0 8 (-1)) 4 0 9 (-1)) 4 0 10 (-1)) 4 0 11 (-1)) 4 0 12 (-1)) 3 0 z 1) (by decide)) ?_
  refine wz_pc (pc2 := 34) rfl ?_
  refine q_inc1 (v := 1) dX1_init_34 (by decide) (by decide) rfl ?_
  refine wz_pc (pc2 := 37) rfl ?_
  refine wz_goto (tgt := 15) dX1_init_37 rfl ?_
  refine wz_pc (pc2 := 15) rfl ?_
  refine q_ild1 dX1_init_15 ?_
  refine wz_pc (pc2 := 16) rfl ?_
  refine wz_bipush (v := 10) dX1_init_16 (by decide) ?_
  refine wz_pc (pc2 := 18) rfl ?_
  refine wz_icmp_ge (tgt := 40) dX1_init_18 rfl (fun z => absurd z (by decide)) (fun _ => ?_)
  refine wz_pc (pc2 := 21) rfl ?_
  refine q_ald0 dX1_init_21 ?_
  refine wz_pc (pc2 := 22) rfl ?_
  refine c_getR dX1_init_22 cf1 v8 (kf := 0) gr_2_0 gc_2 (by decide) (by simp [up]) ?_
  refine wz_pc (pc2 := 25) rfl ?_
  refine q_ild1 dX1_init_25 ?_
  refine wz_pc (pc2 := 26) rfl ?_
  refine c_new (g := 4) (i := 1) dX1_init_26 cf3 ⟨u5, u6, v9⟩ (by decide) ⟨rfl, rfl⟩ ⟨rfl, rfl, rfl⟩ df4 (by decide) (by decide) ?_
  refine wz_pc (pc2 := 29) rfl ?_
  refine wz_dup dX1_init_29 rfl ?_
  refine wz_pc (pc2 := 30) rfl ?_
  refine c_init (M := MX1_init) (pc := 30) (M' := MX3_init) (na := 0) (n2 := 6) (mc := 0) (ms := 0) (g := 4) (i := 1) (As := []) (st := [rf 4 1, .int 1, rf 3 0]) (Q := fun q => q = (up (up (up (up (up (up (up (up (up (up (up (up (up (up (up (up h 2 0 0 1) 4 0 2 (-1)) 4 0 4 1) 4 0 8 (-1)) 4 0 9 (-1)) 4 0 10 (-1)) 4 0 11 (-1)) 4 0 12 (-1)) 3 0 0 1) 4 1 2 (-1)) 4 1 4 1) 4 1 8 (-1)) 4 1 9 (-1)) 4 1 10 (-1)) 4 1 11 (-1)) 4 1 12 (-1))) dX1_init_30 (by decide) rfl cat_ ⟨by decide +kernel, ⟨by decide +kernel, by decide +kernel, by decide +kernel⟩, rfl, rfl, by decide, by decide, by decide, rfl, rfl⟩ ⟨v10, v9, v11, v12⟩ (by decide) ⟨by decide, by decide⟩ rfl (ls0 := [some (rf 4 1)]) rfl (kX3_init (by decide) (by decide) rfl) (fun h1 hq => ?_)
  subst hq
  refine wz_pc (pc2 := 33) rfl ?_
  rw [show rf 4 1 = rf 4 ((1 : Int32).toNatClampNeg) from congrArg (rf 4) (by decide)]
  refine c_aast (t0 := 2) (h2 := (up (up (up (up (up (up (up (up (up (up (up (up (up (up (up (up (up h 2 0 0 1) 4 0 2 (-1)) 4 0 4 1) 4 0 8 (-1)) 4 0 9 (-1)) 4 0 10 (-1)) 4 0 11 (-1)) 4 0 12 (-1)) 3 0 0 1) 4 1 2 (-1)) 4 1 4 1) 4 1 8 (-1)) 4 1 9 (-1)) 4 1 10 (-1)) 4 1 11 (-1)) 4 1 12 (-1)) 3 0 1 1)) dX1_init_33 ⟨rfl, rfl, rfl⟩ ⟨rfl, rfl⟩ rfl cf3.1 gc_3 (by decide) (by decide) (by decide) (vp_c (by decide) (by decide)) (congrArg (fun z => up (up (up (up (up (up (up (up (up (up (up (up (up (up (up (up (up h 2 0 0 1) 4 0 2 (-1)) 4 0 4 1) 4 0 8 (-1)) 4 0 9 (-1)) 4 0 10 (-1)) 4 0 11 (-1)) 4 0 12 (-1)) 3 0 0 1) 4 1 2 (-1)) 4 1 4 1) 4 1 8 (-1)) 4 1 9 (-1)) 4 1 10 (-1)) 4 1 11 (-1)) 4 1 12 (-1)) 3 0 z 1) (by decide)) ?_
  refine wz_pc (pc2 := 34) rfl ?_
  refine q_inc1 (v := 2) dX1_init_34 (by decide) (by decide) rfl ?_
  refine wz_pc (pc2 := 37) rfl ?_
  refine wz_goto (tgt := 15) dX1_init_37 rfl ?_
  refine wz_pc (pc2 := 15) rfl ?_
  refine q_ild1 dX1_init_15 ?_
  refine wz_pc (pc2 := 16) rfl ?_
  refine wz_bipush (v := 10) dX1_init_16 (by decide) ?_
  refine wz_pc (pc2 := 18) rfl ?_
  refine wz_icmp_ge (tgt := 40) dX1_init_18 rfl (fun z => absurd z (by decide)) (fun _ => ?_)
  refine wz_pc (pc2 := 21) rfl ?_
  refine q_ald0 dX1_init_21 ?_
  refine wz_pc (pc2 := 22) rfl ?_
  refine c_getR dX1_init_22 cf1 v8 (kf := 0) gr_2_0 gc_2 (by decide) (by simp [up]) ?_
  refine wz_pc (pc2 := 25) rfl ?_
  refine q_ild1 dX1_init_25 ?_
  refine wz_pc (pc2 := 26) rfl ?_
  refine c_new (g := 4) (i := 2) dX1_init_26 cf3 ⟨u5, u6, v9⟩ (by decide) ⟨rfl, rfl⟩ ⟨rfl, rfl, rfl⟩ df4 (by decide) (by decide) ?_
  refine wz_pc (pc2 := 29) rfl ?_
  refine wz_dup dX1_init_29 rfl ?_
  refine wz_pc (pc2 := 30) rfl ?_
  refine c_init (M := MX1_init) (pc := 30) (M' := MX3_init) (na := 0) (n2 := 7) (mc := 0) (ms := 0) (g := 4) (i := 2) (As := []) (st := [rf 4 2, .int 2, rf 3 0]) (Q := fun q => q = (up (up (up (up (up (up (up (up (up (up (up (up (up (up (up (up (up (up (up (up (up (up (up (up h 2 0 0 1) 4 0 2 (-1)) 4 0 4 1) 4 0 8 (-1)) 4 0 9 (-1)) 4 0 10 (-1)) 4 0 11 (-1)) 4 0 12 (-1)) 3 0 0 1) 4 1 2 (-1)) 4 1 4 1) 4 1 8 (-1)) 4 1 9 (-1)) 4 1 10 (-1)) 4 1 11 (-1)) 4 1 12 (-1)) 3 0 1 1) 4 2 2 (-1)) 4 2 4 1) 4 2 8 (-1)) 4 2 9 (-1)) 4 2 10 (-1)) 4 2 11 (-1)) 4 2 12 (-1))) dX1_init_30 (by decide) rfl cat_ ⟨by decide +kernel, ⟨by decide +kernel, by decide +kernel, by decide +kernel⟩, rfl, rfl, by decide, by decide, by decide, rfl, rfl⟩ ⟨v10, v9, v11, v12⟩ (by decide) ⟨by decide, by decide⟩ rfl (ls0 := [some (rf 4 2)]) rfl (kX3_init (by decide) (by decide) rfl) (fun h1 hq => ?_)
  subst hq
  refine wz_pc (pc2 := 33) rfl ?_
  rw [show rf 4 2 = rf 4 ((2 : Int32).toNatClampNeg) from congrArg (rf 4) (by decide)]
  refine c_aast (t0 := 2) (h2 := (up (up (up (up (up (up (up (up (up (up (up (up (up (up (up (up (up (up (up (up (up (up (up (up (up h 2 0 0 1) 4 0 2 (-1)) 4 0 4 1) 4 0 8 (-1)) 4 0 9 (-1)) 4 0 10 (-1)) 4 0 11 (-1)) 4 0 12 (-1)) 3 0 0 1) 4 1 2 (-1)) 4 1 4 1) 4 1 8 (-1)) 4 1 9 (-1)) 4 1 10 (-1)) 4 1 11 (-1)) 4 1 12 (-1)) 3 0 1 1) 4 2 2 (-1)) 4 2 4 1) 4 2 8 (-1)) 4 2 9 (-1)) 4 2 10 (-1)) 4 2 11 (-1)) 4 2 12 (-1)) 3 0 2 1)) dX1_init_33 ⟨rfl, rfl, rfl⟩ ⟨rfl, rfl⟩ rfl cf3.1 gc_3 (by decide) (by decide) (by decide) (vp_c (by decide) (by decide)) (congrArg (fun z => up (up (up (up (up (up (up (up (up (up (up (up (up (up (up (up (up (up (up (up (up (up (up (up (up h 2 0 0 1) 4 0 2 (-1)) 4 0 4 1) 4 0 8 (-1)) 4 0 9 (-1)) 4 0 10 (-1)) 4 0 11 (-1)) 4 0 12 (-1)) 3 0 0 1) 4 1 2 (-1)) 4 1 4 1) 4 1 8 (-1)) 4 1 9 (-1)) 4 1 10 (-1)) 4 1 11 (-1)) 4 1 12 (-1)) 3 0 1 1) 4 2 2 (-1)) 4 2 4 1) 4 2 8 (-1)) 4 2 9 (-1)) 4 2 10 (-1)) 4 2 11 (-1)) 4 2 12 (-1)) 3 0 z 1) (by decide)) ?_
  refine wz_pc (pc2 := 34) rfl ?_
  refine q_inc1 (v := 3) dX1_init_34 (by decide) (by decide) rfl ?_
  refine wz_pc (pc2 := 37) rfl ?_
  refine wz_goto (tgt := 15) dX1_init_37 rfl ?_
  refine wz_pc (pc2 := 15) rfl ?_
  refine q_ild1 dX1_init_15 ?_
  refine wz_pc (pc2 := 16) rfl ?_
  refine wz_bipush (v := 10) dX1_init_16 (by decide) ?_
  refine wz_pc (pc2 := 18) rfl ?_
  refine wz_icmp_ge (tgt := 40) dX1_init_18 rfl (fun z => absurd z (by decide)) (fun _ => ?_)
  refine wz_pc (pc2 := 21) rfl ?_
  refine q_ald0 dX1_init_21 ?_
  refine wz_pc (pc2 := 22) rfl ?_
  refine c_getR dX1_init_22 cf1 v8 (kf := 0) gr_2_0 gc_2 (by decide) (by simp [up]) ?_
  refine wz_pc (pc2 := 25) rfl ?_
  refine q_ild1 dX1_init_25 ?_
  refine wz_pc (pc2 := 26) rfl ?_
  refine c_new (g := 4) (i := 3) dX1_init_26 cf3 ⟨u5, u6, v9⟩ (by decide) ⟨rfl, rfl⟩ ⟨rfl, rfl, rfl⟩ df4 (by decide) (by decide) ?_
  refine wz_pc (pc2 := 29) rfl ?_
  refine wz_dup dX1_init_29 rfl ?_
  refine wz_pc (pc2 := 30) rfl ?_
  refine c_init (M := MX1_init) (pc := 30) (M' := MX3_init) (na := 0) (n2 := 8) (mc := 0) (ms := 0) (g := 4) (i := 3) (As := []) (st := [rf 4 3, .int 3, rf 3 0]) (Q := fun q => q = (up (up (up (up (up (up (up (up (up (up (up (up (up (up (up (up (up (up (up (up (up (up (up (up (up (up (up (up (up (up (up (up h 2 0 0 1) 4 0 2 (-1)) 4 0 4 1) 4 0 8 (-1)) 4 0 9 (-1)) 4 0 10 (-1)) 4 0 11 (-1)) 4 0 12 (-1)) 3 0 0 1) 4 1 2 (-1)) 4 1 4 1) 4 1 8 (-1)) 4 1 9 (-1)) 4 1 10 (-1)) 4 1 11 (-1)) 4 1 12 (-1)) 3 0 1 1) 4 2 2 (-1)) 4 2 4 1) 4 2 8 (-1)) 4 2 9 (-1)) 4 2 10 (-1)) 4 2 11 (-1)) 4 2 12 (-1)) 3 0 2 1) 4 3 2 (-1)) 4 3 4 1) 4 3 8 (-1)) 4 3 9 (-1)) 4 3 10 (-1)) 4 3 11 (-1)) 4 3 12 (-1))) dX1_init_30 (by decide) rfl cat_ ⟨by decide +kernel, ⟨by decide +kernel, by decide +kernel, by decide +kernel⟩, rfl, rfl, by decide, by decide, by decide, rfl, rfl⟩ ⟨v10, v9, v11, v12⟩ (by decide) ⟨by decide, by decide⟩ rfl (ls0 := [some (rf 4 3)]) rfl (kX3_init (by decide) (by decide) rfl) (fun h1 hq => ?_)
  subst hq
  refine wz_pc (pc2 := 33) rfl ?_
  rw [show rf 4 3 = rf 4 ((3 : Int32).toNatClampNeg) from congrArg (rf 4) (by decide)]
  refine c_aast (t0 := 2) (h2 := (up (up (up (up (up (up (up (up (up (up (up (up (up (up (up (up (up (up (up (up (up (up (up (up (up (up (up (up (up (up (up (up (up h 2 0 0 1) 4 0 2 (-1)) 4 0 4 1) 4 0 8 (-1)) 4 0 9 (-1)) 4 0 10 (-1)) 4 0 11 (-1)) 4 0 12 (-1)) 3 0 0 1) 4 1 2 (-1)) 4 1 4 1) 4 1 8 (-1)) 4 1 9 (-1)) 4 1 10 (-1)) 4 1 11 (-1)) 4 1 12 (-1)) 3 0 1 1) 4 2 2 (-1)) 4 2 4 1) 4 2 8 (-1)) 4 2 9 (-1)) 4 2 10 (-1)) 4 2 11 (-1)) 4 2 12 (-1)) 3 0 2 1) 4 3 2 (-1)) 4 3 4 1) 4 3 8 (-1)) 4 3 9 (-1)) 4 3 10 (-1)) 4 3 11 (-1)) 4 3 12 (-1)) 3 0 3 1)) dX1_init_33 ⟨rfl, rfl, rfl⟩ ⟨rfl, rfl⟩ rfl cf3.1 gc_3 (by decide) (by decide) (by decide) (vp_c (by decide) (by decide)) (congrArg (fun z => up (up (up (up (up (up (up (up (up (up (up (up (up (up (up (up (up (up (up (up (up (up (up (up (up (up (up (up (up (up (up (up (up h 2 0 0 1) 4 0 2 (-1)) 4 0 4 1) 4 0 8 (-1)) 4 0 9 (-1)) 4 0 10 (-1)) 4 0 11 (-1)) 4 0 12 (-1)) 3 0 0 1) 4 1 2 (-1)) 4 1 4 1) 4 1 8 (-1)) 4 1 9 (-1)) 4 1 10 (-1)) 4 1 11 (-1)) 4 1 12 (-1)) 3 0 1 1) 4 2 2 (-1)) 4 2 4 1) 4 2 8 (-1)) 4 2 9 (-1)) 4 2 10 (-1)) 4 2 11 (-1)) 4 2 12 (-1)) 3 0 2 1) 4 3 2 (-1)) 4 3 4 1) 4 3 8 (-1)) 4 3 9 (-1)) 4 3 10 (-1)) 4 3 11 (-1)) 4 3 12 (-1)) 3 0 z 1) (by decide)) ?_
  refine wz_pc (pc2 := 34) rfl ?_
  refine q_inc1 (v := 4) dX1_init_34 (by decide) (by decide) rfl ?_
  refine wz_pc (pc2 := 37) rfl ?_
  refine wz_goto (tgt := 15) dX1_init_37 rfl ?_
  refine wz_pc (pc2 := 15) rfl ?_
  refine q_ild1 dX1_init_15 ?_
  refine wz_pc (pc2 := 16) rfl ?_
  refine wz_bipush (v := 10) dX1_init_16 (by decide) ?_
  refine wz_pc (pc2 := 18) rfl ?_
  refine wz_icmp_ge (tgt := 40) dX1_init_18 rfl (fun z => absurd z (by decide)) (fun _ => ?_)
  refine wz_pc (pc2 := 21) rfl ?_
  refine q_ald0 dX1_init_21 ?_
  refine wz_pc (pc2 := 22) rfl ?_
  refine c_getR dX1_init_22 cf1 v8 (kf := 0) gr_2_0 gc_2 (by decide) (by simp [up]) ?_
  refine wz_pc (pc2 := 25) rfl ?_
  refine q_ild1 dX1_init_25 ?_
  refine wz_pc (pc2 := 26) rfl ?_
  refine c_new (g := 4) (i := 4) dX1_init_26 cf3 ⟨u5, u6, v9⟩ (by decide) ⟨rfl, rfl⟩ ⟨rfl, rfl, rfl⟩ df4 (by decide) (by decide) ?_
  refine wz_pc (pc2 := 29) rfl ?_
  refine wz_dup dX1_init_29 rfl ?_
  refine wz_pc (pc2 := 30) rfl ?_
  refine c_init (M := MX1_init) (pc := 30) (M' := MX3_init) (na := 0) (n2 := 9) (mc := 0) (ms := 0) (g := 4) (i := 4) (As := []) (st := [rf 4 4, .int 4, rf 3 0]) (Q := fun q => q = (up (up (up (up (up (up (up (up (up (up (up (up (up (up (up (up (up (up (up (up (up (up (up (up (up (up (up (up (up (up (up (up (up (up (up (up (up (up (up (up h 2 0 0 1) 4 0 2 (-1)) 4 0 4 1) 4 0 8 (-1)) 4 0 9 (-1)) 4 0 10 (-1)) 4 0 11 (-1)) 4 0 12 (-1)) 3 0 0 1) 4 1 2 (-1)) 4 1 4 1) 4 1 8 (-1)) 4 1 9 (-1)) 4 1 10 (-1)) 4 1 11 (-1)) 4 1 12 (-1)) 3 0 1 1) 4 2 2 (-1)) 4 2 4 1) 4 2 8 (-1)) 4 2 9 (-1)) 4 2 10 (-1)) 4 2 11 (-1)) 4 2 12 (-1)) 3 0 2 1) 4 3 2 (-1)) 4 3 4 1) 4 3 8 (-1)) 4 3 9 (-1)) 4 3 10 (-1)) 4 3 11 (-1)) 4 3 12 (-1)) 3 0 3 1) 4 4 2 (-1)) 4 4 4 1) 4 4 8 (-1)) 4 4 9 (-1)) 4 4 10 (-1)) 4 4 11 (-1)) 4 4 12 (-1))) dX1_init_30 (by decide) rfl cat_ ⟨by decide +kernel, ⟨by decide +kernel, by decide +kernel, by decide +kernel⟩, rfl, rfl, by decide, by decide, by decide, rfl, rfl⟩ ⟨v10, v9, v11, v12⟩ (by decide) ⟨by decide, by decide⟩ rfl (ls0 := [some (rf 4 4)]) rfl (kX3_init (by decide) (by decide) rfl) (fun h1 hq => ?_)
  subst hq
  refine wz_pc (pc2 := 33) rfl ?_
  rw [show rf 4 4 = rf 4 ((4 : Int32).toNatClampNeg) from congrArg (rf 4) (by decide)]
  refine c_aast (t0 := 2) (h2 := (up (up (up (up (up (up (up (up (up (up (up (up (up (up (up (up (up (up (up (up (up (up (up (up (up (up (up (up (up (up (up (up (up (up (up (up (up (up (up (up (up h 2 0 0 1) 4 0 2 (-1)) 4 0 4 1) 4 0 8 (-1)) 4 0 9 (-1)) 4 0 10 (-1)) 4 0 11 (-1)) 4 0 12 (-1)) 3 0 0 1) 4 1 2 (-1)) 4 1 4 1) 4 1 8 (-1)) 4 1 9 (-1)) 4 1 10 (-1)) 4 1 11 (-1)) 4 1 12 (-1)) 3 0 1 1) 4 2 2 (-1)) 4 2 4 1) 4 2 8 (-1)) 4 2 9 (-1)) 4 2 10 (-1)) 4 2 11 (-1)) 4 2 12 (-1)) 3 0 2 1) 4 3 2 (-1)) 4 3 4 1) 4 3 8 (-1)) 4 3 9 (-1)) 4 3 10 (-1)) 4 3 11 (-1)) 4 3 12 (-1)) 3 0 3 1) 4 4 2 (-1)) 4 4 4 1) 4 4 8 (-1)) 4 4 9 (-1)) 4 4 10 (-1)) 4 4 11 (-1)) 4 4 12 (-1)) 3 0 4 1)) dX1_init_33 ⟨rfl, rfl, rfl⟩ ⟨rfl, rfl⟩ rfl cf3.1 gc_3 (by decide) (by decide) (by decide) (vp_c (by decide) (by decide)) (congrArg (fun z => up (up (up (up (up (up (up (up (up (up (up (up (up (up (up (up (up (up (up (up (up (up (up (up (up (up (up (up (up (up (up (up (up (up (up (up (up (up (up (up (up h 2 0 0 1) 4 0 2 (-1)) 4 0 4 1) 4 0 8 (-1)) 4 0 9 (-1)) 4 0 10 (-1)) 4 0 11 (-1)) 4 0 12 (-1)) 3 0 0 1) 4 1 2 (-1)) 4 1 4 1) 4 1 8 (-1)) 4 1 9 (-1)) 4 1 10 (-1)) 4 1 11 (-1)) 4 1 12 (-1)) 3 0 1 1) 4 2 2 (-1)) 4 2 4 1) 4 2 8 (-1)) 4 2 9 (-1)) 4 2 10 (-1)) 4 2 11 (-1)) 4 2 12 (-1)) 3 0 2 1) 4 3 2 (-1)) 4 3 4 1) 4 3 8 (-1)) 4 3 9 (-1)) 4 3 10 (-1)) 4 3 11 (-1)) 4 3 12 (-1)) 3 0 3 1) 4 4 2 (-1)) 4 4 4 1) 4 4 8 (-1)) 4 4 9 (-1)) 4 4 10 (-1)) 4 4 11 (-1)) 4 4 12 (-1)) 3 0 z 1) (by decide)) ?_
  refine wz_pc (pc2 := 34) rfl ?_
  refine q_inc1 (v := 5) dX1_init_34 (by decide) (by decide) rfl ?_
  refine wz_pc (pc2 := 37) rfl ?_
  refine wz_goto (tgt := 15) dX1_init_37 rfl ?_
  refine wz_pc (pc2 := 15) rfl ?_
  refine q_ild1 dX1_init_15 ?_
  refine wz_pc (pc2 := 16) rfl ?_
  refine wz_bipush (v := 10) dX1_init_16 (by decide) ?_
  refine wz_pc (pc2 := 18) rfl ?_
  refine wz_icmp_ge (tgt := 40) dX1_init_18 rfl (fun z => absurd z (by decide)) (fun _ => ?_)
  refine wz_pc (pc2 := 21) rfl ?_
  refine q_ald0 dX1_init_21 ?_
  refine wz_pc (pc2 := 22) rfl ?_
  refine c_getR dX1_init_22 cf1 v8 (kf := 0) gr_2_0 gc_2 (by decide) (by simp [up]) ?_
  refine wz_pc (pc2 := 25) rfl ?_
  refine q_ild1 dX1_init_25 ?_
  refine wz_pc (pc2 := 26) rfl ?_
  refine c_new (g := 4) (i := 5) dX1_init_26 cf3 ⟨u5, u6, v9⟩ (by decide) ⟨rfl, rfl⟩ ⟨rfl, rfl, rfl⟩ df4 (by decide) (by decide) ?_
  refine wz_pc (pc2 := 29) rfl ?_
  refine wz_dup dX1_init_29 rfl ?_
  refine wz_pc (pc2 := 30) rfl ?_
  refine c_init (M := MX1_init) (pc := 30) (M' := MX3_init) (na := 0) (n2 := 10) (mc := 0) (ms := 0) (g := 4) (i := 5) (As := []) (st := [rf 4 5, .int 5, rf 3 0]) (Q := fun q => q = (up (up (up (up (up (up (up (up (up (up (up (up (up (up (up (up (up (up (up (up (up (up (up (up (up (up (up (up (up (up (up (up (up (up (up (up (up (up (up (up (up (up (up (up (up (up (up (up h 2 0 0 1) 4 0 2 (-1)) 4 0 4 1) 4 0 8 (-1)) 4 0 9 (-1)) 4 0 10 (-1)) 4 0 11 (-1)) 4 0 12 (-1)) 3 0 0 1) 4 1 2 (-1)) 4 1 4 1) 4 1 8 (-1)) 4 1 9 (-1)) 4 1 10 (-1)) 4 1 11 (-1)) 4 1 12 (-1)) 3 0 1 1) 4 2 2 (-1)) 4 2 4 1) 4 2 8 (-1)) 4 2 9 (-1)) 4 2 10 (-1)) 4 2 11 (-1)) 4 2 12 (-1)) 3 0 2 1) 4 3 2 (-1)) 4 3 4 1) 4 3 8 (-1)) 4 3 9 (-1)) 4 3 10 (-1)) 4 3 11 (-1)) 4 3 12 (-1)) 3 0 3 1) 4 4 2 (-1)) 4 4 4 1) 4 4 8 (-1)) 4 4 9 (-1)) 4 4 10 (-1)) 4 4 11 (-1)) 4 4 12 (-1)) 3 0 4 1) 4 5 2 (-1)) 4 5 4 1) 4 5 8 (-1)) 4 5 9 (-1)) 4 5 10 (-1)) 4 5 11 (-1)) 4 5 12 (-1))) dX1_init_30 (by decide) rfl cat_ ⟨by decide +kernel, ⟨by decide +kernel, by decide +kernel, by decide +kernel⟩, rfl, rfl, by decide, by decide, by decide, rfl, rfl⟩ ⟨v10, v9, v11, v12⟩ (by decide) ⟨by decide, by decide⟩ rfl (ls0 := [some (rf 4 5)]) rfl (kX3_init (by decide) (by decide) rfl) (fun h1 hq => ?_)
  subst hq
  refine wz_pc (pc2 := 33) rfl ?_
  rw [show rf 4 5 = rf 4 ((5 : Int32).toNatClampNeg) from congrArg (rf 4) (by decide)]
  refine c_aast (t0 := 2) (h2 := (up (up (up (up (up (up (up (up (up (up (up (up (up (up (up (up (up (up (up (up (up (up (up (up (up (up (up (up (up (up (up (up (up (up (up (up (up (up (up (up (up (up (up (up (up (up (up (up (up h 2 0 0 1) 4 0 2 (-1)) 4 0 4 1) 4 0 8 (-1)) 4 0 9 (-1)) 4 0 10 (-1)) 4 0 11 (-1)) 4 0 12 (-1)) 3 0 0 1) 4 1 2 (-1)) 4 1 4 1) 4 1 8 (-1)) 4 1 9 (-1)) 4 1 10 (-1)) 4 1 11 (-1)) 4 1 12 (-1)) 3 0 1 1) 4 2 2 (-1)) 4 2 4 1) 4 2 8 (-1)) 4 2 9 (-1)) 4 2 10 (-1)) 4 2 11 (-1)) 4 2 12 (-1)) 3 0 2 1) 4 3 2 (-1)) 4 3 4 1) 4 3 8 (-1)) 4 3 9 (-1)) 4 3 10 (-1)) 4 3 11 (-1)) 4 3 12 (-1)) 3 0 3 1) 4 4 2 (-1)) 4 4 4 1) 4 4 8 (-1)) 4 4 9 (-1)) 4 4 10 (-1)) 4 4 11 (-1)) 4 4 12 (-1)) 3 0 4 1) 4 5 2 (-1)) 4 5 4 1) 4 5 8 (-1)) 4 5 9 (-1)) 4 5 10 (-1)) 4 5 11 (-1)) 4 5 12 (-1)) 3 0 5 1)) dX1_init_33 ⟨rfl, rfl, rfl⟩ ⟨rfl, rfl⟩ rfl cf3.1 gc_3 (by decide) (by decide) (by decide) (vp_c (by decide) (by decide)) (congrArg (fun z => up (up (up (up (up (up (up (up (up (up (up (up (up (up (up (up (up (up (up (up (up (up (up (up (up (up (up (up (up (up (up (up (up (up (up (up (up (up (up (up (up (up (up (up (up (up (up (up (up h 2 0 0 1) 4 0 2 (-1)) 4 0 4 1) 4 0 8 (-1)) 4 0 9 (-1)) 4 0 10 (-1)) 4 0 11 (-1)) 4 0 12 (-1)) 3 0 0 1) 4 1 2 (-1)) 4 1 4 1) 4 1 8 (-1)) 4 1 9 (-1)) 4 1 10 (-1)) 4 1 11 (-1)) 4 1 12 (-1)) 3 0 1 1) 4 2 2 (-1)) 4 2 4 1) 4 2 8 (-1)) 4 2 9 (-1)) 4 2 10 (-1)) 4 2 11 (-1)) 4 2 12 (-1)) 3 0 2 1) 4 3 2 (-1)) 4 3 4 1) 4 3 8 (-1)) 4 3 9 (-1)) 4 3 10 (-1)) 4 3 11 (-1)) 4 3 12 (-1)) 3 0 3 1) 4 4 2 (-1)) 4 4 4 1) 4 4 8 (-1)) 4 4 9 (-1)) 4 4 10 (-1)) 4 4 11 (-1)) 4 4 12 (-1)) 3 0 4 1) 4 5 2 (-1)) 4 5 4 1) 4 5 8 (-1)) 4 5 9 (-1)) 4 5 10 (-1)) 4 5 11 (-1)) 4 5 12 (-1)) 3 0 z 1) (by decide)) ?_
  refine wz_pc (pc2 := 34) rfl ?_
  refine q_inc1 (v := 6) dX1_init_34 (by decide) (by decide) rfl ?_
  refine wz_pc (pc2 := 37) rfl ?_
  refine wz_goto (tgt := 15) dX1_init_37 rfl ?_
  refine wz_pc (pc2 := 15) rfl ?_
  refine q_ild1 dX1_init_15 ?_
  refine wz_pc (pc2 := 16) rfl ?_
  refine wz_bipush (v := 10) dX1_init_16 (by decide) ?_
  refine wz_pc (pc2 := 18) rfl ?_
  refine wz_icmp_ge (tgt := 40) dX1_init_18 rfl (fun z => absurd z (by decide)) (fun _ => ?_)
  refine wz_pc (pc2 := 21) rfl ?_
  refine q_ald0 dX1_init_21 ?_
  refine wz_pc (pc2 := 22) rfl ?_
  refine c_getR dX1_init_22 cf1 v8 (kf := 0) gr_2_0 gc_2 (by decide) (by simp [up]) ?_
  refine wz_pc (pc2 := 25) rfl ?_
  refine q_ild1 dX1_init_25 ?_
  refine wz_pc (pc2 := 26) rfl ?_
  refine c_new (g := 4) (i := 6) dX1_init_26 cf3 ⟨u5, u6, v9⟩ (by decide) ⟨rfl, rfl⟩ ⟨rfl, rfl, rfl⟩ df4 (by decide) (by decide) ?_
  refine wz_pc (pc2 := 29) rfl ?_
  refine wz_dup dX1_init_29 rfl ?_
  refine wz_pc (pc2 := 30) rfl ?_
  refine c_init (M := MX1_init) (pc := 30) (M' := MX3_init) (na := 0) (n2 := 11) (mc := 0) (ms := 0) (g := 4) (i := 6) (As := []) (st := [rf 4 6, .int 6, rf 3 0]) (Q := fun q => q = (up (up (up (up (up (up (up (up (up (up (up (up (up (up (up (up (up (up (up (up (up (up (up (up (up (up (up (up (up (up (up (up (up (up (up (up (up (up (up (up (up (up (up (up (up (up (up (up (up (up (up (up (up (up (up (up h 2 0 0 1) 4 0 2 (-1)) 4 0 4 1) 4 0 8 (-1)) 4 0 9 (-1)) 4 0 10 (-1)) 4 0 11 (-1)) 4 0 12 (-1)) 3 0 0 1) 4 1 2 (-1)) 4 1 4 1) 4 1 8 (-1)) 4 1 9 (-1)) 4 1 10 (-1)) 4 1 11 (-1)) 4 1 12 (-1)) 3 0 1 1) 4 2 2 (-1)) 4 2 4 1) 4 2 8 (-1)) 4 2 9 (-1)) 4 2 10 (-1)) 4 2 11 (-1)) 4 2 12 (-1)) 3 0 2 1) 4 3 2 (-1)) 4 3 4 1) 4 3 8 (-1)) 4 3 9 (-1)) 4 3 10 (-1)) 4 3 11 (-1)) 4 3 12 (-1)) 3 0 3 1) 4 4 2 (-1)) 4 4 4 1) 4 4 8 (-1)) 4 4 9 (-1)) 4 4 10 (-1)) 4 4 11 (-1)) 4 4 12 (-1)) 3 0 4 1) 4 5 2 (-1)) 4 5 4 1) 4 5 8 (-1)) 4 5 9 (-1)) 4 5 10 (-1)) 4 5 11 (-1)) 4 5 12 (-1)) 3 0 5 1) 4 6 2 (-1)) 4 6 4 1) 4 6 8 (-1)) 4 6 9 (-1)) 4 6 10 (-1)) 4 6 11 (-1)) 4 6 12 (-1))) dX1_init_30 (by decide) rfl cat_ ⟨by decide +kernel, ⟨by decide +kernel, by decide +kernel, by decide +kernel⟩, rfl, rfl, by decide, by decide, by decide, rfl, rfl⟩ ⟨v10, v9, v11, v12⟩ (by decide) ⟨by decide, by decide⟩ rfl (ls0 := [some (rf 4 6)]) rfl (kX3_init (by decide) (by decide) rfl) (fun h1 hq => ?_)
  subst hq
  refine wz_pc (pc2 := 33) rfl ?_
  rw [show rf 4 6 = rf 4 ((6 : Int32).toNatClampNeg) from congrArg (rf 4) (by decide)]
  refine c_aast (t0 := 2) (h2 := (up (up (up (up (up (up (up (up (up (up (up (up (up (up (up (up (up (up (up (up (up (up (up (up (up (up (up (up (up (up (up (up (up (up (up (up (up (up (up (up (up (up (up (up (up (up (up (up (up (up (up (up (up (up (up (up (up h 2 0 0 1) 4 0 2 (-1)) 4 0 4 1) 4 0 8 (-1)) 4 0 9 (-1)) 4 0 10 (-1)) 4 0 11 (-1)) 4 0 12 (-1)) 3 0 0 1) 4 1 2 (-1)) 4 1 4 1) 4 1 8 (-1)) 4 1 9 (-1)) 4 1 10 (-1)) 4 1 11 (-1)) 4 1 12 (-1)) 3 0 1 1) 4 2 2 (-1)) 4 2 4 1) 4 2 8 (-1)) 4 2 9 (-1)) 4 2 10 (-1)) 4 2 11 (-1)) 4 2 12 (-1)) 3 0 2 1) 4 3 2 (-1)) 4 3 4 1) 4 3 8 (-1)) 4 3 9 (-1)) 4 3 10 (-1)) 4 3 11 (-1)) 4 3 12 (-1)) 3 0 3 1) 4 4 2 (-1)) 4 4 4 1) 4 4 8 (-1)) 4 4 9 (-1)) 4 4 10 (-1)) 4 4 11 (-1)) 4 4 12 (-1)) 3 0 4 1) 4 5 2 (-1)) 4 5 4 1) 4 5 8 (-1)) 4 5 9 (-1)) 4 5 10 (-1)) 4 5 11 (-1)) 4 5 12 (-1)) 3 0 5 1) 4 6 2 (-1)) 4 6 4 1) 4 6 8 (-1)) 4 6 9 (-1)) 4 6 10 (-1)) 4 6 11 (-1)) 4 6 12 (-1)) 3 0 6 1)) dX1_init_33 ⟨rfl, rfl, rfl⟩ ⟨rfl, rfl⟩ rfl cf3.1 gc_3 (by decide) (by decide) (by decide) (vp_c (by decide) (by decide)) (congrArg (fun z => up (up (up (up (up (up (up (up (up (up (up (up (up (up (up (up (up (up (up (up (up (up (up (up (up (up (up (up (up (up (up (up (up (up (up (up (up (up (up (up (up (up (up (up (up (up (up (up (up (up (up (up (up (up (up (up (up h 2 0 0 1) 4 0 2 (-1)) 4 0 4 1) 4 0 8 (-1)) 4 0 9 (-1)) 4 0 10 (-1)) 4 0 11 (-1)) 4 0 12 (-1)) 3 0 0 1) 4 1 2 (-1)) 4 1 4 1) 4 1 8 (-1)) 4 1 9 (-1)) 4 1 10 (-1)) 4 1 11 (-1)) 4 1 12 (-1)) 3 0 1 1) 4 2 2 (-1)) 4 2 4 1) 4 2 8 (-1)) 4 2 9 (-1)) 4 2 10 (-1)) 4 2 11 (-1)) 4 2 12 (-1)) 3 0 2 1) 4 3 2 (-1)) 4 3 4 1) 4 3 8 (-1)) 4 3 9 (-1)) 4 3 10 (-1)) 4 3 11 (-1)) 4 3 12 (-1)) 3 0 3 1) 4 4 2 (-1)) 4 4 4 1) 4 4 8 (-1)) 4 4 9 (-1)) 4 4 10 (-1)) 4 4 11 (-1)) 4 4 12 (-1)) 3 0 4 1) 4 5 2 (-1)) 4 5 4 1) 4 5 8 (-1)) 4 5 9 (-1)) 4 5 10 (-1)) 4 5 11 (-1)) 4 5 12 (-1)) 3 0 5 1) 4 6 2 (-1)) 4 6 4 1) 4 6 8 (-1)) 4 6 9 (-1)) 4 6 10 (-1)) 4 6 11 (-1)) 4 6 12 (-1)) 3 0 z 1) (by decide)) ?_
  refine wz_pc (pc2 := 34) rfl ?_
  refine q_inc1 (v := 7) dX1_init_34 (by decide) (by decide) rfl ?_
  refine wz_pc (pc2 := 37) rfl ?_
  refine wz_goto (tgt := 15) dX1_init_37 rfl ?_
  refine wz_pc (pc2 := 15) rfl ?_
  refine q_ild1 dX1_init_15 ?_
  refine wz_pc (pc2 := 16) rfl ?_
  refine wz_bipush (v := 10) dX1_init_16 (by decide) ?_
  refine wz_pc (pc2 := 18) rfl ?_
  refine wz_icmp_ge (tgt := 40) dX1_init_18 rfl (fun z => absurd z (by decide)) (fun _ => ?_)
  refine wz_pc (pc2 := 21) rfl ?_
  refine q_ald0 dX1_init_21 ?_
  refine wz_pc (pc2 := 22) rfl ?_
  refine c_getR dX1_init_22 cf1 v8 (kf := 0) gr_2_0 gc_2 (by decide) (by simp [up]) ?_
  refine wz_pc (pc2 := 25) rfl ?_
  refine q_ild1 dX1_init_25 ?_
  refine wz_pc (pc2 := 26) rfl ?_
  refine c_new (g := 4) (i := 7) dX1_init_26 cf3 ⟨u5, u6, v9⟩ (by decide) ⟨rfl, rfl⟩ ⟨rfl, rfl, rfl⟩ df4 (by decide) (by decide) ?_
  refine wz_pc (pc2 := 29) rfl ?_
  refine wz_dup dX1_init_29 rfl ?_
  refine wz_pc (pc2 := 30) rfl ?_
  refine c_init (M := MX1_init) (pc := 30) (M' := MX3_init) (na := 0) (n2 := 12) (mc := 0) (ms := 0) (g := 4) (i := 7) (As := []) (st := [rf 4 7, .int 7, rf 3 0]) (Q := fun q => q = (up (up (up (up (up (up (up (up (up (up (up (up (up (up (up (up (up (up (up (up (up (up (up (up (up (up (up (up (up (up (up (up (up (up (up (up (up (up (up (up (up (up (up (up (up (up (up (up (up (up (up (up (up (up (up (up (up (up (up (up (up (up (up (up h 2 0 0 1) 4 0 2 (-1)) 4 0 4 1) 4 0 8 (-1)) 4 0 9 (-1)) 4 0 10 (-1)) 4 0 11 (-1)) 4 0 12 (-1)) 3 0 0 1) 4 1 2 (-1)) 4 1 4 1) 4 1 8 (-1)) 4 1 9 (-1)) 4 1 10 (-1)) 4 1 11 (-1)) 4 1 12 (-1)) 3 0 1 1) 4 2 2 (-1)) 4 2 4 1) 4 2 8 (-1)) 4 2 9 (-1)) 4 2 10 (-1)) 4 2 11 (-1)) 4 2 12 (-1)) 3 0 2 1) 4 3 2 (-1)) 4 3 4 1) 4 3 8 (-1)) 4 3 9 (-1)) 4 3 10 (-1)) 4 3 11 (-1)) 4 3 12 (-1)) 3 0 3 1) 4 4 2 (-1)) 4 4 4 1) 4 4 8 (-1)) 4 4 9 (-1)) 4 4 10 (-1)) 4 4 11 (-1)) 4 4 12 (-1)) 3 0 4 1) 4 5 2 (-1)) 4 5 4 1) 4 5 8 (-1)) 4 5 9 (-1)) 4 5 10 (-1)) 4 5 11 (-1)) 4 5 12 (-1)) 3 0 5 1) 4 6 2 (-1)) 4 6 4 1) 4 6 8 (-1)) 4 6 9 (-1)) 4 6 10 (-1)) 4 6 11 (-1)) 4 6 12 (-1)) 3 0 6 1) 4 7 2 (-1)) 4 7 4 1) 4 7 8 (-1)) 4 7 9 (-1)) 4 7 10 (-1)) 4 7 11 (-1)) 4 7 12 (-1))) dX1_init_30 (by decide) rfl cat_ ⟨by decide +kernel, ⟨by decide +kernel, by decide +kernel, by decide +kernel⟩, rfl, rfl, by decide, by decide, by decide, rfl, rfl⟩ ⟨v10, v9, v11, v12⟩ (by decide) ⟨by decide, by decide⟩ rfl (ls0 := [some (rf 4 7)]) rfl (kX3_init (by decide) (by decide) rfl) (fun h1 hq => ?_)
  subst hq
  refine wz_pc (pc2 := 33) rfl ?_
  rw [show rf 4 7 = rf 4 ((7 : Int32).toNatClampNeg) from congrArg (rf 4) (by decide)]
  refine c_aast (t0 := 2) (h2 := (up (up (up (up (up (up (up (up (up (up (up (up (up (up (up (up (up (up (up (up (up (up (up (up (up (up (up (up (up (up (up (up (up (up (up (up (up (up (up (up (up (up (up (up (up (up (up (up (up (up (up (up (up (up (up (up (up (up (up (up (up (up (up (up (up h 2 0 0 1) 4 0 2 (-1)) 4 0 4 1) 4 0 8 (-1)) 4 0 9 (-1)) 4 0 10 (-1)) 4 0 11 (-1)) 4 0 12 (-1)) 3 0 0 1) 4 1 2 (-1)) 4 1 4 1) 4 1 8 (-1)) 4 1 9 (-1)) 4 1 10 (-1)) 4 1 11 (-1)) 4 1 12 (-1)) 3 0 1 1) 4 2 2 (-1)) 4 2 4 1) 4 2 8 (-1)) 4 2 9 (-1)) 4 2 10 (-1)) 4 2 11 (-1)) 4 2 12 (-1)) 3 0 2 1) 4 3 2 (-1)) 4 3 4 1) 4 3 8 (-1)) 4 3 9 (-1)) 4 3 10 (-1)) 4 3 11 (-1)) 4 3 12 (-1)) 3 0 3 1) 4 4 2 (-1)) 4 4 4 1) 4 4 8 (-1)) 4 4 9 (-1)) 4 4 10 (-1)) 4 4 11 (-1)) 4 4 12 (-1)) 3 0 4 1) 4 5 2 (-1)) 4 5 4 1) 4 5 8 (-1)) 4 5 9 (-1)) 4 5 10 (-1)) 4 5 11 (-1)) 4 5 12 (-1)) 3 0 5 1) 4 6 2 (-1)) 4 6 4 1) 4 6 8 (-1)) 4 6 9 (-1)) 4 6 10 (-1)) 4 6 11 (-1)) 4 6 12 (-1)) 3 0 6 1) 4 7 2 (-1)) 4 7 4 1) 4 7 8 (-1)) 4 7 9 (-1)) 4 7 10 (-1)) 4 7 11 (-1)) 4 7 12 (-1)) 3 0 7 1)) dX1_init_33 ⟨rfl, rfl, rfl⟩ ⟨rfl, rfl⟩ rfl cf3.1 gc_3 (by decide) (by decide) (by decide) (vp_c (by decide) (by decide)) (congrArg (fun z => up (up (up (up (up (up (up (up (up (up (up (up (up (up (up (up (up (up (up (up (up (up (up (up (up (up (up (up (up (up (up (up (up (up (up (up (up (up (up (up (up (up (up (up (up (up (up (up (up (up (up (up (up (up (up (up (up (up (up (up (up (up (up (up (up h 2 0 0 1) 4 0 2 (-1)) 4 0 4 1) 4 0 8 (-1)) 4 0 9 (-1)) 4 0 10 (-1)) 4 0 11 (-1)) 4 0 12 (-1)) 3 0 0 1) 4 1 2 (-1)) 4 1 4 1) 4 1 8 (-1)) 4 1 9 (-1)) 4 1 10 (-1)) 4 1 11 (-1)) 4 1 12 (-1)) 3 0 1 1) 4 2 2 (-1)) 4 2 4 1) 4 2 8 (-1)) 4 2 9 (-1)) 4 2 10 (-1)) 4 2 11 (-1)) 4 2 12 (-1)) 3 0 2 1) 4 3 2 (-1)) 4 3 4 1) 4 3 8 (-1)) 4 3 9 (-1)) 4 3 10 (-1)) 4 3 11 (-1)) 4 3 12 (-1)) 3 0 3 1) 4 4 2 (-1)) 4 4 4 1) 4 4 8 (-1)) 4 4 9 (-1)) 4 4 10 (-1)) 4 4 11 (-1)) 4 4 12 (-1)) 3 0 4 1) 4 5 2 (-1)) 4 5 4 1) 4 5 8 (-1)) 4 5 9 (-1)) 4 5 10 (-1)) 4 5 11 (-1)) 4 5 12 (-1)) 3 0 5 1) 4 6 2 (-1)) 4 6 4 1) 4 6 8 (-1)) 4 6 9 (-1)) 4 6 10 (-1)) 4 6 11 (-1)) 4 6 12 (-1)) 3 0 6 1) 4 7 2 (-1)) 4 7 4 1) 4 7 8 (-1)) 4 7 9 (-1)) 4 7 10 (-1)) 4 7 11 (-1)) 4 7 12 (-1)) 3 0 z 1) (by decide)) ?_
  refine wz_pc (pc2 := 34) rfl ?_
  refine q_inc1 (v := 8) dX1_init_34 (by decide) (by decide) rfl ?_
  refine wz_pc (pc2 := 37) rfl ?_
  refine wz_goto (tgt := 15) dX1_init_37 rfl ?_
  refine wz_pc (pc2 := 15) rfl ?_
  refine q_ild1 dX1_init_15 ?_
  refine wz_pc (pc2 := 16) rfl ?_
  refine wz_bipush (v := 10) dX1_init_16 (by decide) ?_
  refine wz_pc (pc2 := 18) rfl ?_
  refine wz_icmp_ge (tgt := 40) dX1_init_18 rfl (fun z => absurd z (by decide)) (fun _ => ?_)
  refine wz_pc (pc2 := 21) rfl ?_
  refine q_ald0 dX1_init_21 ?_
  refine wz_pc (pc2 := 22) rfl ?_
  refine c_getR dX1_init_22 cf1 v8 (kf := 0) gr_2_0 gc_2 (by decide) (by simp [up]) ?_
  refine wz_pc (pc2 := 25) rfl ?_
  refine q_ild1 dX1_init_25 ?_
  refine wz_pc (pc2 := 26) rfl ?_
  refine c_new (g := 4) (i := 8) dX1_init_26 cf3 ⟨u5, u6, v9⟩ (by decide) ⟨rfl, rfl⟩ ⟨rfl, rfl, rfl⟩ df4 (by decide) (by decide) ?_
  refine wz_pc (pc2 := 29) rfl ?_
  refine wz_dup dX1_init_29 rfl ?_
  refine wz_pc (pc2 := 30) rfl ?_
  refine c_init (M := MX1_init) (pc := 30) (M' := MX3_init) (na := 0) (n2 := 13) (mc := 0) (ms := 0) (g := 4) (i := 8) (As := []) (st := [rf 4 8, .int 8, rf 3 0]) (Q := fun q => q = (up (up (up (up (up (up (up (up (up (up (up (up (up (up (up (up (up (up (up (up (up (up (up (up (up (up (up (up (up (up (up (up (up (up (up (up (up (up (up (up (up (up (up (up (up (up (up (up (up (up (up (up (up (up (up (up (up (up (up (up (up (up (up (up (up (up (up (up (up (up (up (up h 2 0 0 1) 4 0 2 (-1)) 4 0 4 1) 4 0 8 (-1)) 4 0 9 (-1)) 4 0 10 (-1)) 4 0 11 (-1)) 4 0 12 (-1)) 3 0 0 1) 4 1 2 (-1)) 4 1 4 1) 4 1 8 (-1)) 4 1 9 (-1)) 4 1 10 (-1)) 4 1 11 (-1)) 4 1 12 (-1)) 3 0 1 1) 4 2 2 (-1)) 4 2 4 1) 4 2 8 (-1)) 4 2 9 (-1)) 4 2 10 (-1)) 4 2 11 (-1)) 4 2 12 (-1)) 3 0 2 1) 4 3 2 (-1)) 4 3 4 1) 4 3 8 (-1)) 4 3 9 (-1)) 4 3 10 (-1)) 4 3 11 (-1)) 4 3 12 (-1)) 3 0 3 1) 4 4 2 (-1)) 4 4 4 1) 4 4 8 (-1)) 4 4 9 (-1)) 4 4 10 (-1)) 4 4 11 (-1)) 4 4 12 (-1)) 3 0 4 1) 4 5 2 (-1)) 4 5 4 1) 4 5 8 (-1)) 4 5 9 (-1)) 4 5 10 (-1)) 4 5 11 (-1)) 4 5 12 (-1)) 3 0 5 1) 4 6 2 (-1)) 4 6 4 1) 4 6 8 (-1)) 4 6 9 (-1)) 4 6 10 (-1)) 4 6 11 (-1)) 4 6 12 (-1)) 3 0 6 1) 4 7 2 (-1)) 4 7 4 1) 4 7 8 (-1)) 4 7 9 (-1)) 4 7 10 (-1)) 4 7 11 (-1)) 4 7 12 (-1)) 3 0 7 1) 4 8 2 (-1)) 4 8 4 1) 4 8 8 (-1)) 4 8 9 (-1)) 4 8 10 (-1)) 4 8 11 (-1)) 4 8 12 (-1))) dX1_init_30 (by decide) rfl cat_ ⟨by decide +kernel, ⟨by decide +kernel, by decide +kernel, by decide +kernel⟩, rfl, rfl, by decide, by decide, by decide, rfl, rfl⟩ ⟨v10, v9, v11, v12⟩ (by decide) ⟨by decide, by decide⟩ rfl (ls0 := [some (rf 4 8)]) rfl (kX3_init (by decide) (by decide) rfl) (fun h1 hq => ?_)
  subst hq
  refine wz_pc (pc2 := 33) rfl ?_
  rw [show rf 4 8 = rf 4 ((8 : Int32).toNatClampNeg) from congrArg (rf 4) (by decide)]
  refine c_aast (t0 := 2) (h2 := (up (up (up (up (up (up (up (up (up (up (up (up (up (up (up (up (up (up (up (up (up (up (up (up (up (up (up (up (up (up (up (up (up (up (up (up (up (up (up (up (up (up (up (up (up (up (up (up (up (up (up (up (up (up (up (up (up (up (up (up (up (up (up (up (up (up (up (up (up (up (up (up (up h 2 0 0 1) 4 0 2 (-1)) 4 0 4 1) 4 0 8 (-1)) 4 0 9 (-1)) 4 0 10 (-1)) 4 0 11 (-1)) 4 0 12 (-1)) 3 0 0 1) 4 1 2 (-1)) 4 1 4 1) 4 1 8 (-1)) 4 1 9 (-1)) 4 1 10 (-1)) 4 1 11 (-1)) 4 1 12 (-1)) 3 0 1 1) 4 2 2 (-1)) 4 2 4 1) 4 2 8 (-1)) 4 2 9 (-1)) 4 2 10 (-1)) 4 2 11 (-1)) 4 2 12 (-1)) 3 0 2 1) 4 3 2 (-1)) 4 3 4 1) 4 3 8 (-1)) 4 3 9 (-1)) 4 3 10 (-1)) 4 3 11 (-1)) 4 3 12 (-1)) 3 0 3 1) 4 4 2 (-1)) 4 4 4 1) 4 4 8 (-1)) 4 4 9 (-1)) 4 4 10 (-1)) 4 4 11 (-1)) 4 4 12 (-1)) 3 0 4 1) 4 5 2 (-1)) 4 5 4 1) 4 5 8 (-1)) 4 5 9 (-1)) 4 5 10 (-1)) 4 5 11 (-1)) 4 5 12 (-1)) 3 0 5 1) 4 6 2 (-1)) 4 6 4 1) 4 6 8 (-1)) 4 6 9 (-1)) 4 6 10 (-1)) 4 6 11 (-1)) 4 6 12 (-1)) 3 0 6 1) 4 7 2 (-1)) 4 7 4 1) 4 7 8 (-1)) 4 7 9 (-1)) 4 7 10 (-1)) 4 7 11 (-1)) 4 7 12 (-1)) 3 0 7 1) 4 8 2 (-1)) 4 8 4 1) 4 8 8 (-1)) 4 8 9 (-1)) 4 8 10 (-1)) 4 8 11 (-1)) 4 8 12 (-1)) 3 0 8 1)) dX1_init_33 ⟨rfl, rfl, rfl⟩ ⟨rfl, rfl⟩ rfl cf3.1 gc_3 (by decide) (by decide) (by decide) (vp_c (by decide) (by decide)) (congrArg (fun z => up (up (up (up (up (up (up (up (up (up (up (up (up (up (up (up (up (up (up (up (up (up (up (up (up (up (up (up (up (up (up (up (up (up (up (up (up (up (up (up (up (up (up (up (up (up (up (up (up (up (up (up (up (up (up (up (up (up (up (up (up (up (up (up (up (up (up (up (up (up (up (up (up h 2 0 0 1) 4 0 2 (-1)) 4 0 4 1) 4 0 8 (-1)) 4 0 9 (-1)) 4 0 10 (-1)) 4 0 11 (-1)) 4 0 12 (-1)) 3 0 0 1) 4 1 2 (-1)) 4 1 4 1) 4 1 8 (-1)) 4 1 9 (-1)) 4 1 10 (-1)) 4 1 11 (-1)) 4 1 12 (-1)) 3 0 1 1) 4 2 2 (-1)) 4 2 4 1) 4 2 8 (-1)) 4 2 9 (-1)) 4 2 10 (-1)) 4 2 11 (-1)) 4 2 12 (-1)) 3 0 2 1) 4 3 2 (-1)) 4 3 4 1) 4 3 8 (-1)) 4 3 9 (-1)) 4 3 10 (-1)) 4 3 11 (-1)) 4 3 12 (-1)) 3 0 3 1) 4 4 2 (-1)) 4 4 4 1) 4 4 8 (-1)) 4 4 9 (-1)) 4 4 10 (-1)) 4 4 11 (-1)) 4 4 12 (-1)) 3 0 4 1) 4 5 2 (-1)) 4 5 4 1) 4 5 8 (-1)) 4 5 9 (-1)) 4 5 10 (-1)) 4 5 11 (-1)) 4 5 12 (-1)) 3 0 5 1) 4 6 2 (-1)) 4 6 4 1) 4 6 8 (-1)) 4 6 9 (-1)) 4 6 10 (-1)) 4 6 11 (-1)) 4 6 12 (-1)) 3 0 6 1) 4 7 2 (-1)) 4 7 4 1) 4 7 8 (-1)) 4 7 9 (-1)) 4 7 10 (-1)) 4 7 11 (-1)) 4 7 12 (-1)) 3 0 7 1) 4 8 2 (-1)) 4 8 4 1) 4 8 8 (-1)) 4 8 9 (-1)) 4 8 10 (-1)) 4 8 11 (-1)) 4 8 12 (-1)) 3 0 z 1) (by decide)) ?_
  refine wz_pc (pc2 := 34) rfl ?_
  refine q_inc1 (v := 9) dX1_init_34 (by decide) (by decide) rfl ?_
  refine wz_pc (pc2 := 37) rfl ?_
  refine wz_goto (tgt := 15) dX1_init_37 rfl ?_
  refine wz_pc (pc2 := 15) rfl ?_
  refine q_ild1 dX1_init_15 ?_
  refine wz_pc (pc2 := 16) rfl ?_
  refine wz_bipush (v := 10) dX1_init_16 (by decide) ?_
  refine wz_pc (pc2 := 18) rfl ?_
  refine wz_icmp_ge (tgt := 40) dX1_init_18 rfl (fun z => absurd z (by decide)) (fun _ => ?_)
  refine wz_pc (pc2 := 21) rfl ?_
  refine q_ald0 dX1_init_21 ?_
  refine wz_pc (pc2 := 22) rfl ?_
  refine c_getR dX1_init_22 cf1 v8 (kf := 0) gr_2_0 gc_2 (by decide) (by simp [up]) ?_
  refine wz_pc (pc2 := 25) rfl ?_
  refine q_ild1 dX1_init_25 ?_
  refine wz_pc (pc2 := 26) rfl ?_
  refine c_new (g := 4) (i := 9) dX1_init_26 cf3 ⟨u5, u6, v9⟩ (by decide) ⟨rfl, rfl⟩ ⟨rfl, rfl, rfl⟩ df4 (by decide) (by decide) ?_
  refine wz_pc (pc2 := 29) rfl ?_
  refine wz_dup dX1_init_29 rfl ?_
  refine wz_pc (pc2 := 30) rfl ?_
  refine c_init (M := MX1_init) (pc := 30) (M' := MX3_init) (na := 0) (n2 := 14) (mc := 0) (ms := 0) (g := 4) (i := 9) (As := []) (st := [rf 4 9, .int 9, rf 3 0]) (Q := fun q => q = (up (up (up (up (up (up (up (up (up (up (up (up (up (up (up (up (up (up (up (up (up (up (up (up (up (up (up (up (up (up (up (up (up (up (up (up (up (up (up (up (up (up (up (up (up (up (up (up (up (up (up (up (up (up (up (up (up (up (up (up (up (up (up (up (up (up (up (up (up (up (up (up (up (up (up (up (up (up (up (up h 2 0 0 1) 4 0 2 (-1)) 4 0 4 1) 4 0 8 (-1)) 4 0 9 (-1)) 4 0 10 (-1)) 4 0 11 (-1)) 4 0 12 (-1)) 3 0 0 1) 4 1 2 (-1)) 4 1 4 1) 4 1 8 (-1)) 4 1 9 (-1)) 4 1 10 (-1)) 4 1 11 (-1)) 4 1 12 (-1)) 3 0 1 1) 4 2 2 (-1)) 4 2 4 1) 4 2 8 (-1)) 4 2 9 (-1)) 4 2 10 (-1)) 4 2 11 (-1)) 4 2 12 (-1)) 3 0 2 1) 4 3 2 (-1)) 4 3 4 1) 4 3 8 (-1)) 4 3 9 (-1)) 4 3 10 (-1)) 4 3 11 (-1)) 4 3 12 (-1)) 3 0 3 1) 4 4 2 (-1)) 4 4 4 1) 4 4 8 (-1)) 4 4 9 (-1)) 4 4 10 (-1)) 4 4 11 (-1)) 4 4 12 (-1)) 3 0 4 1) 4 5 2 (-1)) 4 5 4 1) 4 5 8 (-1)) 4 5 9 (-1)) 4 5 10 (-1)) 4 5 11 (-1)) 4 5 12 (-1)) 3 0 5 1) 4 6 2 (-1)) 4 6 4 1) 4 6 8 (-1)) 4 6 9 (-1)) 4 6 10 (-1)) 4 6 11 (-1)) 4 6 12 (-1)) 3 0 6 1) 4 7 2 (-1)) 4 7 4 1) 4 7 8 (-1)) 4 7 9 (-1)) 4 7 10 (-1)) 4 7 11 (-1)) 4 7 12 (-1)) 3 0 7 1) 4 8 2 (-1)) 4 8 4 1) 4 8 8 (-1)) 4 8 9 (-1)) 4 8 10 (-1)) 4 8 11 (-1)) 4 8 12 (-1)) 3 0 8 1) 4 9 2 (-1)) 4 9 4 1) 4 9 8 (-1)) 4 9 9 (-1)) 4 9 10 (-1)) 4 9 11 (-1)) 4 9 12 (-1))) dX1_init_30 (by decide) rfl cat_ ⟨by decide +kernel, ⟨by decide +kernel, by decide +kernel, by decide +kernel⟩, rfl, rfl, by decide, by decide, by decide, rfl, rfl⟩ ⟨v10, v9, v11, v12⟩ (by decide) ⟨by decide, by decide⟩ rfl (ls0 := [some (rf 4 9)]) rfl (kX3_init (by decide) (by decide) rfl) (fun h1 hq => ?_)
  subst hq
  refine wz_pc (pc2 := 33) rfl ?_
  rw [show rf 4 9 = rf 4 ((9 : Int32).toNatClampNeg) from congrArg (rf 4) (by decide)]
  refine c_aast (t0 := 2) (h2 := (up (up (up (up (up (up (up (up (up (up (up (up (up (up (up (up (up (up (up (up (up (up (up (up (up (up (up (up (up (up (up (up (up (up (up (up (up (up (up (up (up (up (up (up (up (up (up (up (up (up (up (up (up (up (up (up (up (up (up (up (up (up (up (up (up (up (up (up (up (up (up (up (up (up (up (up (up (up (up (up (up h 2 0 0 1) 4 0 2 (-1)) 4 0 4 1) 4 0 8 (-1)) 4 0 9 (-1)) 4 0 10 (-1)) 4 0 11 (-1)) 4 0 12 (-1)) 3 0 0 1) 4 1 2 (-1)) 4 1 4 1) 4 1 8 (-1)) 4 1 9 (-1)) 4 1 10 (-1)) 4 1 11 (-1)) 4 1 12 (-1)) 3 0 1 1) 4 2 2 (-1)) 4 2 4 1) 4 2 8 (-1)) 4 2 9 (-1)) 4 2 10 (-1)) 4 2 11 (-1)) 4 2 12 (-1)) 3 0 2 1) 4 3 2 (-1)) 4 3 4 1) 4 3 8 (-1)) 4 3 9 (-1)) 4 3 10 (-1)) 4 3 11 (-1)) 4 3 12 (-1)) 3 0 3 1) 4 4 2 (-1)) 4 4 4 1) 4 4 8 (-1)) 4 4 9 (-1)) 4 4 10 (-1)) 4 4 11 (-1)) 4 4 12 (-1)) 3 0 4 1) 4 5 2 (-1)) 4 5 4 1) 4 5 8 (-1)) 4 5 9 (-1)) 4 5 10 (-1)) 4 5 11 (-1)) 4 5 12 (-1)) 3 0 5 1) 4 6 2 (-1)) 4 6 4 1) 4 6 8 (-1)) 4 6 9 (-1)) 4 6 10 (-1)) 4 6 11 (-1)) 4 6 12 (-1)) 3 0 6 1) 4 7 2 (-1)) 4 7 4 1) 4 7 8 (-1)) 4 7 9 (-1)) 4 7 10 (-1)) 4 7 11 (-1)) 4 7 12 (-1)) 3 0 7 1) 4 8 2 (-1)) 4 8 4 1) 4 8 8 (-1)) 4 8 9 (-1)) 4 8 10 (-1)) 4 8 11 (-1)) 4 8 12 (-1)) 3 0 8 1) 4 9 2 (-1)) 4 9 4 1) 4 9 8 (-1)) 4 9 9 (-1)) 4 9 10 (-1)) 4 9 11 (-1)) 4 9 12 (-1)) 3 0 9 1)) dX1_init_33 ⟨rfl, rfl, rfl⟩ ⟨rfl, rfl⟩ rfl cf3.1 gc_3 (by decide) (by decide) (by decide) (vp_c (by decide) (by decide)) (congrArg (fun z => up (up (up (up (up (up (up (up (up (up (up (up (up (up (up (up (up (up (up (up (up (up (up (up (up (up (up (up (up (up (up (up (up (up (up (up (up (up (up (up (up (up (up (up (up (up (up (up (up (up (up (up (up (up (up (up (up (up (up (up (up (up (up (up (up (up (up (up (up (up (up (up (up (up (up (up (up (up (up (up (up h 2 0 0 1) 4 0 2 (-1)) 4 0 4 1) 4 0 8 (-1)) 4 0 9 (-1)) 4 0 10 (-1)) 4 0 11 (-1)) 4 0 12 (-1)) 3 0 0 1) 4 1 2 (-1)) 4 1 4 1) 4 1 8 (-1)) 4 1 9 (-1)) 4 1 10 (-1)) 4 1 11 (-1)) 4 1 12 (-1)) 3 0 1 1) 4 2 2 (-1)) 4 2 4 1) 4 2 8 (-1)) 4 2 9 (-1)) 4 2 10 (-1)) 4 2 11 (-1)) 4 2 12 (-1)) 3 0 2 1) 4 3 2 (-1)) 4 3 4 1) 4 3 8 (-1)) 4 3 9 (-1)) 4 3 10 (-1)) 4 3 11 (-1)) 4 3 12 (-1)) 3 0 3 1) 4 4 2 (-1)) 4 4 4 1) 4 4 8 (-1)) 4 4 9 (-1)) 4 4 10 (-1)) 4 4 11 (-1)) 4 4 12 (-1)) 3 0 4 1) 4 5 2 (-1)) 4 5 4 1) 4 5 8 (-1)) 4 5 9 (-1)) 4 5 10 (-1)) 4 5 11 (-1)) 4 5 12 (-1)) 3 0 5 1) 4 6 2 (-1)) 4 6 4 1) 4 6 8 (-1)) 4 6 9 (-1)) 4 6 10 (-1)) 4 6 11 (-1)) 4 6 12 (-1)) 3 0 6 1) 4 7 2 (-1)) 4 7 4 1) 4 7 8 (-1)) 4 7 9 (-1)) 4 7 10 (-1)) 4 7 11 (-1)) 4 7 12 (-1)) 3 0 7 1) 4 8 2 (-1)) 4 8 4 1) 4 8 8 (-1)) 4 8 9 (-1)) 4 8 10 (-1)) 4 8 11 (-1)) 4 8 12 (-1)) 3 0 8 1) 4 9 2 (-1)) 4 9 4 1) 4 9 8 (-1)) 4 9 9 (-1)) 4 9 10 (-1)) 4 9 11 (-1)) 4 9 12 (-1)) 3 0 z 1) (by decide)) ?_
  refine wz_pc (pc2 := 34) rfl ?_
  refine q_inc1 (v := 10) dX1_init_34 (by decide) (by decide) rfl ?_
  refine wz_pc (pc2 := 37) rfl ?_
  refine wz_goto (tgt := 15) dX1_init_37 rfl ?_
  refine wz_pc (pc2 := 15) rfl ?_
  refine q_ild1 dX1_init_15 ?_
  refine wz_pc (pc2 := 16) rfl ?_
  refine wz_bipush (v := 10) dX1_init_16 (by decide) ?_
  refine wz_pc (pc2 := 18) rfl ?_
  refine wz_icmp_ge (tgt := 40) dX1_init_18 rfl (fun _ => ?_) (fun z => absurd z (by decide))
  refine wz_pc (pc2 := 40) rfl ?_
  refine q_ald0 dX1_init_40 ?_
  refine wz_pc (pc2 := 41) rfl ?_
  refine wz_bipush (v := 20) dX1_init_41 (by decide) ?_
  refine wz_pc (pc2 := 43) rfl ?_
  refine c_newI (g := 5) (i := 0) dX1_init_43 u7 (by decide) ⟨rfl, rfl⟩ ⟨rfl, rfl⟩ (by decide) (by decide) (by decide) (by decide) (by decide) ?_
  refine wz_pc (pc2 := 45) rfl ?_
  refine c_putR dX1_init_45 cf1 v13 (kf := 2) ⟨rfl, rfl, rfl, by decide, rfl, rfl, rfl⟩ ⟨tyX1_ok 2 (by decide), fun _ => rfl, fun _ => rfl⟩ rfl gc_2 (by decide) gc_5 rfl ?_
  refine wz_pc (pc2 := 48) rfl ?_
  refine q_ald0 dX1_init_48 ?_
  refine wz_pc (pc2 := 49) rfl ?_
  refine wz_bipush (v := 20) dX1_init_49 (by decide) ?_
  refine wz_pc (pc2 := 51) rfl ?_
  refine c_newI (g := 6) (i := 0) dX1_init_51 u7 (by decide) ⟨rfl, rfl⟩ ⟨rfl, rfl⟩ (by decide) (by decide) (by decide) (by decide) (by decide) ?_
  refine wz_pc (pc2 := 53) rfl ?_
  refine c_putR dX1_init_53 cf1 v14 (kf := 3) ⟨rfl, rfl, rfl, by decide, rfl, rfl, rfl⟩ ⟨tyX1_ok 3 (by decide), fun _ => rfl, fun _ => rfl⟩ rfl gc_2 (by decide) gc_6 rfl ?_
  refine wz_pc (pc2 := 56) rfl ?_
  refine q_ald0 dX1_init_56 ?_
  refine wz_pc (pc2 := 57) rfl ?_
  refine wz_bipush (v := 20) dX1_init_57 (by decide) ?_
  refine wz_pc (pc2 := 59) rfl ?_
  refine c_newI (g := 7) (i := 0) dX1_init_59 u7 (by decide) ⟨rfl, rfl⟩ ⟨rfl, rfl⟩ (by decide) (by decide) (by decide) (by decide) (by decide) ?_
  refine wz_pc (pc2 := 61) rfl ?_
  refine c_putR dX1_init_61 cf1 v15 (kf := 4) ⟨rfl, rfl, rfl, by decide, rfl, rfl, rfl⟩ ⟨tyX1_ok 4 (by decide), fun _ => rfl, fun _ => rfl⟩ rfl gc_2 (by decide) gc_7 rfl ?_
  refine wz_pc (pc2 := 64) rfl ?_
  exact c_ret dX1_init_64 rfl hQ
set_option maxRecDepth 20000 in
set_option maxHeartbeats 4000000 in
theorem kX4_init {E : EN} {h : TH} {Q : TH → Prop} (hQ : Q (up (up (up (up (up (up (up (up (up (up (up (up (up (up (up (up (up (up (up (up (up (up (up (up (up (up (up (up (up (up (up (up (up (up (up (up (up (up (up (up (up (up (up (up h 8 0 0 1) 9 0 0 20) 9 0 1 90) 9 0 2 180) 9 0 3 3) 9 0 4 1) 9 0 5 0) 8 0 1 1) 8 0 2 1) 11 0 3 (-1)) 10 0 0 1) 11 1 3 (-1)) 10 0 1 1) 11 2 3 (-1)) 10 0 2 1) 11 3 3 (-1)) 10 0 3 1) 11 4 3 (-1)) 10 0 4 1) 11 5 3 (-1)) 10 0 5 1) 11 6 3 (-1)) 10 0 6 1) 11 7 3 (-1)) 10 0 7 1) 11 8 3 (-1)) 10 0 8 1) 11 9 3 (-1)) 10 0 9 1) 11 10 3 (-1)) 10 0 10 1) 11 11 3 (-1)) 10 0 11 1) 11 12 3 (-1)) 10 0 12 1) 11 13 3 (-1)) 10 0 13 1) 11 14 3 (-1)) 10 0 14 1) 11 15 3 (-1)) 10 0 15 1) 8 0 4 1) 8 0 5 1) 8 0 6 1)) : wg E (PC E 18) MX4_init 0 0 (Zc E 39 21 144 Q) 0 [some (rf 8 0), some (rf 2 0), none] [] h := by
  refine q_ald0 dX4_init_0 ?_
  refine wz_pc (pc2 := 1) rfl ?_
  refine c_obj dX4_init_1 ⟨u8, u1, uobj⟩ ⟨by decide, by decide⟩ ?_
  refine wz_pc (pc2 := 4) rfl ?_
  refine q_ald0 dX4_init_4 ?_
  refine wz_pc (pc2 := 5) rfl ?_
  refine q_ald1 dX4_init_5 ?_
  refine wz_pc (pc2 := 6) rfl ?_
  refine c_putR dX4_init_6 cf4 v16 (kf := 0) ⟨rfl, rfl, rfl, by decide, rfl, rfl, rfl⟩ ⟨tyX4_ok 0 (by decide), fun _ => rfl, fun _ => rfl⟩ rfl gc_8 (by decide) gc_2 rfl ?_
  refine wz_pc (pc2 := 9) rfl ?_
  refine q_ald0 dX4_init_9 ?_
  refine wz_pc (pc2 := 10) rfl ?_
  refine wz_bipush (v := 6) dX4_init_10 (by decide) ?_
  refine wz_pc (pc2 := 12) rfl ?_
  refine c_newI (g := 9) (i := 0) dX4_init_12 u7 (by decide) ⟨rfl, rfl⟩ ⟨rfl, rfl⟩ (by decide) (by decide) (by decide) (by decide) (by decide) ?_
  refine wz_pc (pc2 := 14) rfl ?_
  refine wz_dup dX4_init_14 rfl ?_
  refine wz_pc (pc2 := 15) rfl ?_
  refine wz_iconst (v := 0) dX4_init_15 (by decide) ?_
  refine wz_pc (pc2 := 16) rfl ?_
  refine wz_bipush (v := 20) dX4_init_16 (by decide) ?_
  refine wz_pc (pc2 := 18) rfl ?_
  refine c_iast (h2 := (up (up h 8 0 0 1) 9 0 0 20)) dX4_init_18 rfl gc_9 (by decide) (vp_c (by decide) (by decide)) (congrArg (fun z => up (up h 8 0 0 1) 9 0 z 20) (by decide)) ?_
  refine wz_pc (pc2 := 19) rfl ?_
  refine wz_dup dX4_init_19 rfl ?_
  refine wz_pc (pc2 := 20) rfl ?_
  refine wz_iconst (v := 1) dX4_init_20 (by decide) ?_
  refine wz_pc (pc2 := 21) rfl ?_
  refine wz_bipush (v := 90) dX4_init_21 (by decide) ?_
  refine wz_pc (pc2 := 23) rfl ?_
  refine c_iast (h2 := (up (up (up h 8 0 0 1) 9 0 0 20) 9 0 1 90)) dX4_init_23 rfl gc_9 (by decide) (vp_c (by decide) (by decide)) (congrArg (fun z => up (up (up h 8 0 0 1) 9 0 0 20) 9 0 z 90) (by decide)) ?_
  refine wz_pc (pc2 := 24) rfl ?_
  refine wz_dup dX4_init_24 rfl ?_
  refine wz_pc (pc2 := 25) rfl ?_
  refine wz_iconst (v := 2) dX4_init_25 (by decide) ?_
  refine wz_pc (pc2 := 26) rfl ?_
  refine wz_sipush (v := 180) dX4_init_26 (by decide) ?_
  refine wz_pc (pc2 := 29) rfl ?_
  refine c_iast (h2 := (up (up (up (up h 8 0 0 1) 9 0 0 20) 9 0 1 90) 9 0 2 180)) dX4_init_29 rfl gc_9 (by decide) (vp_c (by decide) (by decide)) (congrArg (fun z => up (up (up (up h 8 0 0 1) 9 0 0 20) 9 0 1 90) 9 0 z 180) (by decide)) ?_
  refine wz_pc (pc2 := 30) rfl ?_
  refine wz_dup dX4_init_30 rfl ?_
  refine wz_pc (pc2 := 31) rfl ?_
  refine wz_iconst (v := 3) dX4_init_31 (by decide) ?_
  refine wz_pc (pc2 := 32) rfl ?_
  refine wz_iconst (v := 3) dX4_init_32 (by decide) ?_
  refine wz_pc (pc2 := 33) rfl ?_
  refine c_iast (h2 := (up (up (up (up (up h 8 0 0 1) 9 0 0 20) 9 0 1 90) 9 0 2 180) 9 0 3 3)) dX4_init_33 rfl gc_9 (by decide) (vp_c (by decide) (by decide)) (congrArg (fun z => up (up (up (up (up h 8 0 0 1) 9 0 0 20) 9 0 1 90) 9 0 2 180) 9 0 z 3) (by decide)) ?_
  refine wz_pc (pc2 := 34) rfl ?_
  refine wz_dup dX4_init_34 rfl ?_
  refine wz_pc (pc2 := 35) rfl ?_
  refine wz_iconst (v := 4) dX4_init_35 (by decide) ?_
  refine wz_pc (pc2 := 36) rfl ?_
  refine wz_iconst (v := 1) dX4_init_36 (by decide) ?_
  refine wz_pc (pc2 := 37) rfl ?_
  refine c_iast (h2 := (up (up (up (up (up (up h 8 0 0 1) 9 0 0 20) 9 0 1 90) 9 0 2 180) 9 0 3 3) 9 0 4 1)) dX4_init_37 rfl gc_9 (by decide) (vp_c (by decide) (by decide)) (congrArg (fun z => up (up (up (up (up (up h 8 0 0 1) 9 0 0 20) 9 0 1 90) 9 0 2 180) 9 0 3 3) 9 0 z 1) (by decide)) ?_
  refine wz_pc (pc2 := 38) rfl ?_
  refine wz_dup dX4_init_38 rfl ?_
  refine wz_pc (pc2 := 39) rfl ?_
  refine wz_iconst (v := 5) dX4_init_39 (by decide) ?_
  refine wz_pc (pc2 := 40) rfl ?_
  refine wz_iconst (v := 0) dX4_init_40 (by decide) ?_
  refine wz_pc (pc2 := 41) rfl ?_
  refine c_iast (h2 := (up (up (up (up (up (up (up h 8 0 0 1) 9 0 0 20) 9 0 1 90) 9 0 2 180) 9 0 3 3) 9 0 4 1) 9 0 5 0)) dX4_init_41 rfl gc_9 (by decide) (vp_c (by decide) (by decide)) (congrArg (fun z => up (up (up (up (up (up (up h 8 0 0 1) 9 0 0 20) 9 0 1 90) 9 0 2 180) 9 0 3 3) 9 0 4 1) 9 0 z 0) (by decide)) ?_
  refine wz_pc (pc2 := 42) rfl ?_
  refine c_putR dX4_init_42 cf4 v17 (kf := 1) ⟨rfl, rfl, rfl, by decide, rfl, rfl, rfl⟩ ⟨tyX4_ok 1 (by decide), fun _ => rfl, fun _ => rfl⟩ rfl gc_8 (by decide) gc_9 rfl ?_
  refine wz_pc (pc2 := 45) rfl ?_
  refine q_ald0 dX4_init_45 ?_
  refine wz_pc (pc2 := 46) rfl ?_
  refine wz_bipush (v := 16) dX4_init_46 (by decide) ?_
  refine wz_pc (pc2 := 48) rfl ?_
  refine c_newQ (g := 10) (i := 0) (t0 := 3) dX4_init_48 u9 (fun _ z => z.2.2.1) rfl (by decide) ⟨rfl, rfl⟩ ⟨rfl, rfl, rfl⟩ (by decide) (by decide) (by decide) (by decide) (by decide) ?_
  refine wz_pc (pc2 := 51) rfl ?_
  refine c_putR dX4_init_51 cf4 v18 (kf := 2) ⟨rfl, rfl, rfl, by decide, rfl, rfl, rfl⟩ ⟨tyX4_ok 2 (by decide), fun _ => rfl, fun _ => rfl⟩ rfl gc_8 (by decide) gc_10 rfl ?_
  refine wz_pc (pc2 := 54) rfl ?_
  refine wz_iconst (v := 0) dX4_init_54 (by decide) ?_
  refine wz_pc (pc2 := 55) rfl ?_
  refine q_ist2 dX4_init_55 (by decide) rfl ?_
  refine wz_pc (pc2 := 56) rfl ?_
  refine q_ild2 dX4_init_56 ?_
  refine wz_pc (pc2 := 57) rfl ?_
  refine wz_bipush (v := 16) dX4_init_57 (by decide) ?_
  refine wz_pc (pc2 := 59) rfl ?_
  refine wz_icmp_ge (tgt := 81) dX4_init_59 rfl (fun z => absurd z (by decide)) (fun _ => ?_)
  refine wz_pc (pc2 := 62) rfl ?_
  refine q_ald0 dX4_init_62 ?_
  refine wz_pc (pc2 := 63) rfl ?_
  refine c_getR dX4_init_63 cf4 v18 (kf := 2) gr_8_2 gc_8 (by decide) (by simp [up]) ?_
  refine wz_pc (pc2 := 66) rfl ?_
  refine q_ild2 dX4_init_66 ?_
  refine wz_pc (pc2 := 67) rfl ?_
  refine c_new (g := 11) (i := 0) dX4_init_67 cf2 ⟨u9, u10, v19⟩ (by decide) ⟨rfl, rfl⟩ ⟨rfl, rfl, rfl⟩ df11 (by decide) (by decide) ?_
  refine wz_pc (pc2 := 70) rfl ?_
  refine wz_dup dX4_init_70 rfl ?_
  refine wz_pc (pc2 := 71) rfl ?_
  refine c_init (M := MX4_init) (pc := 71) (M' := MX2_init) (na := 0) (n2 := 21) (mc := 0) (ms := 0) (g := 11) (i := 0) (As := []) (st := [rf 11 0, .int 0, rf 10 0]) (Q := fun q => q = (up (up (up (up (up (up (up (up (up (up h 8 0 0 1) 9 0 0 20) 9 0 1 90) 9 0 2 180) 9 0 3 3) 9 0 4 1) 9 0 5 0) 8 0 1 1) 8 0 2 1) 11 0 3 (-1))) dX4_init_71 gc_11 rfl cat_ ⟨by decide +kernel, ⟨by decide +kernel, by decide +kernel, by decide +kernel⟩, rfl, rfl, by decide, by decide, by decide, rfl, rfl⟩ ⟨v20, v19, v21, v22⟩ (by decide) ⟨by decide, by decide⟩ rfl (ls0 := [some (rf 11 0)]) rfl (kX2_init (by decide) (by decide) rfl) (fun h1 hq => ?_)
  subst hq
  refine wz_pc (pc2 := 74) rfl ?_
  rw [show rf 11 0 = rf 11 ((0 : Int32).toNatClampNeg) from congrArg (rf 11) (by decide)]
  refine c_aast (t0 := 3) (h2 := (up (up (up (up (up (up (up (up (up (up (up h 8 0 0 1) 9 0 0 20) 9 0 1 90) 9 0 2 180) 9 0 3 3) 9 0 4 1) 9 0 5 0) 8 0 1 1) 8 0 2 1) 11 0 3 (-1)) 10 0 0 1)) dX4_init_74 ⟨rfl, rfl, rfl⟩ ⟨rfl, rfl⟩ rfl cf2.1 gc_10 (by decide) (by decide) (by decide) (vp_c (by decide) (by decide)) (congrArg (fun z => up (up (up (up (up (up (up (up (up (up (up h 8 0 0 1) 9 0 0 20) 9 0 1 90) 9 0 2 180) 9 0 3 3) 9 0 4 1) 9 0 5 0) 8 0 1 1) 8 0 2 1) 11 0 3 (-1)) 10 0 z 1) (by decide)) ?_
  refine wz_pc (pc2 := 75) rfl ?_
  refine q_inc2 (v := 1) dX4_init_75 (by decide) (by decide) rfl ?_
  refine wz_pc (pc2 := 78) rfl ?_
  refine wz_goto (tgt := 56) dX4_init_78 rfl ?_
  refine wz_pc (pc2 := 56) rfl ?_
  refine q_ild2 dX4_init_56 ?_
  refine wz_pc (pc2 := 57) rfl ?_
  refine wz_bipush (v := 16) dX4_init_57 (by decide) ?_
  refine wz_pc (pc2 := 59) rfl ?_
  refine wz_icmp_ge (tgt := 81) dX4_init_59 rfl (fun z => absurd z (by decide)) (fun _ => ?_)
  refine wz_pc (pc2 := 62) rfl ?_
  refine q_ald0 dX4_init_62 ?_
  refine wz_pc (pc2 := 63) rfl ?_
  refine c_getR dX4_init_63 cf4 v18 (kf := 2) gr_8_2 gc_8 (by decide) (by simp [up]) ?_
  refine wz_pc (pc2 := 66) rfl ?_
  refine q_ild2 dX4_init_66 ?_
  refine wz_pc (pc2 := 67) rfl ?_
  refine c_new (g := 11) (i := 1) dX4_init_67 cf2 ⟨u9, u10, v19⟩ (by decide) ⟨rfl, rfl⟩ ⟨rfl, rfl, rfl⟩ df11 (by decide) (by decide) ?_
  refine wz_pc (pc2 := 70) rfl ?_
  refine wz_dup dX4_init_70 rfl ?_
  refine wz_pc (pc2 := 71) rfl ?_
  refine c_init (M := MX4_init) (pc := 71) (M' := MX2_init) (na := 0) (n2 := 22) (mc := 0) (ms := 0) (g := 11) (i := 1) (As := []) (st := [rf 11 1, .int 1, rf 10 0]) (Q := fun q => q = (up (up (up (up (up (up (up (up (up (up (up (up h 8 0 0 1) 9 0 0 20) 9 0 1 90) 9 0 2 180) 9 0 3 3) 9 0 4 1) 9 0 5 0) 8 0 1 1) 8 0 2 1) 11 0 3 (-1)) 10 0 0 1) 11 1 3 (-1))) dX4_init_71 (by decide) rfl cat_ ⟨by decide +kernel, ⟨by decide +kernel, by decide +kernel, by decide +kernel⟩, rfl, rfl, by decide, by decide, by decide, rfl, rfl⟩ ⟨v20, v19, v21, v22⟩ (by decide) ⟨by decide, by decide⟩ rfl (ls0 := [some (rf 11 1)]) rfl (kX2_init (by decide) (by decide) rfl) (fun h1 hq => ?_)
  subst hq
  refine wz_pc (pc2 := 74) rfl ?_
  rw [show rf 11 1 = rf 11 ((1 : Int32).toNatClampNeg) from congrArg (rf 11) (by decide)]
  refine c_aast (t0 := 3) (h2 := (up (up (up (up (up (up (up (up (up (up (up (up (up h 8 0 0 1) 9 0 0 20) 9 0 1 90) 9 0 2 180) 9 0 3 3) 9 0 4 1) 9 0 5 0) 8 0 1 1) 8 0 2 1) 11 0 3 (-1)) 10 0 0 1) 11 1 3 (-1)) 10 0 1 1)) dX4_init_74 ⟨rfl, rfl, rfl⟩ ⟨rfl, rfl⟩ rfl cf2.1 gc_10 (by decide) (by decide) (by decide) (vp_c (by decide) (by decide)) (congrArg (fun z => up (up (up (up (up (up (up (up (up (up (up (up (up h 8 0 0 1) 9 0 0 20) 9 0 1 90) 9 0 2 180) 9 0 3 3) 9 0 4 1) 9 0 5 0) 8 0 1 1) 8 0 2 1) 11 0 3 (-1)) 10 0 0 1) 11 1 3 (-1)) 10 0 z 1) (by decide)) ?_
  refine wz_pc (pc2 := 75) rfl ?_
  refine q_inc2 (v := 2) dX4_init_75 (by decide) (by decide) rfl ?_
  refine wz_pc (pc2 := 78) rfl ?_
  refine wz_goto (tgt := 56) dX4_init_78 rfl ?_
  refine wz_pc (pc2 := 56) rfl ?_
  refine q_ild2 dX4_init_56 ?_
  refine wz_pc (pc2 := 57) rfl ?_
  refine wz_bipush (v := 16) dX4_init_57 (by decide) ?_
  refine wz_pc (pc2 := 59) rfl ?_
  refine wz_icmp_ge (tgt := 81) dX4_init_59 rfl (fun z => absurd z (by decide)) (fun _ => ?_)
  refine wz_pc (pc2 := 62) rfl ?_
  refine q_ald0 dX4_init_62 ?_
  refine wz_pc (pc2 := 63) rfl ?_
  refine c_getR dX4_init_63 cf4 v18 (kf := 2) gr_8_2 gc_8 (by decide) (by simp [up]) ?_
  refine wz_pc (pc2 := 66) rfl ?_
  refine q_ild2 dX4_init_66 ?_
  refine wz_pc (pc2 := 67) rfl ?_
  refine c_new (g := 11) (i := 2) dX4_init_67 cf2 ⟨u9, u10, v19⟩ (by decide) ⟨rfl, rfl⟩ ⟨rfl, rfl, rfl⟩ df11 (by decide) (by decide) ?_
  refine wz_pc (pc2 := 70) rfl ?_
  refine wz_dup dX4_init_70 rfl ?_
  refine wz_pc (pc2 := 71) rfl ?_
  refine c_init (M := MX4_init) (pc := 71) (M' := MX2_init) (na := 0) (n2 := 23) (mc := 0) (ms := 0) (g := 11) (i := 2) (As := []) (st := [rf 11 2, .int 2, rf 10 0]) (Q := fun q => q = (up (up (up (up (up (up (up (up (up (up (up (up (up (up h 8 0 0 1) 9 0 0 20) 9 0 1 90) 9 0 2 180) 9 0 3 3) 9 0 4 1) 9 0 5 0) 8 0 1 1) 8 0 2 1) 11 0 3 (-1)) 10 0 0 1) 11 1 3 (-1)) 10 0 1 1) 11 2 3 (-1))) dX4_init_71 (by decide) rfl cat_ ⟨by decide +kernel, ⟨by decide +kernel, by decide +kernel, by decide +kernel⟩, rfl, rfl, by decide, by decide, by decide, rfl, rfl⟩ ⟨v20, v19, v21, v22⟩ (by decide) ⟨by decide, by decide⟩ rfl (ls0 := [some (rf 11 2)]) rfl (kX2_init (by decide) (by decide) rfl) (fun h1 hq => ?_)
  subst hq
  refine wz_pc (pc2 := 74) rfl ?_
  rw [show rf 11 2 = rf 11 ((2 : Int32).toNatClampNeg) from congrArg (rf 11) (by decide)]
  refine c_aast (t0 := 3) (h2 := (up (up (up (up (up (up (up (up (up (up (up (up (up (up (up h 8 0 0 1) 9 0 0 20) 9 0 1 90) 9 0 2 180) 9 0 3 3) 9 0 4 1) 9 0 5 0) 8 0 1 1) 8 0 2 1) 11 0 3 (-1)) 10 0 0 1) 11 1 3 (-1)) 10 0 1 1) 11 2 3 (-1)) 10 0 2 1)) dX4_init_74 ⟨rfl, rfl, rfl⟩ ⟨rfl, rfl⟩ rfl cf2.1 gc_10 (by decide) (by decide) (by decide) (vp_c (by decide) (by decide)) (congrArg (fun z => up (up (up (up (up (up (up (up (up (up (up (up (up (up (up h 8 0 0 1) 9 0 0 20) 9 0 1 90) 9 0 2 180) 9 0 3 3) 9 0 4 1) 9 0 5 0) 8 0 1 1) 8 0 2 1) 11 0 3 (-1)) 10 0 0 1) 11 1 3 (-1)) 10 0 1 1) 11 2 3 (-1)) 10 0 z 1) (by decide)) ?_
  refine wz_pc (pc2 := 75) rfl ?_
  refine q_inc2 (v := 3) dX4_init_75 (by decide) (by decide) rfl ?_
  refine wz_pc (pc2 := 78) rfl ?_
  refine wz_goto (tgt := 56) dX4_init_78 rfl ?_
  refine wz_pc (pc2 := 56) rfl ?_
  refine q_ild2 dX4_init_56 ?_
  refine wz_pc (pc2 := 57) rfl ?_
  refine wz_bipush (v := 16) dX4_init_57 (by decide) ?_
  refine wz_pc (pc2 := 59) rfl ?_
  refine wz_icmp_ge (tgt := 81) dX4_init_59 rfl (fun z => absurd z (by decide)) (fun _ => ?_)
  refine wz_pc (pc2 := 62) rfl ?_
  refine q_ald0 dX4_init_62 ?_
  refine wz_pc (pc2 := 63) rfl ?_
  refine c_getR dX4_init_63 cf4 v18 (kf := 2) gr_8_2 gc_8 (by decide) (by simp [up]) ?_
  refine wz_pc (pc2 := 66) rfl ?_
  refine q_ild2 dX4_init_66 ?_
  refine wz_pc (pc2 := 67) rfl ?_
  refine c_new (g := 11) (i := 3) dX4_init_67 cf2 ⟨u9, u10, v19⟩ (by decide) ⟨rfl, rfl⟩ ⟨rfl, rfl, rfl⟩ df11 (by decide) (by decide) ?_
  refine wz_pc (pc2 := 70) rfl ?_
  refine wz_dup dX4_init_70 rfl ?_
  refine wz_pc (pc2 := 71) rfl ?_
  refine c_init (M := MX4_init) (pc := 71) (M' := MX2_init) (na := 0) (n2 := 24) (mc := 0) (ms := 0) (g := 11) (i := 3) (As := []) (st := [rf 11 3, .int 3, rf 10 0]) (Q := fun q => q = (up (up (up (up (up (up (up (up (up (up (up (up (up (up (up (up h 8 0 0 1) 9 0 0 20) 9 0 1 90) 9 0 2 180) 9 0 3 3) 9 0 4 1) 9 0 5 0) 8 0 1 1) 8 0 2 1) 11 0 3 (-1)) 10 0 0 1) 11 1 3 (-1)) 10 0 1 1) 11 2 3 (-1)) 10 0 2 1) 11 3 3 (-1))) dX4_init_71 (by decide) rfl cat_ ⟨by decide +kernel, ⟨by decide +kernel, by decide +kernel, by decide +kernel⟩, rfl, rfl, by decide, by decide, by decide, rfl, rfl⟩ ⟨v20, v19, v21, v22⟩ (by decide) ⟨by decide, by decide⟩ rfl (ls0 := [some (rf 11 3)]) rfl (kX2_init (by decide) (by decide) rfl) (fun h1 hq => ?_)
  subst hq
  refine wz_pc (pc2 := 74) rfl ?_
  rw [show rf 11 3 = rf 11 ((3 : Int32).toNatClampNeg) from congrArg (rf 11) (by decide)]
  refine c_aast (t0 := 3) (h2 := (up (up (up (up (up (up (up (up (up (up (up (up (up (up (up (up (up h 8 0 0 1) 9 0 0 20) 9 0 1 90) 9 0 2 180) 9 0 3 3) 9 0 4 1) 9 0 5 0) 8 0 1 1) 8 0 2 1) 11 0 3 (-1)) 10 0 0 1) 11 1 3 (-1)) 10 0 1 1) 11 2 3 (-1)) 10 0 2 1) 11 3 3 (-1)) 10 0 3 1)) dX4_init_74 ⟨rfl, rfl, rfl⟩ ⟨rfl, rfl⟩ rfl cf2.1 gc_10 (by decide) (by decide) (by decide) (vp_c (by decide) (by decide)) (congrArg (fun z => up (up (up (up (up (up (up (up (up (up (up (up (up (up (up (up (up h 8 0 0 1) 9 0 0 20) 9 0 1 90) 9 0 2 180) 9 0 3 3) 9 0 4 1) 9 0 5 0) 8 0 1 1) 8 0 2 1) 11 0 3 (-1)) 10 0 0 1) 11 1 3 (-1)) 10 0 1 1) 11 2 3 (-1)) 10 0 2 1) 11 3 3 (-1)) 10 0 z 1) (by decide)) ?_
  refine wz_pc (pc2 := 75) rfl ?_
  refine q_inc2 (v := 4) dX4_init_75 (by decide) (by decide) rfl ?_
  refine wz_pc (pc2 := 78) rfl ?_
  refine wz_goto (tgt := 56) dX4_init_78 rfl ?_
  refine wz_pc (pc2 := 56) rfl ?_
  refine q_ild2 dX4_init_56 ?_
  refine wz_pc (pc2 := 57) rfl ?_
  refine wz_bipush (v := 16) dX4_init_57 (by decide) ?_
  refine wz_pc (pc2 := 59) rfl ?_
  refine wz_icmp_ge (tgt := 81) dX4_init_59 rfl (fun z => absurd z (by decide)) (fun _ => ?_)
  refine wz_pc (pc2 := 62) rfl ?_
  refine q_ald0 dX4_init_62 ?_
  refine wz_pc (pc2 := 63) rfl ?_
  refine c_getR dX4_init_63 cf4 v18 (kf := 2) gr_8_2 gc_8 (by decide) (by simp [up]) ?_
  refine wz_pc (pc2 := 66) rfl ?_
  refine q_ild2 dX4_init_66 ?_
  refine wz_pc (pc2 := 67) rfl ?_
  refine c_new (g := 11) (i := 4) dX4_init_67 cf2 ⟨u9, u10, v19⟩ (by decide) ⟨rfl, rfl⟩ ⟨rfl, rfl, rfl⟩ df11 (by decide) (by decide) ?_
  refine wz_pc (pc2 := 70) rfl ?_
  refine wz_dup dX4_init_70 rfl ?_
  refine wz_pc (pc2 := 71) rfl ?_
  refine c_init (M := MX4_init) (pc := 71) (M' := MX2_init) (na := 0) (n2 := 25) (mc := 0) (ms := 0) (g := 11) (i := 4) (As := []) (st := [rf 11 4, .int 4, rf 10 0]) (Q := fun q => q = (up (up (up (up (up (up (up (up (up (up (up (up (up (up (up (up (up (up h 8 0 0 1) 9 0 0 20) 9 0 1 90) 9 0 2 180) 9 0 3 3) 9 0 4 1) 9 0 5 0) 8 0 1 1) 8 0 2 1) 11 0 3 (-1)) 10 0 0 1) 11 1 3 (-1)) 10 0 1 1) 11 2 3 (-1)) 10 0 2 1) 11 3 3 (-1)) 10 0 3 1) 11 4 3 (-1))) dX4_init_71 (by decide) rfl cat_ ⟨by decide +kernel, ⟨by decide +kernel, by decide +kernel, by decide +kernel⟩, rfl, rfl, by decide, by decide, by decide, rfl, rfl⟩ ⟨v20, v19, v21, v22⟩ (by decide) ⟨by decide, by decide⟩ rfl (ls0 := [some (rf 11 4)]) rfl (kX2_init (by decide) (by decide) rfl) (fun h1 hq => ?_)
  subst hq
  refine wz_pc (pc2 := 74) rfl ?_
  rw [show rf 11 4 = rf 11 ((4 : Int32).toNatClampNeg) from congrArg (rf 11) (by decide)]
  refine c_aast (t0 := 3) (h2 := (up (up (up (up (up (up (up (up (up (up (up (up (up (up (up (up (up (up (up h 8 0 0 1) 9 0 0 20) 9 0 1 90) 9 0 2 180) 9 0 3 3) 9 0 4 1) 9 0 5 0) 8 0 1 1) 8 0 2 1) 11 0 3 (-1)) 10 0 0 1) 11 1 3 (-1)) 10 0 1 1) 11 2 3 (-1)) 10 0 2 1) 11 3 3 (-1)) 10 0 3 1) 11 4 3 (-1)) 10 0 4 1)) dX4_init_74 ⟨rfl, rfl, rfl⟩ ⟨rfl, rfl⟩ rfl cf2.1 gc_10 (by decide) (by decide) (by decide) (vp_c (by decide) (by decide)) (congrArg (fun z => up (up (up (up (up (up (up (up (up (up (up (up (up (up (up (up (up (up (up h 8 0 0 1) 9 0 0 20) 9 0 1 90) 9 0 2 180) 9 0 3 3) 9 0 4 1) 9 0 5 0) 8 0 1 1) 8 0 2 1) 11 0 3 (-1)) 10 0 0 1) 11 1 3 (-1)) 10 0 1 1) 11 2 3 (-1)) 10 0 2 1) 11 3 3 (-1)) 10 0 3 1) 11 4 3 (-1)) 10 0 z 1) (by decide)) ?_
  refine wz_pc (pc2 := 75) rfl ?_
  refine q_inc2 (v := 5) dX4_init_75 (by decide) (by decide) rfl ?_
  refine wz_pc (pc2 := 78) rfl ?_
  refine wz_goto (tgt := 56) dX4_init_78 rfl ?_
  refine wz_pc (pc2 := 56) rfl ?_
  refine q_ild2 dX4_init_56 ?_
  refine wz_pc (pc2 := 57) rfl ?_
  refine wz_bipush (v := 16) dX4_init_57 (by decide) ?_
  refine wz_pc (pc2 := 59) rfl ?_
  refine wz_icmp_ge (tgt := 81) dX4_init_59 rfl (fun z => absurd z (by decide)) (fun _ => ?_)
  refine wz_pc (pc2 := 62) rfl ?_
  refine q_ald0 dX4_init_62 ?_
  refine wz_pc (pc2 := 63) rfl ?_
  refine c_getR dX4_init_63 cf4 v18 (kf := 2) gr_8_2 gc_8 (by decide) (by simp [up]) ?_
  refine wz_pc (pc2 := 66) rfl ?_
  refine q_ild2 dX4_init_66 ?_
  refine wz_pc (pc2 := 67) rfl ?_
  refine c_new (g := 11) (i := 5) dX4_init_67 cf2 ⟨u9, u10, v19⟩ (by decide) ⟨rfl, rfl⟩ ⟨rfl, rfl, rfl⟩ df11 (by decide) (by decide) ?_
  refine wz_pc (pc2 := 70) rfl ?_
  refine wz_dup dX4_init_70 rfl ?_
  refine wz_pc (pc2 := 71) rfl ?_
  refine c_init (M := MX4_init) (pc := 71) (M' := MX2_init) (na := 0) (n2 := 26) (mc := 0) (ms := 0) (g := 11) (i := 5) (As := []) (st := [rf 11 5, .int 5, rf 10 0]) (Q := fun q => q = (up (up (up (up (up (up (up (up (up (up (up (up (up (up (up (up (up (up (up (up h 8 0 0 1) 9 0 0 20) 9 0 1 90) 9 0 2 180) 9 0 3 3) 9 0 4 1) 9 0 5 0) 8 0 1 1) 8 0 2 1) 11 0 3 (-1)) 10 0 0 1) 11 1 3 (-1)) 10 0 1 1) 11 2 3 (-1)) 10 0 2 1) 11 3 3 (-1)) 10 0 3 1) 11 4 3 (-1)) 10 0 4 1) 11 5 3 (-1))) dX4_init_71 (by decide) rfl cat_ ⟨by decide +kernel, ⟨by decide +kernel, by decide +kernel, by decide +kernel⟩, rfl, rfl, by decide, by decide, by decide, rfl, rfl⟩ ⟨v20, v19, v21, v22⟩ (by decide) ⟨by decide, by decide⟩ rfl (ls0 := [some (rf 11 5)]) rfl (kX2_init (by decide) (by decide) rfl) (fun h1 hq => ?_)
  subst hq
  refine wz_pc (pc2 := 74) rfl ?_
  rw [show rf 11 5 = rf 11 ((5 : Int32).toNatClampNeg) from congrArg (rf 11) (by decide)]
  refine c_aast (t0 := 3) (h2 := (up (up (up (up (up (up (up (up (up (up (up (up (up (up (up (up (up (up (up (up (up h 8 0 0 1) 9 0 0 20) 9 0 1 90) 9 0 2 180) 9 0 3 3) 9 0 4 1) 9 0 5 0) 8 0 1 1) 8 0 2 1) 11 0 3 (-1)) 10 0 0 1) 11 1 3 (-1)) 10 0 1 1) 11 2 3 (-1)) 10 0 2 1) 11 3 3 (-1)) 10 0 3 1) 11 4 3 (-1)) 10 0 4 1) 11 5 3 (-1)) 10 0 5 1)) dX4_init_74 ⟨rfl, rfl, rfl⟩ ⟨rfl, rfl⟩ rfl cf2.1 gc_10 (by decide) (by decide) (by decide) (vp_c (by decide) (by decide)) (congrArg (fun z => up (up (up (up (up (up (up (up (up (up (up (up (up (up (up (up (up (up (up (up (up h 8 0 0 1) 9 0 0 20) 9 0 1 90) 9 0 2 180) 9 0 3 3) 9 0 4 1) 9 0 5 0) 8 0 1 1) 8 0 2 1) 11 0 3 (-1)) 10 0 0 1) 11 1 3 (-1)) 10 0 1 1) 11 2 3 (-1)) 10 0 2 1) 11 3 3 (-1)) 10 0 3 1) 11 4 3 (-1)) 10 0 4 1) 11 5 3 (-1)) 10 0 z 1) (by decide)) ?_
  refine wz_pc (pc2 := 75) rfl ?_
  refine q_inc2 (v := 6) dX4_init_75 (by decide) (by decide) rfl ?_
  refine wz_pc (pc2 := 78) rfl ?_
  refine wz_goto (tgt := 56) dX4_init_78 rfl ?_
  refine wz_pc (pc2 := 56) rfl ?_
  refine q_ild2 dX4_init_56 ?_
  refine wz_pc (pc2 := 57) rfl ?_
  refine wz_bipush (v := 16) dX4_init_57 (by decide) ?_
  refine wz_pc (pc2 := 59) rfl ?_
  refine wz_icmp_ge (tgt := 81) dX4_init_59 rfl (fun z => absurd z (by decide)) (fun _ => ?_)
  refine wz_pc (pc2 := 62) rfl ?_
  refine q_ald0 dX4_init_62 ?_
  refine wz_pc (pc2 := 63) rfl ?_
  refine c_getR dX4_init_63 cf4 v18 (kf := 2) gr_8_2 gc_8 (by decide) (by simp [up]) ?_
  refine wz_pc (pc2 := 66) rfl ?_
  refine q_ild2 dX4_init_66 ?_
  refine wz_pc (pc2 := 67) rfl ?_
  refine c_new (g := 11) (i := 6) dX4_init_67 cf2 ⟨u9, u10, v19⟩ (by decide) ⟨rfl, rfl⟩ ⟨rfl, rfl, rfl⟩ df11 (by decide) (by decide) ?_
  refine wz_pc (pc2 := 70) rfl ?_
  refine wz_dup dX4_init_70 rfl ?_
  refine wz_pc (pc2 := 71) rfl ?_
  refine c_init (M := MX4_init) (pc := 71) (M' := MX2_init) (na := 0) (n2 := 27) (mc := 0) (ms := 0) (g := 11) (i := 6) (As := []) (st := [rf 11 6, .int 6, rf 10 0]) (Q := fun q => q = (up (up (up (up (up (up (up (up (up (up (up (up (up (up (up (up (up (up (up (up (up (up h 8 0 0 1) 9 0 0 20) 9 0 1 90) 9 0 2 180) 9 0 3 3) 9 0 4 1) 9 0 5 0) 8 0 1 1) 8 0 2 1) 11 0 3 (-1)) 10 0 0 1) 11 1 3 (-1)) 10 0 1 1) 11 2 3 (-1)) 10 0 2 1) 11 3 3 (-1)) 10 0 3 1) 11 4 3 (-1)) 10 0 4 1) 11 5 3 (-1)) 10 0 5 1) 11 6 3 (-1))) dX4_init_71 (by decide) rfl cat_ ⟨by decide +kernel, ⟨by decide +kernel, by decide +kernel, by decide +kernel⟩, rfl, rfl, by decide, by decide, by decide, rfl, rfl⟩ ⟨v20, v19, v21, v22⟩ (by decide) ⟨by decide, by decide⟩ rfl (ls0 := [some (rf 11 6)]) rfl (kX2_init (by decide) (by decide) rfl) (fun h1 hq => ?_)
  subst hq
  refine wz_pc (pc2 := 74) rfl ?_
  rw [show rf 11 6 = rf 11 ((6 : Int32).toNatClampNeg) from congrArg (rf 11) (by decide)]
  refine c_aast (t0 := 3) (h2 := (up (up (up (up (up (up (up (up (up (up (up (up (up (up (up (up (up (up (up (up (up (up (up h 8 0 0 1) 9 0 0 20) 9 0 1 90) 9 0 2 180) 9 0 3 3) 9 0 4 1) 9 0 5 0) 8 0 1 1) 8 0 2 1) 11 0 3 (-1)) 10 0 0 1) 11 1 3 (-1)) 10 0 1 1) 11 2 3 (-1)) 10 0 2 1) 11 3 3 (-1)) 10 0 3 1) 11 4 3 (-1)) 10 0 4 1) 11 5 3 (-1)) 10 0 5 1) 11 6 3 (-1)) 10 0 6 1)) dX4_init_74 ⟨rfl, rfl, rfl⟩ ⟨rfl, rfl⟩ rfl cf2.1 gc_10 (by decide) (by decide) (by decide) (vp_c (by decide) (by decide)) (congrArg (fun z => up (up (up (up (up (up (up (up (up (up (up (up (up (up (up (up (up (up (up (up (up (up (up h 8 0 0 1) 9 0 0 20) 9 0 1 90) 9 0 2 180) 9 0 3 3) 9 0 4 1) 9 0 5 0) 8 0 1 1) 8 0 2 1) 11 0 3 (-1)) 10 0 0 1) 11 1 3 (-1)) 10 0 1 1) 11 2 3 (-1)) 10 0 2 1) 11 3 3 (-1)) 10 0 3 1) 11 4 3 (-1)) 10 0 4 1) 11 5 3 (-1)) 10 0 5 1) 11 6 3 (-1)) 10 0 z 1) (by decide)) ?_
  refine wz_pc (pc2 := 75) rfl ?_
  refine q_inc2 (v := 7) dX4_init_75 (by decide) (by decide) rfl ?_
  refine wz_pc (pc2 := 78) rfl ?_
  refine wz_goto (tgt := 56) dX4_init_78 rfl ?_
  refine wz_pc (pc2 := 56) rfl ?_
  refine q_ild2 dX4_init_56 ?_
  refine wz_pc (pc2 := 57) rfl ?_
  refine wz_bipush (v := 16) dX4_init_57 (by decide) ?_
  refine wz_pc (pc2 := 59) rfl ?_
  refine wz_icmp_ge (tgt := 81) dX4_init_59 rfl (fun z => absurd z (by decide)) (fun _ => ?_)
  refine wz_pc (pc2 := 62) rfl ?_
  refine q_ald0 dX4_init_62 ?_
  refine wz_pc (pc2 := 63) rfl ?_
  refine c_getR dX4_init_63 cf4 v18 (kf := 2) gr_8_2 gc_8 (by decide) (by simp [up]) ?_
  refine wz_pc (pc2 := 66) rfl ?_
  refine q_ild2 dX4_init_66 ?_
  refine wz_pc (pc2 := 67) rfl ?_
  refine c_new (g := 11) (i := 7) dX4_init_67 cf2 ⟨u9, u10, v19⟩ (by decide) ⟨rfl, rfl⟩ ⟨rfl, rfl, rfl⟩ df11 (by decide) (by decide) ?_
  refine wz_pc (pc2 := 70) rfl ?_
  refine wz_dup dX4_init_70 rfl ?_
  refine wz_pc (pc2 := 71) rfl ?_
  refine c_init (M := MX4_init) (pc := 71) (M' := MX2_init) (na := 0) (n2 := 28) (mc := 0) (ms := 0) (g := 11) (i := 7) (As := []) (st := [rf 11 7, .int 7, rf 10 0]) (Q := fun q => q = (up (up (up (up (up (up (up (up (up (up (up (up (up (up (up (up (up (up (up (up (up (up (up (up h 8 0 0 1) 9 0 0 20) 9 0 1 90) 9 0 2 180) 9 0 3 3) 9 0 4 1) 9 0 5 0) 8 0 1 1) 8 0 2 1) 11 0 3 (-1)) 10 0 0 1) 11 1 3 (-1)) 10 0 1 1) 11 2 3 (-1)) 10 0 2 1) 11 3 3 (-1)) 10 0 3 1) 11 4 3 (-1)) 10 0 4 1) 11 5 3 (-1)) 10 0 5 1) 11 6 3 (-1)) 10 0 6 1) 11 7 3 (-1))) dX4_init_71 (by decide) rfl cat_ ⟨by decide +kernel, ⟨by decide +kernel, by decide +kernel, by decide +kernel⟩, rfl, rfl, by decide, by decide, by decide, rfl, rfl⟩ ⟨v20, v19, v21, v22⟩ (by decide) ⟨by decide, by decide⟩ rfl (ls0 := [some (rf 11 7)]) rfl (kX2_init (by decide) (by decide) rfl) (fun h1 hq => ?_)
  subst hq
  refine wz_pc (pc2 := 74) rfl ?_
  rw [show rf 11 7 = rf 11 ((7 : Int32).toNatClampNeg) from congrArg (rf 11) (by decide)]
  refine c_aast (t0 := 3) (h2 := (up (up (up (up (up (up (up (up (up (up (up (up (up (up (up (up (up (up (up (up (up (up (up (up (up h 8 0 0 1) 9 0 0 20) 9 0 1 90) 9 0 2 180) 9 0 3 3) 9 0 4 1) 9 0 5 0) 8 0 1 1) 8 0 2 1) 11 0 3 (-1)) 10 0 0 1) 11 1 3 (-1)) 10 0 1 1) 11 2 3 (-1)) 10 0 2 1) 11 3 3 (-1)) 10 0 3 1) 11 4 3 (-1)) 10 0 4 1) 11 5 3 (-1)) 10 0 5 1) 11 6 3 (-1)) 10 0 6 1) 11 7 3 (-1)) 10 0 7 1)) dX4_init_74 ⟨rfl, rfl, rfl⟩ ⟨rfl, rfl⟩ rfl cf2.1 gc_10 (by decide) (by decide) (by decide) (vp_c (by decide) (by decide)) (congrArg (fun z => up (up (up (up (up (up (up (up (up (up (up (up (up (up (up (up (up (up (up (up (up (up (up (up (up h 8 0 0 1) 9 0 0 20) 9 0 1 90) 9 0 2 180) 9 0 3 3) 9 0 4 1) 9 0 5 0) 8 0 1 1) 8 0 2 1) 11 0 3 (-1)) 10 0 0 1) 11 1 3 (-1)) 10 0 1 1) 11 2 3 (-1)) 10 0 2 1) 11 3 3 (-1)) 10 0 3 1) 11 4 3 (-1)) 10 0 4 1) 11 5 3 (-1)) 10 0 5 1) 11 6 3 (-1)) 10 0 6 1) 11 7 3 (-1)) 10 0 z 1) (by decide)) ?_
  refine wz_pc (pc2 := 75) rfl ?_
  refine q_inc2 (v := 8) dX4_init_75 (by decide) (by decide) rfl ?_
  refine wz_pc (pc2 := 78) rfl ?_
  refine wz_goto (tgt := 56) dX4_init_78 rfl ?_
  refine wz_pc (pc2 := 56) rfl ?_
  refine q_ild2 dX4_init_56 ?_
  refine wz_pc (pc2 := 57) rfl ?_
  refine wz_bipush (v := 16) dX4_init_57 (by decide) ?_
  refine wz_pc (pc2 := 59) rfl ?_
  refine wz_icmp_ge (tgt := 81) dX4_init_59 rfl (fun z => absurd z (by decide)) (fun _ => ?_)
  refine wz_pc (pc2 := 62) rfl ?_
  refine q_ald0 dX4_init_62 ?_
  refine wz_pc (pc2 := 63) rfl ?_
  refine c_getR dX4_init_63 cf4 v18 (kf := 2) gr_8_2 gc_8 (by decide) (by simp [up]) ?_
  refine wz_pc (pc2 := 66) rfl ?_
  refine q_ild2 dX4_init_66 ?_
  refine wz_pc (pc2 := 67) rfl ?_
  refine c_new (g := 11) (i := 8) dX4_init_67 cf2 ⟨u9, u10, v19⟩ (by decide) ⟨rfl, rfl⟩ ⟨rfl, rfl, rfl⟩ df11 (by decide) (by decide) ?_
  refine wz_pc (pc2 := 70) rfl ?_
  refine wz_dup dX4_init_70 rfl ?_
  refine wz_pc (pc2 := 71) rfl ?_
  refine c_init (M := MX4_init) (pc := 71) (M' := MX2_init) (na := 0) (n2 := 29) (mc := 0) (ms := 0) (g := 11) (i := 8) (As := []) (st := [rf 11 8, .int 8, rf 10 0]) (Q := fun q => q = (up (up (up (up (up (up (up (up (up (up (up (up (up (up (up (up (up (up (up (up (up (up (up (up (up (up h 8 0 0 1) 9 0 0 20) 9 0 1 90) 9 0 2 180) 9 0 3 3) 9 0 4 1) 9 0 5 0) 8 0 1 1) 8 0 2 1) 11 0 3 (-1)) 10 0 0 1) 11 1 3 (-1)) 10 0 1 1) 11 2 3 (-1)) 10 0 2 1) 11 3 3 (-1)) 10 0 3 1) 11 4 3 (-1)) 10 0 4 1) 11 5 3 (-1)) 10 0 5 1) 11 6 3 (-1)) 10 0 6 1) 11 7 3 (-1)) 10 0 7 1) 11 8 3 (-1))) dX4_init_71 (by decide) rfl cat_ ⟨by decide +kernel, ⟨by decide +kernel, by decide +kernel, by decide +kernel⟩, rfl, rfl, by decide, by decide, by decide, rfl, rfl⟩ ⟨v20, v19, v21, v22⟩ (by decide) ⟨by decide, by decide⟩ rfl (ls0 := [some (rf 11 8)]) rfl (kX2_init (by decide) (by decide) rfl) (fun h1 hq => ?_)
  subst hq
  refine wz_pc (pc2 := 74) rfl ?_
  rw [show rf 11 8 = rf 11 ((8 : Int32).toNatClampNeg) from congrArg (rf 11) (by decide)]
  refine c_aast (t0 := 3) (h2 := (up (up (up (up (up (up (up (up (up (up (up (up (up (up (up (up (up (up (up (up (up (up (up (up (up (up (up h 8 0 0 1) 9 0 0 20) 9 0 1 90) 9 0 2 180) 9 0 3 3) 9 0 4 1) 9 0 5 0) 8 0 1 1) 8 0 2 1) 11 0 3 (-1)) 10 0 0 1) 11 1 3 (-1)) 10 0 1 1) 11 2 3 (-1)) 10 0 2 1) 11 3 3 (-1)) 10 0 3 1) 11 4 3 (-1)) 10 0 4 1) 11 5 3 (-1)) 10 0 5 1) 11 6 3 (-1)) 10 0 6 1) 11 7 3 (-1)) 10 0 7 1) 11 8 3 (-1)) 10 0 8 1)) dX4_init_74 ⟨rfl, rfl, rfl⟩ ⟨rfl, rfl⟩ rfl cf2.1 gc_10 (by decide) (by decide) (by decide) (vp_c (by decide) (by decide)) (congrArg (fun z => up (up (up (up (up (up (up (up (up (up (up (up (up (up (up (up (up (up (up (up (up (up (up (up (up (up (up h 8 0 0 1) 9 0 0 20) 9 0 1 90) 9 0 2 180) 9 0 3 3) 9 0 4 1) 9 0 5 0) 8 0 1 1) 8 0 2 1) 11 0 3 (-1)) 10 0 0 1) 11 1 3 (-1)) 10 0 1 1) 11 2 3 (-1)) 10 0 2 1) 11 3 3 (-1)) 10 0 3 1) 11 4 3 (-1)) 10 0 4 1) 11 5 3 (-1)) 10 0 5 1) 11 6 3 (-1)) 10 0 6 1) 11 7 3 (-1)) 10 0 7 1) 11 8 3 (-1)) 10 0 z 1) (by decide)) ?_
  refine wz_pc (pc2 := 75) rfl ?_
  refine q_inc2 (v := 9) dX4_init_75 (by decide) (by decide) rfl ?_
  refine wz_pc (pc2 := 78) rfl ?_
  refine wz_goto (tgt := 56) dX4_init_78 rfl ?_
  refine wz_pc (pc2 := 56) rfl ?_
  refine q_ild2 dX4_init_56 ?_
  refine wz_pc (pc2 := 57) rfl ?_
  refine wz_bipush (v := 16) dX4_init_57 (by decide) ?_
  refine wz_pc (pc2 := 59) rfl ?_
  refine wz_icmp_ge (tgt := 81) dX4_init_59 rfl (fun z => absurd z (by decide)) (fun _ => ?_)
  refine wz_pc (pc2 := 62) rfl ?_
  refine q_ald0 dX4_init_62 ?_
  refine wz_pc (pc2 := 63) rfl ?_
  refine c_getR dX4_init_63 cf4 v18 (kf := 2) gr_8_2 gc_8 (by decide) (by simp [up]) ?_
  refine wz_pc (pc2 := 66) rfl ?_
  refine q_ild2 dX4_init_66 ?_
  refine wz_pc (pc2 := 67) rfl ?_
  refine c_new (g := 11) (i := 9) dX4_init_67 cf2 ⟨u9, u10, v19⟩ (by decide) ⟨rfl, rfl⟩ ⟨rfl, rfl, rfl⟩ df11 (by decide) (by decide) ?_
  refine wz_pc (pc2 := 70) rfl ?_
  refine wz_dup dX4_init_70 rfl ?_
  refine wz_pc (pc2 := 71) rfl ?_
  refine c_init (M := MX4_init) (pc := 71) (M' := MX2_init) (na := 0) (n2 := 30) (mc := 0) (ms := 0) (g := 11) (i := 9) (As := []) (st := [rf 11 9, .int 9, rf 10 0]) (Q := fun q => q = (up (up (up (up (up (up (up (up (up (up (up (up (up (up (up (up (up (up (up (up (up (up (up (up (up (up (up (up h 8 0 0 1) 9 0 0 20) 9 0 1 90) 9 0 2 180) 9 0 3 3) 9 0 4 1) 9 0 5 0) 8 0 1 1) 8 0 2 1) 11 0 3 (-1)) 10 0 0 1) 11 1 3 (-1)) 10 0 1 1) 11 2 3 (-1)) 10 0 2 1) 11 3 3 (-1)) 10 0 3 1) 11 4 3 (-1)) 10 0 4 1) 11 5 3 (-1)) 10 0 5 1) 11 6 3 (-1)) 10 0 6 1) 11 7 3 (-1)) 10 0 7 1) 11 8 3 (-1)) 10 0 8 1) 11 9 3 (-1))) dX4_init_71 (by decide) rfl cat_ ⟨by decide +kernel, ⟨by decide +kernel, by decide +kernel, by decide +kernel⟩, rfl, rfl, by decide, by decide, by decide, rfl, rfl⟩ ⟨v20, v19, v21, v22⟩ (by decide) ⟨by decide, by decide⟩ rfl (ls0 := [some (rf 11 9)]) rfl (kX2_init (by decide) (by decide) rfl) (fun h1 hq => ?_)
  subst hq
  refine wz_pc (pc2 := 74) rfl ?_
  rw [show rf 11 9 = rf 11 ((9 : Int32).toNatClampNeg) from congrArg (rf 11) (by decide)]
  refine c_aast (t0 := 3) (h2 := (up (up (up (up (up (up (up (up (up (up (up (up (up (up (up (up (up (up (up (up (up (up (up (up (up (up (up (up (up h 8 0 0 1) 9 0 0 20) 9 0 1 90) 9 0 2 180) 9 0 3 3) 9 0 4 1) 9 0 5 0) 8 0 1 1) 8 0 2 1) 11 0 3 (-1)) 10 0 0 1) 11 1 3 (-1)) 10 0 1 1) 11 2 3 (-1)) 10 0 2 1) 11 3 3 (-1)) 10 0 3 1) 11 4 3 (-1)) 10 0 4 1) 11 5 3 (-1)) 10 0 5 1) 11 6 3 (-1)) 10 0 6 1) 11 7 3 (-1)) 10 0 7 1) 11 8 3 (-1)) 10 0 8 1) 11 9 3 (-1)) 10 0 9 1)) dX4_init_74 ⟨rfl, rfl, rfl⟩ ⟨rfl, rfl⟩ rfl cf2.1 gc_10 (by decide) (by decide) (by decide) (vp_c (by decide) (by decide)) (congrArg (fun z => up (up (up (up (up (up (up (up (up (up (up (up (up (up (up (up (up (up (up (up (up (up (up (up (up (up (up (up (up h 8 0 0 1) 9 0 0 20) 9 0 1 90) 9 0 2 180) 9 0 3 3) 9 0 4 1) 9 0 5 0) 8 0 1 1) 8 0 2 1) 11 0 3 (-1)) 10 0 0 1) 11 1 3 (-1)) 10 0 1 1) 11 2 3 (-1)) 10 0 2 1) 11 3 3 (-1)) 10 0 3 1) 11 4 3 (-1)) 10 0 4 1) 11 5 3 (-1)) 10 0 5 1) 11 6 3 (-1)) 10 0 6 1) 11 7 3 (-1)) 10 0 7 1) 11 8 3 (-1)) 10 0 8 1) 11 9 3 (-1)) 10 0 z 1) (by decide)) ?_
  refine wz_pc (pc2 := 75) rfl ?_
  refine q_inc2 (v := 10) dX4_init_75 (by decide) (by decide) rfl ?_
  refine wz_pc (pc2 := 78) rfl ?_
  refine wz_goto (tgt := 56) dX4_init_78 rfl ?_
  refine wz_pc (pc2 := 56) rfl ?_
  refine q_ild2 dX4_init_56 ?_
  refine wz_pc (pc2 := 57) rfl ?_
  refine wz_bipush (v := 16) dX4_init_57 (by decide) ?_
  refine wz_pc (pc2 := 59) rfl ?_
  refine wz_icmp_ge (tgt := 81) dX4_init_59 rfl (fun z => absurd z (by decide)) (fun _ => ?_)
  refine wz_pc (pc2 := 62) rfl ?_
  refine q_ald0 dX4_init_62 ?_
  refine wz_pc (pc2 := 63) rfl ?_
  refine c_getR dX4_init_63 cf4 v18 (kf := 2) gr_8_2 gc_8 (by decide) (by simp [up]) ?_
  refine wz_pc (pc2 := 66) rfl ?_
  refine q_ild2 dX4_init_66 ?_
  refine wz_pc (pc2 := 67) rfl ?_
  refine c_new (g := 11) (i := 10) dX4_init_67 cf2 ⟨u9, u10, v19⟩ (by decide) ⟨rfl, rfl⟩ ⟨rfl, rfl, rfl⟩ df11 (by decide) (by decide) ?_
  refine wz_pc (pc2 := 70) rfl ?_
  refine wz_dup dX4_init_70 rfl ?_
  refine wz_pc (pc2 := 71) rfl ?_
  refine c_init (M := MX4_init) (pc := 71) (M' := MX2_init) (na := 0) (n2 := 31) (mc := 0) (ms := 0) (g := 11) (i := 10) (As := []) (st := [rf 11 10, .int 10, rf 10 0]) (Q := fun q => q = (up (up (up (up (up (up (up (up (up (up (up (up (up (up (up (up (up (up (up (up (up (up (up (up (up (up (up (up (up (up h 8 0 0 1) 9 0 0 20) 9 0 1 90) 9 0 2 180) 9 0 3 3) 9 0 4 1) 9 0 5 0) 8 0 1 1) 8 0 2 1) 11 0 3 (-1)) 10 0 0 1) 11 1 3 (-1)) 10 0 1 1) 11 2 3 (-1)) 10 0 2 1) 11 3 3 (-1)) 10 0 3 1) 11 4 3 (-1)) 10 0 4 1) 11 5 3 (-1)) 10 0 5 1) 11 6 3 (-1)) 10 0 6 1) 11 7 3 (-1)) 10 0 7 1) 11 8 3 (-1)) 10 0 8 1) 11 9 3 (-1)) 10 0 9 1) 11 10 3 (-1))) dX4_init_71 (by decide) rfl cat_ ⟨by decide +kernel, ⟨by decide +kernel, by decide +kernel, by decide +kernel⟩, rfl, rfl, by decide, by decide, by decide, rfl, rfl⟩ ⟨v20, v19, v21, v22⟩ (by decide) ⟨by decide, by decide⟩ rfl (ls0 := [some (rf 11 10)]) rfl (kX2_init (by decide) (by decide) rfl) (fun h1 hq => ?_)
  subst hq
  refine wz_pc (pc2 := 74) rfl ?_
  rw [show rf 11 10 = rf 11 ((10 : Int32).toNatClampNeg) from congrArg (rf 11) (by decide)]
  refine c_aast (t0 := 3) (h2 := (up (up (up (up (up (up (up (up (up (up (up (up (up (up (up (up (up (up (up (up (up (up (up (up (up (up (up (up (up (up (up h 8 0 0 1) 9 0 0 20) 9 0 1 90) 9 0 2 180) 9 0 3 3) 9 0 4 1) 9 0 5 0) 8 0 1 1) 8 0 2 1) 11 0 3 (-1)) 10 0 0 1) 11 1 3 (-1)) 10 0 1 1) 11 2 3 (-1)) 10 0 2 1) 11 3 3 (-1)) 10 0 3 1) 11 4 3 (-1)) 10 0 4 1) 11 5 3 (-1)) 10 0 5 1) 11 6 3 (-1)) 10 0 6 1) 11 7 3 (-1)) 10 0 7 1) 11 8 3 (-1)) 10 0 8 1) 11 9 3 (-1)) 10 0 9 1) 11 10 3 (-1)) 10 0 10 1)) dX4_init_74 ⟨rfl, rfl, rfl⟩ ⟨rfl, rfl⟩ rfl cf2.1 gc_10 (by decide) (by decide) (by decide) (vp_c (by decide) (by decide)) (congrArg (fun z => up (up (up (up (up (up (up (up (up (up (up (up (up (up (up (up (up (up (up (up (up (up (up (up (up (up (up (up (up (up (up h 8 0 0 1) 9 0 0 20) 9 0 1 90) 9 0 2 180) 9 0 3 3) 9 0 4 1) 9 0 5 0) 8 0 1 1) 8 0 2 1) 11 0 3 (-1)) 10 0 0 1) 11 1 3 (-1)) 10 0 1 1) 11 2 3 (-1)) 10 0 2 1) 11 3 3 (-1)) 10 0 3 1) 11 4 3 (-1)) 10 0 4 1) 11 5 3 (-1)) 10 0 5 1) 11 6 3 (-1)) 10 0 6 1) 11 7 3 (-1)) 10 0 7 1) 11 8 3 (-1)) 10 0 8 1) 11 9 3 (-1)) 10 0 9 1) 11 10 3 (-1)) 10 0 z 1) (by decide)) ?_
  refine wz_pc (pc2 := 75) rfl ?_
  refine q_inc2 (v := 11) dX4_init_75 (by decide) (by decide) rfl ?_
  refine wz_pc (pc2 := 78) rfl ?_
  refine wz_goto (tgt := 56) dX4_init_78 rfl ?_
  refine wz_pc (pc2 := 56) rfl ?_
  refine q_ild2 dX4_init_56 ?_
  refine wz_pc (pc2 := 57) rfl ?_
  refine wz_bipush (v := 16) dX4_init_57 (by decide) ?_
  refine wz_pc (pc2 := 59) rfl ?_
  refine wz_icmp_ge (tgt := 81) dX4_init_59 rfl (fun z => absurd z (by decide)) (fun _ => ?_)
  refine wz_pc (pc2 := 62) rfl ?_
  refine q_ald0 dX4_init_62 ?_
  refine wz_pc (pc2 := 63) rfl ?_
  refine c_getR dX4_init_63 cf4 v18 (kf := 2) gr_8_2 gc_8 (by decide) (by simp [up]) ?_
  refine wz_pc (pc2 := 66) rfl ?_
  refine q_ild2 dX4_init_66 ?_
  refine wz_pc (pc2 := 67) rfl ?_
  refine c_new (g := 11) (i := 11) dX4_init_67 cf2 ⟨u9, u10, v19⟩ (by decide) ⟨rfl, rfl⟩ ⟨rfl, rfl, rfl⟩ df11 (by decide) (by decide) ?_
  refine wz_pc (pc2 := 70) rfl ?_
  refine wz_dup dX4_init_70 rfl ?_
  refine wz_pc (pc2 := 71) rfl ?_
  refine c_init (M := MX4_init) (pc := 71) (M' := MX2_init) (na := 0) (n2 := 32) (mc := 0) (ms := 0) (g := 11) (i := 11) (As := []) (st := [rf 11 11, .int 11, rf 10 0]) (Q := fun q => q = (up (up (up (up (up (up (up (up (up (up (up (up (up (up (up (up (up (up (up (up (up (up (up (up (up (up (up (up (up (up (up (up h 8 0 0 1) 9 0 0 20) 9 0 1 90) 9 0 2 180) 9 0 3 3) 9 0 4 1) 9 0 5 0) 8 0 1 1) 8 0 2 1) 11 0 3 (-1)) 10 0 0 1) 11 1 3 (-1)) 10 0 1 1) 11 2 3 (-1)) 10 0 2 1) 11 3 3 (-1)) 10 0 3 1) 11 4 3 (-1)) 10 0 4 1) 11 5 3 (-1)) 10 0 5 1) 11 6 3 (-1)) 10 0 6 1) 11 7 3 (-1)) 10 0 7 1) 11 8 3 (-1)) 10 0 8 1) 11 9 3 (-1)) 10 0 9 1) 11 10 3 (-1)) 10 0 10 1) 11 11 3 (-1))) dX4_init_71 (by decide) rfl cat_ ⟨by decide +kernel, ⟨by decide +kernel, by decide +kernel, by decide +kernel⟩, rfl, rfl, by decide, by decide, by decide, rfl, rfl⟩ ⟨v20, v19, v21, v22⟩ (by decide) ⟨by decide, by decide⟩ rfl (ls0 := [some (rf 11 11)]) rfl (kX2_init (by decide) (by decide) rfl) (fun h1 hq => ?_)
  subst hq
  refine wz_pc (pc2 := 74) rfl ?_
  rw [show rf 11 11 = rf 11 ((11 : Int32).toNatClampNeg) from congrArg (rf 11) (by decide)]
  refine c_aast (t0 := 3) (h2 := (up (up (up (up (up (up (up (up (up (up (up (up (up (up (up (up (up (up (up (up (up (up (up (up (up (up (up (up (up (up (up (up (up h 8 0 0 1) 9 0 0 20) 9 0 1 90) 9 0 2 180) 9 0 3 3) 9 0 4 1) 9 0 5 0) 8 0 1 1) 8 0 2 1) 11 0 3 (-1)) 10 0 0 1) 11 1 3 (-1)) 10 0 1 1) 11 2 3 (-1)) 10 0 2 1) 11 3 3 (-1)) 10 0 3 1) 11 4 3 (-1)) 10 0 4 1) 11 5 3 (-1)) 10 0 5 1) 11 6 3 (-1)) 10 0 6 1) 11 7 3 (-1)) 10 0 7 1) 11 8 3 (-1)) 10 0 8 1) 11 9 3 (-1)) 10 0 9 1) 11 10 3 (-1)) 10 0 10 1) 11 11 3 (-1)) 10 0 11 1)) dX4_init_74 ⟨rfl, rfl, rfl⟩ ⟨rfl, rfl⟩ rfl cf2.1 gc_10 (by decide) (by decide) (by decide) (vp_c (by decide) (by decide)) (congrArg (fun z => up (up (up (up (up (up (up (up (up (up (up (up (up (up (up (up (up (up (up (up (up (up (up (up (up (up (up (up (up (up (up (up (up h 8 0 0 1) 9 0 0 20) 9 0 1 90) 9 0 2 180) 9 0 3 3) 9 0 4 1) 9 0 5 0) 8 0 1 1) 8 0 2 1) 11 0 3 (-1)) 10 0 0 1) 11 1 3 (-1)) 10 0 1 1) 11 2 3 (-1)) 10 0 2 1) 11 3 3 (-1)) 10 0 3 1) 11 4 3 (-1)) 10 0 4 1) 11 5 3 (-1)) 10 0 5 1) 11 6 3 (-1)) 10 0 6 1) 11 7 3 (-1)) 10 0 7 1) 11 8 3 (-1)) 10 0 8 1) 11 9 3 (-1)) 10 0 9 1) 11 10 3 (-1)) 10 0 10 1) 11 11 3 (-1)) 10 0 z 1) (by decide)) ?_
  refine wz_pc (pc2 := 75) rfl ?_
  refine q_inc2 (v := 12) dX4_init_75 (by decide) (by decide) rfl ?_
  refine wz_pc (pc2 := 78) rfl ?_
  refine wz_goto (tgt := 56) dX4_init_78 rfl ?_
  refine wz_pc (pc2 := 56) rfl ?_
  refine q_ild2 dX4_init_56 ?_
  refine wz_pc (pc2 := 57) rfl ?_
  refine wz_bipush (v := 16) dX4_init_57 (by decide) ?_
  refine wz_pc (pc2 := 59) rfl ?_
  refine wz_icmp_ge (tgt := 81) dX4_init_59 rfl (fun z => absurd z (by decide)) (fun _ => ?_)
  refine wz_pc (pc2 := 62) rfl ?_
  refine q_ald0 dX4_init_62 ?_
  refine wz_pc (pc2 := 63) rfl ?_
  refine c_getR dX4_init_63 cf4 v18 (kf := 2) gr_8_2 gc_8 (by decide) (by simp [up]) ?_
  refine wz_pc (pc2 := 66) rfl ?_
  refine q_ild2 dX4_init_66 ?_
  refine wz_pc (pc2 := 67) rfl ?_
  refine c_new (g := 11) (i := 12) dX4_init_67 cf2 ⟨u9, u10, v19⟩ (by decide) ⟨rfl, rfl⟩ ⟨rfl, rfl, rfl⟩ df11 (by decide) (by decide) ?_
  refine wz_pc (pc2 := 70) rfl ?_
  refine wz_dup dX4_init_70 rfl ?_
  refine wz_pc (pc2 := 71) rfl ?_
  refine c_init (M := MX4_init) (pc := 71) (M' := MX2_init) (na := 0) (n2 := 33) (mc := 0) (ms := 0) (g := 11) (i := 12) (As := []) (st := [rf 11 12, .int 12, rf 10 0]) (Q := fun q => q = (up (up (up (up (up (up (up (up (up (up (up (up (up (up (up (up (up (up (up (up (up (up (up (up (up (up (up (up (up (up (up (up (up (up h 8 0 0 1) 9 0 0 20) 9 0 1 90) 9 0 2 180) 9 0 3 3) 9 0 4 1) 9 0 5 0) 8 0 1 1) 8 0 2 1) 11 0 3 (-1)) 10 0 0 1) 11 1 3 (-1)) 10 0 1 1) 11 2 3 (-1)) 10 0 2 1) 11 3 3 (-1)) 10 0 3 1) 11 4 3 (-1)) 10 0 4 1) 11 5 3 (-1)) 10 0 5 1) 11 6 3 (-1)) 10 0 6 1) 11 7 3 (-1)) 10 0 7 1) 11 8 3 (-1)) 10 0 8 1) 11 9 3 (-1)) 10 0 9 1) 11 10 3 (-1)) 10 0 10 1) 11 11 3 (-1)) 10 0 11 1) 11 12 3 (-1))) dX4_init_71 (by decide) rfl cat_ ⟨by decide +kernel, ⟨by decide +kernel, by decide +kernel, by decide +kernel⟩, rfl, rfl, by decide, by decide, by decide, rfl, rfl⟩ ⟨v20, v19, v21, v22⟩ (by decide) ⟨by decide, by decide⟩ rfl (ls0 := [some (rf 11 12)]) rfl (kX2_init (by decide) (by decide) rfl) (fun h1 hq => ?_)
  subst hq
  refine wz_pc (pc2 := 74) rfl ?_
  rw [show rf 11 12 = rf 11 ((12 : Int32).toNatClampNeg) from congrArg (rf 11) (by decide)]
  refine c_aast (t0 := 3) (h2 := (up (up (up (up (up (up (up (up (up (up (up (up (up (up (up (up (up (up (up (up (up (up (up (up (up (up (up (up (up (up (up (up (up (up (up h 8 0 0 1) 9 0 0 20) 9 0 1 90) 9 0 2 180) 9 0 3 3) 9 0 4 1) 9 0 5 0) 8 0 1 1) 8 0 2 1) 11 0 3 (-1)) 10 0 0 1) 11 1 3 (-1)) 10 0 1 1) 11 2 3 (-1)) 10 0 2 1) 11 3 3 (-1)) 10 0 3 1) 11 4 3 (-1)) 10 0 4 1) 11 5 3 (-1)) 10 0 5 1) 11 6 3 (-1)) 10 0 6 1) 11 7 3 (-1)) 10 0 7 1) 11 8 3 (-1)) 10 0 8 1) 11 9 3 (-1)) 10 0 9 1) 11 10 3 (-1)) 10 0 10 1) 11 11 3 (-1)) 10 0 11 1) 11 12 3 (-1)) 10 0 12 1)) dX4_init_74 ⟨rfl, rfl, rfl⟩ ⟨rfl, rfl⟩ rfl cf2.1 gc_10 (by decide) (by decide) (by decide) (vp_c (by decide) (by decide)) (congrArg (fun z => up (up (up (up (up (up (up (up (up (up (up (up (up (up (up (up (up (up (up (up (up (up (up (up (up (up (up (up (up (up (up (up (up (up (up h 8 0 0 1) 9 0 0 20) 9 0 1 90) 9 0 2 180) 9 0 3 3) 9 0 4 1) 9 0 5 0) 8 0 1 1) 8 0 2 1) 11 0 3 (-1)) 10 0 0 1) 11 1 3 (-1)) 10 0 1 1) 11 2 3 (-1)) 10 0 2 1) 11 3 3 (-1)) 10 0 3 1) 11 4 3 (-1)) 10 0 4 1) 11 5 3 (-1)) 10 0 5 1) 11 6 3 (-1)) 10 0 6 1) 11 7 3 (-1)) 10 0 7 1) 11 8 3 (-1)) 10 0 8 1) 11 9 3 (-1)) 10 0 9 1) 11 10 3 (-1)) 10 0 10 1) 11 11 3 (-1)) 10 0 11 1) 11 12 3 (-1)) 10 0 z 1) (by decide)) ?_
  refine wz_pc (pc2 := 75) rfl ?_
  refine q_inc2 (v := 13) dX4_init_75 (by decide) (by decide) rfl ?_
  refine wz_pc (pc2 := 78) rfl ?_
  refine wz_goto (tgt := 56) dX4_init_78 rfl ?_
  refine wz_pc (pc2 := 56) rfl ?_
  refine q_ild2 dX4_init_56 ?_
  refine wz_pc (pc2 := 57) rfl ?_
  refine wz_bipush (v := 16) dX4_init_57 (by decide) ?_
  refine wz_pc (pc2 := 59) rfl ?_
  refine wz_icmp_ge (tgt := 81) dX4_init_59 rfl (fun z => absurd z (by decide)) (fun _ => ?_)
  refine wz_pc (pc2 := 62) rfl ?_
  refine q_ald0 dX4_init_62 ?_
  refine wz_pc (pc2 := 63) rfl ?_
  refine c_getR dX4_init_63 cf4 v18 (kf := 2) gr_8_2 gc_8 (by decide) (by simp [up]) ?_
  refine wz_pc (pc2 := 66) rfl ?_
  refine q_ild2 dX4_init_66 ?_
  refine wz_pc (pc2 := 67) rfl ?_
  refine c_new (g := 11) (i := 13) dX4_init_67 cf2 ⟨u9, u10, v19⟩ (by decide) ⟨rfl, rfl⟩ ⟨rfl, rfl, rfl⟩ df11 (by decide) (by decide) ?_
  refine wz_pc (pc2 := 70) rfl ?_
  refine wz_dup dX4_init_70 rfl ?_
  refine wz_pc (pc2 := 71) rfl ?_
  refine c_init (M := MX4_init) (pc := 71) (M' := MX2_init) (na := 0) (n2 := 34) (mc := 0) (ms := 0) (g := 11) (i := 13) (As := []) (st := [rf 11 13, .int 13, rf 10 0]) (Q := fun q => q = (up (up (up (up (up (up (up (up (up (up (up (up (up (up (up (up (up (up (up (up (up (up (up (up (up (up (up (up (up (up (up (up (up (up (up (up h 8 0 0 1) 9 0 0 20) 9 0 1 90) 9 0 2 180) 9 0 3 3) 9 0 4 1) 9 0 5 0) 8 0 1 1) 8 0 2 1) 11 0 3 (-1)) 10 0 0 1) 11 1 3 (-1)) 10 0 1 1) 11 2 3 (-1)) 10 0 2 1) 11 3 3 (-1)) 10 0 3 1) 11 4 3 (-1)) 10 0 4 1) 11 5 3 (-1)) 10 0 5 1) 11 6 3 (-1)) 10 0 6 1) 11 7 3 (-1)) 10 0 7 1) 11 8 3 (-1)) 10 0 8 1) 11 9 3 (-1)) 10 0 9 1) 11 10 3 (-1)) 10 0 10 1) 11 11 3 (-1)) 10 0 11 1) 11 12 3 (-1)) 10 0 12 1) 11 13 3 (-1))) dX4_init_71 (by decide) rfl cat_ ⟨by decide +kernel, ⟨by decide +kernel, by decide +kernel, by decide +kernel⟩, rfl, rfl, by decide, by decide, by decide, rfl, rfl⟩ ⟨v20, v19, v21, v22⟩ (by decide) ⟨by decide, by decide⟩ rfl (ls0 := [some (rf 11 13)]) rfl (kX2_init (by decide) (by decide) rfl) (fun h1 hq => ?_)
  subst hq
  refine wz_pc (pc2 := 74) rfl ?_
  rw [show rf 11 13 = rf 11 ((13 : Int32).toNatClampNeg) from congrArg (rf 11) (by decide)]
  refine c_aast (t0 := 3) (h2 := (up (up (up (up (up (up (up (up (up (up (up (up (up (up (up (up (up (up (up (up (up (up (up (up (up (up (up (up (up (up (up (up (up (up (up (up (up h 8 0 0 1) 9 0 0 20) 9 0 1 90) 9 0 2 180) 9 0 3 3) 9 0 4 1) 9 0 5 0) 8 0 1 1) 8 0 2 1) 11 0 3 (-1)) 10 0 0 1) 11 1 3 (-1)) 10 0 1 1) 11 2 3 (-1)) 10 0 2 1) 11 3 3 (-1)) 10 0 3 1) 11 4 3 (-1)) 10 0 4 1) 11 5 3 (-1)) 10 0 5 1) 11 6 3 (-1)) 10 0 6 1) 11 7 3 (-1)) 10 0 7 1) 11 8 3 (-1)) 10 0 8 1) 11 9 3 (-1)) 10 0 9 1) 11 10 3 (-1)) 10 0 10 1) 11 11 3 (-1)) 10 0 11 1) 11 12 3 (-1)) 10 0 12 1) 11 13 3 (-1)) 10 0 13 1)) dX4_init_74 ⟨rfl, rfl, rfl⟩ ⟨rfl, rfl⟩ rfl cf2.1 gc_10 (by decide) (by decide) (by decide) (vp_c (by decide) (by decide)) (congrArg (fun z => up (up (up (up (up (up (up (up (up (up (up (up (up (up (up (up (up (up (up (up (up (up (up (up (up (up (up (up (up (up (up (up (up (up (up (up (up h 8 0 0 1) 9 0 0 20) 9 0 1 90) 9 0 2 180) 9 0 3 3) 9 0 4 1) 9 0 5 0) 8 0 1 1) 8 0 2 1) 11 0 3 (-1)) 10 0 0 1) 11 1 3 (-1)) 10 0 1 1) 11 2 3 (-1)) 10 0 2 1) 11 3 3 (-1)) 10 0 3 1) 11 4 3 (-1)) 10 0 4 1) 11 5 3 (-1)) 10 0 5 1) 11 6 3 (-1)) 10 0 6 1) 11 7 3 (-1)) 10 0 7 1) 11 8 3 (-1)) 10 0 8 1) 11 9 3 (-1)) 10 0 9 1) 11 10 3 (-1)) 10 0 10 1) 11 11 3 (-1)) 10 0 11 1) 11 12 3 (-1)) 10 0 12 1) 11 13 3 (-1)) 10 0 z 1) (by decide)) ?_
  refine wz_pc (pc2 := 75) rfl ?_
  refine q_inc2 (v := 14) dX4_init_75 (by decide) (by decide) rfl ?_
  refine wz_pc (pc2 := 78) rfl ?_
  refine wz_goto (tgt := 56) dX4_init_78 rfl ?_
  refine wz_pc (pc2 := 56) rfl ?_
  refine q_ild2 dX4_init_56 ?_
  refine wz_pc (pc2 := 57) rfl ?_
  refine wz_bipush (v := 16) dX4_init_57 (by decide) ?_
  refine wz_pc (pc2 := 59) rfl ?_
  refine wz_icmp_ge (tgt := 81) dX4_init_59 rfl (fun z => absurd z (by decide)) (fun _ => ?_)
  refine wz_pc (pc2 := 62) rfl ?_
  refine q_ald0 dX4_init_62 ?_
  refine wz_pc (pc2 := 63) rfl ?_
  refine c_getR dX4_init_63 cf4 v18 (kf := 2) gr_8_2 gc_8 (by decide) (by simp [up]) ?_
  refine wz_pc (pc2 := 66) rfl ?_
  refine q_ild2 dX4_init_66 ?_
  refine wz_pc (pc2 := 67) rfl ?_
  refine c_new (g := 11) (i := 14) dX4_init_67 cf2 ⟨u9, u10, v19⟩ (by decide) ⟨rfl, rfl⟩ ⟨rfl, rfl, rfl⟩ df11 (by decide) (by decide) ?_
  refine wz_pc (pc2 := 70) rfl ?_
  refine wz_dup dX4_init_70 rfl ?_
  refine wz_pc (pc2 := 71) rfl ?_
  refine c_init (M := MX4_init) (pc := 71) (M' := MX2_init) (na := 0) (n2 := 35) (mc := 0) (ms := 0) (g := 11) (i := 14) (As := []) (st := [rf 11 14, .int 14, rf 10 0]) (Q := fun q => q = (up (up (up (up (up (up (up (up (up (up (up (up (up (up (up (up (up (up (up (up (up (up (up (up (up (up (up (up (up (up (up (up (up (up (up (up (up (up h 8 0 0 1) 9 0 0 20) 9 0 1 90) 9 0 2 180) 9 0 3 3) 9 0 4 1) 9 0 5 0) 8 0 1 1) 8 0 2 1) 11 0 3 (-1)) 10 0 0 1) 11 1 3 (-1)) 10 0 1 1) 11 2 3 (-1)) 10 0 2 1) 11 3 3 (-1)) 10 0 3 1) 11 4 3 (-1)) 10 0 4 1) 11 5 3 (-1)) 10 0 5 1) 11 6 3 (-1)) 10 0 6 1) 11 7 3 (-1)) 10 0 7 1) 11 8 3 (-1)) 10 0 8 1) 11 9 3 (-1)) 10 0 9 1) 11 10 3 (-1)) 10 0 10 1) 11 11 3 (-1)) 10 0 11 1) 11 12 3 (-1)) 10 0 12 1) 11 13 3 (-1)) 10 0 13 1) 11 14 3 (-1))) dX4_init_71 (by decide) rfl cat_ ⟨by decide +kernel, ⟨by decide +kernel, by decide +kernel, by decide +kernel⟩, rfl, rfl, by decide, by decide, by decide, rfl, rfl⟩ ⟨v20, v19, v21, v22⟩ (by decide) ⟨by decide, by decide⟩ rfl (ls0 := [some (rf 11 14)]) rfl (kX2_init (by decide) (by decide) rfl) (fun h1 hq => ?_)
  subst hq
  refine wz_pc (pc2 := 74) rfl ?_
  rw [show rf 11 14 = rf 11 ((14 : Int32).toNatClampNeg) from congrArg (rf 11) (by decide)]
  refine c_aast (t0 := 3) (h2 := (up (up (up (up (up (up (up (up (up (up (up (up (up (up (up (up (up (up (up (up (up (up (up (up (up (up (up (up (up (up (up (up (up (up (up (up (up (up (up h 8 0 0 1) 9 0 0 20) 9 0 1 90) 9 0 2 180) 9 0 3 3) 9 0 4 1) 9 0 5 0) 8 0 1 1) 8 0 2 1) 11 0 3 (-1)) 10 0 0 1) 11 1 3 (-1)) 10 0 1 1) 11 2 3 (-1)) 10 0 2 1) 11 3 3 (-1)) 10 0 3 1) 11 4 3 (-1)) 10 0 4 1) 11 5 3 (-1)) 10 0 5 1) 11 6 3 (-1)) 10 0 6 1) 11 7 3 (-1)) 10 0 7 1) 11 8 3 (-1)) 10 0 8 1) 11 9 3 (-1)) 10 0 9 1) 11 10 3 (-1)) 10 0 10 1) 11 11 3 (-1)) 10 0 11 1) 11 12 3 (-1)) 10 0 12 1) 11 13 3 (-1)) 10 0 13 1) 11 14 3 (-1)) 10 0 14 1)) dX4_init_74 ⟨rfl, rfl, rfl⟩ ⟨rfl, rfl⟩ rfl cf2.1 gc_10 (by decide) (by decide) (by decide) (vp_c (by decide) (by decide)) (congrArg (fun z => up (up (up (up (up (up (up (up (up (up (up (up (up (up (up (up (up (up (up (up (up (up (up (up (up (up (up (up (up (up (up (up (up (up (up (up (up (up (up h 8 0 0 1) 9 0 0 20) 9 0 1 90) 9 0 2 180) 9 0 3 3) 9 0 4 1) 9 0 5 0) 8 0 1 1) 8 0 2 1) 11 0 3 (-1)) 10 0 0 1) 11 1 3 (-1)) 10 0 1 1) 11 2 3 (-1)) 10 0 2 1) 11 3 3 (-1)) 10 0 3 1) 11 4 3 (-1)) 10 0 4 1) 11 5 3 (-1)) 10 0 5 1) 11 6 3 (-1)) 10 0 6 1) 11 7 3 (-1)) 10 0 7 1) 11 8 3 (-1)) 10 0 8 1) 11 9 3 (-1)) 10 0 9 1) 11 10 3 (-1)) 10 0 10 1) 11 11 3 (-1)) 10 0 11 1) 11 12 3 (-1)) 10 0 12 1) 11 13 3 (-1)) 10 0 13 1) 11 14 3 (-1)) 10 0 z 1) (by decide)) ?_
  refine wz_pc (pc2 := 75) rfl ?_
  refine q_inc2 (v := 15) dX4_init_75 (by decide) (by decide) rfl ?_
  refine wz_pc (pc2 := 78) rfl ?_
  refine wz_goto (tgt := 56) dX4_init_78 rfl ?_
  refine wz_pc (pc2 := 56) rfl ?_
  refine q_ild2 dX4_init_56 ?_
  refine wz_pc (pc2 := 57) rfl ?_
  refine wz_bipush (v := 16) dX4_init_57 (by decide) ?_
  refine wz_pc (pc2 := 59) rfl ?_
  refine wz_icmp_ge (tgt := 81) dX4_init_59 rfl (fun z => absurd z (by decide)) (fun _ => ?_)
  refine wz_pc (pc2 := 62) rfl ?_
  refine q_ald0 dX4_init_62 ?_
  refine wz_pc (pc2 := 63) rfl ?_
  refine c_getR dX4_init_63 cf4 v18 (kf := 2) gr_8_2 gc_8 (by decide) (by simp [up]) ?_
  refine wz_pc (pc2 := 66) rfl ?_
  refine q_ild2 dX4_init_66 ?_
  refine wz_pc (pc2 := 67) rfl ?_
  refine c_new (g := 11) (i := 15) dX4_init_67 cf2 ⟨u9, u10, v19⟩ (by decide) ⟨rfl, rfl⟩ ⟨rfl, rfl, rfl⟩ df11 (by decide) (by decide) ?_
  refine wz_pc (pc2 := 70) rfl ?_
  refine wz_dup dX4_init_70 rfl ?_
  refine wz_pc (pc2 := 71) rfl ?_
  refine c_init (M := MX4_init) (pc := 71) (M' := MX2_init) (na := 0) (n2 := 36) (mc := 0) (ms := 0) (g := 11) (i := 15) (As := []) (st := [rf 11 15, .int 15, rf 10 0]) (Q := fun q => q = (up (up (up (up (up (up (up (up (up (up (up (up (up (up (up (up (up (up (up (up (up (up (up (up (up (up (up (up (up (up (up (up (up (up (up (up (up (up (up (up h 8 0 0 1) 9 0 0 20) 9 0 1 90) 9 0 2 180) 9 0 3 3) 9 0 4 1) 9 0 5 0) 8 0 1 1) 8 0 2 1) 11 0 3 (-1)) 10 0 0 1) 11 1 3 (-1)) 10 0 1 1) 11 2 3 (-1)) 10 0 2 1) 11 3 3 (-1)) 10 0 3 1) 11 4 3 (-1)) 10 0 4 1) 11 5 3 (-1)) 10 0 5 1) 11 6 3 (-1)) 10 0 6 1) 11 7 3 (-1)) 10 0 7 1) 11 8 3 (-1)) 10 0 8 1) 11 9 3 (-1)) 10 0 9 1) 11 10 3 (-1)) 10 0 10 1) 11 11 3 (-1)) 10 0 11 1) 11 12 3 (-1)) 10 0 12 1) 11 13 3 (-1)) 10 0 13 1) 11 14 3 (-1)) 10 0 14 1) 11 15 3 (-1))) dX4_init_71 (by decide) rfl cat_ ⟨by decide +kernel, ⟨by decide +kernel, by decide +kernel, by decide +kernel⟩, rfl, rfl, by decide, by decide, by decide, rfl, rfl⟩ ⟨v20, v19, v21, v22⟩ (by decide) ⟨by decide, by decide⟩ rfl (ls0 := [some (rf 11 15)]) rfl (kX2_init (by decide) (by decide) rfl) (fun h1 hq => ?_)
  subst hq
  refine wz_pc (pc2 := 74) rfl ?_
  rw [show rf 11 15 = rf 11 ((15 : Int32).toNatClampNeg) from congrArg (rf 11) (by decide)]
  refine c_aast (t0 := 3) (h2 := (up (up (up (up (up (up (up (up (up (up (up (up (up (up (up (up (up (up (up (up (up (up (up (up (up (up (up (up (up (up (up (up (up (up (up (up (up (up (up (up (up h 8 0 0 1) 9 0 0 20) 9 0 1 90) 9 0 2 180) 9 0 3 3) 9 0 4 1) 9 0 5 0) 8 0 1 1) 8 0 2 1) 11 0 3 (-1)) 10 0 0 1) 11 1 3 (-1)) 10 0 1 1) 11 2 3 (-1)) 10 0 2 1) 11 3 3 (-1)) 10 0 3 1) 11 4 3 (-1)) 10 0 4 1) 11 5 3 (-1)) 10 0 5 1) 11 6 3 (-1)) 10 0 6 1) 11 7 3 (-1)) 10 0 7 1) 11 8 3 (-1)) 10 0 8 1) 11 9 3 (-1)) 10 0 9 1) 11 10 3 (-1)) 10 0 10 1) 11 11 3 (-1)) 10 0 11 1) 11 12 3 (-1)) 10 0 12 1) 11 13 3 (-1)) 10 0 13 1) 11 14 3 (-1)) 10 0 14 1) 11 15 3 (-1)) 10 0 15 1)) dX4_init_74 ⟨rfl, rfl, rfl⟩ ⟨rfl, rfl⟩ rfl cf2.1 gc_10 (by decide) (by decide) (by decide) (vp_c (by decide) (by decide)) (congrArg (fun z => up (up (up (up (up (up (up (up (up (up (up (up (up (up (up (up (up (up (up (up (up (up (up (up (up (up (up (up (up (up (up (up (up (up (up (up (up (up (up (up (up h 8 0 0 1) 9 0 0 20) 9 0 1 90) 9 0 2 180) 9 0 3 3) 9 0 4 1) 9 0 5 0) 8 0 1 1) 8 0 2 1) 11 0 3 (-1)) 10 0 0 1) 11 1 3 (-1)) 10 0 1 1) 11 2 3 (-1)) 10 0 2 1) 11 3 3 (-1)) 10 0 3 1) 11 4 3 (-1)) 10 0 4 1) 11 5 3 (-1)) 10 0 5 1) 11 6 3 (-1)) 10 0 6 1) 11 7 3 (-1)) 10 0 7 1) 11 8 3 (-1)) 10 0 8 1) 11 9 3 (-1)) 10 0 9 1) 11 10 3 (-1)) 10 0 10 1) 11 11 3 (-1)) 10 0 11 1) 11 12 3 (-1)) 10 0 12 1) 11 13 3 (-1)) 10 0 13 1) 11 14 3 (-1)) 10 0 14 1) 11 15 3 (-1)) 10 0 z 1) (by decide)) ?_
  refine wz_pc (pc2 := 75) rfl ?_
  refine q_inc2 (v := 16) dX4_init_75 (by decide) (by decide) rfl ?_
  refine wz_pc (pc2 := 78) rfl ?_
  refine wz_goto (tgt := 56) dX4_init_78 rfl ?_
  refine wz_pc (pc2 := 56) rfl ?_
  refine q_ild2 dX4_init_56 ?_
  refine wz_pc (pc2 := 57) rfl ?_
  refine wz_bipush (v := 16) dX4_init_57 (by decide) ?_
  refine wz_pc (pc2 := 59) rfl ?_
  refine wz_icmp_ge (tgt := 81) dX4_init_59 rfl (fun _ => ?_) (fun z => absurd z (by decide))
  refine wz_pc (pc2 := 81) rfl ?_
  refine q_ald0 dX4_init_81 ?_
  refine wz_pc (pc2 := 82) rfl ?_
  refine wz_bipush (v := 16) dX4_init_82 (by decide) ?_
  refine wz_pc (pc2 := 84) rfl ?_
  refine c_newI (g := 12) (i := 0) dX4_init_84 u7 (by decide) ⟨rfl, rfl⟩ ⟨rfl, rfl⟩ (by decide) (by decide) (by decide) (by decide) (by decide) ?_
  refine wz_pc (pc2 := 86) rfl ?_
  refine c_putR dX4_init_86 cf4 v23 (kf := 4) ⟨rfl, rfl, rfl, by decide, rfl, rfl, rfl⟩ ⟨tyX4_ok 4 (by decide), fun _ => rfl, fun _ => rfl⟩ rfl gc_8 (by decide) gc_12 rfl ?_
  refine wz_pc (pc2 := 89) rfl ?_
  refine q_ald0 dX4_init_89 ?_
  refine wz_pc (pc2 := 90) rfl ?_
  refine wz_bipush (v := 16) dX4_init_90 (by decide) ?_
  refine wz_pc (pc2 := 92) rfl ?_
  refine c_newI (g := 13) (i := 0) dX4_init_92 u7 (by decide) ⟨rfl, rfl⟩ ⟨rfl, rfl⟩ (by decide) (by decide) (by decide) (by decide) (by decide) ?_
  refine wz_pc (pc2 := 94) rfl ?_
  refine c_putR dX4_init_94 cf4 v24 (kf := 5) ⟨rfl, rfl, rfl, by decide, rfl, rfl, rfl⟩ ⟨tyX4_ok 5 (by decide), fun _ => rfl, fun _ => rfl⟩ rfl gc_8 (by decide) gc_13 rfl ?_
  refine wz_pc (pc2 := 97) rfl ?_
  refine q_ald0 dX4_init_97 ?_
  refine wz_pc (pc2 := 98) rfl ?_
  refine wz_bipush (v := 10) dX4_init_98 (by decide) ?_
  refine wz_pc (pc2 := 100) rfl ?_
  refine c_newI (g := 14) (i := 0) dX4_init_100 u7 (by decide) ⟨rfl, rfl⟩ ⟨rfl, rfl⟩ (by decide) (by decide) (by decide) (by decide) (by decide) ?_
  refine wz_pc (pc2 := 102) rfl ?_
  refine c_putR dX4_init_102 cf4 v25 (kf := 6) ⟨rfl, rfl, rfl, by decide, rfl, rfl, rfl⟩ ⟨tyX4_ok 6 (by decide), fun _ => rfl, fun _ => rfl⟩ rfl gc_8 (by decide) gc_14 rfl ?_
  refine wz_pc (pc2 := 105) rfl ?_
  exact c_ret dX4_init_105 rfl hQ
set_option maxRecDepth 20000 in
set_option maxHeartbeats 4000000 in
theorem kX5_init {E : EN} {h : TH} {Q : TH → Prop} (hQ : Q (up (up (up (up (up (up h 15 0 0 1) 15 0 1 1) 15 0 2 1) 15 0 4 1) 15 0 5 1) 15 0 6 1)) : wg E (PC E 40) MX5_init 0 0 (Zc E 45 5 78 Q) 0 [some (rf 15 0), some (rf 8 0)] [] h := by
  refine q_ald0 dX5_init_0 ?_
  refine wz_pc (pc2 := 1) rfl ?_
  refine c_obj dX5_init_1 ⟨u11, u1, uobj⟩ ⟨by decide, by decide⟩ ?_
  refine wz_pc (pc2 := 4) rfl ?_
  refine q_ald0 dX5_init_4 ?_
  refine wz_pc (pc2 := 5) rfl ?_
  refine q_ald1 dX5_init_5 ?_
  refine wz_pc (pc2 := 6) rfl ?_
  refine c_putR dX5_init_6 cf5 v26 (kf := 0) ⟨rfl, rfl, rfl, by decide, rfl, rfl, rfl⟩ ⟨tyX5_ok 0 (by decide), fun _ => rfl, fun _ => rfl⟩ rfl gc_15 (by decide) gc_8 rfl ?_
  refine wz_pc (pc2 := 9) rfl ?_
  refine q_ald0 dX5_init_9 ?_
  refine wz_pc (pc2 := 10) rfl ?_
  refine wz_bipush (v := 6) dX5_init_10 (by decide) ?_
  refine wz_pc (pc2 := 12) rfl ?_
  refine c_newI (g := 16) (i := 0) dX5_init_12 u7 (by decide) ⟨rfl, rfl⟩ ⟨rfl, rfl⟩ (by decide) (by decide) (by decide) (by decide) (by decide) ?_
  refine wz_pc (pc2 := 14) rfl ?_
  refine c_putR dX5_init_14 cf5 v27 (kf := 1) ⟨rfl, rfl, rfl, by decide, rfl, rfl, rfl⟩ ⟨tyX5_ok 1 (by decide), fun _ => rfl, fun _ => rfl⟩ rfl gc_15 (by decide) gc_16 rfl ?_
  refine wz_pc (pc2 := 17) rfl ?_
  refine q_ald0 dX5_init_17 ?_
  refine wz_pc (pc2 := 18) rfl ?_
  refine wz_bipush (v := 6) dX5_init_18 (by decide) ?_
  refine wz_pc (pc2 := 20) rfl ?_
  refine c_newI (g := 17) (i := 0) dX5_init_20 u7 (by decide) ⟨rfl, rfl⟩ ⟨rfl, rfl⟩ (by decide) (by decide) (by decide) (by decide) (by decide) ?_
  refine wz_pc (pc2 := 22) rfl ?_
  refine c_putR dX5_init_22 cf5 v28 (kf := 2) ⟨rfl, rfl, rfl, by decide, rfl, rfl, rfl⟩ ⟨tyX5_ok 2 (by decide), fun _ => rfl, fun _ => rfl⟩ rfl gc_15 (by decide) gc_17 rfl ?_
  refine wz_pc (pc2 := 25) rfl ?_
  refine q_ald0 dX5_init_25 ?_
  refine wz_pc (pc2 := 26) rfl ?_
  refine wz_bipush (v := 22) dX5_init_26 (by decide) ?_
  refine wz_pc (pc2 := 28) rfl ?_
  refine c_newI (g := 18) (i := 0) dX5_init_28 u7 (by decide) ⟨rfl, rfl⟩ ⟨rfl, rfl⟩ (by decide) (by decide) (by decide) (by decide) (by decide) ?_
  refine wz_pc (pc2 := 30) rfl ?_
  refine c_putR dX5_init_30 cf5 v29 (kf := 4) ⟨rfl, rfl, rfl, by decide, rfl, rfl, rfl⟩ ⟨tyX5_ok 4 (by decide), fun _ => rfl, fun _ => rfl⟩ rfl gc_15 (by decide) gc_18 rfl ?_
  refine wz_pc (pc2 := 33) rfl ?_
  refine q_ald0 dX5_init_33 ?_
  refine wz_pc (pc2 := 34) rfl ?_
  refine wz_bipush (v := 22) dX5_init_34 (by decide) ?_
  refine wz_pc (pc2 := 36) rfl ?_
  refine c_newI (g := 19) (i := 0) dX5_init_36 u7 (by decide) ⟨rfl, rfl⟩ ⟨rfl, rfl⟩ (by decide) (by decide) (by decide) (by decide) (by decide) ?_
  refine wz_pc (pc2 := 38) rfl ?_
  refine c_putR dX5_init_38 cf5 v30 (kf := 5) ⟨rfl, rfl, rfl, by decide, rfl, rfl, rfl⟩ ⟨tyX5_ok 5 (by decide), fun _ => rfl, fun _ => rfl⟩ rfl gc_15 (by decide) gc_19 rfl ?_
  refine wz_pc (pc2 := 41) rfl ?_
  refine q_ald0 dX5_init_41 ?_
  refine wz_pc (pc2 := 42) rfl ?_
  refine wz_bipush (v := 22) dX5_init_42 (by decide) ?_
  refine wz_pc (pc2 := 44) rfl ?_
  refine c_newI (g := 20) (i := 0) dX5_init_44 u7 (by decide) ⟨rfl, rfl⟩ ⟨rfl, rfl⟩ (by decide) (by decide) (by decide) (by decide) (by decide) ?_
  refine wz_pc (pc2 := 46) rfl ?_
  refine c_putR dX5_init_46 cf5 v31 (kf := 6) ⟨rfl, rfl, rfl, by decide, rfl, rfl, rfl⟩ ⟨tyX5_ok 6 (by decide), fun _ => rfl, fun _ => rfl⟩ rfl gc_15 (by decide) gc_20 rfl ?_
  refine wz_pc (pc2 := 49) rfl ?_
  exact c_ret dX5_init_49 rfl hQ
set_option maxRecDepth 20000 in
set_option maxHeartbeats 4000000 in
theorem kX0_init {E : EN} {h : TH} {Q : TH → Prop} (hQ : Q (up (up (up (up (up (up h 21 0 0 1) 21 0 1 1) 24 0 0 1) 24 0 1 1) 24 0 2 1) 21 0 2 1)) : wg E (PC E 46) MX0_init 0 0 (Zc E 52 6 203 Q) 0 [some (rf 21 0)] [] h := by
  refine q_ald0 dX0_init_0 ?_
  refine wz_pc (pc2 := 1) rfl ?_
  refine c_obj dX0_init_1 ⟨u12, u1, uobj⟩ ⟨by decide, by decide⟩ ?_
  refine wz_pc (pc2 := 4) rfl ?_
  refine q_ald0 dX0_init_4 ?_
  refine wz_pc (pc2 := 5) rfl ?_
  refine wz_bipush (v := 40) dX0_init_5 (by decide) ?_
  refine wz_pc (pc2 := 7) rfl ?_
  refine c_newI (g := 22) (i := 0) dX0_init_7 u7 (by decide) ⟨rfl, rfl⟩ ⟨rfl, rfl⟩ (by decide) (by decide) (by decide) (by decide) (by decide) ?_
  refine wz_pc (pc2 := 9) rfl ?_
  refine c_putR dX0_init_9 cf0 v32 (kf := 0) ⟨rfl, rfl, rfl, by decide, rfl, rfl, rfl⟩ ⟨tyX0_ok 0 (by decide), fun _ => rfl, fun _ => rfl⟩ rfl gc_21 (by decide) gc_22 rfl ?_
  refine wz_pc (pc2 := 12) rfl ?_
  refine q_ald0 dX0_init_12 ?_
  refine wz_pc (pc2 := 13) rfl ?_
  refine wz_bipush (v := 40) dX0_init_13 (by decide) ?_
  refine wz_pc (pc2 := 15) rfl ?_
  refine c_newI (g := 23) (i := 0) dX0_init_15 u7 (by decide) ⟨rfl, rfl⟩ ⟨rfl, rfl⟩ (by decide) (by decide) (by decide) (by decide) (by decide) ?_
  refine wz_pc (pc2 := 17) rfl ?_
  refine c_putR dX0_init_17 cf0 v33 (kf := 1) ⟨rfl, rfl, rfl, by decide, rfl, rfl, rfl⟩ ⟨tyX0_ok 1 (by decide), fun _ => rfl, fun _ => rfl⟩ rfl gc_21 (by decide) gc_23 rfl ?_
  refine wz_pc (pc2 := 20) rfl ?_
  refine q_ald0 dX0_init_20 ?_
  refine wz_pc (pc2 := 21) rfl ?_
  refine wz_iconst (v := 3) dX0_init_21 (by decide) ?_
  refine wz_pc (pc2 := 22) rfl ?_
  refine wz_bipush (v := 40) dX0_init_22 (by decide) ?_
  refine wz_pc (pc2 := 24) rfl ?_
  refine c_newM (go := 24) (gi := 25) dX0_init_24 ⟨u13, u7⟩ (by decide) ⟨rfl, rfl, rfl, rfl, rfl, rfl, rfl, rfl⟩ (by decide) ⟨rfl, rfl, by decide⟩ (by decide) (by decide) rfl ?_
  refine wz_pc (pc2 := 28) rfl ?_
  refine c_putR dX0_init_28 cf0 v34 (kf := 2) ⟨rfl, rfl, rfl, by decide, rfl, rfl, rfl⟩ ⟨tyX0_ok 2 (by decide), fun _ => rfl, fun _ => rfl⟩ rfl gc_21 (by decide) gc_24 rfl ?_
  refine wz_pc (pc2 := 31) rfl ?_
  exact c_ret dX0_init_31 rfl hQ
set_option maxRecDepth 20000 in
set_option maxHeartbeats 4000000 in
theorem kX6_init {E : EN} {h : TH} {Q : TH → Prop} (hQ : Q (up (up (up (up (up (up (up (up (up (up (up (up (up (up (up (up (up (up (up (up (up (up (up (up (up (up (up (up (up (up (up (up (up (up (up (up (up (up (up (up (up (up (up (up (up (up (up (up (up (up (up (up (up (up (up (up (up (up (up (up (up (up (up (up (up (up (up (up (up (up (up (up (up (up (up (up (up (up (up (up (up (up (up (up (up (up (up (up (up (up (up (up (up (up (up (up (up (up (up (up (up (up (up (up (up (up (up (up (up (up (up (up (up (up (up (up (up (up (up (up (up (up (up (up (up (up (up (up (up (up (up (up (up (up (up (up (up (up (up (up (up (up (up (up (up (up (up (up h 0 0 0 1) 0 0 1 1) 2 0 0 1) 4 0 2 (-1)) 4 0 4 1) 4 0 8 (-1)) 4 0 9 (-1)) 4 0 10 (-1)) 4 0 11 (-1)) 4 0 12 (-1)) 3 0 0 1) 4 1 2 (-1)) 4 1 4 1) 4 1 8 (-1)) 4 1 9 (-1)) 4 1 10 (-1)) 4 1 11 (-1)) 4 1 12 (-1)) 3 0 1 1) 4 2 2 (-1)) 4 2 4 1) 4 2 8 (-1)) 4 2 9 (-1)) 4 2 10 (-1)) 4 2 11 (-1)) 4 2 12 (-1)) 3 0 2 1) 4 3 2 (-1)) 4 3 4 1) 4 3 8 (-1)) 4 3 9 (-1)) 4 3 10 (-1)) 4 3 11 (-1)) 4 3 12 (-1)) 3 0 3 1) 4 4 2 (-1)) 4 4 4 1) 4 4 8 (-1)) 4 4 9 (-1)) 4 4 10 (-1)) 4 4 11 (-1)) 4 4 12 (-1)) 3 0 4 1) 4 5 2 (-1)) 4 5 4 1) 4 5 8 (-1)) 4 5 9 (-1)) 4 5 10 (-1)) 4 5 11 (-1)) 4 5 12 (-1)) 3 0 5 1) 4 6 2 (-1)) 4 6 4 1) 4 6 8 (-1)) 4 6 9 (-1)) 4 6 10 (-1)) 4 6 11 (-1)) 4 6 12 (-1)) 3 0 6 1) 4 7 2 (-1)) 4 7 4 1) 4 7 8 (-1)) 4 7 9 (-1)) 4 7 10 (-1)) 4 7 11 (-1)) 4 7 12 (-1)) 3 0 7 1) 4 8 2 (-1)) 4 8 4 1) 4 8 8 (-1)) 4 8 9 (-1)) 4 8 10 (-1)) 4 8 11 (-1)) 4 8 12 (-1)) 3 0 8 1) 4 9 2 (-1)) 4 9 4 1) 4 9 8 (-1)) 4 9 9 (-1)) 4 9 10 (-1)) 4 9 11 (-1)) 4 9 12 (-1)) 3 0 9 1) 2 0 2 1) 2 0 3 1) 2 0 4 1) 0 0 2 1) 8 0 0 1) 9 0 0 20) 9 0 1 90) 9 0 2 180) 9 0 3 3) 9 0 4 1) 9 0 5 0) 8 0 1 1) 8 0 2 1) 11 0 3 (-1)) 10 0 0 1) 11 1 3 (-1)) 10 0 1 1) 11 2 3 (-1)) 10 0 2 1) 11 3 3 (-1)) 10 0 3 1) 11 4 3 (-1)) 10 0 4 1) 11 5 3 (-1)) 10 0 5 1) 11 6 3 (-1)) 10 0 6 1) 11 7 3 (-1)) 10 0 7 1) 11 8 3 (-1)) 10 0 8 1) 11 9 3 (-1)) 10 0 9 1) 11 10 3 (-1)) 10 0 10 1) 11 11 3 (-1)) 10 0 11 1) 11 12 3 (-1)) 10 0 12 1) 11 13 3 (-1)) 10 0 13 1) 11 14 3 (-1)) 10 0 14 1) 11 15 3 (-1)) 10 0 15 1) 8 0 4 1) 8 0 5 1) 8 0 6 1) 0 0 3 1) 15 0 0 1) 15 0 1 1) 15 0 2 1) 15 0 4 1) 15 0 5 1) 15 0 6 1) 0 0 4 1) 21 0 0 1) 21 0 1 1) 24 0 0 1) 24 0 1 1) 24 0 2 1) 21 0 2 1) 0 0 5 1) 0 0 7 1) 0 0 9 1)) : wg E (PC E 1) MX6_init 0 0 (Zc E 54 53 685 Q) 0 [some (rf 0 0)] [] h := by
  refine q_ald0 dX6_init_0 ?_
  refine wz_pc (pc2 := 1) rfl ?_
  refine c_obj dX6_init_1 ⟨u14, u1, uobj⟩ ⟨by decide, by decide⟩ ?_
  refine wz_pc (pc2 := 4) rfl ?_
  refine q_ald0 dX6_init_4 ?_
  refine wz_pc (pc2 := 5) rfl ?_
  refine wz_bipush (v := 12) dX6_init_5 (by decide) ?_
  refine wz_pc (pc2 := 7) rfl ?_
  refine c_newI (g := 1) (i := 0) dX6_init_7 u7 (by decide) ⟨rfl, rfl⟩ ⟨rfl, rfl⟩ (by decide) (by decide) (by decide) (by decide) (by decide) ?_
  refine wz_pc (pc2 := 9) rfl ?_
  refine c_putR dX6_init_9 cf6 v35 (kf := 0) ⟨rfl, rfl, rfl, by decide, rfl, rfl, rfl⟩ ⟨tyX6_ok 0 (by decide), fun _ => rfl, fun _ => rfl⟩ rfl gc_0 (by decide) gc_1 rfl ?_
  refine wz_pc (pc2 := 12) rfl ?_
  refine q_ald0 dX6_init_12 ?_
  refine wz_pc (pc2 := 13) rfl ?_
  refine wz_iconst (v := 1) dX6_init_13 (by decide) ?_
  refine wz_pc (pc2 := 14) rfl ?_
  refine c_putI dX6_init_14 cf6 v36 (kf := 1) gp_0_1 gc_0 (by decide) rfl ?_
  refine wz_pc (pc2 := 17) rfl ?_
  refine q_ald0 dX6_init_17 ?_
  refine wz_pc (pc2 := 18) rfl ?_
  refine c_new (g := 2) (i := 0) dX6_init_18 cf1 ⟨u15, u16, v37⟩ (by decide) ⟨rfl, rfl⟩ ⟨rfl, rfl, rfl⟩ df2 (by decide) (by decide) ?_
  refine wz_pc (pc2 := 21) rfl ?_
  refine wz_dup dX6_init_21 rfl ?_
  refine wz_pc (pc2 := 22) rfl ?_
  refine c_init (M := MX6_init) (pc := 22) (M' := MX1_init) (na := 0) (n2 := 17) (mc := 14) (ms := 200) (g := 2) (i := 0) (As := []) (st := [rf 2 0, rf 0 0]) (Q := fun q => q = (up (up (up (up (up (up (up (up (up (up (up (up (up (up (up (up (up (up (up (up (up (up (up (up (up (up (up (up (up (up (up (up (up (up (up (up (up (up (up (up (up (up (up (up (up (up (up (up (up (up (up (up (up (up (up (up (up (up (up (up (up (up (up (up (up (up (up (up (up (up (up (up (up (up (up (up (up (up (up (up (up (up (up (up (up (up h 0 0 0 1) 0 0 1 1) 2 0 0 1) 4 0 2 (-1)) 4 0 4 1) 4 0 8 (-1)) 4 0 9 (-1)) 4 0 10 (-1)) 4 0 11 (-1)) 4 0 12 (-1)) 3 0 0 1) 4 1 2 (-1)) 4 1 4 1) 4 1 8 (-1)) 4 1 9 (-1)) 4 1 10 (-1)) 4 1 11 (-1)) 4 1 12 (-1)) 3 0 1 1) 4 2 2 (-1)) 4 2 4 1) 4 2 8 (-1)) 4 2 9 (-1)) 4 2 10 (-1)) 4 2 11 (-1)) 4 2 12 (-1)) 3 0 2 1) 4 3 2 (-1)) 4 3 4 1) 4 3 8 (-1)) 4 3 9 (-1)) 4 3 10 (-1)) 4 3 11 (-1)) 4 3 12 (-1)) 3 0 3 1) 4 4 2 (-1)) 4 4 4 1) 4 4 8 (-1)) 4 4 9 (-1)) 4 4 10 (-1)) 4 4 11 (-1)) 4 4 12 (-1)) 3 0 4 1) 4 5 2 (-1)) 4 5 4 1) 4 5 8 (-1)) 4 5 9 (-1)) 4 5 10 (-1)) 4 5 11 (-1)) 4 5 12 (-1)) 3 0 5 1) 4 6 2 (-1)) 4 6 4 1) 4 6 8 (-1)) 4 6 9 (-1)) 4 6 10 (-1)) 4 6 11 (-1)) 4 6 12 (-1)) 3 0 6 1) 4 7 2 (-1)) 4 7 4 1) 4 7 8 (-1)) 4 7 9 (-1)) 4 7 10 (-1)) 4 7 11 (-1)) 4 7 12 (-1)) 3 0 7 1) 4 8 2 (-1)) 4 8 4 1) 4 8 8 (-1)) 4 8 9 (-1)) 4 8 10 (-1)) 4 8 11 (-1)) 4 8 12 (-1)) 3 0 8 1) 4 9 2 (-1)) 4 9 4 1) 4 9 8 (-1)) 4 9 9 (-1)) 4 9 10 (-1)) 4 9 11 (-1)) 4 9 12 (-1)) 3 0 9 1) 2 0 2 1) 2 0 3 1) 2 0 4 1)) dX6_init_22 gc_2 rfl cat_ ⟨by decide +kernel, ⟨by decide +kernel, by decide +kernel, by decide +kernel⟩, rfl, rfl, by decide, by decide, by decide, rfl, rfl⟩ ⟨v38, v37, v39, v40⟩ (by decide) ⟨by decide, by decide⟩ rfl (ls0 := [some (rf 2 0), none]) rfl (kX1_init  rfl) (fun h1 hq => ?_)
  subst hq
  refine wz_pc (pc2 := 25) rfl ?_
  refine c_putR dX6_init_25 cf6 v41 (kf := 2) ⟨rfl, rfl, rfl, by decide, rfl, rfl, rfl⟩ ⟨tyX6_ok 2 (by decide), fun _ => rfl, fun _ => rfl⟩ rfl gc_0 (by decide) gc_2 rfl ?_
  refine wz_pc (pc2 := 28) rfl ?_
  refine q_ald0 dX6_init_28 ?_
  refine wz_pc (pc2 := 29) rfl ?_
  refine c_new (g := 8) (i := 0) dX6_init_29 cf4 ⟨u17, u18, v42⟩ (by decide) ⟨rfl, rfl⟩ ⟨rfl, rfl, rfl⟩ df8 (by decide) (by decide) ?_
  refine wz_pc (pc2 := 32) rfl ?_
  refine wz_dup dX6_init_32 rfl ?_
  refine wz_pc (pc2 := 33) rfl ?_
  refine q_ald0 dX6_init_33 ?_
  refine wz_pc (pc2 := 34) rfl ?_
  refine c_getR dX6_init_34 cf6 v41 (kf := 2) gr_0_2 gc_0 (by decide) (by simp [up]) ?_
  refine wz_pc (pc2 := 37) rfl ?_
  refine c_init (M := MX6_init) (pc := 37) (M' := MX4_init) (na := 1) (n2 := 39) (mc := 21) (ms := 144) (g := 8) (i := 0) (As := [rf 2 0]) (st := [rf 8 0, rf 0 0]) (Q := fun q => q = (up (up (up (up (up (up (up (up (up (up (up (up (up (up (up (up (up (up (up (up (up (up (up (up (up (up (up (up (up (up (up (up (up (up (up (up (up (up (up (up (up (up (up (up (up (up (up (up (up (up (up (up (up (up (up (up (up (up (up (up (up (up (up (up (up (up (up (up (up (up (up (up (up (up (up (up (up (up (up (up (up (up (up (up (up (up (up (up (up (up (up (up (up (up (up (up (up (up (up (up (up (up (up (up (up (up (up (up (up (up (up (up (up (up (up (up (up (up (up (up (up (up (up (up (up (up (up (up (up (up (up h 0 0 0 1) 0 0 1 1) 2 0 0 1) 4 0 2 (-1)) 4 0 4 1) 4 0 8 (-1)) 4 0 9 (-1)) 4 0 10 (-1)) 4 0 11 (-1)) 4 0 12 (-1)) 3 0 0 1) 4 1 2 (-1)) 4 1 4 1) 4 1 8 (-1)) 4 1 9 (-1)) 4 1 10 (-1)) 4 1 11 (-1)) 4 1 12 (-1)) 3 0 1 1) 4 2 2 (-1)) 4 2 4 1) 4 2 8 (-1)) 4 2 9 (-1)) 4 2 10 (-1)) 4 2 11 (-1)) 4 2 12 (-1)) 3 0 2 1) 4 3 2 (-1)) 4 3 4 1) 4 3 8 (-1)) 4 3 9 (-1)) 4 3 10 (-1)) 4 3 11 (-1)) 4 3 12 (-1)) 3 0 3 1) 4 4 2 (-1)) 4 4 4 1) 4 4 8 (-1)) 4 4 9 (-1)) 4 4 10 (-1)) 4 4 11 (-1)) 4 4 12 (-1)) 3 0 4 1) 4 5 2 (-1)) 4 5 4 1) 4 5 8 (-1)) 4 5 9 (-1)) 4 5 10 (-1)) 4 5 11 (-1)) 4 5 12 (-1)) 3 0 5 1) 4 6 2 (-1)) 4 6 4 1) 4 6 8 (-1)) 4 6 9 (-1)) 4 6 10 (-1)) 4 6 11 (-1)) 4 6 12 (-1)) 3 0 6 1) 4 7 2 (-1)) 4 7 4 1) 4 7 8 (-1)) 4 7 9 (-1)) 4 7 10 (-1)) 4 7 11 (-1)) 4 7 12 (-1)) 3 0 7 1) 4 8 2 (-1)) 4 8 4 1) 4 8 8 (-1)) 4 8 9 (-1)) 4 8 10 (-1)) 4 8 11 (-1)) 4 8 12 (-1)) 3 0 8 1) 4 9 2 (-1)) 4 9 4 1) 4 9 8 (-1)) 4 9 9 (-1)) 4 9 10 (-1)) 4 9 11 (-1)) 4 9 12 (-1)) 3 0 9 1) 2 0 2 1) 2 0 3 1) 2 0 4 1) 0 0 2 1) 8 0 0 1) 9 0 0 20) 9 0 1 90) 9 0 2 180) 9 0 3 3) 9 0 4 1) 9 0 5 0) 8 0 1 1) 8 0 2 1) 11 0 3 (-1)) 10 0 0 1) 11 1 3 (-1)) 10 0 1 1) 11 2 3 (-1)) 10 0 2 1) 11 3 3 (-1)) 10 0 3 1) 11 4 3 (-1)) 10 0 4 1) 11 5 3 (-1)) 10 0 5 1) 11 6 3 (-1)) 10 0 6 1) 11 7 3 (-1)) 10 0 7 1) 11 8 3 (-1)) 10 0 8 1) 11 9 3 (-1)) 10 0 9 1) 11 10 3 (-1)) 10 0 10 1) 11 11 3 (-1)) 10 0 11 1) 11 12 3 (-1)) 10 0 12 1) 11 13 3 (-1)) 10 0 13 1) 11 14 3 (-1)) 10 0 14 1) 11 15 3 (-1)) 10 0 15 1) 8 0 4 1) 8 0 5 1) 8 0 6 1)) dX6_init_37 gc_8 rfl cat_r ⟨by decide +kernel, ⟨by decide +kernel, by decide +kernel, by decide +kernel⟩, rfl, rfl, by decide, by decide, by decide, rfl, rfl⟩ ⟨v43, v42, v44, v45⟩ (by decide) ⟨by decide, by decide⟩ rfl (ls0 := [some (rf 8 0), some (rf 2 0), none]) rfl (kX4_init  rfl) (fun h1 hq => ?_)
  subst hq
  refine wz_pc (pc2 := 40) rfl ?_
  refine c_putR dX6_init_40 cf6 v46 (kf := 3) ⟨rfl, rfl, rfl, by decide, rfl, rfl, rfl⟩ ⟨tyX6_ok 3 (by decide), fun _ => rfl, fun _ => rfl⟩ rfl gc_0 (by decide) gc_8 rfl ?_
  refine wz_pc (pc2 := 43) rfl ?_
  refine q_ald0 dX6_init_43 ?_
  refine wz_pc (pc2 := 44) rfl ?_
  refine c_new (g := 15) (i := 0) dX6_init_44 cf5 ⟨u19, u20, v47⟩ (by decide) ⟨rfl, rfl⟩ ⟨rfl, rfl, rfl⟩ df15 (by decide) (by decide) ?_
  refine wz_pc (pc2 := 47) rfl ?_
  refine wz_dup dX6_init_47 rfl ?_
  refine wz_pc (pc2 := 48) rfl ?_
  refine q_ald0 dX6_init_48 ?_
  refine wz_pc (pc2 := 49) rfl ?_
  refine c_getR dX6_init_49 cf6 v46 (kf := 3) gr_0_3 gc_0 (by decide) (by simp [up]) ?_
  refine wz_pc (pc2 := 52) rfl ?_
  refine c_init (M := MX6_init) (pc := 52) (M' := MX5_init) (na := 1) (n2 := 45) (mc := 5) (ms := 78) (g := 15) (i := 0) (As := [rf 8 0]) (st := [rf 15 0, rf 0 0]) (Q := fun q => q = (up (up (up (up (up (up (up (up (up (up (up (up (up (up (up (up (up (up (up (up (up (up (up (up (up (up (up (up (up (up (up (up (up (up (up (up (up (up (up (up (up (up (up (up (up (up (up (up (up (up (up (up (up (up (up (up (up (up (up (up (up (up (up (up (up (up (up (up (up (up (up (up (up (up (up (up (up (up (up (up (up (up (up (up (up (up (up (up (up (up (up (up (up (up (up (up (up (up (up (up (up (up (up (up (up (up (up (up (up (up (up (up (up (up (up (up (up (up (up (up (up (up (up (up (up (up (up (up (up (up (up (up (up (up (up (up (up (up h 0 0 0 1) 0 0 1 1) 2 0 0 1) 4 0 2 (-1)) 4 0 4 1) 4 0 8 (-1)) 4 0 9 (-1)) 4 0 10 (-1)) 4 0 11 (-1)) 4 0 12 (-1)) 3 0 0 1) 4 1 2 (-1)) 4 1 4 1) 4 1 8 (-1)) 4 1 9 (-1)) 4 1 10 (-1)) 4 1 11 (-1)) 4 1 12 (-1)) 3 0 1 1) 4 2 2 (-1)) 4 2 4 1) 4 2 8 (-1)) 4 2 9 (-1)) 4 2 10 (-1)) 4 2 11 (-1)) 4 2 12 (-1)) 3 0 2 1) 4 3 2 (-1)) 4 3 4 1) 4 3 8 (-1)) 4 3 9 (-1)) 4 3 10 (-1)) 4 3 11 (-1)) 4 3 12 (-1)) 3 0 3 1) 4 4 2 (-1)) 4 4 4 1) 4 4 8 (-1)) 4 4 9 (-1)) 4 4 10 (-1)) 4 4 11 (-1)) 4 4 12 (-1)) 3 0 4 1) 4 5 2 (-1)) 4 5 4 1) 4 5 8 (-1)) 4 5 9 (-1)) 4 5 10 (-1)) 4 5 11 (-1)) 4 5 12 (-1)) 3 0 5 1) 4 6 2 (-1)) 4 6 4 1) 4 6 8 (-1)) 4 6 9 (-1)) 4 6 10 (-1)) 4 6 11 (-1)) 4 6 12 (-1)) 3 0 6 1) 4 7 2 (-1)) 4 7 4 1) 4 7 8 (-1)) 4 7 9 (-1)) 4 7 10 (-1)) 4 7 11 (-1)) 4 7 12 (-1)) 3 0 7 1) 4 8 2 (-1)) 4 8 4 1) 4 8 8 (-1)) 4 8 9 (-1)) 4 8 10 (-1)) 4 8 11 (-1)) 4 8 12 (-1)) 3 0 8 1) 4 9 2 (-1)) 4 9 4 1) 4 9 8 (-1)) 4 9 9 (-1)) 4 9 10 (-1)) 4 9 11 (-1)) 4 9 12 (-1)) 3 0 9 1) 2 0 2 1) 2 0 3 1) 2 0 4 1) 0 0 2 1) 8 0 0 1) 9 0 0 20) 9 0 1 90) 9 0 2 180) 9 0 3 3) 9 0 4 1) 9 0 5 0) 8 0 1 1) 8 0 2 1) 11 0 3 (-1)) 10 0 0 1) 11 1 3 (-1)) 10 0 1 1) 11 2 3 (-1)) 10 0 2 1) 11 3 3 (-1)) 10 0 3 1) 11 4 3 (-1)) 10 0 4 1) 11 5 3 (-1)) 10 0 5 1) 11 6 3 (-1)) 10 0 6 1) 11 7 3 (-1)) 10 0 7 1) 11 8 3 (-1)) 10 0 8 1) 11 9 3 (-1)) 10 0 9 1) 11 10 3 (-1)) 10 0 10 1) 11 11 3 (-1)) 10 0 11 1) 11 12 3 (-1)) 10 0 12 1) 11 13 3 (-1)) 10 0 13 1) 11 14 3 (-1)) 10 0 14 1) 11 15 3 (-1)) 10 0 15 1) 8 0 4 1) 8 0 5 1) 8 0 6 1) 0 0 3 1) 15 0 0 1) 15 0 1 1) 15 0 2 1) 15 0 4 1) 15 0 5 1) 15 0 6 1)) dX6_init_52 gc_15 rfl cat_r ⟨by decide +kernel, ⟨by decide +kernel, by decide +kernel, by decide +kernel⟩, rfl, rfl, by decide, by decide, by decide, rfl, rfl⟩ ⟨v48, v47, v49, v50⟩ (by decide) ⟨by decide, by decide⟩ rfl (ls0 := [some (rf 15 0), some (rf 8 0)]) rfl (kX5_init  rfl) (fun h1 hq => ?_)
  subst hq
  refine wz_pc (pc2 := 55) rfl ?_
  refine c_putR dX6_init_55 cf6 v51 (kf := 4) ⟨rfl, rfl, rfl, by decide, rfl, rfl, rfl⟩ ⟨tyX6_ok 4 (by decide), fun _ => rfl, fun _ => rfl⟩ rfl gc_0 (by decide) gc_15 rfl ?_
  refine wz_pc (pc2 := 58) rfl ?_
  refine q_ald0 dX6_init_58 ?_
  refine wz_pc (pc2 := 59) rfl ?_
  refine c_new (g := 21) (i := 0) dX6_init_59 cf0 ⟨u21, u22, v52⟩ (by decide) ⟨rfl, rfl⟩ ⟨rfl, rfl, rfl⟩ df21 (by decide) (by decide) ?_
  refine wz_pc (pc2 := 62) rfl ?_
  refine wz_dup dX6_init_62 rfl ?_
  refine wz_pc (pc2 := 63) rfl ?_
  refine c_init (M := MX6_init) (pc := 63) (M' := MX0_init) (na := 0) (n2 := 52) (mc := 6) (ms := 203) (g := 21) (i := 0) (As := []) (st := [rf 21 0, rf 0 0]) (Q := fun q => q = (up (up (up (up (up (up (up (up (up (up (up (up (up (up (up (up (up (up (up (up (up (up (up (up (up (up (up (up (up (up (up (up (up (up (up (up (up (up (up (up (up (up (up (up (up (up (up (up (up (up (up (up (up (up (up (up (up (up (up (up (up (up (up (up (up (up (up (up (up (up (up (up (up (up (up (up (up (up (up (up (up (up (up (up (up (up (up (up (up (up (up (up (up (up (up (up (up (up (up (up (up (up (up (up (up (up (up (up (up (up (up (up (up (up (up (up (up (up (up (up (up (up (up (up (up (up (up (up (up (up (up (up (up (up (up (up (up (up (up (up (up (up (up (up (up h 0 0 0 1) 0 0 1 1) 2 0 0 1) 4 0 2 (-1)) 4 0 4 1) 4 0 8 (-1)) 4 0 9 (-1)) 4 0 10 (-1)) 4 0 11 (-1)) 4 0 12 (-1)) 3 0 0 1) 4 1 2 (-1)) 4 1 4 1) 4 1 8 (-1)) 4 1 9 (-1)) 4 1 10 (-1)) 4 1 11 (-1)) 4 1 12 (-1)) 3 0 1 1) 4 2 2 (-1)) 4 2 4 1) 4 2 8 (-1)) 4 2 9 (-1)) 4 2 10 (-1)) 4 2 11 (-1)) 4 2 12 (-1)) 3 0 2 1) 4 3 2 (-1)) 4 3 4 1) 4 3 8 (-1)) 4 3 9 (-1)) 4 3 10 (-1)) 4 3 11 (-1)) 4 3 12 (-1)) 3 0 3 1) 4 4 2 (-1)) 4 4 4 1) 4 4 8 (-1)) 4 4 9 (-1)) 4 4 10 (-1)) 4 4 11 (-1)) 4 4 12 (-1)) 3 0 4 1) 4 5 2 (-1)) 4 5 4 1) 4 5 8 (-1)) 4 5 9 (-1)) 4 5 10 (-1)) 4 5 11 (-1)) 4 5 12 (-1)) 3 0 5 1) 4 6 2 (-1)) 4 6 4 1) 4 6 8 (-1)) 4 6 9 (-1)) 4 6 10 (-1)) 4 6 11 (-1)) 4 6 12 (-1)) 3 0 6 1) 4 7 2 (-1)) 4 7 4 1) 4 7 8 (-1)) 4 7 9 (-1)) 4 7 10 (-1)) 4 7 11 (-1)) 4 7 12 (-1)) 3 0 7 1) 4 8 2 (-1)) 4 8 4 1) 4 8 8 (-1)) 4 8 9 (-1)) 4 8 10 (-1)) 4 8 11 (-1)) 4 8 12 (-1)) 3 0 8 1) 4 9 2 (-1)) 4 9 4 1) 4 9 8 (-1)) 4 9 9 (-1)) 4 9 10 (-1)) 4 9 11 (-1)) 4 9 12 (-1)) 3 0 9 1) 2 0 2 1) 2 0 3 1) 2 0 4 1) 0 0 2 1) 8 0 0 1) 9 0 0 20) 9 0 1 90) 9 0 2 180) 9 0 3 3) 9 0 4 1) 9 0 5 0) 8 0 1 1) 8 0 2 1) 11 0 3 (-1)) 10 0 0 1) 11 1 3 (-1)) 10 0 1 1) 11 2 3 (-1)) 10 0 2 1) 11 3 3 (-1)) 10 0 3 1) 11 4 3 (-1)) 10 0 4 1) 11 5 3 (-1)) 10 0 5 1) 11 6 3 (-1)) 10 0 6 1) 11 7 3 (-1)) 10 0 7 1) 11 8 3 (-1)) 10 0 8 1) 11 9 3 (-1)) 10 0 9 1) 11 10 3 (-1)) 10 0 10 1) 11 11 3 (-1)) 10 0 11 1) 11 12 3 (-1)) 10 0 12 1) 11 13 3 (-1)) 10 0 13 1) 11 14 3 (-1)) 10 0 14 1) 11 15 3 (-1)) 10 0 15 1) 8 0 4 1) 8 0 5 1) 8 0 6 1) 0 0 3 1) 15 0 0 1) 15 0 1 1) 15 0 2 1) 15 0 4 1) 15 0 5 1) 15 0 6 1) 0 0 4 1) 21 0 0 1) 21 0 1 1) 24 0 0 1) 24 0 1 1) 24 0 2 1) 21 0 2 1)) dX6_init_63 gc_21 rfl cat_ ⟨by decide +kernel, ⟨by decide +kernel, by decide +kernel, by decide +kernel⟩, rfl, rfl, by decide, by decide, by decide, rfl, rfl⟩ ⟨v53, v52, v54, v55⟩ (by decide) ⟨by decide, by decide⟩ rfl (ls0 := [some (rf 21 0)]) rfl (kX0_init  rfl) (fun h1 hq => ?_)
  subst hq
  refine wz_pc (pc2 := 66) rfl ?_
  refine c_putR dX6_init_66 cf6 v56 (kf := 5) ⟨rfl, rfl, rfl, by decide, rfl, rfl, rfl⟩ ⟨tyX6_ok 5 (by decide), fun _ => rfl, fun _ => rfl⟩ rfl gc_0 (by decide) gc_21 rfl ?_
  refine wz_pc (pc2 := 69) rfl ?_
  refine q_ald0 dX6_init_69 ?_
  refine wz_pc (pc2 := 70) rfl ?_
  refine wz_bipush (v := 16) dX6_init_70 (by decide) ?_
  refine wz_pc (pc2 := 72) rfl ?_
  refine c_newI (g := 26) (i := 0) dX6_init_72 u7 (by decide) ⟨rfl, rfl⟩ ⟨rfl, rfl⟩ (by decide) (by decide) (by decide) (by decide) (by decide) ?_
  refine wz_pc (pc2 := 74) rfl ?_
  refine c_putR dX6_init_74 cf6 v57 (kf := 7) ⟨rfl, rfl, rfl, by decide, rfl, rfl, rfl⟩ ⟨tyX6_ok 7 (by decide), fun _ => rfl, fun _ => rfl⟩ rfl gc_0 (by decide) gc_26 rfl ?_
  refine wz_pc (pc2 := 77) rfl ?_
  refine q_ald0 dX6_init_77 ?_
  refine wz_pc (pc2 := 78) rfl ?_
  refine wz_bipush (v := 6) dX6_init_78 (by decide) ?_
  refine wz_pc (pc2 := 80) rfl ?_
  refine c_newI (g := 27) (i := 0) dX6_init_80 u7 (by decide) ⟨rfl, rfl⟩ ⟨rfl, rfl⟩ (by decide) (by decide) (by decide) (by decide) (by decide) ?_
  refine wz_pc (pc2 := 82) rfl ?_
  refine c_putR dX6_init_82 cf6 v58 (kf := 9) ⟨rfl, rfl, rfl, by decide, rfl, rfl, rfl⟩ ⟨tyX6_ok 9 (by decide), fun _ => rfl, fun _ => rfl⟩ rfl gc_0 (by decide) gc_27 rfl ?_
  refine wz_pc (pc2 := 85) rfl ?_
  exact c_ret dX6_init_85 rfl hQ
set_option maxRecDepth 20000 in
set_option maxHeartbeats 4000000 in
theorem kX7_init {E : EN} {h : TH} {Q : TH → Prop} (hQ : Q (up (up (up (up (up (up (up (up (up (up (up (up (up (up (up (up (up (up (up (up (up (up (up (up (up (up (up (up (up (up (up (up (up (up (up (up (up (up (up (up (up (up h 28 0 0 1) 28 0 10 1) 28 0 11 1) 28 0 12 1) 28 0 13 1) 28 0 14 1) 28 0 15 1) 28 0 16 1) 28 0 17 1) 28 0 18 1) 28 0 19 1) 28 0 20 1) 28 0 21 1) 28 0 22 1) 42 0 0 20) 42 0 1 90) 42 0 2 180) 42 0 3 3) 42 0 4 1) 42 0 5 0) 28 0 23 1) 28 0 24 1) 28 0 25 1) 28 0 26 1) 28 0 27 1) 28 0 28 1) 28 0 29 1) 28 0 30 1) 28 0 31 1) 28 0 32 1) 28 0 33 1) 28 0 34 1) 28 0 35 1) 28 0 36 1) 28 0 37 1) 28 0 38 1) 28 0 39 1) 28 0 40 1) 28 0 41 1) 28 0 42 1) 28 0 44 1) 28 0 45 1)) : wg E (PC E 55) MX7_init 0 0 (Zc E 90 35 700 Q) 0 [some (rf 28 0)] [] h := by
  refine q_ald0 dX7_init_0 ?_
  refine wz_pc (pc2 := 1) rfl ?_
  refine c_obj dX7_init_1 ⟨u23, u1, uobj⟩ ⟨by decide, by decide⟩ ?_
  refine wz_pc (pc2 := 4) rfl ?_
  refine q_ald0 dX7_init_4 ?_
  refine wz_pc (pc2 := 5) rfl ?_
  refine wz_iconst (v := 1) dX7_init_5 (by decide) ?_
  refine wz_pc (pc2 := 6) rfl ?_
  refine c_putI dX7_init_6 cf7 v59 (kf := 0) gp_28_0 gc_28 (by decide) rfl ?_
  refine wz_pc (pc2 := 9) rfl ?_
  refine q_ald0 dX7_init_9 ?_
  refine wz_pc (pc2 := 10) rfl ?_
  refine wz_bipush (v := 12) dX7_init_10 (by decide) ?_
  refine wz_pc (pc2 := 12) rfl ?_
  refine c_newI (g := 29) (i := 0) dX7_init_12 u7 (by decide) ⟨rfl, rfl⟩ ⟨rfl, rfl⟩ (by decide) (by decide) (by decide) (by decide) (by decide) ?_
  refine wz_pc (pc2 := 14) rfl ?_
  refine c_putR dX7_init_14 cf7 v60 (kf := 10) ⟨rfl, rfl, rfl, by decide, rfl, rfl, rfl⟩ ⟨tyX7_ok 10 (by decide), fun _ => rfl, fun _ => rfl⟩ rfl gc_28 (by decide) gc_29 rfl ?_
  refine wz_pc (pc2 := 17) rfl ?_
  refine q_ald0 dX7_init_17 ?_
  refine wz_pc (pc2 := 18) rfl ?_
  refine wz_bipush (v := 10) dX7_init_18 (by decide) ?_
  refine wz_pc (pc2 := 20) rfl ?_
  refine c_newI (g := 30) (i := 0) dX7_init_20 u7 (by decide) ⟨rfl, rfl⟩ ⟨rfl, rfl⟩ (by decide) (by decide) (by decide) (by decide) (by decide) ?_
  refine wz_pc (pc2 := 22) rfl ?_
  refine c_putR dX7_init_22 cf7 v61 (kf := 11) ⟨rfl, rfl, rfl, by decide, rfl, rfl, rfl⟩ ⟨tyX7_ok 11 (by decide), fun _ => rfl, fun _ => rfl⟩ rfl gc_28 (by decide) gc_30 rfl ?_
  refine wz_pc (pc2 := 25) rfl ?_
  refine q_ald0 dX7_init_25 ?_
  refine wz_pc (pc2 := 26) rfl ?_
  refine wz_bipush (v := 10) dX7_init_26 (by decide) ?_
  refine wz_pc (pc2 := 28) rfl ?_
  refine c_newI (g := 31) (i := 0) dX7_init_28 u7 (by decide) ⟨rfl, rfl⟩ ⟨rfl, rfl⟩ (by decide) (by decide) (by decide) (by decide) (by decide) ?_
  refine wz_pc (pc2 := 30) rfl ?_
  refine c_putR dX7_init_30 cf7 v62 (kf := 12) ⟨rfl, rfl, rfl, by decide, rfl, rfl, rfl⟩ ⟨tyX7_ok 12 (by decide), fun _ => rfl, fun _ => rfl⟩ rfl gc_28 (by decide) gc_31 rfl ?_
  refine wz_pc (pc2 := 33) rfl ?_
  refine q_ald0 dX7_init_33 ?_
  refine wz_pc (pc2 := 34) rfl ?_
  refine wz_bipush (v := 10) dX7_init_34 (by decide) ?_
  refine wz_pc (pc2 := 36) rfl ?_
  refine c_newI (g := 32) (i := 0) dX7_init_36 u7 (by decide) ⟨rfl, rfl⟩ ⟨rfl, rfl⟩ (by decide) (by decide) (by decide) (by decide) (by decide) ?_
  refine wz_pc (pc2 := 38) rfl ?_
  refine c_putR dX7_init_38 cf7 v63 (kf := 13) ⟨rfl, rfl, rfl, by decide, rfl, rfl, rfl⟩ ⟨tyX7_ok 13 (by decide), fun _ => rfl, fun _ => rfl⟩ rfl gc_28 (by decide) gc_32 rfl ?_
  refine wz_pc (pc2 := 41) rfl ?_
  refine q_ald0 dX7_init_41 ?_
  refine wz_pc (pc2 := 42) rfl ?_
  refine wz_bipush (v := 10) dX7_init_42 (by decide) ?_
  refine wz_pc (pc2 := 44) rfl ?_
  refine c_newI (g := 33) (i := 0) dX7_init_44 u7 (by decide) ⟨rfl, rfl⟩ ⟨rfl, rfl⟩ (by decide) (by decide) (by decide) (by decide) (by decide) ?_
  refine wz_pc (pc2 := 46) rfl ?_
  refine c_putR dX7_init_46 cf7 v64 (kf := 14) ⟨rfl, rfl, rfl, by decide, rfl, rfl, rfl⟩ ⟨tyX7_ok 14 (by decide), fun _ => rfl, fun _ => rfl⟩ rfl gc_28 (by decide) gc_33 rfl ?_
  refine wz_pc (pc2 := 49) rfl ?_
  refine q_ald0 dX7_init_49 ?_
  refine wz_pc (pc2 := 50) rfl ?_
  refine wz_bipush (v := 10) dX7_init_50 (by decide) ?_
  refine wz_pc (pc2 := 52) rfl ?_
  refine c_newI (g := 34) (i := 0) dX7_init_52 u7 (by decide) ⟨rfl, rfl⟩ ⟨rfl, rfl⟩ (by decide) (by decide) (by decide) (by decide) (by decide) ?_
  refine wz_pc (pc2 := 54) rfl ?_
  refine c_putR dX7_init_54 cf7 v65 (kf := 15) ⟨rfl, rfl, rfl, by decide, rfl, rfl, rfl⟩ ⟨tyX7_ok 15 (by decide), fun _ => rfl, fun _ => rfl⟩ rfl gc_28 (by decide) gc_34 rfl ?_
  refine wz_pc (pc2 := 57) rfl ?_
  refine q_ald0 dX7_init_57 ?_
  refine wz_pc (pc2 := 58) rfl ?_
  refine wz_bipush (v := 10) dX7_init_58 (by decide) ?_
  refine wz_pc (pc2 := 60) rfl ?_
  refine c_newI (g := 35) (i := 0) dX7_init_60 u7 (by decide) ⟨rfl, rfl⟩ ⟨rfl, rfl⟩ (by decide) (by decide) (by decide) (by decide) (by decide) ?_
  refine wz_pc (pc2 := 62) rfl ?_
  refine c_putR dX7_init_62 cf7 v66 (kf := 16) ⟨rfl, rfl, rfl, by decide, rfl, rfl, rfl⟩ ⟨tyX7_ok 16 (by decide), fun _ => rfl, fun _ => rfl⟩ rfl gc_28 (by decide) gc_35 rfl ?_
  refine wz_pc (pc2 := 65) rfl ?_
  refine q_ald0 dX7_init_65 ?_
  refine wz_pc (pc2 := 66) rfl ?_
  refine wz_bipush (v := 10) dX7_init_66 (by decide) ?_
  refine wz_pc (pc2 := 68) rfl ?_
  refine c_newI (g := 36) (i := 0) dX7_init_68 u7 (by decide) ⟨rfl, rfl⟩ ⟨rfl, rfl⟩ (by decide) (by decide) (by decide) (by decide) (by decide) ?_
  refine wz_pc (pc2 := 70) rfl ?_
  refine c_putR dX7_init_70 cf7 v67 (kf := 17) ⟨rfl, rfl, rfl, by decide, rfl, rfl, rfl⟩ ⟨tyX7_ok 17 (by decide), fun _ => rfl, fun _ => rfl⟩ rfl gc_28 (by decide) gc_36 rfl ?_
  refine wz_pc (pc2 := 73) rfl ?_
  refine q_ald0 dX7_init_73 ?_
  refine wz_pc (pc2 := 74) rfl ?_
  refine wz_bipush (v := 10) dX7_init_74 (by decide) ?_
  refine wz_pc (pc2 := 76) rfl ?_
  refine c_newI (g := 37) (i := 0) dX7_init_76 u7 (by decide) ⟨rfl, rfl⟩ ⟨rfl, rfl⟩ (by decide) (by decide) (by decide) (by decide) (by decide) ?_
  refine wz_pc (pc2 := 78) rfl ?_
  refine c_putR dX7_init_78 cf7 v68 (kf := 18) ⟨rfl, rfl, rfl, by decide, rfl, rfl, rfl⟩ ⟨tyX7_ok 18 (by decide), fun _ => rfl, fun _ => rfl⟩ rfl gc_28 (by decide) gc_37 rfl ?_
  refine wz_pc (pc2 := 81) rfl ?_
  refine q_ald0 dX7_init_81 ?_
  refine wz_pc (pc2 := 82) rfl ?_
  refine wz_bipush (v := 10) dX7_init_82 (by decide) ?_
  refine wz_pc (pc2 := 84) rfl ?_
  refine c_newI (g := 38) (i := 0) dX7_init_84 u7 (by decide) ⟨rfl, rfl⟩ ⟨rfl, rfl⟩ (by decide) (by decide) (by decide) (by decide) (by decide) ?_
  refine wz_pc (pc2 := 86) rfl ?_
  refine c_putR dX7_init_86 cf7 v69 (kf := 19) ⟨rfl, rfl, rfl, by decide, rfl, rfl, rfl⟩ ⟨tyX7_ok 19 (by decide), fun _ => rfl, fun _ => rfl⟩ rfl gc_28 (by decide) gc_38 rfl ?_
  refine wz_pc (pc2 := 89) rfl ?_
  refine q_ald0 dX7_init_89 ?_
  refine wz_pc (pc2 := 90) rfl ?_
  refine wz_bipush (v := 20) dX7_init_90 (by decide) ?_
  refine wz_pc (pc2 := 92) rfl ?_
  refine c_newI (g := 39) (i := 0) dX7_init_92 u7 (by decide) ⟨rfl, rfl⟩ ⟨rfl, rfl⟩ (by decide) (by decide) (by decide) (by decide) (by decide) ?_
  refine wz_pc (pc2 := 94) rfl ?_
  refine c_putR dX7_init_94 cf7 v70 (kf := 20) ⟨rfl, rfl, rfl, by decide, rfl, rfl, rfl⟩ ⟨tyX7_ok 20 (by decide), fun _ => rfl, fun _ => rfl⟩ rfl gc_28 (by decide) gc_39 rfl ?_
  refine wz_pc (pc2 := 97) rfl ?_
  refine q_ald0 dX7_init_97 ?_
  refine wz_pc (pc2 := 98) rfl ?_
  refine wz_bipush (v := 20) dX7_init_98 (by decide) ?_
  refine wz_pc (pc2 := 100) rfl ?_
  refine c_newI (g := 40) (i := 0) dX7_init_100 u7 (by decide) ⟨rfl, rfl⟩ ⟨rfl, rfl⟩ (by decide) (by decide) (by decide) (by decide) (by decide) ?_
  refine wz_pc (pc2 := 102) rfl ?_
  refine c_putR dX7_init_102 cf7 v71 (kf := 21) ⟨rfl, rfl, rfl, by decide, rfl, rfl, rfl⟩ ⟨tyX7_ok 21 (by decide), fun _ => rfl, fun _ => rfl⟩ rfl gc_28 (by decide) gc_40 rfl ?_
  refine wz_pc (pc2 := 105) rfl ?_
  refine q_ald0 dX7_init_105 ?_
  refine wz_pc (pc2 := 106) rfl ?_
  refine wz_bipush (v := 20) dX7_init_106 (by decide) ?_
  refine wz_pc (pc2 := 108) rfl ?_
  refine c_newZ (g := 41) (i := 0) dX7_init_108 u24 (by decide) ⟨rfl, rfl⟩ ⟨rfl, rfl⟩ (by decide) (by decide) (by decide) (by decide) (by decide) ?_
  refine wz_pc (pc2 := 110) rfl ?_
  refine c_putR dX7_init_110 cf7 v72 (kf := 22) ⟨rfl, rfl, rfl, by decide, rfl, rfl, rfl⟩ ⟨tyX7_ok 22 (by decide), fun _ => rfl, fun _ => rfl⟩ rfl gc_28 (by decide) gc_41 rfl ?_
  refine wz_pc (pc2 := 113) rfl ?_
  refine q_ald0 dX7_init_113 ?_
  refine wz_pc (pc2 := 114) rfl ?_
  refine wz_bipush (v := 6) dX7_init_114 (by decide) ?_
  refine wz_pc (pc2 := 116) rfl ?_
  refine c_newI (g := 42) (i := 0) dX7_init_116 u7 (by decide) ⟨rfl, rfl⟩ ⟨rfl, rfl⟩ (by decide) (by decide) (by decide) (by decide) (by decide) ?_
  refine wz_pc (pc2 := 118) rfl ?_
  refine wz_dup dX7_init_118 rfl ?_
  refine wz_pc (pc2 := 119) rfl ?_
  refine wz_iconst (v := 0) dX7_init_119 (by decide) ?_
  refine wz_pc (pc2 := 120) rfl ?_
  refine wz_bipush (v := 20) dX7_init_120 (by decide) ?_
  refine wz_pc (pc2 := 122) rfl ?_
  refine c_iast (h2 := (up (up (up (up (up (up (up (up (up (up (up (up (up (up (up h 28 0 0 1) 28 0 10 1) 28 0 11 1) 28 0 12 1) 28 0 13 1) 28 0 14 1) 28 0 15 1) 28 0 16 1) 28 0 17 1) 28 0 18 1) 28 0 19 1) 28 0 20 1) 28 0 21 1) 28 0 22 1) 42 0 0 20)) dX7_init_122 rfl gc_42 (by decide) (vp_c (by decide) (by decide)) (congrArg (fun z => up (up (up (up (up (up (up (up (up (up (up (up (up (up (up h 28 0 0 1) 28 0 10 1) 28 0 11 1) 28 0 12 1) 28 0 13 1) 28 0 14 1) 28 0 15 1) 28 0 16 1) 28 0 17 1) 28 0 18 1) 28 0 19 1) 28 0 20 1) 28 0 21 1) 28 0 22 1) 42 0 z 20) (by decide)) ?_
  refine wz_pc (pc2 := 123) rfl ?_
  refine wz_dup dX7_init_123 rfl ?_
  refine wz_pc (pc2 := 124) rfl ?_
  refine wz_iconst (v := 1) dX7_init_124 (by decide) ?_
  refine wz_pc (pc2 := 125) rfl ?_
  refine wz_bipush (v := 90) dX7_init_125 (by decide) ?_
  refine wz_pc (pc2 := 127) rfl ?_
  refine c_iast (h2 := (up (up (up (up (up (up (up (up (up (up (up (up (up (up (up (up h 28 0 0 1) 28 0 10 1) 28 0 11 1) 28 0 12 1) 28 0 13 1) 28 0 14 1) 28 0 15 1) 28 0 16 1) 28 0 17 1) 28 0 18 1) 28 0 19 1) 28 0 20 1) 28 0 21 1) 28 0 22 1) 42 0 0 20) 42 0 1 90)) dX7_init_127 rfl gc_42 (by decide) (vp_c (by decide) (by decide)) (congrArg (fun z => up (up (up (up (up (up (up (up (up (up (up (up (up (up (up (up h 28 0 0 1) 28 0 10 1) 28 0 11 1) 28 0 12 1) 28 0 13 1) 28 0 14 1) 28 0 15 1) 28 0 16 1) 28 0 17 1) 28 0 18 1) 28 0 19 1) 28 0 20 1) 28 0 21 1) 28 0 22 1) 42 0 0 20) 42 0 z 90) (by decide)) ?_
  refine wz_pc (pc2 := 128) rfl ?_
  refine wz_dup dX7_init_128 rfl ?_
  refine wz_pc (pc2 := 129) rfl ?_
  refine wz_iconst (v := 2) dX7_init_129 (by decide) ?_
  refine wz_pc (pc2 := 130) rfl ?_
  refine wz_sipush (v := 180) dX7_init_130 (by decide) ?_
  refine wz_pc (pc2 := 133) rfl ?_
  refine c_iast (h2 := (up (up (up (up (up (up (up (up (up (up (up (up (up (up (up (up (up h 28 0 0 1) 28 0 10 1) 28 0 11 1) 28 0 12 1) 28 0 13 1) 28 0 14 1) 28 0 15 1) 28 0 16 1) 28 0 17 1) 28 0 18 1) 28 0 19 1) 28 0 20 1) 28 0 21 1) 28 0 22 1) 42 0 0 20) 42 0 1 90) 42 0 2 180)) dX7_init_133 rfl gc_42 (by decide) (vp_c (by decide) (by decide)) (congrArg (fun z => up (up (up (up (up (up (up (up (up (up (up (up (up (up (up (up (up h 28 0 0 1) 28 0 10 1) 28 0 11 1) 28 0 12 1) 28 0 13 1) 28 0 14 1) 28 0 15 1) 28 0 16 1) 28 0 17 1) 28 0 18 1) 28 0 19 1) 28 0 20 1) 28 0 21 1) 28 0 22 1) 42 0 0 20) 42 0 1 90) 42 0 z 180) (by decide)) ?_
  refine wz_pc (pc2 := 134) rfl ?_
  refine wz_dup dX7_init_134 rfl ?_
  refine wz_pc (pc2 := 135) rfl ?_
  refine wz_iconst (v := 3) dX7_init_135 (by decide) ?_
  refine wz_pc (pc2 := 136) rfl ?_
  refine wz_iconst (v := 3) dX7_init_136 (by decide) ?_
  refine wz_pc (pc2 := 137) rfl ?_
  refine c_iast (h2 := (up (up (up (up (up (up (up (up (up (up (up (up (up (up (up (up (up (up h 28 0 0 1) 28 0 10 1) 28 0 11 1) 28 0 12 1) 28 0 13 1) 28 0 14 1) 28 0 15 1) 28 0 16 1) 28 0 17 1) 28 0 18 1) 28 0 19 1) 28 0 20 1) 28 0 21 1) 28 0 22 1) 42 0 0 20) 42 0 1 90) 42 0 2 180) 42 0 3 3)) dX7_init_137 rfl gc_42 (by decide) (vp_c (by decide) (by decide)) (congrArg (fun z => up (up (up (up (up (up (up (up (up (up (up (up (up (up (up (up (up (up h 28 0 0 1) 28 0 10 1) 28 0 11 1) 28 0 12 1) 28 0 13 1) 28 0 14 1) 28 0 15 1) 28 0 16 1) 28 0 17 1) 28 0 18 1) 28 0 19 1) 28 0 20 1) 28 0 21 1) 28 0 22 1) 42 0 0 20) 42 0 1 90) 42 0 2 180) 42 0 z 3) (by decide)) ?_
  refine wz_pc (pc2 := 138) rfl ?_
  refine wz_dup dX7_init_138 rfl ?_
  refine wz_pc (pc2 := 139) rfl ?_
  refine wz_iconst (v := 4) dX7_init_139 (by decide) ?_
  refine wz_pc (pc2 := 140) rfl ?_
  refine wz_iconst (v := 1) dX7_init_140 (by decide) ?_
  refine wz_pc (pc2 := 141) rfl ?_
  refine c_iast (h2 := (up (up (up (up (up (up (up (up (up (up (up (up (up (up (up (up (up (up (up h 28 0 0 1) 28 0 10 1) 28 0 11 1) 28 0 12 1) 28 0 13 1) 28 0 14 1) 28 0 15 1) 28 0 16 1) 28 0 17 1) 28 0 18 1) 28 0 19 1) 28 0 20 1) 28 0 21 1) 28 0 22 1) 42 0 0 20) 42 0 1 90) 42 0 2 180) 42 0 3 3) 42 0 4 1)) dX7_init_141 rfl gc_42 (by decide) (vp_c (by decide) (by decide)) (congrArg (fun z => up (up (up (up (up (up (up (up (up (up (up (up (up (up (up (up (up (up (up h 28 0 0 1) 28 0 10 1) 28 0 11 1) 28 0 12 1) 28 0 13 1) 28 0 14 1) 28 0 15 1) 28 0 16 1) 28 0 17 1) 28 0 18 1) 28 0 19 1) 28 0 20 1) 28 0 21 1) 28 0 22 1) 42 0 0 20) 42 0 1 90) 42 0 2 180) 42 0 3 3) 42 0 z 1) (by decide)) ?_
  refine wz_pc (pc2 := 142) rfl ?_
  refine wz_dup dX7_init_142 rfl ?_
  refine wz_pc (pc2 := 143) rfl ?_
  refine wz_iconst (v := 5) dX7_init_143 (by decide) ?_
  refine wz_pc (pc2 := 144) rfl ?_
  refine wz_iconst (v := 0) dX7_init_144 (by decide) ?_
  refine wz_pc (pc2 := 145) rfl ?_
  refine c_iast (h2 := (up (up (up (up (up (up (up (up (up (up (up (up (up (up (up (up (up (up (up (up h 28 0 0 1) 28 0 10 1) 28 0 11 1) 28 0 12 1) 28 0 13 1) 28 0 14 1) 28 0 15 1) 28 0 16 1) 28 0 17 1) 28 0 18 1) 28 0 19 1) 28 0 20 1) 28 0 21 1) 28 0 22 1) 42 0 0 20) 42 0 1 90) 42 0 2 180) 42 0 3 3) 42 0 4 1) 42 0 5 0)) dX7_init_145 rfl gc_42 (by decide) (vp_c (by decide) (by decide)) (congrArg (fun z => up (up (up (up (up (up (up (up (up (up (up (up (up (up (up (up (up (up (up (up h 28 0 0 1) 28 0 10 1) 28 0 11 1) 28 0 12 1) 28 0 13 1) 28 0 14 1) 28 0 15 1) 28 0 16 1) 28 0 17 1) 28 0 18 1) 28 0 19 1) 28 0 20 1) 28 0 21 1) 28 0 22 1) 42 0 0 20) 42 0 1 90) 42 0 2 180) 42 0 3 3) 42 0 4 1) 42 0 z 0) (by decide)) ?_
  refine wz_pc (pc2 := 146) rfl ?_
  refine c_putR dX7_init_146 cf7 v73 (kf := 23) ⟨rfl, rfl, rfl, by decide, rfl, rfl, rfl⟩ ⟨tyX7_ok 23 (by decide), fun _ => rfl, fun _ => rfl⟩ rfl gc_28 (by decide) gc_42 rfl ?_
  refine wz_pc (pc2 := 149) rfl ?_
  refine q_ald0 dX7_init_149 ?_
  refine wz_pc (pc2 := 150) rfl ?_
  refine wz_bipush (v := 16) dX7_init_150 (by decide) ?_
  refine wz_pc (pc2 := 152) rfl ?_
  refine c_newI (g := 43) (i := 0) dX7_init_152 u7 (by decide) ⟨rfl, rfl⟩ ⟨rfl, rfl⟩ (by decide) (by decide) (by decide) (by decide) (by decide) ?_
  refine wz_pc (pc2 := 154) rfl ?_
  refine c_putR dX7_init_154 cf7 v74 (kf := 24) ⟨rfl, rfl, rfl, by decide, rfl, rfl, rfl⟩ ⟨tyX7_ok 24 (by decide), fun _ => rfl, fun _ => rfl⟩ rfl gc_28 (by decide) gc_43 rfl ?_
  refine wz_pc (pc2 := 157) rfl ?_
  refine q_ald0 dX7_init_157 ?_
  refine wz_pc (pc2 := 158) rfl ?_
  refine wz_bipush (v := 16) dX7_init_158 (by decide) ?_
  refine wz_pc (pc2 := 160) rfl ?_
  refine c_newI (g := 44) (i := 0) dX7_init_160 u7 (by decide) ⟨rfl, rfl⟩ ⟨rfl, rfl⟩ (by decide) (by decide) (by decide) (by decide) (by decide) ?_
  refine wz_pc (pc2 := 162) rfl ?_
  refine c_putR dX7_init_162 cf7 v75 (kf := 25) ⟨rfl, rfl, rfl, by decide, rfl, rfl, rfl⟩ ⟨tyX7_ok 25 (by decide), fun _ => rfl, fun _ => rfl⟩ rfl gc_28 (by decide) gc_44 rfl ?_
  refine wz_pc (pc2 := 165) rfl ?_
  refine q_ald0 dX7_init_165 ?_
  refine wz_pc (pc2 := 166) rfl ?_
  refine wz_bipush (v := 16) dX7_init_166 (by decide) ?_
  refine wz_pc (pc2 := 168) rfl ?_
  refine c_newI (g := 45) (i := 0) dX7_init_168 u7 (by decide) ⟨rfl, rfl⟩ ⟨rfl, rfl⟩ (by decide) (by decide) (by decide) (by decide) (by decide) ?_
  refine wz_pc (pc2 := 170) rfl ?_
  refine c_putR dX7_init_170 cf7 v76 (kf := 26) ⟨rfl, rfl, rfl, by decide, rfl, rfl, rfl⟩ ⟨tyX7_ok 26 (by decide), fun _ => rfl, fun _ => rfl⟩ rfl gc_28 (by decide) gc_45 rfl ?_
  refine wz_pc (pc2 := 173) rfl ?_
  refine q_ald0 dX7_init_173 ?_
  refine wz_pc (pc2 := 174) rfl ?_
  refine wz_bipush (v := 16) dX7_init_174 (by decide) ?_
  refine wz_pc (pc2 := 176) rfl ?_
  refine c_newI (g := 46) (i := 0) dX7_init_176 u7 (by decide) ⟨rfl, rfl⟩ ⟨rfl, rfl⟩ (by decide) (by decide) (by decide) (by decide) (by decide) ?_
  refine wz_pc (pc2 := 178) rfl ?_
  refine c_putR dX7_init_178 cf7 v77 (kf := 27) ⟨rfl, rfl, rfl, by decide, rfl, rfl, rfl⟩ ⟨tyX7_ok 27 (by decide), fun _ => rfl, fun _ => rfl⟩ rfl gc_28 (by decide) gc_46 rfl ?_
  refine wz_pc (pc2 := 181) rfl ?_
  refine q_ald0 dX7_init_181 ?_
  refine wz_pc (pc2 := 182) rfl ?_
  refine wz_bipush (v := 16) dX7_init_182 (by decide) ?_
  refine wz_pc (pc2 := 184) rfl ?_
  refine c_newZ (g := 47) (i := 0) dX7_init_184 u24 (by decide) ⟨rfl, rfl⟩ ⟨rfl, rfl⟩ (by decide) (by decide) (by decide) (by decide) (by decide) ?_
  refine wz_pc (pc2 := 186) rfl ?_
  refine c_putR dX7_init_186 cf7 v78 (kf := 28) ⟨rfl, rfl, rfl, by decide, rfl, rfl, rfl⟩ ⟨tyX7_ok 28 (by decide), fun _ => rfl, fun _ => rfl⟩ rfl gc_28 (by decide) gc_47 rfl ?_
  refine wz_pc (pc2 := 189) rfl ?_
  refine q_ald0 dX7_init_189 ?_
  refine wz_pc (pc2 := 190) rfl ?_
  refine wz_bipush (v := 6) dX7_init_190 (by decide) ?_
  refine wz_pc (pc2 := 192) rfl ?_
  refine c_newI (g := 48) (i := 0) dX7_init_192 u7 (by decide) ⟨rfl, rfl⟩ ⟨rfl, rfl⟩ (by decide) (by decide) (by decide) (by decide) (by decide) ?_
  refine wz_pc (pc2 := 194) rfl ?_
  refine c_putR dX7_init_194 cf7 v79 (kf := 29) ⟨rfl, rfl, rfl, by decide, rfl, rfl, rfl⟩ ⟨tyX7_ok 29 (by decide), fun _ => rfl, fun _ => rfl⟩ rfl gc_28 (by decide) gc_48 rfl ?_
  refine wz_pc (pc2 := 197) rfl ?_
  refine q_ald0 dX7_init_197 ?_
  refine wz_pc (pc2 := 198) rfl ?_
  refine wz_bipush (v := 6) dX7_init_198 (by decide) ?_
  refine wz_pc (pc2 := 200) rfl ?_
  refine c_newI (g := 49) (i := 0) dX7_init_200 u7 (by decide) ⟨rfl, rfl⟩ ⟨rfl, rfl⟩ (by decide) (by decide) (by decide) (by decide) (by decide) ?_
  refine wz_pc (pc2 := 202) rfl ?_
  refine c_putR dX7_init_202 cf7 v80 (kf := 30) ⟨rfl, rfl, rfl, by decide, rfl, rfl, rfl⟩ ⟨tyX7_ok 30 (by decide), fun _ => rfl, fun _ => rfl⟩ rfl gc_28 (by decide) gc_49 rfl ?_
  refine wz_pc (pc2 := 205) rfl ?_
  refine q_ald0 dX7_init_205 ?_
  refine wz_pc (pc2 := 206) rfl ?_
  refine wz_bipush (v := 40) dX7_init_206 (by decide) ?_
  refine wz_pc (pc2 := 208) rfl ?_
  refine c_newI (g := 50) (i := 0) dX7_init_208 u7 (by decide) ⟨rfl, rfl⟩ ⟨rfl, rfl⟩ (by decide) (by decide) (by decide) (by decide) (by decide) ?_
  refine wz_pc (pc2 := 210) rfl ?_
  refine c_putR dX7_init_210 cf7 v81 (kf := 31) ⟨rfl, rfl, rfl, by decide, rfl, rfl, rfl⟩ ⟨tyX7_ok 31 (by decide), fun _ => rfl, fun _ => rfl⟩ rfl gc_28 (by decide) gc_50 rfl ?_
  refine wz_pc (pc2 := 213) rfl ?_
  refine q_ald0 dX7_init_213 ?_
  refine wz_pc (pc2 := 214) rfl ?_
  refine wz_bipush (v := 40) dX7_init_214 (by decide) ?_
  refine wz_pc (pc2 := 216) rfl ?_
  refine c_newI (g := 51) (i := 0) dX7_init_216 u7 (by decide) ⟨rfl, rfl⟩ ⟨rfl, rfl⟩ (by decide) (by decide) (by decide) (by decide) (by decide) ?_
  refine wz_pc (pc2 := 218) rfl ?_
  refine c_putR dX7_init_218 cf7 v82 (kf := 32) ⟨rfl, rfl, rfl, by decide, rfl, rfl, rfl⟩ ⟨tyX7_ok 32 (by decide), fun _ => rfl, fun _ => rfl⟩ rfl gc_28 (by decide) gc_51 rfl ?_
  refine wz_pc (pc2 := 221) rfl ?_
  refine q_ald0 dX7_init_221 ?_
  refine wz_pc (pc2 := 222) rfl ?_
  refine wz_bipush (v := 40) dX7_init_222 (by decide) ?_
  refine wz_pc (pc2 := 224) rfl ?_
  refine c_newI (g := 52) (i := 0) dX7_init_224 u7 (by decide) ⟨rfl, rfl⟩ ⟨rfl, rfl⟩ (by decide) (by decide) (by decide) (by decide) (by decide) ?_
  refine wz_pc (pc2 := 226) rfl ?_
  refine c_putR dX7_init_226 cf7 v83 (kf := 33) ⟨rfl, rfl, rfl, by decide, rfl, rfl, rfl⟩ ⟨tyX7_ok 33 (by decide), fun _ => rfl, fun _ => rfl⟩ rfl gc_28 (by decide) gc_52 rfl ?_
  refine wz_pc (pc2 := 229) rfl ?_
  refine q_ald0 dX7_init_229 ?_
  refine wz_pc (pc2 := 230) rfl ?_
  refine wz_bipush (v := 40) dX7_init_230 (by decide) ?_
  refine wz_pc (pc2 := 232) rfl ?_
  refine c_newI (g := 53) (i := 0) dX7_init_232 u7 (by decide) ⟨rfl, rfl⟩ ⟨rfl, rfl⟩ (by decide) (by decide) (by decide) (by decide) (by decide) ?_
  refine wz_pc (pc2 := 234) rfl ?_
  refine c_putR dX7_init_234 cf7 v84 (kf := 34) ⟨rfl, rfl, rfl, by decide, rfl, rfl, rfl⟩ ⟨tyX7_ok 34 (by decide), fun _ => rfl, fun _ => rfl⟩ rfl gc_28 (by decide) gc_53 rfl ?_
  refine wz_pc (pc2 := 237) rfl ?_
  refine q_ald0 dX7_init_237 ?_
  refine wz_pc (pc2 := 238) rfl ?_
  refine wz_bipush (v := 40) dX7_init_238 (by decide) ?_
  refine wz_pc (pc2 := 240) rfl ?_
  refine c_newI (g := 54) (i := 0) dX7_init_240 u7 (by decide) ⟨rfl, rfl⟩ ⟨rfl, rfl⟩ (by decide) (by decide) (by decide) (by decide) (by decide) ?_
  refine wz_pc (pc2 := 242) rfl ?_
  refine c_putR dX7_init_242 cf7 v85 (kf := 35) ⟨rfl, rfl, rfl, by decide, rfl, rfl, rfl⟩ ⟨tyX7_ok 35 (by decide), fun _ => rfl, fun _ => rfl⟩ rfl gc_28 (by decide) gc_54 rfl ?_
  refine wz_pc (pc2 := 245) rfl ?_
  refine q_ald0 dX7_init_245 ?_
  refine wz_pc (pc2 := 246) rfl ?_
  refine wz_bipush (v := 80) dX7_init_246 (by decide) ?_
  refine wz_pc (pc2 := 248) rfl ?_
  refine c_newI (g := 55) (i := 0) dX7_init_248 u7 (by decide) ⟨rfl, rfl⟩ ⟨rfl, rfl⟩ (by decide) (by decide) (by decide) (by decide) (by decide) ?_
  refine wz_pc (pc2 := 250) rfl ?_
  refine c_putR dX7_init_250 cf7 v86 (kf := 36) ⟨rfl, rfl, rfl, by decide, rfl, rfl, rfl⟩ ⟨tyX7_ok 36 (by decide), fun _ => rfl, fun _ => rfl⟩ rfl gc_28 (by decide) gc_55 rfl ?_
  refine wz_pc (pc2 := 253) rfl ?_
  refine q_ald0 dX7_init_253 ?_
  refine wz_pc (pc2 := 254) rfl ?_
  refine wz_bipush (v := 16) dX7_init_254 (by decide) ?_
  refine wz_pc (pc2 := 256) rfl ?_
  refine c_newI (g := 56) (i := 0) dX7_init_256 u7 (by decide) ⟨rfl, rfl⟩ ⟨rfl, rfl⟩ (by decide) (by decide) (by decide) (by decide) (by decide) ?_
  refine wz_pc (pc2 := 258) rfl ?_
  refine c_putR dX7_init_258 cf7 v87 (kf := 37) ⟨rfl, rfl, rfl, by decide, rfl, rfl, rfl⟩ ⟨tyX7_ok 37 (by decide), fun _ => rfl, fun _ => rfl⟩ rfl gc_28 (by decide) gc_56 rfl ?_
  refine wz_pc (pc2 := 261) rfl ?_
  refine q_ald0 dX7_init_261 ?_
  refine wz_pc (pc2 := 262) rfl ?_
  refine wz_bipush (v := 6) dX7_init_262 (by decide) ?_
  refine wz_pc (pc2 := 264) rfl ?_
  refine c_newI (g := 57) (i := 0) dX7_init_264 u7 (by decide) ⟨rfl, rfl⟩ ⟨rfl, rfl⟩ (by decide) (by decide) (by decide) (by decide) (by decide) ?_
  refine wz_pc (pc2 := 266) rfl ?_
  refine c_putR dX7_init_266 cf7 v88 (kf := 38) ⟨rfl, rfl, rfl, by decide, rfl, rfl, rfl⟩ ⟨tyX7_ok 38 (by decide), fun _ => rfl, fun _ => rfl⟩ rfl gc_28 (by decide) gc_57 rfl ?_
  refine wz_pc (pc2 := 269) rfl ?_
  refine q_ald0 dX7_init_269 ?_
  refine wz_pc (pc2 := 270) rfl ?_
  refine wz_bipush (v := 22) dX7_init_270 (by decide) ?_
  refine wz_pc (pc2 := 272) rfl ?_
  refine c_newZ (g := 58) (i := 0) dX7_init_272 u24 (by decide) ⟨rfl, rfl⟩ ⟨rfl, rfl⟩ (by decide) (by decide) (by decide) (by decide) (by decide) ?_
  refine wz_pc (pc2 := 274) rfl ?_
  refine c_putR dX7_init_274 cf7 v89 (kf := 39) ⟨rfl, rfl, rfl, by decide, rfl, rfl, rfl⟩ ⟨tyX7_ok 39 (by decide), fun _ => rfl, fun _ => rfl⟩ rfl gc_28 (by decide) gc_58 rfl ?_
  refine wz_pc (pc2 := 277) rfl ?_
  refine q_ald0 dX7_init_277 ?_
  refine wz_pc (pc2 := 278) rfl ?_
  refine wz_bipush (v := 22) dX7_init_278 (by decide) ?_
  refine wz_pc (pc2 := 280) rfl ?_
  refine c_newI (g := 59) (i := 0) dX7_init_280 u7 (by decide) ⟨rfl, rfl⟩ ⟨rfl, rfl⟩ (by decide) (by decide) (by decide) (by decide) (by decide) ?_
  refine wz_pc (pc2 := 282) rfl ?_
  refine c_putR dX7_init_282 cf7 v90 (kf := 40) ⟨rfl, rfl, rfl, by decide, rfl, rfl, rfl⟩ ⟨tyX7_ok 40 (by decide), fun _ => rfl, fun _ => rfl⟩ rfl gc_28 (by decide) gc_59 rfl ?_
  refine wz_pc (pc2 := 285) rfl ?_
  refine q_ald0 dX7_init_285 ?_
  refine wz_pc (pc2 := 286) rfl ?_
  refine wz_bipush (v := 22) dX7_init_286 (by decide) ?_
  refine wz_pc (pc2 := 288) rfl ?_
  refine c_newI (g := 60) (i := 0) dX7_init_288 u7 (by decide) ⟨rfl, rfl⟩ ⟨rfl, rfl⟩ (by decide) (by decide) (by decide) (by decide) (by decide) ?_
  refine wz_pc (pc2 := 290) rfl ?_
  refine c_putR dX7_init_290 cf7 v91 (kf := 41) ⟨rfl, rfl, rfl, by decide, rfl, rfl, rfl⟩ ⟨tyX7_ok 41 (by decide), fun _ => rfl, fun _ => rfl⟩ rfl gc_28 (by decide) gc_60 rfl ?_
  refine wz_pc (pc2 := 293) rfl ?_
  refine q_ald0 dX7_init_293 ?_
  refine wz_pc (pc2 := 294) rfl ?_
  refine wz_bipush (v := 22) dX7_init_294 (by decide) ?_
  refine wz_pc (pc2 := 296) rfl ?_
  refine c_newI (g := 61) (i := 0) dX7_init_296 u7 (by decide) ⟨rfl, rfl⟩ ⟨rfl, rfl⟩ (by decide) (by decide) (by decide) (by decide) (by decide) ?_
  refine wz_pc (pc2 := 298) rfl ?_
  refine c_putR dX7_init_298 cf7 v92 (kf := 42) ⟨rfl, rfl, rfl, by decide, rfl, rfl, rfl⟩ ⟨tyX7_ok 42 (by decide), fun _ => rfl, fun _ => rfl⟩ rfl gc_28 (by decide) gc_61 rfl ?_
  refine wz_pc (pc2 := 301) rfl ?_
  refine q_ald0 dX7_init_301 ?_
  refine wz_pc (pc2 := 302) rfl ?_
  refine wz_bipush (v := 10) dX7_init_302 (by decide) ?_
  refine wz_pc (pc2 := 304) rfl ?_
  refine c_newI (g := 62) (i := 0) dX7_init_304 u7 (by decide) ⟨rfl, rfl⟩ ⟨rfl, rfl⟩ (by decide) (by decide) (by decide) (by decide) (by decide) ?_
  refine wz_pc (pc2 := 306) rfl ?_
  refine c_putR dX7_init_306 cf7 v93 (kf := 44) ⟨rfl, rfl, rfl, by decide, rfl, rfl, rfl⟩ ⟨tyX7_ok 44 (by decide), fun _ => rfl, fun _ => rfl⟩ rfl gc_28 (by decide) gc_62 rfl ?_
  refine wz_pc (pc2 := 309) rfl ?_
  refine q_ald0 dX7_init_309 ?_
  refine wz_pc (pc2 := 310) rfl ?_
  refine wz_bipush (v := 40) dX7_init_310 (by decide) ?_
  refine wz_pc (pc2 := 312) rfl ?_
  refine c_newI (g := 63) (i := 0) dX7_init_312 u7 (by decide) ⟨rfl, rfl⟩ ⟨rfl, rfl⟩ (by decide) (by decide) (by decide) (by decide) (by decide) ?_
  refine wz_pc (pc2 := 314) rfl ?_
  refine c_putR dX7_init_314 cf7 v94 (kf := 45) ⟨rfl, rfl, rfl, by decide, rfl, rfl, rfl⟩ ⟨tyX7_ok 45 (by decide), fun _ => rfl, fun _ => rfl⟩ rfl gc_28 (by decide) gc_63 rfl ?_
  refine wz_pc (pc2 := 317) rfl ?_
  exact c_ret dX7_init_317 rfl hQ
def hInit : TH := (up (up (up (up (up (up (up (up (up (up (up (up (up (up (up (up (up (up (up (up (up (up (up (up (up (up (up (up (up (up (up (up (up (up (up (up (up (up (up (up (up (up (up (up (up (up (up (up (up (up (up (up (up (up (up (up (up (up (up (up (up (up (up (up (up (up (up (up (up (up (up (up (up (up (up (up (up (up (up (up (up (up (up (up (up (up (up (up (up (up (up (up (up (up (up (up (up (up (up (up (up (up (up (up (up (up (up (up (up (up (up (up (up (up (up (up (up (up (up (up (up (up (up (up (up (up (up (up (up (up (up (up (up (up (up (up (up (up (up (up (up (up (up (up (up (up (up (up (up (up (up (up (up (up (up (up (up (up (up (up (up (up (up (up (up (up (up (up (up (up (up (up (up (up (up (up (up (up (up (up (up (up (up (up (up (up (up (up (up (up (fun _ _ _ => 0 : TH) 0 0 0 1) 0 0 1 1) 2 0 0 1) 4 0 2 (-1)) 4 0 4 1) 4 0 8 (-1)) 4 0 9 (-1)) 4 0 10 (-1)) 4 0 11 (-1)) 4 0 12 (-1)) 3 0 0 1) 4 1 2 (-1)) 4 1 4 1) 4 1 8 (-1)) 4 1 9 (-1)) 4 1 10 (-1)) 4 1 11 (-1)) 4 1 12 (-1)) 3 0 1 1) 4 2 2 (-1)) 4 2 4 1) 4 2 8 (-1)) 4 2 9 (-1)) 4 2 10 (-1)) 4 2 11 (-1)) 4 2 12 (-1)) 3 0 2 1) 4 3 2 (-1)) 4 3 4 1) 4 3 8 (-1)) 4 3 9 (-1)) 4 3 10 (-1)) 4 3 11 (-1)) 4 3 12 (-1)) 3 0 3 1) 4 4 2 (-1)) 4 4 4 1) 4 4 8 (-1)) 4 4 9 (-1)) 4 4 10 (-1)) 4 4 11 (-1)) 4 4 12 (-1)) 3 0 4 1) 4 5 2 (-1)) 4 5 4 1) 4 5 8 (-1)) 4 5 9 (-1)) 4 5 10 (-1)) 4 5 11 (-1)) 4 5 12 (-1)) 3 0 5 1) 4 6 2 (-1)) 4 6 4 1) 4 6 8 (-1)) 4 6 9 (-1)) 4 6 10 (-1)) 4 6 11 (-1)) 4 6 12 (-1)) 3 0 6 1) 4 7 2 (-1)) 4 7 4 1) 4 7 8 (-1)) 4 7 9 (-1)) 4 7 10 (-1)) 4 7 11 (-1)) 4 7 12 (-1)) 3 0 7 1) 4 8 2 (-1)) 4 8 4 1) 4 8 8 (-1)) 4 8 9 (-1)) 4 8 10 (-1)) 4 8 11 (-1)) 4 8 12 (-1)) 3 0 8 1) 4 9 2 (-1)) 4 9 4 1) 4 9 8 (-1)) 4 9 9 (-1)) 4 9 10 (-1)) 4 9 11 (-1)) 4 9 12 (-1)) 3 0 9 1) 2 0 2 1) 2 0 3 1) 2 0 4 1) 0 0 2 1) 8 0 0 1) 9 0 0 20) 9 0 1 90) 9 0 2 180) 9 0 3 3) 9 0 4 1) 9 0 5 0) 8 0 1 1) 8 0 2 1) 11 0 3 (-1)) 10 0 0 1) 11 1 3 (-1)) 10 0 1 1) 11 2 3 (-1)) 10 0 2 1) 11 3 3 (-1)) 10 0 3 1) 11 4 3 (-1)) 10 0 4 1) 11 5 3 (-1)) 10 0 5 1) 11 6 3 (-1)) 10 0 6 1) 11 7 3 (-1)) 10 0 7 1) 11 8 3 (-1)) 10 0 8 1) 11 9 3 (-1)) 10 0 9 1) 11 10 3 (-1)) 10 0 10 1) 11 11 3 (-1)) 10 0 11 1) 11 12 3 (-1)) 10 0 12 1) 11 13 3 (-1)) 10 0 13 1) 11 14 3 (-1)) 10 0 14 1) 11 15 3 (-1)) 10 0 15 1) 8 0 4 1) 8 0 5 1) 8 0 6 1) 0 0 3 1) 15 0 0 1) 15 0 1 1) 15 0 2 1) 15 0 4 1) 15 0 5 1) 15 0 6 1) 0 0 4 1) 21 0 0 1) 21 0 1 1) 24 0 0 1) 24 0 1 1) 24 0 2 1) 21 0 2 1) 0 0 5 1) 0 0 7 1) 0 0 9 1) 28 0 0 1) 28 0 10 1) 28 0 11 1) 28 0 12 1) 28 0 13 1) 28 0 14 1) 28 0 15 1) 28 0 16 1) 28 0 17 1) 28 0 18 1) 28 0 19 1) 28 0 20 1) 28 0 21 1) 28 0 22 1) 42 0 0 20) 42 0 1 90) 42 0 2 180) 42 0 3 3) 42 0 4 1) 42 0 5 0) 28 0 23 1) 28 0 24 1) 28 0 25 1) 28 0 26 1) 28 0 27 1) 28 0 28 1) 28 0 29 1) 28 0 30 1) 28 0 31 1) 28 0 32 1) 28 0 33 1) 28 0 34 1) 28 0 35 1) 28 0 36 1) 28 0 37 1) 28 0 38 1) 28 0 39 1) 28 0 40 1) 28 0 41 1) 28 0 42 1) 28 0 44 1) 28 0 45 1)
set_option maxRecDepth 20000 in
set_option maxHeartbeats 4000000 in
theorem kL_law {E : EN} {h : TH} {Z : List Frame → Array Value → State → State → Prop} (hK : wg E (PC E 90) ML 90 1441 Z 18 [some (.ref (1000 + 2)), some (rf 0 0), some (rf 28 0), some (.int 0)] [] (up (up (up (up (up (up (up (up (up (up (up (up (up (up (up (up (up (up (up (up (up (up (up (up (up (up (up (up (up (up (up (up (up (up (up (up (up (up (up (up (up (up (up (up (up (up (up (up (up (up (up (up (up (up (up (up (up (up (up (up (up (up (up (up (up (up (up (up (up (up (up (up (up (up (up (up (up (up (up (up (up (up (up (up (up (up (up (up (up (up (up (up (up (up (up (up (up (up (up (up (up (up (up (up (up (up (up (up (up (up (up (up (up (up (up (up (up (up (up (up (up (up (up (up (up (up (up (up (up (up (up (up (up (up (up (up (up (up (up (up (up (up (up (up (up (up (up (up (up (up (up (up (up (up (up (up (up (up (up (up (up (up (up (up (up (up (up (up (up (up (up (up (up (up (up (up (up (up (up (up (up (up (up (up (up (up (up (up (up (up h 0 0 0 1) 0 0 1 1) 2 0 0 1) 4 0 2 (-1)) 4 0 4 1) 4 0 8 (-1)) 4 0 9 (-1)) 4 0 10 (-1)) 4 0 11 (-1)) 4 0 12 (-1)) 3 0 0 1) 4 1 2 (-1)) 4 1 4 1) 4 1 8 (-1)) 4 1 9 (-1)) 4 1 10 (-1)) 4 1 11 (-1)) 4 1 12 (-1)) 3 0 1 1) 4 2 2 (-1)) 4 2 4 1) 4 2 8 (-1)) 4 2 9 (-1)) 4 2 10 (-1)) 4 2 11 (-1)) 4 2 12 (-1)) 3 0 2 1) 4 3 2 (-1)) 4 3 4 1) 4 3 8 (-1)) 4 3 9 (-1)) 4 3 10 (-1)) 4 3 11 (-1)) 4 3 12 (-1)) 3 0 3 1) 4 4 2 (-1)) 4 4 4 1) 4 4 8 (-1)) 4 4 9 (-1)) 4 4 10 (-1)) 4 4 11 (-1)) 4 4 12 (-1)) 3 0 4 1) 4 5 2 (-1)) 4 5 4 1) 4 5 8 (-1)) 4 5 9 (-1)) 4 5 10 (-1)) 4 5 11 (-1)) 4 5 12 (-1)) 3 0 5 1) 4 6 2 (-1)) 4 6 4 1) 4 6 8 (-1)) 4 6 9 (-1)) 4 6 10 (-1)) 4 6 11 (-1)) 4 6 12 (-1)) 3 0 6 1) 4 7 2 (-1)) 4 7 4 1) 4 7 8 (-1)) 4 7 9 (-1)) 4 7 10 (-1)) 4 7 11 (-1)) 4 7 12 (-1)) 3 0 7 1) 4 8 2 (-1)) 4 8 4 1) 4 8 8 (-1)) 4 8 9 (-1)) 4 8 10 (-1)) 4 8 11 (-1)) 4 8 12 (-1)) 3 0 8 1) 4 9 2 (-1)) 4 9 4 1) 4 9 8 (-1)) 4 9 9 (-1)) 4 9 10 (-1)) 4 9 11 (-1)) 4 9 12 (-1)) 3 0 9 1) 2 0 2 1) 2 0 3 1) 2 0 4 1) 0 0 2 1) 8 0 0 1) 9 0 0 20) 9 0 1 90) 9 0 2 180) 9 0 3 3) 9 0 4 1) 9 0 5 0) 8 0 1 1) 8 0 2 1) 11 0 3 (-1)) 10 0 0 1) 11 1 3 (-1)) 10 0 1 1) 11 2 3 (-1)) 10 0 2 1) 11 3 3 (-1)) 10 0 3 1) 11 4 3 (-1)) 10 0 4 1) 11 5 3 (-1)) 10 0 5 1) 11 6 3 (-1)) 10 0 6 1) 11 7 3 (-1)) 10 0 7 1) 11 8 3 (-1)) 10 0 8 1) 11 9 3 (-1)) 10 0 9 1) 11 10 3 (-1)) 10 0 10 1) 11 11 3 (-1)) 10 0 11 1) 11 12 3 (-1)) 10 0 12 1) 11 13 3 (-1)) 10 0 13 1) 11 14 3 (-1)) 10 0 14 1) 11 15 3 (-1)) 10 0 15 1) 8 0 4 1) 8 0 5 1) 8 0 6 1) 0 0 3 1) 15 0 0 1) 15 0 1 1) 15 0 2 1) 15 0 4 1) 15 0 5 1) 15 0 6 1) 0 0 4 1) 21 0 0 1) 21 0 1 1) 24 0 0 1) 24 0 1 1) 24 0 2 1) 21 0 2 1) 0 0 5 1) 0 0 7 1) 0 0 9 1) 28 0 0 1) 28 0 10 1) 28 0 11 1) 28 0 12 1) 28 0 13 1) 28 0 14 1) 28 0 15 1) 28 0 16 1) 28 0 17 1) 28 0 18 1) 28 0 19 1) 28 0 20 1) 28 0 21 1) 28 0 22 1) 42 0 0 20) 42 0 1 90) 42 0 2 180) 42 0 3 3) 42 0 4 1) 42 0 5 0) 28 0 23 1) 28 0 24 1) 28 0 25 1) 28 0 26 1) 28 0 27 1) 28 0 28 1) 28 0 29 1) 28 0 30 1) 28 0 31 1) 28 0 32 1) 28 0 33 1) 28 0 34 1) 28 0 35 1) 28 0 36 1) 28 0 37 1) 28 0 38 1) 28 0 39 1) 28 0 40 1) 28 0 41 1) 28 0 42 1) 28 0 44 1) 28 0 45 1)) : wg E (PC E 0) ML 0 0 Z 0 [some (.ref (1000 + 2)), none, none, none] [] h := by
  refine c_new (g := 0) (i := 0) dL_law_0 cf6 ⟨u25, u26, v95⟩ (by decide) ⟨rfl, rfl⟩ ⟨rfl, rfl, rfl⟩ df0 (by decide) (by decide) ?_
  refine wz_pc (pc2 := 3) rfl ?_
  refine wz_dup dL_law_3 rfl ?_
  refine wz_pc (pc2 := 4) rfl ?_
  refine c_init (M := ML) (pc := 4) (M' := MX6_init) (na := 0) (n2 := 54) (mc := 53) (ms := 685) (g := 0) (i := 0) (As := []) (st := [rf 0 0]) (Q := fun q => q = (up (up (up (up (up (up (up (up (up (up (up (up (up (up (up (up (up (up (up (up (up (up (up (up (up (up (up (up (up (up (up (up (up (up (up (up (up (up (up (up (up (up (up (up (up (up (up (up (up (up (up (up (up (up (up (up (up (up (up (up (up (up (up (up (up (up (up (up (up (up (up (up (up (up (up (up (up (up (up (up (up (up (up (up (up (up (up (up (up (up (up (up (up (up (up (up (up (up (up (up (up (up (up (up (up (up (up (up (up (up (up (up (up (up (up (up (up (up (up (up (up (up (up (up (up (up (up (up (up (up (up (up (up (up (up (up (up (up (up (up (up (up (up (up (up (up (up (up h 0 0 0 1) 0 0 1 1) 2 0 0 1) 4 0 2 (-1)) 4 0 4 1) 4 0 8 (-1)) 4 0 9 (-1)) 4 0 10 (-1)) 4 0 11 (-1)) 4 0 12 (-1)) 3 0 0 1) 4 1 2 (-1)) 4 1 4 1) 4 1 8 (-1)) 4 1 9 (-1)) 4 1 10 (-1)) 4 1 11 (-1)) 4 1 12 (-1)) 3 0 1 1) 4 2 2 (-1)) 4 2 4 1) 4 2 8 (-1)) 4 2 9 (-1)) 4 2 10 (-1)) 4 2 11 (-1)) 4 2 12 (-1)) 3 0 2 1) 4 3 2 (-1)) 4 3 4 1) 4 3 8 (-1)) 4 3 9 (-1)) 4 3 10 (-1)) 4 3 11 (-1)) 4 3 12 (-1)) 3 0 3 1) 4 4 2 (-1)) 4 4 4 1) 4 4 8 (-1)) 4 4 9 (-1)) 4 4 10 (-1)) 4 4 11 (-1)) 4 4 12 (-1)) 3 0 4 1) 4 5 2 (-1)) 4 5 4 1) 4 5 8 (-1)) 4 5 9 (-1)) 4 5 10 (-1)) 4 5 11 (-1)) 4 5 12 (-1)) 3 0 5 1) 4 6 2 (-1)) 4 6 4 1) 4 6 8 (-1)) 4 6 9 (-1)) 4 6 10 (-1)) 4 6 11 (-1)) 4 6 12 (-1)) 3 0 6 1) 4 7 2 (-1)) 4 7 4 1) 4 7 8 (-1)) 4 7 9 (-1)) 4 7 10 (-1)) 4 7 11 (-1)) 4 7 12 (-1)) 3 0 7 1) 4 8 2 (-1)) 4 8 4 1) 4 8 8 (-1)) 4 8 9 (-1)) 4 8 10 (-1)) 4 8 11 (-1)) 4 8 12 (-1)) 3 0 8 1) 4 9 2 (-1)) 4 9 4 1) 4 9 8 (-1)) 4 9 9 (-1)) 4 9 10 (-1)) 4 9 11 (-1)) 4 9 12 (-1)) 3 0 9 1) 2 0 2 1) 2 0 3 1) 2 0 4 1) 0 0 2 1) 8 0 0 1) 9 0 0 20) 9 0 1 90) 9 0 2 180) 9 0 3 3) 9 0 4 1) 9 0 5 0) 8 0 1 1) 8 0 2 1) 11 0 3 (-1)) 10 0 0 1) 11 1 3 (-1)) 10 0 1 1) 11 2 3 (-1)) 10 0 2 1) 11 3 3 (-1)) 10 0 3 1) 11 4 3 (-1)) 10 0 4 1) 11 5 3 (-1)) 10 0 5 1) 11 6 3 (-1)) 10 0 6 1) 11 7 3 (-1)) 10 0 7 1) 11 8 3 (-1)) 10 0 8 1) 11 9 3 (-1)) 10 0 9 1) 11 10 3 (-1)) 10 0 10 1) 11 11 3 (-1)) 10 0 11 1) 11 12 3 (-1)) 10 0 12 1) 11 13 3 (-1)) 10 0 13 1) 11 14 3 (-1)) 10 0 14 1) 11 15 3 (-1)) 10 0 15 1) 8 0 4 1) 8 0 5 1) 8 0 6 1) 0 0 3 1) 15 0 0 1) 15 0 1 1) 15 0 2 1) 15 0 4 1) 15 0 5 1) 15 0 6 1) 0 0 4 1) 21 0 0 1) 21 0 1 1) 24 0 0 1) 24 0 1 1) 24 0 2 1) 21 0 2 1) 0 0 5 1) 0 0 7 1) 0 0 9 1)) dL_law_4 gc_0 rfl cat_ ⟨by decide +kernel, ⟨by decide +kernel, by decide +kernel, by decide +kernel⟩, rfl, rfl, by decide, by decide, by decide, rfl, rfl⟩ ⟨v96, v95, v97, v98⟩ (by decide) ⟨by decide, by decide⟩ rfl (ls0 := [some (rf 0 0)]) rfl (kX6_init  rfl) (fun h1 hq => ?_)
  subst hq
  refine wz_pc (pc2 := 7) rfl ?_
  refine q_ast1 dL_law_7 (by decide) rfl ?_
  refine wz_pc (pc2 := 8) rfl ?_
  refine c_new (g := 28) (i := 0) dL_law_8 cf7 ⟨u27, u28, v99⟩ (by decide) ⟨rfl, rfl⟩ ⟨rfl, rfl, rfl⟩ df28 (by decide) (by decide) ?_
  refine wz_pc (pc2 := 11) rfl ?_
  refine wz_dup dL_law_11 rfl ?_
  refine wz_pc (pc2 := 12) rfl ?_
  refine c_init (M := ML) (pc := 12) (M' := MX7_init) (na := 0) (n2 := 90) (mc := 35) (ms := 700) (g := 28) (i := 0) (As := []) (st := [rf 28 0]) (Q := fun q => q = (up (up (up (up (up (up (up (up (up (up (up (up (up (up (up (up (up (up (up (up (up (up (up (up (up (up (up (up (up (up (up (up (up (up (up (up (up (up (up (up (up (up (up (up (up (up (up (up (up (up (up (up (up (up (up (up (up (up (up (up (up (up (up (up (up (up (up (up (up (up (up (up (up (up (up (up (up (up (up (up (up (up (up (up (up (up (up (up (up (up (up (up (up (up (up (up (up (up (up (up (up (up (up (up (up (up (up (up (up (up (up (up (up (up (up (up (up (up (up (up (up (up (up (up (up (up (up (up (up (up (up (up (up (up (up (up (up (up (up (up (up (up (up (up (up (up (up (up (up (up (up (up (up (up (up (up (up (up (up (up (up (up (up (up (up (up (up (up (up (up (up (up (up (up (up (up (up (up (up (up (up (up (up (up (up (up (up (up (up (up h 0 0 0 1) 0 0 1 1) 2 0 0 1) 4 0 2 (-1)) 4 0 4 1) 4 0 8 (-1)) 4 0 9 (-1)) 4 0 10 (-1)) 4 0 11 (-1)) 4 0 12 (-1)) 3 0 0 1) 4 1 2 (-1)) 4 1 4 1) 4 1 8 (-1)) 4 1 9 (-1)) 4 1 10 (-1)) 4 1 11 (-1)) 4 1 12 (-1)) 3 0 1 1) 4 2 2 (-1)) 4 2 4 1) 4 2 8 (-1)) 4 2 9 (-1)) 4 2 10 (-1)) 4 2 11 (-1)) 4 2 12 (-1)) 3 0 2 1) 4 3 2 (-1)) 4 3 4 1) 4 3 8 (-1)) 4 3 9 (-1)) 4 3 10 (-1)) 4 3 11 (-1)) 4 3 12 (-1)) 3 0 3 1) 4 4 2 (-1)) 4 4 4 1) 4 4 8 (-1)) 4 4 9 (-1)) 4 4 10 (-1)) 4 4 11 (-1)) 4 4 12 (-1)) 3 0 4 1) 4 5 2 (-1)) 4 5 4 1) 4 5 8 (-1)) 4 5 9 (-1)) 4 5 10 (-1)) 4 5 11 (-1)) 4 5 12 (-1)) 3 0 5 1) 4 6 2 (-1)) 4 6 4 1) 4 6 8 (-1)) 4 6 9 (-1)) 4 6 10 (-1)) 4 6 11 (-1)) 4 6 12 (-1)) 3 0 6 1) 4 7 2 (-1)) 4 7 4 1) 4 7 8 (-1)) 4 7 9 (-1)) 4 7 10 (-1)) 4 7 11 (-1)) 4 7 12 (-1)) 3 0 7 1) 4 8 2 (-1)) 4 8 4 1) 4 8 8 (-1)) 4 8 9 (-1)) 4 8 10 (-1)) 4 8 11 (-1)) 4 8 12 (-1)) 3 0 8 1) 4 9 2 (-1)) 4 9 4 1) 4 9 8 (-1)) 4 9 9 (-1)) 4 9 10 (-1)) 4 9 11 (-1)) 4 9 12 (-1)) 3 0 9 1) 2 0 2 1) 2 0 3 1) 2 0 4 1) 0 0 2 1) 8 0 0 1) 9 0 0 20) 9 0 1 90) 9 0 2 180) 9 0 3 3) 9 0 4 1) 9 0 5 0) 8 0 1 1) 8 0 2 1) 11 0 3 (-1)) 10 0 0 1) 11 1 3 (-1)) 10 0 1 1) 11 2 3 (-1)) 10 0 2 1) 11 3 3 (-1)) 10 0 3 1) 11 4 3 (-1)) 10 0 4 1) 11 5 3 (-1)) 10 0 5 1) 11 6 3 (-1)) 10 0 6 1) 11 7 3 (-1)) 10 0 7 1) 11 8 3 (-1)) 10 0 8 1) 11 9 3 (-1)) 10 0 9 1) 11 10 3 (-1)) 10 0 10 1) 11 11 3 (-1)) 10 0 11 1) 11 12 3 (-1)) 10 0 12 1) 11 13 3 (-1)) 10 0 13 1) 11 14 3 (-1)) 10 0 14 1) 11 15 3 (-1)) 10 0 15 1) 8 0 4 1) 8 0 5 1) 8 0 6 1) 0 0 3 1) 15 0 0 1) 15 0 1 1) 15 0 2 1) 15 0 4 1) 15 0 5 1) 15 0 6 1) 0 0 4 1) 21 0 0 1) 21 0 1 1) 24 0 0 1) 24 0 1 1) 24 0 2 1) 21 0 2 1) 0 0 5 1) 0 0 7 1) 0 0 9 1) 28 0 0 1) 28 0 10 1) 28 0 11 1) 28 0 12 1) 28 0 13 1) 28 0 14 1) 28 0 15 1) 28 0 16 1) 28 0 17 1) 28 0 18 1) 28 0 19 1) 28 0 20 1) 28 0 21 1) 28 0 22 1) 42 0 0 20) 42 0 1 90) 42 0 2 180) 42 0 3 3) 42 0 4 1) 42 0 5 0) 28 0 23 1) 28 0 24 1) 28 0 25 1) 28 0 26 1) 28 0 27 1) 28 0 28 1) 28 0 29 1) 28 0 30 1) 28 0 31 1) 28 0 32 1) 28 0 33 1) 28 0 34 1) 28 0 35 1) 28 0 36 1) 28 0 37 1) 28 0 38 1) 28 0 39 1) 28 0 40 1) 28 0 41 1) 28 0 42 1) 28 0 44 1) 28 0 45 1)) dL_law_12 gc_28 rfl cat_ ⟨by decide +kernel, ⟨by decide +kernel, by decide +kernel, by decide +kernel⟩, rfl, rfl, by decide, by decide, by decide, rfl, rfl⟩ ⟨v100, v99, v101, v102⟩ (by decide) ⟨by decide, by decide⟩ rfl (ls0 := [some (rf 28 0)]) rfl (kX7_init  rfl) (fun h1 hq => ?_)
  subst hq
  refine wz_pc (pc2 := 15) rfl ?_
  refine q_ast2 dL_law_15 (by decide) rfl ?_
  refine wz_pc (pc2 := 16) rfl ?_
  refine wz_iconst (v := 0) dL_law_16 (by decide) ?_
  refine wz_pc (pc2 := 17) rfl ?_
  refine q_ist3 dL_law_17 (by decide) rfl ?_
  exact hK
