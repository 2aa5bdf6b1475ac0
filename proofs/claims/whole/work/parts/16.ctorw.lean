set_option maxRecDepth 100000 in
theorem v0 : Cond.fieldLink RX3 9 (TX3 2).1 (TX3 2).2.1 (TX3 2).2.2.1 ∈ tw := tbl_at 36 (by decide +kernel) (by decide +kernel)
set_option maxRecDepth 100000 in
theorem v1 : Cond.fieldLink RX3 15 (TX3 4).1 (TX3 4).2.1 (TX3 4).2.2.1 ∈ tw := tbl_at 40 (by decide +kernel) (by decide +kernel)
set_option maxRecDepth 100000 in
theorem v2 : Cond.fieldLink RX3 18 (TX3 8).1 (TX3 8).2.1 (TX3 8).2.2.1 ∈ tw := tbl_at 53 (by decide +kernel) (by decide +kernel)
set_option maxRecDepth 100000 in
theorem v3 : Cond.fieldLink RX3 21 (TX3 9).1 (TX3 9).2.1 (TX3 9).2.2.1 ∈ tw := tbl_at 56 (by decide +kernel) (by decide +kernel)
set_option maxRecDepth 100000 in
theorem v4 : Cond.fieldLink RX3 24 (TX3 10).1 (TX3 10).2.1 (TX3 10).2.2.1 ∈ tw := tbl_at 60 (by decide +kernel) (by decide +kernel)
set_option maxRecDepth 100000 in
theorem v5 : Cond.fieldLink RX3 27 (TX3 11).1 (TX3 11).2.1 (TX3 11).2.2.1 ∈ tw := tbl_at 64 (by decide +kernel) (by decide +kernel)
set_option maxRecDepth 100000 in
theorem v6 : Cond.fieldLink RX3 30 (TX3 12).1 (TX3 12).2.1 (TX3 12).2.2.1 ∈ tw := tbl_at 67 (by decide +kernel) (by decide +kernel)
set_option maxRecDepth 100000 in
theorem v7 : Cond.fieldLink RX2 9 (TX2 3).1 (TX2 3).2.1 (TX2 3).2.2.1 ∈ tw := tbl_at 139 (by decide +kernel) (by decide +kernel)
set_option maxRecDepth 100000 in
theorem v8 : Cond.fieldLink RX1 11 (TX1 0).1 (TX1 0).2.1 (TX1 0).2.2.1 ∈ tw := tbl_at 98 (by decide +kernel) (by decide +kernel)
set_option maxRecDepth 100000 in
theorem v9 : Cond.initialized RX3 ∈ tw := tbl_at 3 (by decide +kernel) (by decide +kernel)
set_option maxRecDepth 100000 in
theorem v10 : Cond.code yX3_init cX3_init 1 none ∈ tw := tbl_at 30 (by rfl) (by rfl)
set_option maxRecDepth 100000 in
theorem v11 : Cond.methodLink RX1 17 yX3_init ∈ tw := tbl_at 28 (by decide +kernel) (by decide +kernel)
set_option maxRecDepth 100000 in
theorem v12 : Cond.instanceMethod yX3_init ∈ tw := tbl_at 29 (by decide +kernel) (by decide +kernel)
set_option maxRecDepth 100000 in
theorem v13 : Cond.fieldLink RX1 18 (TX1 2).1 (TX1 2).2.1 (TX1 2).2.2.1 ∈ tw := tbl_at 104 (by decide +kernel) (by decide +kernel)
set_option maxRecDepth 100000 in
theorem v14 : Cond.fieldLink RX1 22 (TX1 3).1 (TX1 3).2.1 (TX1 3).2.2.1 ∈ tw := tbl_at 105 (by decide +kernel) (by decide +kernel)
set_option maxRecDepth 100000 in
theorem v15 : Cond.fieldLink RX1 25 (TX1 4).1 (TX1 4).2.1 (TX1 4).2.2.1 ∈ tw := tbl_at 106 (by decide +kernel) (by decide +kernel)
set_option maxRecDepth 100000 in
theorem v16 : Cond.fieldLink RX4 9 (TX4 0).1 (TX4 0).2.1 (TX4 0).2.2.1 ∈ tw := tbl_at 155 (by decide +kernel) (by decide +kernel)
set_option maxRecDepth 100000 in
theorem v17 : Cond.fieldLink RX4 15 (TX4 1).1 (TX4 1).2.1 (TX4 1).2.2.1 ∈ tw := tbl_at 156 (by decide +kernel) (by decide +kernel)
set_option maxRecDepth 100000 in
theorem v18 : Cond.fieldLink RX4 21 (TX4 2).1 (TX4 2).2.1 (TX4 2).2.2.1 ∈ tw := tbl_at 158 (by decide +kernel) (by decide +kernel)
set_option maxRecDepth 100000 in
theorem v19 : Cond.initialized RX2 ∈ tw := tbl_at 5 (by decide +kernel) (by decide +kernel)
set_option maxRecDepth 100000 in
theorem v20 : Cond.code yX2_init cX2_init 1 none ∈ tw := tbl_at 133 (by rfl) (by rfl)
set_option maxRecDepth 100000 in
theorem v21 : Cond.methodLink RX4 25 yX2_init ∈ tw := tbl_at 131 (by decide +kernel) (by decide +kernel)
set_option maxRecDepth 100000 in
theorem v22 : Cond.instanceMethod yX2_init ∈ tw := tbl_at 132 (by decide +kernel) (by decide +kernel)
set_option maxRecDepth 100000 in
theorem v23 : Cond.fieldLink RX4 26 (TX4 4).1 (TX4 4).2.1 (TX4 4).2.2.1 ∈ tw := tbl_at 163 (by decide +kernel) (by decide +kernel)
set_option maxRecDepth 100000 in
theorem v24 : Cond.fieldLink RX4 29 (TX4 5).1 (TX4 5).2.1 (TX4 5).2.2.1 ∈ tw := tbl_at 165 (by decide +kernel) (by decide +kernel)
set_option maxRecDepth 100000 in
theorem v25 : Cond.fieldLink RX4 32 (TX4 6).1 (TX4 6).2.1 (TX4 6).2.2.1 ∈ tw := tbl_at 168 (by decide +kernel) (by decide +kernel)
set_option maxRecDepth 100000 in
theorem v26 : Cond.fieldLink RX5 9 (TX5 0).1 (TX5 0).2.1 (TX5 0).2.2.1 ∈ tw := tbl_at 190 (by decide +kernel) (by decide +kernel)
set_option maxRecDepth 100000 in
theorem v27 : Cond.fieldLink RX5 15 (TX5 1).1 (TX5 1).2.1 (TX5 1).2.2.1 ∈ tw := tbl_at 191 (by decide +kernel) (by decide +kernel)
set_option maxRecDepth 100000 in
theorem v28 : Cond.fieldLink RX5 19 (TX5 2).1 (TX5 2).2.1 (TX5 2).2.2.1 ∈ tw := tbl_at 192 (by decide +kernel) (by decide +kernel)
set_option maxRecDepth 100000 in
theorem v29 : Cond.fieldLink RX5 22 (TX5 4).1 (TX5 4).2.1 (TX5 4).2.2.1 ∈ tw := tbl_at 195 (by decide +kernel) (by decide +kernel)
set_option maxRecDepth 100000 in
theorem v30 : Cond.fieldLink RX5 25 (TX5 5).1 (TX5 5).2.1 (TX5 5).2.2.1 ∈ tw := tbl_at 196 (by decide +kernel) (by decide +kernel)
set_option maxRecDepth 100000 in
theorem v31 : Cond.fieldLink RX5 28 (TX5 6).1 (TX5 6).2.1 (TX5 6).2.2.1 ∈ tw := tbl_at 197 (by decide +kernel) (by decide +kernel)
set_option maxRecDepth 100000 in
theorem v32 : Cond.fieldLink RX0 9 (TX0 0).1 (TX0 0).2.1 (TX0 0).2.2.1 ∈ tw := tbl_at 225 (by decide +kernel) (by decide +kernel)
set_option maxRecDepth 100000 in
theorem v33 : Cond.fieldLink RX0 15 (TX0 1).1 (TX0 1).2.1 (TX0 1).2.2.1 ∈ tw := tbl_at 226 (by decide +kernel) (by decide +kernel)
set_option maxRecDepth 100000 in
theorem v34 : Cond.fieldLink RX0 20 (TX0 2).1 (TX0 2).2.1 (TX0 2).2.2.1 ∈ tw := tbl_at 227 (by decide +kernel) (by decide +kernel)
set_option maxRecDepth 100000 in
theorem v35 : Cond.fieldLink RX6 9 (TX6 0).1 (TX6 0).2.1 (TX6 0).2.2.1 ∈ tw := tbl_at 244 (by decide +kernel) (by decide +kernel)
set_option maxRecDepth 100000 in
theorem v36 : Cond.fieldLink RX6 13 (TX6 1).1 (TX6 1).2.1 (TX6 1).2.2.1 ∈ tw := tbl_at 245 (by decide +kernel) (by decide +kernel)
set_option maxRecDepth 100000 in
theorem v37 : Cond.initialized RX1 ∈ tw := tbl_at 2 (by decide +kernel) (by decide +kernel)
set_option maxRecDepth 100000 in
theorem v38 : Cond.code yX1_init cX1_init 2 none ∈ tw := tbl_at 23 (by rfl) (by rfl)
set_option maxRecDepth 100000 in
theorem v39 : Cond.methodLink RX6 19 yX1_init ∈ tw := tbl_at 21 (by decide +kernel) (by decide +kernel)
set_option maxRecDepth 100000 in
theorem v40 : Cond.instanceMethod yX1_init ∈ tw := tbl_at 22 (by decide +kernel) (by decide +kernel)
set_option maxRecDepth 100000 in
theorem v41 : Cond.fieldLink RX6 20 (TX6 2).1 (TX6 2).2.1 (TX6 2).2.2.1 ∈ tw := tbl_at 246 (by decide +kernel) (by decide +kernel)
set_option maxRecDepth 100000 in
theorem v42 : Cond.initialized RX4 ∈ tw := tbl_at 4 (by decide +kernel) (by decide +kernel)
set_option maxRecDepth 100000 in
theorem v43 : Cond.code yX4_init cX4_init 3 none ∈ tw := tbl_at 126 (by rfl) (by rfl)
set_option maxRecDepth 100000 in
theorem v44 : Cond.methodLink RX6 26 yX4_init ∈ tw := tbl_at 124 (by decide +kernel) (by decide +kernel)
set_option maxRecDepth 100000 in
theorem v45 : Cond.instanceMethod yX4_init ∈ tw := tbl_at 125 (by decide +kernel) (by decide +kernel)
set_option maxRecDepth 100000 in
theorem v46 : Cond.fieldLink RX6 29 (TX6 3).1 (TX6 3).2.1 (TX6 3).2.2.1 ∈ tw := tbl_at 247 (by decide +kernel) (by decide +kernel)
set_option maxRecDepth 100000 in
theorem v47 : Cond.initialized RX5 ∈ tw := tbl_at 6 (by decide +kernel) (by decide +kernel)
set_option maxRecDepth 100000 in
theorem v48 : Cond.code yX5_init cX5_init 2 none ∈ tw := tbl_at 188 (by rfl) (by rfl)
set_option maxRecDepth 100000 in
theorem v49 : Cond.methodLink RX6 35 yX5_init ∈ tw := tbl_at 186 (by decide +kernel) (by decide +kernel)
set_option maxRecDepth 100000 in
theorem v50 : Cond.instanceMethod yX5_init ∈ tw := tbl_at 187 (by decide +kernel) (by decide +kernel)
set_option maxRecDepth 100000 in
theorem v51 : Cond.fieldLink RX6 38 (TX6 4).1 (TX6 4).2.1 (TX6 4).2.2.1 ∈ tw := tbl_at 248 (by decide +kernel) (by decide +kernel)
set_option maxRecDepth 100000 in
theorem v52 : Cond.initialized RX0 ∈ tw := tbl_at 7 (by decide +kernel) (by decide +kernel)
set_option maxRecDepth 100000 in
theorem v53 : Cond.code yX0_init cX0_init 1 none ∈ tw := tbl_at 221 (by rfl) (by rfl)
set_option maxRecDepth 100000 in
theorem v54 : Cond.methodLink RX6 44 yX0_init ∈ tw := tbl_at 219 (by decide +kernel) (by decide +kernel)
set_option maxRecDepth 100000 in
theorem v55 : Cond.instanceMethod yX0_init ∈ tw := tbl_at 220 (by decide +kernel) (by decide +kernel)
set_option maxRecDepth 100000 in
theorem v56 : Cond.fieldLink RX6 45 (TX6 5).1 (TX6 5).2.1 (TX6 5).2.2.1 ∈ tw := tbl_at 249 (by decide +kernel) (by decide +kernel)
set_option maxRecDepth 100000 in
theorem v57 : Cond.fieldLink RX6 49 (TX6 7).1 (TX6 7).2.1 (TX6 7).2.2.1 ∈ tw := tbl_at 251 (by decide +kernel) (by decide +kernel)
set_option maxRecDepth 100000 in
theorem v58 : Cond.fieldLink RX6 52 (TX6 9).1 (TX6 9).2.1 (TX6 9).2.2.1 ∈ tw := tbl_at 253 (by decide +kernel) (by decide +kernel)
set_option maxRecDepth 100000 in
theorem v59 : Cond.fieldLink RX7 7 (TX7 0).1 (TX7 0).2.1 (TX7 0).2.2.1 ∈ tw := tbl_at 657 (by decide +kernel) (by decide +kernel)
set_option maxRecDepth 100000 in
theorem v60 : Cond.fieldLink RX7 13 (TX7 10).1 (TX7 10).2.1 (TX7 10).2.2.1 ∈ tw := tbl_at 667 (by decide +kernel) (by decide +kernel)
set_option maxRecDepth 100000 in
theorem v61 : Cond.fieldLink RX7 17 (TX7 11).1 (TX7 11).2.1 (TX7 11).2.2.1 ∈ tw := tbl_at 668 (by decide +kernel) (by decide +kernel)
set_option maxRecDepth 100000 in
theorem v62 : Cond.fieldLink RX7 20 (TX7 12).1 (TX7 12).2.1 (TX7 12).2.2.1 ∈ tw := tbl_at 669 (by decide +kernel) (by decide +kernel)
set_option maxRecDepth 100000 in
theorem v63 : Cond.fieldLink RX7 23 (TX7 13).1 (TX7 13).2.1 (TX7 13).2.2.1 ∈ tw := tbl_at 670 (by decide +kernel) (by decide +kernel)
set_option maxRecDepth 100000 in
theorem v64 : Cond.fieldLink RX7 26 (TX7 14).1 (TX7 14).2.1 (TX7 14).2.2.1 ∈ tw := tbl_at 671 (by decide +kernel) (by decide +kernel)
set_option maxRecDepth 100000 in
theorem v65 : Cond.fieldLink RX7 29 (TX7 15).1 (TX7 15).2.1 (TX7 15).2.2.1 ∈ tw := tbl_at 672 (by decide +kernel) (by decide +kernel)
set_option maxRecDepth 100000 in
theorem v66 : Cond.fieldLink RX7 32 (TX7 16).1 (TX7 16).2.1 (TX7 16).2.2.1 ∈ tw := tbl_at 673 (by decide +kernel) (by decide +kernel)
set_option maxRecDepth 100000 in
theorem v67 : Cond.fieldLink RX7 35 (TX7 17).1 (TX7 17).2.1 (TX7 17).2.2.1 ∈ tw := tbl_at 674 (by decide +kernel) (by decide +kernel)
set_option maxRecDepth 100000 in
theorem v68 : Cond.fieldLink RX7 38 (TX7 18).1 (TX7 18).2.1 (TX7 18).2.2.1 ∈ tw := tbl_at 675 (by decide +kernel) (by decide +kernel)
set_option maxRecDepth 100000 in
theorem v69 : Cond.fieldLink RX7 41 (TX7 19).1 (TX7 19).2.1 (TX7 19).2.2.1 ∈ tw := tbl_at 676 (by decide +kernel) (by decide +kernel)
set_option maxRecDepth 100000 in
theorem v70 : Cond.fieldLink RX7 44 (TX7 20).1 (TX7 20).2.1 (TX7 20).2.2.1 ∈ tw := tbl_at 677 (by decide +kernel) (by decide +kernel)
set_option maxRecDepth 100000 in
theorem v71 : Cond.fieldLink RX7 47 (TX7 21).1 (TX7 21).2.1 (TX7 21).2.2.1 ∈ tw := tbl_at 678 (by decide +kernel) (by decide +kernel)
set_option maxRecDepth 100000 in
theorem v72 : Cond.fieldLink RX7 50 (TX7 22).1 (TX7 22).2.1 (TX7 22).2.2.1 ∈ tw := tbl_at 679 (by decide +kernel) (by decide +kernel)
set_option maxRecDepth 100000 in
theorem v73 : Cond.fieldLink RX7 54 (TX7 23).1 (TX7 23).2.1 (TX7 23).2.2.1 ∈ tw := tbl_at 680 (by decide +kernel) (by decide +kernel)
set_option maxRecDepth 100000 in
theorem v74 : Cond.fieldLink RX7 57 (TX7 24).1 (TX7 24).2.1 (TX7 24).2.2.1 ∈ tw := tbl_at 681 (by decide +kernel) (by decide +kernel)
set_option maxRecDepth 100000 in
theorem v75 : Cond.fieldLink RX7 60 (TX7 25).1 (TX7 25).2.1 (TX7 25).2.2.1 ∈ tw := tbl_at 682 (by decide +kernel) (by decide +kernel)
set_option maxRecDepth 100000 in
theorem v76 : Cond.fieldLink RX7 63 (TX7 26).1 (TX7 26).2.1 (TX7 26).2.2.1 ∈ tw := tbl_at 683 (by decide +kernel) (by decide +kernel)
set_option maxRecDepth 100000 in
theorem v77 : Cond.fieldLink RX7 66 (TX7 27).1 (TX7 27).2.1 (TX7 27).2.2.1 ∈ tw := tbl_at 684 (by decide +kernel) (by decide +kernel)
set_option maxRecDepth 100000 in
theorem v78 : Cond.fieldLink RX7 69 (TX7 28).1 (TX7 28).2.1 (TX7 28).2.2.1 ∈ tw := tbl_at 685 (by decide +kernel) (by decide +kernel)
set_option maxRecDepth 100000 in
theorem v79 : Cond.fieldLink RX7 72 (TX7 29).1 (TX7 29).2.1 (TX7 29).2.2.1 ∈ tw := tbl_at 686 (by decide +kernel) (by decide +kernel)
set_option maxRecDepth 100000 in
theorem v80 : Cond.fieldLink RX7 75 (TX7 30).1 (TX7 30).2.1 (TX7 30).2.2.1 ∈ tw := tbl_at 687 (by decide +kernel) (by decide +kernel)
set_option maxRecDepth 100000 in
theorem v81 : Cond.fieldLink RX7 78 (TX7 31).1 (TX7 31).2.1 (TX7 31).2.2.1 ∈ tw := tbl_at 688 (by decide +kernel) (by decide +kernel)
set_option maxRecDepth 100000 in
theorem v82 : Cond.fieldLink RX7 81 (TX7 32).1 (TX7 32).2.1 (TX7 32).2.2.1 ∈ tw := tbl_at 689 (by decide +kernel) (by decide +kernel)
set_option maxRecDepth 100000 in
theorem v83 : Cond.fieldLink RX7 84 (TX7 33).1 (TX7 33).2.1 (TX7 33).2.2.1 ∈ tw := tbl_at 690 (by decide +kernel) (by decide +kernel)
set_option maxRecDepth 100000 in
theorem v84 : Cond.fieldLink RX7 87 (TX7 34).1 (TX7 34).2.1 (TX7 34).2.2.1 ∈ tw := tbl_at 691 (by decide +kernel) (by decide +kernel)
set_option maxRecDepth 100000 in
theorem v85 : Cond.fieldLink RX7 90 (TX7 35).1 (TX7 35).2.1 (TX7 35).2.2.1 ∈ tw := tbl_at 692 (by decide +kernel) (by decide +kernel)
set_option maxRecDepth 100000 in
theorem v86 : Cond.fieldLink RX7 93 (TX7 36).1 (TX7 36).2.1 (TX7 36).2.2.1 ∈ tw := tbl_at 693 (by decide +kernel) (by decide +kernel)
set_option maxRecDepth 100000 in
theorem v87 : Cond.fieldLink RX7 96 (TX7 37).1 (TX7 37).2.1 (TX7 37).2.2.1 ∈ tw := tbl_at 694 (by decide +kernel) (by decide +kernel)
set_option maxRecDepth 100000 in
theorem v88 : Cond.fieldLink RX7 99 (TX7 38).1 (TX7 38).2.1 (TX7 38).2.2.1 ∈ tw := tbl_at 695 (by decide +kernel) (by decide +kernel)
set_option maxRecDepth 100000 in
theorem v89 : Cond.fieldLink RX7 102 (TX7 39).1 (TX7 39).2.1 (TX7 39).2.2.1 ∈ tw := tbl_at 696 (by decide +kernel) (by decide +kernel)
set_option maxRecDepth 100000 in
theorem v90 : Cond.fieldLink RX7 105 (TX7 40).1 (TX7 40).2.1 (TX7 40).2.2.1 ∈ tw := tbl_at 697 (by decide +kernel) (by decide +kernel)
set_option maxRecDepth 100000 in
theorem v91 : Cond.fieldLink RX7 108 (TX7 41).1 (TX7 41).2.1 (TX7 41).2.2.1 ∈ tw := tbl_at 698 (by decide +kernel) (by decide +kernel)
set_option maxRecDepth 100000 in
theorem v92 : Cond.fieldLink RX7 111 (TX7 42).1 (TX7 42).2.1 (TX7 42).2.2.1 ∈ tw := tbl_at 699 (by decide +kernel) (by decide +kernel)
set_option maxRecDepth 100000 in
theorem v93 : Cond.fieldLink RX7 114 (TX7 44).1 (TX7 44).2.1 (TX7 44).2.2.1 ∈ tw := tbl_at 701 (by decide +kernel) (by decide +kernel)
set_option maxRecDepth 100000 in
theorem v94 : Cond.fieldLink RX7 117 (TX7 45).1 (TX7 45).2.1 (TX7 45).2.2.1 ∈ tw := tbl_at 702 (by decide +kernel) (by decide +kernel)
set_option maxRecDepth 100000 in
theorem v95 : Cond.initialized RX6 ∈ tw := tbl_at 1 (by decide +kernel) (by decide +kernel)
set_option maxRecDepth 100000 in
theorem v96 : Cond.code yX6_init cX6_init 1 none ∈ tw := tbl_at 15 (by rfl) (by rfl)
set_option maxRecDepth 100000 in
theorem v97 : Cond.methodLink RL 9 yX6_init ∈ tw := tbl_at 13 (by decide +kernel) (by decide +kernel)
set_option maxRecDepth 100000 in
theorem v98 : Cond.instanceMethod yX6_init ∈ tw := tbl_at 14 (by decide +kernel) (by decide +kernel)
set_option maxRecDepth 100000 in
theorem v99 : Cond.initialized RX7 ∈ tw := tbl_at 8 (by decide +kernel) (by decide +kernel)
set_option maxRecDepth 100000 in
theorem v100 : Cond.code yX7_init cX7_init 1 none ∈ tw := tbl_at 655 (by rfl) (by rfl)
set_option maxRecDepth 100000 in
theorem v101 : Cond.methodLink RL 12 yX7_init ∈ tw := tbl_at 653 (by decide +kernel) (by decide +kernel)
set_option maxRecDepth 100000 in
theorem v102 : Cond.instanceMethod yX7_init ∈ tw := tbl_at 654 (by decide +kernel) (by decide +kernel)
set_option maxRecDepth 100000 in
theorem u0 : Cond.methodLink RX3 3 Lib.objectInit ∈ tw := tbl_at 31 (by decide +kernel) (by decide +kernel)
set_option maxRecDepth 100000 in
theorem u1 : Cond.instanceMethod Lib.objectInit ∈ tw := tbl_at 17 (by decide +kernel) (by decide +kernel)
set_option maxRecDepth 100000 in
theorem uobj : Cond.code Lib.objectInit ⟨#[0xb1]⟩ 1 none ∈ tw := tbl_at 18 (by rfl) (by rfl)
set_option maxRecDepth 100000 in
theorem u3 : Cond.methodLink RX2 3 Lib.objectInit ∈ tw := tbl_at 134 (by decide +kernel) (by decide +kernel)
set_option maxRecDepth 100000 in
theorem u4 : Cond.methodLink RX1 3 Lib.objectInit ∈ tw := tbl_at 24 (by decide +kernel) (by decide +kernel)
set_option maxRecDepth 100000 in
theorem u5 : Cond.classLink RX1 9 RX3 ∈ tw := tbl_at 25 (by decide +kernel) (by decide +kernel)
set_option maxRecDepth 100000 in
theorem u6 : Cond.instantiable RX3 13 ∈ tw := tbl_at 27 (by decide +kernel) (by decide +kernel)
set_option maxRecDepth 100000 in
theorem u7 : Cond.arrayClass .int ∈ tw := tbl_at 97 (by decide +kernel) (by decide +kernel)
set_option maxRecDepth 100000 in
theorem u8 : Cond.methodLink RX4 3 Lib.objectInit ∈ tw := tbl_at 127 (by decide +kernel) (by decide +kernel)
set_option maxRecDepth 100000 in
theorem u9 : Cond.classLink RX4 19 RX2 ∈ tw := tbl_at 128 (by decide +kernel) (by decide +kernel)
set_option maxRecDepth 100000 in
theorem u10 : Cond.instantiable RX2 5 ∈ tw := tbl_at 130 (by decide +kernel) (by decide +kernel)
set_option maxRecDepth 100000 in
theorem u11 : Cond.methodLink RX5 3 Lib.objectInit ∈ tw := tbl_at 189 (by decide +kernel) (by decide +kernel)
set_option maxRecDepth 100000 in
theorem u12 : Cond.methodLink RX0 3 Lib.objectInit ∈ tw := tbl_at 222 (by decide +kernel) (by decide +kernel)
set_option maxRecDepth 100000 in
theorem u13 : Cond.classLink RX0 18 "[[I" ∈ tw := tbl_at 223 (by decide +kernel) (by decide +kernel)
set_option maxRecDepth 100000 in
theorem u14 : Cond.methodLink RX6 1 Lib.objectInit ∈ tw := tbl_at 16 (by decide +kernel) (by decide +kernel)
set_option maxRecDepth 100000 in
theorem u15 : Cond.classLink RX6 17 RX1 ∈ tw := tbl_at 19 (by decide +kernel) (by decide +kernel)
set_option maxRecDepth 100000 in
theorem u16 : Cond.instantiable RX1 6 ∈ tw := tbl_at 20 (by decide +kernel) (by decide +kernel)
set_option maxRecDepth 100000 in
theorem u17 : Cond.classLink RX6 24 RX4 ∈ tw := tbl_at 122 (by decide +kernel) (by decide +kernel)
set_option maxRecDepth 100000 in
theorem u18 : Cond.instantiable RX4 7 ∈ tw := tbl_at 123 (by decide +kernel) (by decide +kernel)
set_option maxRecDepth 100000 in
theorem u19 : Cond.classLink RX6 33 RX5 ∈ tw := tbl_at 184 (by decide +kernel) (by decide +kernel)
set_option maxRecDepth 100000 in
theorem u20 : Cond.instantiable RX5 8 ∈ tw := tbl_at 185 (by decide +kernel) (by decide +kernel)
set_option maxRecDepth 100000 in
theorem u21 : Cond.classLink RX6 42 RX0 ∈ tw := tbl_at 217 (by decide +kernel) (by decide +kernel)
set_option maxRecDepth 100000 in
theorem u22 : Cond.instantiable RX0 5 ∈ tw := tbl_at 218 (by decide +kernel) (by decide +kernel)
set_option maxRecDepth 100000 in
theorem u23 : Cond.methodLink RX7 1 Lib.objectInit ∈ tw := tbl_at 656 (by decide +kernel) (by decide +kernel)
set_option maxRecDepth 100000 in
theorem u24 : Cond.arrayClass .boolean ∈ tw := tbl_at 796 (by decide +kernel) (by decide +kernel)
set_option maxRecDepth 100000 in
theorem u25 : Cond.classLink RL 7 RX6 ∈ tw := tbl_at 11 (by decide +kernel) (by decide +kernel)
set_option maxRecDepth 100000 in
theorem u26 : Cond.instantiable RX6 10 ∈ tw := tbl_at 12 (by decide +kernel) (by decide +kernel)
set_option maxRecDepth 100000 in
theorem u27 : Cond.classLink RL 10 RX7 ∈ tw := tbl_at 651 (by decide +kernel) (by decide +kernel)
set_option maxRecDepth 100000 in
theorem u28 : Cond.instantiable RX7 46 ∈ tw := tbl_at 652 (by decide +kernel) (by decide +kernel)
theorem dX3_init_0 : decode cX3_init 0 = .ok (.aload_n 0, 1) := by decide +kernel
theorem dX3_init_1 : decode cX3_init 1 = .ok (.invokespecial 3, 3) := by decide +kernel
theorem dX3_init_4 : decode cX3_init 4 = .ok (.aload_n 0, 1) := by decide +kernel
theorem dX3_init_5 : decode cX3_init 5 = .ok (.iconst (-1), 1) := by decide +kernel
theorem dX3_init_6 : decode cX3_init 6 = .ok (.putfield 9, 3) := by decide +kernel
theorem dX3_init_9 : decode cX3_init 9 = .ok (.aload_n 0, 1) := by decide +kernel
theorem dX3_init_10 : decode cX3_init 10 = .ok (.iconst 1, 1) := by decide +kernel
theorem dX3_init_11 : decode cX3_init 11 = .ok (.putfield 15, 3) := by decide +kernel
theorem dX3_init_14 : decode cX3_init 14 = .ok (.aload_n 0, 1) := by decide +kernel
theorem dX3_init_15 : decode cX3_init 15 = .ok (.iconst (-1), 1) := by decide +kernel
theorem dX3_init_16 : decode cX3_init 16 = .ok (.putfield 18, 3) := by decide +kernel
theorem dX3_init_19 : decode cX3_init 19 = .ok (.aload_n 0, 1) := by decide +kernel
theorem dX3_init_20 : decode cX3_init 20 = .ok (.iconst (-1), 1) := by decide +kernel
theorem dX3_init_21 : decode cX3_init 21 = .ok (.putfield 21, 3) := by decide +kernel
theorem dX3_init_24 : decode cX3_init 24 = .ok (.aload_n 0, 1) := by decide +kernel
theorem dX3_init_25 : decode cX3_init 25 = .ok (.iconst (-1), 1) := by decide +kernel
theorem dX3_init_26 : decode cX3_init 26 = .ok (.putfield 24, 3) := by decide +kernel
theorem dX3_init_29 : decode cX3_init 29 = .ok (.aload_n 0, 1) := by decide +kernel
theorem dX3_init_30 : decode cX3_init 30 = .ok (.iconst (-1), 1) := by decide +kernel
theorem dX3_init_31 : decode cX3_init 31 = .ok (.putfield 27, 3) := by decide +kernel
theorem dX3_init_34 : decode cX3_init 34 = .ok (.aload_n 0, 1) := by decide +kernel
theorem dX3_init_35 : decode cX3_init 35 = .ok (.iconst (-1), 1) := by decide +kernel
theorem dX3_init_36 : decode cX3_init 36 = .ok (.putfield 30, 3) := by decide +kernel
theorem dX3_init_39 : decode cX3_init 39 = .ok (.return_, 1) := by decide +kernel
abbrev MX3_init : MD := (yX3_init, cX3_init, 1, none, { frames := 1, cells := 0, slots := 0, locals := 24 })
theorem dX2_init_0 : decode cX2_init 0 = .ok (.aload_n 0, 1) := by decide +kernel
theorem dX2_init_1 : decode cX2_init 1 = .ok (.invokespecial 3, 3) := by decide +kernel
theorem dX2_init_4 : decode cX2_init 4 = .ok (.aload_n 0, 1) := by decide +kernel
theorem dX2_init_5 : decode cX2_init 5 = .ok (.iconst (-1), 1) := by decide +kernel
theorem dX2_init_6 : decode cX2_init 6 = .ok (.putfield 9, 3) := by decide +kernel
theorem dX2_init_9 : decode cX2_init 9 = .ok (.return_, 1) := by decide +kernel
abbrev MX2_init : MD := (yX2_init, cX2_init, 1, none, { frames := 1, cells := 0, slots := 0, locals := 24 })
theorem dX1_init_0 : decode cX1_init 0 = .ok (.aload_n 0, 1) := by decide +kernel
theorem dX1_init_1 : decode cX1_init 1 = .ok (.invokespecial 3, 3) := by decide +kernel
theorem dX1_init_4 : decode cX1_init 4 = .ok (.aload_n 0, 1) := by decide +kernel
theorem dX1_init_5 : decode cX1_init 5 = .ok (.bipush 10, 2) := by decide +kernel
theorem dX1_init_7 : decode cX1_init 7 = .ok (.anewarray 9, 3) := by decide +kernel
theorem dX1_init_10 : decode cX1_init 10 = .ok (.putfield 11, 3) := by decide +kernel
theorem dX1_init_13 : decode cX1_init 13 = .ok (.iconst 0, 1) := by decide +kernel
theorem dX1_init_14 : decode cX1_init 14 = .ok (.istore_n 1, 1) := by decide +kernel
theorem dX1_init_15 : decode cX1_init 15 = .ok (.iload_n 1, 1) := by decide +kernel
theorem dX1_init_16 : decode cX1_init 16 = .ok (.bipush 10, 2) := by decide +kernel
theorem dX1_init_18 : decode cX1_init 18 = .ok (.if_icmp .ge 22, 3) := by decide +kernel
theorem dX1_init_21 : decode cX1_init 21 = .ok (.aload_n 0, 1) := by decide +kernel
theorem dX1_init_22 : decode cX1_init 22 = .ok (.getfield 11, 3) := by decide +kernel
theorem dX1_init_25 : decode cX1_init 25 = .ok (.iload_n 1, 1) := by decide +kernel
theorem dX1_init_26 : decode cX1_init 26 = .ok (.new 9, 3) := by decide +kernel
theorem dX1_init_29 : decode cX1_init 29 = .ok (.dup, 1) := by decide +kernel
theorem dX1_init_30 : decode cX1_init 30 = .ok (.invokespecial 17, 3) := by decide +kernel
theorem dX1_init_33 : decode cX1_init 33 = .ok (.aastore, 1) := by decide +kernel
theorem dX1_init_34 : decode cX1_init 34 = .ok (.iinc 1 1, 3) := by decide +kernel
theorem dX1_init_37 : decode cX1_init 37 = .ok (.goto (-22), 3) := by decide +kernel
theorem dX1_init_40 : decode cX1_init 40 = .ok (.aload_n 0, 1) := by decide +kernel
theorem dX1_init_41 : decode cX1_init 41 = .ok (.bipush 20, 2) := by decide +kernel
theorem dX1_init_43 : decode cX1_init 43 = .ok (.newarray .int, 2) := by decide +kernel
theorem dX1_init_45 : decode cX1_init 45 = .ok (.putfield 18, 3) := by decide +kernel
theorem dX1_init_48 : decode cX1_init 48 = .ok (.aload_n 0, 1) := by decide +kernel
theorem dX1_init_49 : decode cX1_init 49 = .ok (.bipush 20, 2) := by decide +kernel
theorem dX1_init_51 : decode cX1_init 51 = .ok (.newarray .int, 2) := by decide +kernel
theorem dX1_init_53 : decode cX1_init 53 = .ok (.putfield 22, 3) := by decide +kernel
theorem dX1_init_56 : decode cX1_init 56 = .ok (.aload_n 0, 1) := by decide +kernel
theorem dX1_init_57 : decode cX1_init 57 = .ok (.bipush 20, 2) := by decide +kernel
theorem dX1_init_59 : decode cX1_init 59 = .ok (.newarray .int, 2) := by decide +kernel
theorem dX1_init_61 : decode cX1_init 61 = .ok (.putfield 25, 3) := by decide +kernel
theorem dX1_init_64 : decode cX1_init 64 = .ok (.return_, 1) := by decide +kernel
abbrev MX1_init : MD := (yX1_init, cX1_init, 2, none, { frames := 2, cells := 14, slots := 200, locals := 44 })
theorem dX4_init_0 : decode cX4_init 0 = .ok (.aload_n 0, 1) := by decide +kernel
theorem dX4_init_1 : decode cX4_init 1 = .ok (.invokespecial 3, 3) := by decide +kernel
theorem dX4_init_4 : decode cX4_init 4 = .ok (.aload_n 0, 1) := by decide +kernel
theorem dX4_init_5 : decode cX4_init 5 = .ok (.aload_n 1, 1) := by decide +kernel
theorem dX4_init_6 : decode cX4_init 6 = .ok (.putfield 9, 3) := by decide +kernel
theorem dX4_init_9 : decode cX4_init 9 = .ok (.aload_n 0, 1) := by decide +kernel
theorem dX4_init_10 : decode cX4_init 10 = .ok (.bipush 6, 2) := by decide +kernel
theorem dX4_init_12 : decode cX4_init 12 = .ok (.newarray .int, 2) := by decide +kernel
theorem dX4_init_14 : decode cX4_init 14 = .ok (.dup, 1) := by decide +kernel
theorem dX4_init_15 : decode cX4_init 15 = .ok (.iconst 0, 1) := by decide +kernel
theorem dX4_init_16 : decode cX4_init 16 = .ok (.bipush 20, 2) := by decide +kernel
theorem dX4_init_18 : decode cX4_init 18 = .ok (.iastore, 1) := by decide +kernel
theorem dX4_init_19 : decode cX4_init 19 = .ok (.dup, 1) := by decide +kernel
theorem dX4_init_20 : decode cX4_init 20 = .ok (.iconst 1, 1) := by decide +kernel
theorem dX4_init_21 : decode cX4_init 21 = .ok (.bipush 90, 2) := by decide +kernel
theorem dX4_init_23 : decode cX4_init 23 = .ok (.iastore, 1) := by decide +kernel
theorem dX4_init_24 : decode cX4_init 24 = .ok (.dup, 1) := by decide +kernel
theorem dX4_init_25 : decode cX4_init 25 = .ok (.iconst 2, 1) := by decide +kernel
theorem dX4_init_26 : decode cX4_init 26 = .ok (.sipush 180, 3) := by decide +kernel
theorem dX4_init_29 : decode cX4_init 29 = .ok (.iastore, 1) := by decide +kernel
theorem dX4_init_30 : decode cX4_init 30 = .ok (.dup, 1) := by decide +kernel
theorem dX4_init_31 : decode cX4_init 31 = .ok (.iconst 3, 1) := by decide +kernel
theorem dX4_init_32 : decode cX4_init 32 = .ok (.iconst 3, 1) := by decide +kernel
theorem dX4_init_33 : decode cX4_init 33 = .ok (.iastore, 1) := by decide +kernel
theorem dX4_init_34 : decode cX4_init 34 = .ok (.dup, 1) := by decide +kernel
theorem dX4_init_35 : decode cX4_init 35 = .ok (.iconst 4, 1) := by decide +kernel
theorem dX4_init_36 : decode cX4_init 36 = .ok (.iconst 1, 1) := by decide +kernel
theorem dX4_init_37 : decode cX4_init 37 = .ok (.iastore, 1) := by decide +kernel
theorem dX4_init_38 : decode cX4_init 38 = .ok (.dup, 1) := by decide +kernel
theorem dX4_init_39 : decode cX4_init 39 = .ok (.iconst 5, 1) := by decide +kernel
theorem dX4_init_40 : decode cX4_init 40 = .ok (.iconst 0, 1) := by decide +kernel
theorem dX4_init_41 : decode cX4_init 41 = .ok (.iastore, 1) := by decide +kernel
theorem dX4_init_42 : decode cX4_init 42 = .ok (.putfield 15, 3) := by decide +kernel
theorem dX4_init_45 : decode cX4_init 45 = .ok (.aload_n 0, 1) := by decide +kernel
theorem dX4_init_46 : decode cX4_init 46 = .ok (.bipush 16, 2) := by decide +kernel
theorem dX4_init_48 : decode cX4_init 48 = .ok (.anewarray 19, 3) := by decide +kernel
theorem dX4_init_51 : decode cX4_init 51 = .ok (.putfield 21, 3) := by decide +kernel
theorem dX4_init_54 : decode cX4_init 54 = .ok (.iconst 0, 1) := by decide +kernel
theorem dX4_init_55 : decode cX4_init 55 = .ok (.istore_n 2, 1) := by decide +kernel
theorem dX4_init_56 : decode cX4_init 56 = .ok (.iload_n 2, 1) := by decide +kernel
theorem dX4_init_57 : decode cX4_init 57 = .ok (.bipush 16, 2) := by decide +kernel
theorem dX4_init_59 : decode cX4_init 59 = .ok (.if_icmp .ge 22, 3) := by decide +kernel
theorem dX4_init_62 : decode cX4_init 62 = .ok (.aload_n 0, 1) := by decide +kernel
theorem dX4_init_63 : decode cX4_init 63 = .ok (.getfield 21, 3) := by decide +kernel
theorem dX4_init_66 : decode cX4_init 66 = .ok (.iload_n 2, 1) := by decide +kernel
theorem dX4_init_67 : decode cX4_init 67 = .ok (.new 19, 3) := by decide +kernel
theorem dX4_init_70 : decode cX4_init 70 = .ok (.dup, 1) := by decide +kernel
theorem dX4_init_71 : decode cX4_init 71 = .ok (.invokespecial 25, 3) := by decide +kernel
theorem dX4_init_74 : decode cX4_init 74 = .ok (.aastore, 1) := by decide +kernel
theorem dX4_init_75 : decode cX4_init 75 = .ok (.iinc 2 1, 3) := by decide +kernel
theorem dX4_init_78 : decode cX4_init 78 = .ok (.goto (-22), 3) := by decide +kernel
theorem dX4_init_81 : decode cX4_init 81 = .ok (.aload_n 0, 1) := by decide +kernel
theorem dX4_init_82 : decode cX4_init 82 = .ok (.bipush 16, 2) := by decide +kernel
theorem dX4_init_84 : decode cX4_init 84 = .ok (.newarray .int, 2) := by decide +kernel
theorem dX4_init_86 : decode cX4_init 86 = .ok (.putfield 26, 3) := by decide +kernel
theorem dX4_init_89 : decode cX4_init 89 = .ok (.aload_n 0, 1) := by decide +kernel
theorem dX4_init_90 : decode cX4_init 90 = .ok (.bipush 16, 2) := by decide +kernel
theorem dX4_init_92 : decode cX4_init 92 = .ok (.newarray .int, 2) := by decide +kernel
theorem dX4_init_94 : decode cX4_init 94 = .ok (.putfield 29, 3) := by decide +kernel
theorem dX4_init_97 : decode cX4_init 97 = .ok (.aload_n 0, 1) := by decide +kernel
theorem dX4_init_98 : decode cX4_init 98 = .ok (.bipush 10, 2) := by decide +kernel
theorem dX4_init_100 : decode cX4_init 100 = .ok (.newarray .int, 2) := by decide +kernel
theorem dX4_init_102 : decode cX4_init 102 = .ok (.putfield 32, 3) := by decide +kernel
theorem dX4_init_105 : decode cX4_init 105 = .ok (.return_, 1) := by decide +kernel
abbrev MX4_init : MD := (yX4_init, cX4_init, 3, none, { frames := 2, cells := 21, slots := 144, locals := 44 })
theorem dX5_init_0 : decode cX5_init 0 = .ok (.aload_n 0, 1) := by decide +kernel
theorem dX5_init_1 : decode cX5_init 1 = .ok (.invokespecial 3, 3) := by decide +kernel
theorem dX5_init_4 : decode cX5_init 4 = .ok (.aload_n 0, 1) := by decide +kernel
theorem dX5_init_5 : decode cX5_init 5 = .ok (.aload_n 1, 1) := by decide +kernel
theorem dX5_init_6 : decode cX5_init 6 = .ok (.putfield 9, 3) := by decide +kernel
theorem dX5_init_9 : decode cX5_init 9 = .ok (.aload_n 0, 1) := by decide +kernel
theorem dX5_init_10 : decode cX5_init 10 = .ok (.bipush 6, 2) := by decide +kernel
theorem dX5_init_12 : decode cX5_init 12 = .ok (.newarray .int, 2) := by decide +kernel
theorem dX5_init_14 : decode cX5_init 14 = .ok (.putfield 15, 3) := by decide +kernel
theorem dX5_init_17 : decode cX5_init 17 = .ok (.aload_n 0, 1) := by decide +kernel
theorem dX5_init_18 : decode cX5_init 18 = .ok (.bipush 6, 2) := by decide +kernel
theorem dX5_init_20 : decode cX5_init 20 = .ok (.newarray .int, 2) := by decide +kernel
theorem dX5_init_22 : decode cX5_init 22 = .ok (.putfield 19, 3) := by decide +kernel
theorem dX5_init_25 : decode cX5_init 25 = .ok (.aload_n 0, 1) := by decide +kernel
theorem dX5_init_26 : decode cX5_init 26 = .ok (.bipush 22, 2) := by decide +kernel
theorem dX5_init_28 : decode cX5_init 28 = .ok (.newarray .int, 2) := by decide +kernel
theorem dX5_init_30 : decode cX5_init 30 = .ok (.putfield 22, 3) := by decide +kernel
theorem dX5_init_33 : decode cX5_init 33 = .ok (.aload_n 0, 1) := by decide +kernel
theorem dX5_init_34 : decode cX5_init 34 = .ok (.bipush 22, 2) := by decide +kernel
theorem dX5_init_36 : decode cX5_init 36 = .ok (.newarray .int, 2) := by decide +kernel
theorem dX5_init_38 : decode cX5_init 38 = .ok (.putfield 25, 3) := by decide +kernel
theorem dX5_init_41 : decode cX5_init 41 = .ok (.aload_n 0, 1) := by decide +kernel
theorem dX5_init_42 : decode cX5_init 42 = .ok (.bipush 22, 2) := by decide +kernel
theorem dX5_init_44 : decode cX5_init 44 = .ok (.newarray .int, 2) := by decide +kernel
theorem dX5_init_46 : decode cX5_init 46 = .ok (.putfield 28, 3) := by decide +kernel
theorem dX5_init_49 : decode cX5_init 49 = .ok (.return_, 1) := by decide +kernel
abbrev MX5_init : MD := (yX5_init, cX5_init, 2, none, { frames := 1, cells := 5, slots := 78, locals := 24 })
theorem dX0_init_0 : decode cX0_init 0 = .ok (.aload_n 0, 1) := by decide +kernel
theorem dX0_init_1 : decode cX0_init 1 = .ok (.invokespecial 3, 3) := by decide +kernel
theorem dX0_init_4 : decode cX0_init 4 = .ok (.aload_n 0, 1) := by decide +kernel
theorem dX0_init_5 : decode cX0_init 5 = .ok (.bipush 40, 2) := by decide +kernel
theorem dX0_init_7 : decode cX0_init 7 = .ok (.newarray .int, 2) := by decide +kernel
theorem dX0_init_9 : decode cX0_init 9 = .ok (.putfield 9, 3) := by decide +kernel
theorem dX0_init_12 : decode cX0_init 12 = .ok (.aload_n 0, 1) := by decide +kernel
theorem dX0_init_13 : decode cX0_init 13 = .ok (.bipush 40, 2) := by decide +kernel
theorem dX0_init_15 : decode cX0_init 15 = .ok (.newarray .int, 2) := by decide +kernel
theorem dX0_init_17 : decode cX0_init 17 = .ok (.putfield 15, 3) := by decide +kernel
theorem dX0_init_20 : decode cX0_init 20 = .ok (.aload_n 0, 1) := by decide +kernel
theorem dX0_init_21 : decode cX0_init 21 = .ok (.iconst 3, 1) := by decide +kernel
theorem dX0_init_22 : decode cX0_init 22 = .ok (.bipush 40, 2) := by decide +kernel
theorem dX0_init_24 : decode cX0_init 24 = .ok (.multianewarray 18 2, 4) := by decide +kernel
theorem dX0_init_28 : decode cX0_init 28 = .ok (.putfield 20, 3) := by decide +kernel
theorem dX0_init_31 : decode cX0_init 31 = .ok (.return_, 1) := by decide +kernel
abbrev MX0_init : MD := (yX0_init, cX0_init, 1, none, { frames := 1, cells := 6, slots := 203, locals := 24 })
theorem dX6_init_0 : decode cX6_init 0 = .ok (.aload_n 0, 1) := by decide +kernel
theorem dX6_init_1 : decode cX6_init 1 = .ok (.invokespecial 1, 3) := by decide +kernel
theorem dX6_init_4 : decode cX6_init 4 = .ok (.aload_n 0, 1) := by decide +kernel
theorem dX6_init_5 : decode cX6_init 5 = .ok (.bipush 12, 2) := by decide +kernel
theorem dX6_init_7 : decode cX6_init 7 = .ok (.newarray .int, 2) := by decide +kernel
theorem dX6_init_9 : decode cX6_init 9 = .ok (.putfield 9, 3) := by decide +kernel
theorem dX6_init_12 : decode cX6_init 12 = .ok (.aload_n 0, 1) := by decide +kernel
theorem dX6_init_13 : decode cX6_init 13 = .ok (.iconst 1, 1) := by decide +kernel
theorem dX6_init_14 : decode cX6_init 14 = .ok (.putfield 13, 3) := by decide +kernel
theorem dX6_init_17 : decode cX6_init 17 = .ok (.aload_n 0, 1) := by decide +kernel
theorem dX6_init_18 : decode cX6_init 18 = .ok (.new 17, 3) := by decide +kernel
theorem dX6_init_21 : decode cX6_init 21 = .ok (.dup, 1) := by decide +kernel
theorem dX6_init_22 : decode cX6_init 22 = .ok (.invokespecial 19, 3) := by decide +kernel
theorem dX6_init_25 : decode cX6_init 25 = .ok (.putfield 20, 3) := by decide +kernel
theorem dX6_init_28 : decode cX6_init 28 = .ok (.aload_n 0, 1) := by decide +kernel
theorem dX6_init_29 : decode cX6_init 29 = .ok (.new 24, 3) := by decide +kernel
theorem dX6_init_32 : decode cX6_init 32 = .ok (.dup, 1) := by decide +kernel
theorem dX6_init_33 : decode cX6_init 33 = .ok (.aload_n 0, 1) := by decide +kernel
theorem dX6_init_34 : decode cX6_init 34 = .ok (.getfield 20, 3) := by decide +kernel
theorem dX6_init_37 : decode cX6_init 37 = .ok (.invokespecial 26, 3) := by decide +kernel
theorem dX6_init_40 : decode cX6_init 40 = .ok (.putfield 29, 3) := by decide +kernel
theorem dX6_init_43 : decode cX6_init 43 = .ok (.aload_n 0, 1) := by decide +kernel
theorem dX6_init_44 : decode cX6_init 44 = .ok (.new 33, 3) := by decide +kernel
theorem dX6_init_47 : decode cX6_init 47 = .ok (.dup, 1) := by decide +kernel
theorem dX6_init_48 : decode cX6_init 48 = .ok (.aload_n 0, 1) := by decide +kernel
theorem dX6_init_49 : decode cX6_init 49 = .ok (.getfield 29, 3) := by decide +kernel
theorem dX6_init_52 : decode cX6_init 52 = .ok (.invokespecial 35, 3) := by decide +kernel
theorem dX6_init_55 : decode cX6_init 55 = .ok (.putfield 38, 3) := by decide +kernel
theorem dX6_init_58 : decode cX6_init 58 = .ok (.aload_n 0, 1) := by decide +kernel
theorem dX6_init_59 : decode cX6_init 59 = .ok (.new 42, 3) := by decide +kernel
theorem dX6_init_62 : decode cX6_init 62 = .ok (.dup, 1) := by decide +kernel
theorem dX6_init_63 : decode cX6_init 63 = .ok (.invokespecial 44, 3) := by decide +kernel
theorem dX6_init_66 : decode cX6_init 66 = .ok (.putfield 45, 3) := by decide +kernel
theorem dX6_init_69 : decode cX6_init 69 = .ok (.aload_n 0, 1) := by decide +kernel
theorem dX6_init_70 : decode cX6_init 70 = .ok (.bipush 16, 2) := by decide +kernel
theorem dX6_init_72 : decode cX6_init 72 = .ok (.newarray .int, 2) := by decide +kernel
theorem dX6_init_74 : decode cX6_init 74 = .ok (.putfield 49, 3) := by decide +kernel
theorem dX6_init_77 : decode cX6_init 77 = .ok (.aload_n 0, 1) := by decide +kernel
theorem dX6_init_78 : decode cX6_init 78 = .ok (.bipush 6, 2) := by decide +kernel
theorem dX6_init_80 : decode cX6_init 80 = .ok (.newarray .int, 2) := by decide +kernel
theorem dX6_init_82 : decode cX6_init 82 = .ok (.putfield 52, 3) := by decide +kernel
theorem dX6_init_85 : decode cX6_init 85 = .ok (.return_, 1) := by decide +kernel
abbrev MX6_init : MD := (yX6_init, cX6_init, 1, none, { frames := 3, cells := 53, slots := 685, locals := 66 })
theorem dX7_init_0 : decode cX7_init 0 = .ok (.aload_n 0, 1) := by decide +kernel
theorem dX7_init_1 : decode cX7_init 1 = .ok (.invokespecial 1, 3) := by decide +kernel
theorem dX7_init_4 : decode cX7_init 4 = .ok (.aload_n 0, 1) := by decide +kernel
theorem dX7_init_5 : decode cX7_init 5 = .ok (.iconst 1, 1) := by decide +kernel
theorem dX7_init_6 : decode cX7_init 6 = .ok (.putfield 7, 3) := by decide +kernel
theorem dX7_init_9 : decode cX7_init 9 = .ok (.aload_n 0, 1) := by decide +kernel
theorem dX7_init_10 : decode cX7_init 10 = .ok (.bipush 12, 2) := by decide +kernel
theorem dX7_init_12 : decode cX7_init 12 = .ok (.newarray .int, 2) := by decide +kernel
theorem dX7_init_14 : decode cX7_init 14 = .ok (.putfield 13, 3) := by decide +kernel
theorem dX7_init_17 : decode cX7_init 17 = .ok (.aload_n 0, 1) := by decide +kernel
theorem dX7_init_18 : decode cX7_init 18 = .ok (.bipush 10, 2) := by decide +kernel
theorem dX7_init_20 : decode cX7_init 20 = .ok (.newarray .int, 2) := by decide +kernel
theorem dX7_init_22 : decode cX7_init 22 = .ok (.putfield 17, 3) := by decide +kernel
theorem dX7_init_25 : decode cX7_init 25 = .ok (.aload_n 0, 1) := by decide +kernel
theorem dX7_init_26 : decode cX7_init 26 = .ok (.bipush 10, 2) := by decide +kernel
theorem dX7_init_28 : decode cX7_init 28 = .ok (.newarray .int, 2) := by decide +kernel
theorem dX7_init_30 : decode cX7_init 30 = .ok (.putfield 20, 3) := by decide +kernel
theorem dX7_init_33 : decode cX7_init 33 = .ok (.aload_n 0, 1) := by decide +kernel
theorem dX7_init_34 : decode cX7_init 34 = .ok (.bipush 10, 2) := by decide +kernel
theorem dX7_init_36 : decode cX7_init 36 = .ok (.newarray .int, 2) := by decide +kernel
theorem dX7_init_38 : decode cX7_init 38 = .ok (.putfield 23, 3) := by decide +kernel
theorem dX7_init_41 : decode cX7_init 41 = .ok (.aload_n 0, 1) := by decide +kernel
theorem dX7_init_42 : decode cX7_init 42 = .ok (.bipush 10, 2) := by decide +kernel
theorem dX7_init_44 : decode cX7_init 44 = .ok (.newarray .int, 2) := by decide +kernel
theorem dX7_init_46 : decode cX7_init 46 = .ok (.putfield 26, 3) := by decide +kernel
theorem dX7_init_49 : decode cX7_init 49 = .ok (.aload_n 0, 1) := by decide +kernel
theorem dX7_init_50 : decode cX7_init 50 = .ok (.bipush 10, 2) := by decide +kernel
theorem dX7_init_52 : decode cX7_init 52 = .ok (.newarray .int, 2) := by decide +kernel
theorem dX7_init_54 : decode cX7_init 54 = .ok (.putfield 29, 3) := by decide +kernel
theorem dX7_init_57 : decode cX7_init 57 = .ok (.aload_n 0, 1) := by decide +kernel
theorem dX7_init_58 : decode cX7_init 58 = .ok (.bipush 10, 2) := by decide +kernel
theorem dX7_init_60 : decode cX7_init 60 = .ok (.newarray .int, 2) := by decide +kernel
theorem dX7_init_62 : decode cX7_init 62 = .ok (.putfield 32, 3) := by decide +kernel
theorem dX7_init_65 : decode cX7_init 65 = .ok (.aload_n 0, 1) := by decide +kernel
theorem dX7_init_66 : decode cX7_init 66 = .ok (.bipush 10, 2) := by decide +kernel
theorem dX7_init_68 : decode cX7_init 68 = .ok (.newarray .int, 2) := by decide +kernel
theorem dX7_init_70 : decode cX7_init 70 = .ok (.putfield 35, 3) := by decide +kernel
theorem dX7_init_73 : decode cX7_init 73 = .ok (.aload_n 0, 1) := by decide +kernel
theorem dX7_init_74 : decode cX7_init 74 = .ok (.bipush 10, 2) := by decide +kernel
theorem dX7_init_76 : decode cX7_init 76 = .ok (.newarray .int, 2) := by decide +kernel
theorem dX7_init_78 : decode cX7_init 78 = .ok (.putfield 38, 3) := by decide +kernel
theorem dX7_init_81 : decode cX7_init 81 = .ok (.aload_n 0, 1) := by decide +kernel
theorem dX7_init_82 : decode cX7_init 82 = .ok (.bipush 10, 2) := by decide +kernel
theorem dX7_init_84 : decode cX7_init 84 = .ok (.newarray .int, 2) := by decide +kernel
theorem dX7_init_86 : decode cX7_init 86 = .ok (.putfield 41, 3) := by decide +kernel
theorem dX7_init_89 : decode cX7_init 89 = .ok (.aload_n 0, 1) := by decide +kernel
theorem dX7_init_90 : decode cX7_init 90 = .ok (.bipush 20, 2) := by decide +kernel
theorem dX7_init_92 : decode cX7_init 92 = .ok (.newarray .int, 2) := by decide +kernel
theorem dX7_init_94 : decode cX7_init 94 = .ok (.putfield 44, 3) := by decide +kernel
theorem dX7_init_97 : decode cX7_init 97 = .ok (.aload_n 0, 1) := by decide +kernel
theorem dX7_init_98 : decode cX7_init 98 = .ok (.bipush 20, 2) := by decide +kernel
theorem dX7_init_100 : decode cX7_init 100 = .ok (.newarray .int, 2) := by decide +kernel
theorem dX7_init_102 : decode cX7_init 102 = .ok (.putfield 47, 3) := by decide +kernel
theorem dX7_init_105 : decode cX7_init 105 = .ok (.aload_n 0, 1) := by decide +kernel
theorem dX7_init_106 : decode cX7_init 106 = .ok (.bipush 20, 2) := by decide +kernel
theorem dX7_init_108 : decode cX7_init 108 = .ok (.newarray .boolean, 2) := by decide +kernel
theorem dX7_init_110 : decode cX7_init 110 = .ok (.putfield 50, 3) := by decide +kernel
theorem dX7_init_113 : decode cX7_init 113 = .ok (.aload_n 0, 1) := by decide +kernel
theorem dX7_init_114 : decode cX7_init 114 = .ok (.bipush 6, 2) := by decide +kernel
theorem dX7_init_116 : decode cX7_init 116 = .ok (.newarray .int, 2) := by decide +kernel
theorem dX7_init_118 : decode cX7_init 118 = .ok (.dup, 1) := by decide +kernel
theorem dX7_init_119 : decode cX7_init 119 = .ok (.iconst 0, 1) := by decide +kernel
theorem dX7_init_120 : decode cX7_init 120 = .ok (.bipush 20, 2) := by decide +kernel
theorem dX7_init_122 : decode cX7_init 122 = .ok (.iastore, 1) := by decide +kernel
theorem dX7_init_123 : decode cX7_init 123 = .ok (.dup, 1) := by decide +kernel
theorem dX7_init_124 : decode cX7_init 124 = .ok (.iconst 1, 1) := by decide +kernel
theorem dX7_init_125 : decode cX7_init 125 = .ok (.bipush 90, 2) := by decide +kernel
theorem dX7_init_127 : decode cX7_init 127 = .ok (.iastore, 1) := by decide +kernel
theorem dX7_init_128 : decode cX7_init 128 = .ok (.dup, 1) := by decide +kernel
theorem dX7_init_129 : decode cX7_init 129 = .ok (.iconst 2, 1) := by decide +kernel
theorem dX7_init_130 : decode cX7_init 130 = .ok (.sipush 180, 3) := by decide +kernel
theorem dX7_init_133 : decode cX7_init 133 = .ok (.iastore, 1) := by decide +kernel
theorem dX7_init_134 : decode cX7_init 134 = .ok (.dup, 1) := by decide +kernel
theorem dX7_init_135 : decode cX7_init 135 = .ok (.iconst 3, 1) := by decide +kernel
theorem dX7_init_136 : decode cX7_init 136 = .ok (.iconst 3, 1) := by decide +kernel
theorem dX7_init_137 : decode cX7_init 137 = .ok (.iastore, 1) := by decide +kernel
theorem dX7_init_138 : decode cX7_init 138 = .ok (.dup, 1) := by decide +kernel
theorem dX7_init_139 : decode cX7_init 139 = .ok (.iconst 4, 1) := by decide +kernel
theorem dX7_init_140 : decode cX7_init 140 = .ok (.iconst 1, 1) := by decide +kernel
theorem dX7_init_141 : decode cX7_init 141 = .ok (.iastore, 1) := by decide +kernel
theorem dX7_init_142 : decode cX7_init 142 = .ok (.dup, 1) := by decide +kernel
theorem dX7_init_143 : decode cX7_init 143 = .ok (.iconst 5, 1) := by decide +kernel
theorem dX7_init_144 : decode cX7_init 144 = .ok (.iconst 0, 1) := by decide +kernel
theorem dX7_init_145 : decode cX7_init 145 = .ok (.iastore, 1) := by decide +kernel
theorem dX7_init_146 : decode cX7_init 146 = .ok (.putfield 54, 3) := by decide +kernel
theorem dX7_init_149 : decode cX7_init 149 = .ok (.aload_n 0, 1) := by decide +kernel
theorem dX7_init_150 : decode cX7_init 150 = .ok (.bipush 16, 2) := by decide +kernel
theorem dX7_init_152 : decode cX7_init 152 = .ok (.newarray .int, 2) := by decide +kernel
theorem dX7_init_154 : decode cX7_init 154 = .ok (.putfield 57, 3) := by decide +kernel
theorem dX7_init_157 : decode cX7_init 157 = .ok (.aload_n 0, 1) := by decide +kernel
theorem dX7_init_158 : decode cX7_init 158 = .ok (.bipush 16, 2) := by decide +kernel
theorem dX7_init_160 : decode cX7_init 160 = .ok (.newarray .int, 2) := by decide +kernel
theorem dX7_init_162 : decode cX7_init 162 = .ok (.putfield 60, 3) := by decide +kernel
theorem dX7_init_165 : decode cX7_init 165 = .ok (.aload_n 0, 1) := by decide +kernel
theorem dX7_init_166 : decode cX7_init 166 = .ok (.bipush 16, 2) := by decide +kernel
theorem dX7_init_168 : decode cX7_init 168 = .ok (.newarray .int, 2) := by decide +kernel
theorem dX7_init_170 : decode cX7_init 170 = .ok (.putfield 63, 3) := by decide +kernel
theorem dX7_init_173 : decode cX7_init 173 = .ok (.aload_n 0, 1) := by decide +kernel
theorem dX7_init_174 : decode cX7_init 174 = .ok (.bipush 16, 2) := by decide +kernel
theorem dX7_init_176 : decode cX7_init 176 = .ok (.newarray .int, 2) := by decide +kernel
theorem dX7_init_178 : decode cX7_init 178 = .ok (.putfield 66, 3) := by decide +kernel
theorem dX7_init_181 : decode cX7_init 181 = .ok (.aload_n 0, 1) := by decide +kernel
theorem dX7_init_182 : decode cX7_init 182 = .ok (.bipush 16, 2) := by decide +kernel
theorem dX7_init_184 : decode cX7_init 184 = .ok (.newarray .boolean, 2) := by decide +kernel
theorem dX7_init_186 : decode cX7_init 186 = .ok (.putfield 69, 3) := by decide +kernel
theorem dX7_init_189 : decode cX7_init 189 = .ok (.aload_n 0, 1) := by decide +kernel
theorem dX7_init_190 : decode cX7_init 190 = .ok (.bipush 6, 2) := by decide +kernel
theorem dX7_init_192 : decode cX7_init 192 = .ok (.newarray .int, 2) := by decide +kernel
theorem dX7_init_194 : decode cX7_init 194 = .ok (.putfield 72, 3) := by decide +kernel
theorem dX7_init_197 : decode cX7_init 197 = .ok (.aload_n 0, 1) := by decide +kernel
theorem dX7_init_198 : decode cX7_init 198 = .ok (.bipush 6, 2) := by decide +kernel
theorem dX7_init_200 : decode cX7_init 200 = .ok (.newarray .int, 2) := by decide +kernel
theorem dX7_init_202 : decode cX7_init 202 = .ok (.putfield 75, 3) := by decide +kernel
theorem dX7_init_205 : decode cX7_init 205 = .ok (.aload_n 0, 1) := by decide +kernel
theorem dX7_init_206 : decode cX7_init 206 = .ok (.bipush 40, 2) := by decide +kernel
theorem dX7_init_208 : decode cX7_init 208 = .ok (.newarray .int, 2) := by decide +kernel
theorem dX7_init_210 : decode cX7_init 210 = .ok (.putfield 78, 3) := by decide +kernel
theorem dX7_init_213 : decode cX7_init 213 = .ok (.aload_n 0, 1) := by decide +kernel
theorem dX7_init_214 : decode cX7_init 214 = .ok (.bipush 40, 2) := by decide +kernel
theorem dX7_init_216 : decode cX7_init 216 = .ok (.newarray .int, 2) := by decide +kernel
theorem dX7_init_218 : decode cX7_init 218 = .ok (.putfield 81, 3) := by decide +kernel
theorem dX7_init_221 : decode cX7_init 221 = .ok (.aload_n 0, 1) := by decide +kernel
theorem dX7_init_222 : decode cX7_init 222 = .ok (.bipush 40, 2) := by decide +kernel
theorem dX7_init_224 : decode cX7_init 224 = .ok (.newarray .int, 2) := by decide +kernel
theorem dX7_init_226 : decode cX7_init 226 = .ok (.putfield 84, 3) := by decide +kernel
theorem dX7_init_229 : decode cX7_init 229 = .ok (.aload_n 0, 1) := by decide +kernel
theorem dX7_init_230 : decode cX7_init 230 = .ok (.bipush 40, 2) := by decide +kernel
theorem dX7_init_232 : decode cX7_init 232 = .ok (.newarray .int, 2) := by decide +kernel
theorem dX7_init_234 : decode cX7_init 234 = .ok (.putfield 87, 3) := by decide +kernel
theorem dX7_init_237 : decode cX7_init 237 = .ok (.aload_n 0, 1) := by decide +kernel
theorem dX7_init_238 : decode cX7_init 238 = .ok (.bipush 40, 2) := by decide +kernel
theorem dX7_init_240 : decode cX7_init 240 = .ok (.newarray .int, 2) := by decide +kernel
theorem dX7_init_242 : decode cX7_init 242 = .ok (.putfield 90, 3) := by decide +kernel
theorem dX7_init_245 : decode cX7_init 245 = .ok (.aload_n 0, 1) := by decide +kernel
theorem dX7_init_246 : decode cX7_init 246 = .ok (.bipush 80, 2) := by decide +kernel
theorem dX7_init_248 : decode cX7_init 248 = .ok (.newarray .int, 2) := by decide +kernel
theorem dX7_init_250 : decode cX7_init 250 = .ok (.putfield 93, 3) := by decide +kernel
theorem dX7_init_253 : decode cX7_init 253 = .ok (.aload_n 0, 1) := by decide +kernel
theorem dX7_init_254 : decode cX7_init 254 = .ok (.bipush 16, 2) := by decide +kernel
theorem dX7_init_256 : decode cX7_init 256 = .ok (.newarray .int, 2) := by decide +kernel
theorem dX7_init_258 : decode cX7_init 258 = .ok (.putfield 96, 3) := by decide +kernel
theorem dX7_init_261 : decode cX7_init 261 = .ok (.aload_n 0, 1) := by decide +kernel
theorem dX7_init_262 : decode cX7_init 262 = .ok (.bipush 6, 2) := by decide +kernel
theorem dX7_init_264 : decode cX7_init 264 = .ok (.newarray .int, 2) := by decide +kernel
theorem dX7_init_266 : decode cX7_init 266 = .ok (.putfield 99, 3) := by decide +kernel
theorem dX7_init_269 : decode cX7_init 269 = .ok (.aload_n 0, 1) := by decide +kernel
theorem dX7_init_270 : decode cX7_init 270 = .ok (.bipush 22, 2) := by decide +kernel
theorem dX7_init_272 : decode cX7_init 272 = .ok (.newarray .boolean, 2) := by decide +kernel
theorem dX7_init_274 : decode cX7_init 274 = .ok (.putfield 102, 3) := by decide +kernel
theorem dX7_init_277 : decode cX7_init 277 = .ok (.aload_n 0, 1) := by decide +kernel
theorem dX7_init_278 : decode cX7_init 278 = .ok (.bipush 22, 2) := by decide +kernel
theorem dX7_init_280 : decode cX7_init 280 = .ok (.newarray .int, 2) := by decide +kernel
theorem dX7_init_282 : decode cX7_init 282 = .ok (.putfield 105, 3) := by decide +kernel
theorem dX7_init_285 : decode cX7_init 285 = .ok (.aload_n 0, 1) := by decide +kernel
theorem dX7_init_286 : decode cX7_init 286 = .ok (.bipush 22, 2) := by decide +kernel
theorem dX7_init_288 : decode cX7_init 288 = .ok (.newarray .int, 2) := by decide +kernel
theorem dX7_init_290 : decode cX7_init 290 = .ok (.putfield 108, 3) := by decide +kernel
theorem dX7_init_293 : decode cX7_init 293 = .ok (.aload_n 0, 1) := by decide +kernel
theorem dX7_init_294 : decode cX7_init 294 = .ok (.bipush 22, 2) := by decide +kernel
theorem dX7_init_296 : decode cX7_init 296 = .ok (.newarray .int, 2) := by decide +kernel
theorem dX7_init_298 : decode cX7_init 298 = .ok (.putfield 111, 3) := by decide +kernel
theorem dX7_init_301 : decode cX7_init 301 = .ok (.aload_n 0, 1) := by decide +kernel
theorem dX7_init_302 : decode cX7_init 302 = .ok (.bipush 10, 2) := by decide +kernel
theorem dX7_init_304 : decode cX7_init 304 = .ok (.newarray .int, 2) := by decide +kernel
theorem dX7_init_306 : decode cX7_init 306 = .ok (.putfield 114, 3) := by decide +kernel
theorem dX7_init_309 : decode cX7_init 309 = .ok (.aload_n 0, 1) := by decide +kernel
theorem dX7_init_310 : decode cX7_init 310 = .ok (.bipush 40, 2) := by decide +kernel
theorem dX7_init_312 : decode cX7_init 312 = .ok (.newarray .int, 2) := by decide +kernel
theorem dX7_init_314 : decode cX7_init 314 = .ok (.putfield 117, 3) := by decide +kernel
theorem dX7_init_317 : decode cX7_init 317 = .ok (.return_, 1) := by decide +kernel
abbrev MX7_init : MD := (yX7_init, cX7_init, 1, none, { frames := 1, cells := 35, slots := 700, locals := 24 })
theorem df2 : ∀ j, j < 6 → defaultValue (tyX1 j) = (match gSlot 2 j with | none => Value.int 0 | some _ => Value.null) := by
  intro j hj
  have h : ∀ j, j < 6 → decide (defaultValue (tyX1 j) = (match gSlot 2 j with | none => Value.int 0 | some _ => Value.null)) = true := by decide +kernel
  exact of_decide_eq_true (h j hj)
theorem df4 : ∀ j, j < 13 → defaultValue (tyX3 j) = (match gSlot 4 j with | none => Value.int 0 | some _ => Value.null) := by
  intro j hj
  have h : ∀ j, j < 13 → decide (defaultValue (tyX3 j) = (match gSlot 4 j with | none => Value.int 0 | some _ => Value.null)) = true := by decide +kernel
  exact of_decide_eq_true (h j hj)
theorem df8 : ∀ j, j < 7 → defaultValue (tyX4 j) = (match gSlot 8 j with | none => Value.int 0 | some _ => Value.null) := by
  intro j hj
  have h : ∀ j, j < 7 → decide (defaultValue (tyX4 j) = (match gSlot 8 j with | none => Value.int 0 | some _ => Value.null)) = true := by decide +kernel
  exact of_decide_eq_true (h j hj)
theorem df11 : ∀ j, j < 5 → defaultValue (tyX2 j) = (match gSlot 11 j with | none => Value.int 0 | some _ => Value.null) := by
  intro j hj
  have h : ∀ j, j < 5 → decide (defaultValue (tyX2 j) = (match gSlot 11 j with | none => Value.int 0 | some _ => Value.null)) = true := by decide +kernel
  exact of_decide_eq_true (h j hj)
theorem df15 : ∀ j, j < 8 → defaultValue (tyX5 j) = (match gSlot 15 j with | none => Value.int 0 | some _ => Value.null) := by
  intro j hj
  have h : ∀ j, j < 8 → decide (defaultValue (tyX5 j) = (match gSlot 15 j with | none => Value.int 0 | some _ => Value.null)) = true := by decide +kernel
  exact of_decide_eq_true (h j hj)
theorem df21 : ∀ j, j < 5 → defaultValue (tyX0 j) = (match gSlot 21 j with | none => Value.int 0 | some _ => Value.null) := by
  intro j hj
  have h : ∀ j, j < 5 → decide (defaultValue (tyX0 j) = (match gSlot 21 j with | none => Value.int 0 | some _ => Value.null)) = true := by decide +kernel
  exact of_decide_eq_true (h j hj)
theorem df0 : ∀ j, j < 10 → defaultValue (tyX6 j) = (match gSlot 0 j with | none => Value.int 0 | some _ => Value.null) := by
  intro j hj
  have h : ∀ j, j < 10 → decide (defaultValue (tyX6 j) = (match gSlot 0 j with | none => Value.int 0 | some _ => Value.null)) = true := by decide +kernel
  exact of_decide_eq_true (h j hj)
theorem df28 : ∀ j, j < 46 → defaultValue (tyX7 j) = (match gSlot 28 j with | none => Value.int 0 | some _ => Value.null) := by
  intro j hj
  have h : ∀ j, j < 46 → decide (defaultValue (tyX7 j) = (match gSlot 28 j with | none => Value.int 0 | some _ => Value.null)) = true := by decide +kernel
  exact of_decide_eq_true (h j hj)
